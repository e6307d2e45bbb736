def jW_X12_isMet : List (Nat × Nat) := [(170, 9999)]
abbrev jQ_X12_isMet (x1 x2 : Int) (a0 b0 : Nat → Nat → Int) : List jxV → (Nat → Nat → Int) → (Nat → Nat → Int) → Prop := rI (fun r a b => (iv a) ∧ (jfr jW_X12_isMet a0 a) ∧ (b0 = b) ∧ ((0 ≤ r ∧ r ≤ 1)) ∧ (r = METR a0 b0 x1 x2))
theorem cp_X12_isMet_16 (E : jxE) (d : Nat) (hd : Nat.ble 2 (d + 1) = true) (x1 x2 : Int) (a0 b0 : Nat → Nat → Int) (hv0 : iv a0) (hp0 : (0 ≤ x1 ∧ x1 ≤ 39)) (hp1 : (0 ≤ x2 ∧ x2 ≤ 39)) (hp2 : WFW a0) (hp3 : WISHR a0) : ∀ n : Nat, (∀ (y1 y2 y3 y4 : Int) (a : Nat → Nat → Int), (((64 - y4) * 1) + 0).toNat ≤ n → iv a → jfr jW_X12_isMet a0 a → 0 ≤ y1 → y1 ≤ 39 → 0 ≤ y2 → y2 ≤ 39 → 0 ≤ y4 → y4 ≤ 63 → y1 = x1 → y2 = x2 → 0 ≤ y4 → 0 ≤ y3 → y4 < a 167 (y1.toNat) → (y3 = jhg (fun k => a0 166 (64 * x1.toNat + k)) (y4.toNat + 1)) → ¬ a0 167 (x1.toNat) = 0 → (OUL (a 170) y3.toNat = ESTR (TRR a0 b0 x1 x2) (fun k => a0 166 (x1.toNat * 64 + k)) (y4.toNat + 1)) → jt (jxX E d 227 172 [some (.inr (.inr (.inl 146))), some (.inl y1), some (.inl y2), some (.inl y3), some (.inl y4), none] [] (jxSH, a, b0)) (jQ_X12_isMet x1 x2 a0 b0)) ∧ (∀ (y1 y2 y3 y4 : Int) (a : Nat → Nat → Int), (((64 - y4) * 1) + 0).toNat ≤ n → iv a → jfr jW_X12_isMet a0 a → 0 ≤ y1 → y1 ≤ 39 → 0 ≤ y2 → y2 ≤ 39 → 0 ≤ y4 → y4 ≤ 63 → y1 = x1 → y2 = x2 → 0 ≤ y4 → 0 ≤ y3 → y4 < a 167 (y1.toNat) → (y3 = jhg (fun k => a0 166 (64 * x1.toNat + k)) (y4.toNat + 1)) → ¬ a0 167 (x1.toNat) = 0 → (OUL (a 170) y3.toNat = ESTR (TRR a0 b0 x1 x2) (fun k => a0 166 (x1.toNat * 64 + k)) (y4.toNat + 1)) → jt (jxX E d 227 99 [some (.inr (.inr (.inl 146))), some (.inl y1), some (.inl y2), some (.inl y3), some (.inl y4), none] [] (jxSH, a, b0)) (jQ_X12_isMet x1 x2 a0 b0)) ∧ (∀ (y1 y2 y3 y4 y5 : Int) (a : Nat → Nat → Int), (((64 - y4) * 1) + 0).toNat ≤ n → iv a → jfr jW_X12_isMet a0 a → 0 ≤ y1 → y1 ≤ 39 → 0 ≤ y2 → y2 ≤ 39 → 0 ≤ y4 → y4 ≤ 63 → y1 = x1 → y2 = x2 → 0 ≤ y4 → 0 ≤ y3 → y4 < a 167 (y1.toNat) → (y3 = jhg (fun k => a0 166 (64 * x1.toNat + k)) y4.toNat) → (y5 = a0 166 (64 * x1.toNat + y4.toNat)) → ¬ a0 167 (x1.toNat) = 0 → (OUL (a 170) y3.toNat = ESTR (TRR a0 b0 x1 x2) (fun k => a0 166 (x1.toNat * 64 + k)) y4.toNat) → jt (jxX E d 227 41 [some (.inr (.inr (.inl 146))), some (.inl y1), some (.inl y2), some (.inl y3), some (.inl y4), some (.inl y5)] [] (jxSH, a, b0)) (jQ_X12_isMet x1 x2 a0 b0)) ∧ (∀ (y1 y2 y3 y4 : Int) (a : Nat → Nat → Int), (((64 - y4) * 1) + 0).toNat ≤ n → iv a → jfr jW_X12_isMet a0 a → 0 ≤ y1 → y1 ≤ 39 → 0 ≤ y2 → y2 ≤ 39 → 0 ≤ y4 → y4 ≤ 64 → y1 = x1 → y2 = x2 → 0 ≤ y4 → 0 ≤ y3 → y4 ≤ a 167 (y1.toNat) → (y3 = jhg (fun k => a0 166 (64 * x1.toNat + k)) y4.toNat) → ¬ a0 167 (x1.toNat) = 0 → (OUL (a 170) y3.toNat = ESTR (TRR a0 b0 x1 x2) (fun k => a0 166 (x1.toNat * 64 + k)) y4.toNat) → jt (jxX E d 227 16 [some (.inr (.inr (.inl 146))), some (.inl y1), some (.inl y2), some (.inl y3), some (.inl y4), none] [] (jxSH, a, b0)) (jQ_X12_isMet x1 x2 a0 b0)) := by
  refine jx_ind fun n ih => ?_
  have ih172 : ∀ (y1 y2 y3 y4 : Int) (a : Nat → Nat → Int), (((64 - y4) * 1) + 0).toNat < n → iv a → jfr jW_X12_isMet a0 a → 0 ≤ y1 → y1 ≤ 39 → 0 ≤ y2 → y2 ≤ 39 → 0 ≤ y4 → y4 ≤ 63 → y1 = x1 → y2 = x2 → 0 ≤ y4 → 0 ≤ y3 → y4 < a 167 (y1.toNat) → (y3 = jhg (fun k => a0 166 (64 * x1.toNat + k)) (y4.toNat + 1)) → ¬ a0 167 (x1.toNat) = 0 → (OUL (a 170) y3.toNat = ESTR (TRR a0 b0 x1 x2) (fun k => a0 166 (x1.toNat * 64 + k)) (y4.toNat + 1)) → jt (jxX E d 227 172 [some (.inr (.inr (.inl 146))), some (.inl y1), some (.inl y2), some (.inl y3), some (.inl y4), none] [] (jxSH, a, b0)) (jQ_X12_isMet x1 x2 a0 b0) := fun y1 y2 y3 y4 a hlt i0 i1 i2 i3 i4 i5 i6 i7 i8 i9 i10 i11 i12 i13 i14 i15 => (ih _ hlt).1 y1 y2 y3 y4 a (Nat.le_refl _) i0 i1 i2 i3 i4 i5 i6 i7 i8 i9 i10 i11 i12 i13 i14 i15
  have ih99 : ∀ (y1 y2 y3 y4 : Int) (a : Nat → Nat → Int), (((64 - y4) * 1) + 0).toNat < n → iv a → jfr jW_X12_isMet a0 a → 0 ≤ y1 → y1 ≤ 39 → 0 ≤ y2 → y2 ≤ 39 → 0 ≤ y4 → y4 ≤ 63 → y1 = x1 → y2 = x2 → 0 ≤ y4 → 0 ≤ y3 → y4 < a 167 (y1.toNat) → (y3 = jhg (fun k => a0 166 (64 * x1.toNat + k)) (y4.toNat + 1)) → ¬ a0 167 (x1.toNat) = 0 → (OUL (a 170) y3.toNat = ESTR (TRR a0 b0 x1 x2) (fun k => a0 166 (x1.toNat * 64 + k)) (y4.toNat + 1)) → jt (jxX E d 227 99 [some (.inr (.inr (.inl 146))), some (.inl y1), some (.inl y2), some (.inl y3), some (.inl y4), none] [] (jxSH, a, b0)) (jQ_X12_isMet x1 x2 a0 b0) := fun y1 y2 y3 y4 a hlt i0 i1 i2 i3 i4 i5 i6 i7 i8 i9 i10 i11 i12 i13 i14 i15 => (ih _ hlt).2.1 y1 y2 y3 y4 a (Nat.le_refl _) i0 i1 i2 i3 i4 i5 i6 i7 i8 i9 i10 i11 i12 i13 i14 i15
  have ih41 : ∀ (y1 y2 y3 y4 y5 : Int) (a : Nat → Nat → Int), (((64 - y4) * 1) + 0).toNat < n → iv a → jfr jW_X12_isMet a0 a → 0 ≤ y1 → y1 ≤ 39 → 0 ≤ y2 → y2 ≤ 39 → 0 ≤ y4 → y4 ≤ 63 → y1 = x1 → y2 = x2 → 0 ≤ y4 → 0 ≤ y3 → y4 < a 167 (y1.toNat) → (y3 = jhg (fun k => a0 166 (64 * x1.toNat + k)) y4.toNat) → (y5 = a0 166 (64 * x1.toNat + y4.toNat)) → ¬ a0 167 (x1.toNat) = 0 → (OUL (a 170) y3.toNat = ESTR (TRR a0 b0 x1 x2) (fun k => a0 166 (x1.toNat * 64 + k)) y4.toNat) → jt (jxX E d 227 41 [some (.inr (.inr (.inl 146))), some (.inl y1), some (.inl y2), some (.inl y3), some (.inl y4), some (.inl y5)] [] (jxSH, a, b0)) (jQ_X12_isMet x1 x2 a0 b0) := fun y1 y2 y3 y4 y5 a hlt i0 i1 i2 i3 i4 i5 i6 i7 i8 i9 i10 i11 i12 i13 i14 i15 i16 => (ih _ hlt).2.2.1 y1 y2 y3 y4 y5 a (Nat.le_refl _) i0 i1 i2 i3 i4 i5 i6 i7 i8 i9 i10 i11 i12 i13 i14 i15 i16
  have ih16 : ∀ (y1 y2 y3 y4 : Int) (a : Nat → Nat → Int), (((64 - y4) * 1) + 0).toNat < n → iv a → jfr jW_X12_isMet a0 a → 0 ≤ y1 → y1 ≤ 39 → 0 ≤ y2 → y2 ≤ 39 → 0 ≤ y4 → y4 ≤ 64 → y1 = x1 → y2 = x2 → 0 ≤ y4 → 0 ≤ y3 → y4 ≤ a 167 (y1.toNat) → (y3 = jhg (fun k => a0 166 (64 * x1.toNat + k)) y4.toNat) → ¬ a0 167 (x1.toNat) = 0 → (OUL (a 170) y3.toNat = ESTR (TRR a0 b0 x1 x2) (fun k => a0 166 (x1.toNat * 64 + k)) y4.toNat) → jt (jxX E d 227 16 [some (.inr (.inr (.inl 146))), some (.inl y1), some (.inl y2), some (.inl y3), some (.inl y4), none] [] (jxSH, a, b0)) (jQ_X12_isMet x1 x2 a0 b0) := fun y1 y2 y3 y4 a hlt i0 i1 i2 i3 i4 i5 i6 i7 i8 i9 i10 i11 i12 i13 i14 i15 => (ih _ hlt).2.2.2 y1 y2 y3 y4 a (Nat.le_refl _) i0 i1 i2 i3 i4 i5 i6 i7 i8 i9 i10 i11 i12 i13 i14 i15
  have hc172 : ∀ (y1 y2 y3 y4 : Int) (a : Nat → Nat → Int), (((64 - y4) * 1) + 0).toNat ≤ n → iv a → jfr jW_X12_isMet a0 a → 0 ≤ y1 → y1 ≤ 39 → 0 ≤ y2 → y2 ≤ 39 → 0 ≤ y4 → y4 ≤ 63 → y1 = x1 → y2 = x2 → 0 ≤ y4 → 0 ≤ y3 → y4 < a 167 (y1.toNat) → (y3 = jhg (fun k => a0 166 (64 * x1.toNat + k)) (y4.toNat + 1)) → ¬ a0 167 (x1.toNat) = 0 → (OUL (a 170) y3.toNat = ESTR (TRR a0 b0 x1 x2) (fun k => a0 166 (x1.toNat * 64 + k)) (y4.toNat + 1)) → jt (jxX E d 227 172 [some (.inr (.inr (.inl 146))), some (.inl y1), some (.inl y2), some (.inl y3), some (.inl y4), none] [] (jxSH, a, b0)) (jQ_X12_isMet x1 x2 a0 b0) := by
    intro y1 y2 y3 y4 a hm hv hf hi0 hi1 hi2 hi3 hi4 hi5 hi6 hi7 hi8 hi9 hi10 hi11 hi12 hst
    refine jt_eq (bq_X12_isMet_172 E d y1 y2 y3 y4 a b0) ?_
    have h1_ := iv_get hv (k := 167) (j := y1.toNat) (l := 0) (u := 64) rfl
    have h2_ : a 167 (y1.toNat) = a0 167 (y1.toNat) := hf 167 (y1.toNat) rfl
    have h3_ := iv_get hv0 (k := 167) (j := y1.toNat) (l := 0) (u := 64) rfl
    have h4_ := iv_get hv0 (k := 167) (j := x1.toNat) (l := 0) (u := 64) rfl
    have h5_ : jxw (y4 + 1) = y4 + 1 := jxw_id (by omega) (by omega)
    exact ih16 y1 y2 y3 (jxw (y4 + 1)) a (show (((64 - (jxw (y4 + 1))) * 1) + 0).toNat < n from by omega) hv hf (show 0 ≤ y1 from by omega) (show y1 ≤ 39 from by omega) (show 0 ≤ y2 from by omega) (show y2 ≤ 39 from by omega) (show 0 ≤ jxw (y4 + 1) from by omega) (show jxw (y4 + 1) ≤ 64 from by omega) (show y1 = x1 from by omega) (show y2 = x2 from by omega) (show 0 ≤ jxw (y4 + 1) from by omega) (show 0 ≤ y3 from by omega) (show jxw (y4 + 1) ≤ a 167 (y1.toNat) from by omega) (by first | rfl | (rw [show (jxw (y4 + 1)).toNat = y4.toNat + 1 from by omega]; assumption)) (show ¬ a0 167 (x1.toNat) = 0 from by omega) (by first | rfl | (rw [show (jxw (y4 + 1)).toNat = y4.toNat + 1 from by omega]; exact hst))
  have hc99 : ∀ (y1 y2 y3 y4 : Int) (a : Nat → Nat → Int), (((64 - y4) * 1) + 0).toNat ≤ n → iv a → jfr jW_X12_isMet a0 a → 0 ≤ y1 → y1 ≤ 39 → 0 ≤ y2 → y2 ≤ 39 → 0 ≤ y4 → y4 ≤ 63 → y1 = x1 → y2 = x2 → 0 ≤ y4 → 0 ≤ y3 → y4 < a 167 (y1.toNat) → (y3 = jhg (fun k => a0 166 (64 * x1.toNat + k)) (y4.toNat + 1)) → ¬ a0 167 (x1.toNat) = 0 → (OUL (a 170) y3.toNat = ESTR (TRR a0 b0 x1 x2) (fun k => a0 166 (x1.toNat * 64 + k)) (y4.toNat + 1)) → jt (jxX E d 227 99 [some (.inr (.inr (.inl 146))), some (.inl y1), some (.inl y2), some (.inl y3), some (.inl y4), none] [] (jxSH, a, b0)) (jQ_X12_isMet x1 x2 a0 b0) := by
    intro y1 y2 y3 y4 a hm hv hf hi0 hi1 hi2 hi3 hi4 hi5 hi6 hi7 hi8 hi9 hi10 hi11 hi12 hst
    refine jt_eq (bq_X12_isMet_99 E d y1 y2 y3 y4 a b0) ?_
    have h6_ := iv_get hv (k := 167) (j := y1.toNat) (l := 0) (u := 64) rfl
    have h7_ : a 167 (y1.toNat) = a0 167 (y1.toNat) := hf 167 (y1.toNat) rfl
    have h8_ := iv_get hv0 (k := 167) (j := y1.toNat) (l := 0) (u := 64) rfl
    have h9_ := iv_get hv0 (k := 167) (j := x1.toNat) (l := 0) (u := 64) rfl
    exact hc172 y1 y2 y3 y4 a (show (((64 - y4) * 1) + 0).toNat ≤ n from by omega) hv hf (show 0 ≤ y1 from by omega) (show y1 ≤ 39 from by omega) (show 0 ≤ y2 from by omega) (show y2 ≤ 39 from by omega) (show 0 ≤ y4 from by omega) (show y4 ≤ 63 from by omega) (show y1 = x1 from by omega) (show y2 = x2 from by omega) (show 0 ≤ y4 from by omega) (show 0 ≤ y3 from by omega) (show y4 < a 167 (y1.toNat) from by omega) (by first | assumption | omega) (show ¬ a0 167 (x1.toNat) = 0 from by omega) hst
  have hc41 : ∀ (y1 y2 y3 y4 y5 : Int) (a : Nat → Nat → Int), (((64 - y4) * 1) + 0).toNat ≤ n → iv a → jfr jW_X12_isMet a0 a → 0 ≤ y1 → y1 ≤ 39 → 0 ≤ y2 → y2 ≤ 39 → 0 ≤ y4 → y4 ≤ 63 → y1 = x1 → y2 = x2 → 0 ≤ y4 → 0 ≤ y3 → y4 < a 167 (y1.toNat) → (y3 = jhg (fun k => a0 166 (64 * x1.toNat + k)) y4.toNat) → (y5 = a0 166 (64 * x1.toNat + y4.toNat)) → ¬ a0 167 (x1.toNat) = 0 → (OUL (a 170) y3.toNat = ESTR (TRR a0 b0 x1 x2) (fun k => a0 166 (x1.toNat * 64 + k)) y4.toNat) → jt (jxX E d 227 41 [some (.inr (.inr (.inl 146))), some (.inl y1), some (.inl y2), some (.inl y3), some (.inl y4), some (.inl y5)] [] (jxSH, a, b0)) (jQ_X12_isMet x1 x2 a0 b0) := by
    intro y1 y2 y3 y4 y5 a hm hv hf hi0 hi1 hi2 hi3 hi4 hi5 hi6 hi7 hi8 hi9 hi10 hi11 hi12 hi13 hst
    refine jt_eq (bq_X12_isMet_41 E d y1 y2 y3 y4 y5 a b0) ?_
    have h10_ := iv_get hv (k := 167) (j := y1.toNat) (l := 0) (u := 64) rfl
    have h11_ : a 167 (y1.toNat) = a0 167 (y1.toNat) := hf 167 (y1.toNat) rfl
    have h12_ := iv_get hv0 (k := 167) (j := y1.toNat) (l := 0) (u := 64) rfl
    have h13_ := iv_get hv0 (k := 167) (j := x1.toNat) (l := 0) (u := 64) rfl
    have h167a := hf 167 y1.toNat rfl
    have h167c : a0 167 x1.toNat = a0 167 y1.toNat := by rw [show y1 = x1 from by omega]
    have hst := wf_step hp2 hp0 (y := y4) (by omega) (by omega)
    have h167 := iv_get hv0 (k := 167) (j := x1.toNat) (l := 0) (u := 64) rfl
    have h167b := hf 167 x1.toNat rfl
    obtain ⟨hst1, hst2, hst3⟩ := hst
    have hy5 : y5 = a0 166 (64 * x1.toNat + y4.toNat) := by assumption
    have hy3 : y3 = jhg (fun k => a0 166 (64 * x1.toNat + k)) y4.toNat := by assumption
    rw [← hy5, ← hy3] at hst1 hst2
    rw [← hy3] at hst3
    have hg5 : a0 166 (x1.toNat * 64 + y4.toNat) = y5 := by rw [hy5]; congr 1; omega
    refine jt_ite (fun c14_ => ?_) (fun c14_ => ?_)
    ·
      refine jt_ite (fun c15_ => ?_) (fun c15_ => ?_)
      ·
        have h16_ := jxw_im (y3 - 1)
        have h17_ := jxw_rg (y3 - 1)
        refine jt_grd (by omega) ?_
        have h18_ := iv_get hv (k := 170) (j := (jxw (y3 - 1)).toNat) (l := 0) (u := 1) rfl
        refine jt_ite (fun c19_ => ?_) (fun c19_ => ?_)
        ·
          refine jt_grd (by omega) ?_
          have hv20_ : iv (jxu a 170 ((jxw (y3 - 1)).toNat) 1) := iv_put hv (l := 0) (u := 1) rfl (by omega) (by omega)
          have hf21_ : jfr jW_X12_isMet a0 (jxu a 170 ((jxw (y3 - 1)).toNat) 1) := jfr_put hf rfl
          exact hc99 y1 y2 y3 y4 (jxu a 170 ((jxw (y3 - 1)).toNat) 1) (show (((64 - y4) * 1) + 0).toNat ≤ n from by omega) hv20_ hf21_ (show 0 ≤ y1 from by omega) (show y1 ≤ 39 from by omega) (show 0 ≤ y2 from by omega) (show y2 ≤ 39 from by omega) (show 0 ≤ y4 from by omega) (show y4 ≤ 63 from by omega) (show y1 = x1 from by omega) (show y2 = x2 from by omega) (show 0 ≤ y4 from by omega) (show 0 ≤ y3 from by omega) (show y4 < a 167 (y1.toNat) from by omega) (by omega) (show ¬ a0 167 (x1.toNat) = 0 from by omega) (by first | exact IRS (s := a 170) (y := y3) (z := y3) hst (by omega) (by omega) (fun i hi => by show (if i = ((jxw (y3 - 1)).toNat) then _ else a 170 i) = _; rw [if_neg (by omega)]) (Or.inr (Or.inl ⟨by show a0 166 (x1.toNat * 64 + y4.toNat) = 2; omega, by omega, by omega, by show (if _ = ((jxw (y3 - 1)).toNat) then _ else _) = _; rw [if_pos (by omega)]; rw [show (y3 - 1).toNat = (jxw (y3 - 1)).toNat from by omega]; first | rw [if_pos (by assumption)] | rw [if_neg (by assumption)]⟩)))
        ·
          refine jt_grd (by omega) ?_
          have hv22_ : iv (jxu a 170 ((jxw (y3 - 1)).toNat) 0) := iv_put hv (l := 0) (u := 1) rfl (by omega) (by omega)
          have hf23_ : jfr jW_X12_isMet a0 (jxu a 170 ((jxw (y3 - 1)).toNat) 0) := jfr_put hf rfl
          exact hc99 y1 y2 y3 y4 (jxu a 170 ((jxw (y3 - 1)).toNat) 0) (show (((64 - y4) * 1) + 0).toNat ≤ n from by omega) hv22_ hf23_ (show 0 ≤ y1 from by omega) (show y1 ≤ 39 from by omega) (show 0 ≤ y2 from by omega) (show y2 ≤ 39 from by omega) (show 0 ≤ y4 from by omega) (show y4 ≤ 63 from by omega) (show y1 = x1 from by omega) (show y2 = x2 from by omega) (show 0 ≤ y4 from by omega) (show 0 ≤ y3 from by omega) (show y4 < a 167 (y1.toNat) from by omega) (by omega) (show ¬ a0 167 (x1.toNat) = 0 from by omega) (by first | exact IRS (s := a 170) (y := y3) (z := y3) hst (by omega) (by omega) (fun i hi => by show (if i = ((jxw (y3 - 1)).toNat) then _ else a 170 i) = _; rw [if_neg (by omega)]) (Or.inr (Or.inl ⟨by show a0 166 (x1.toNat * 64 + y4.toNat) = 2; omega, by omega, by omega, by show (if _ = ((jxw (y3 - 1)).toNat) then _ else _) = _; rw [if_pos (by omega)]; rw [show (y3 - 1).toNat = (jxw (y3 - 1)).toNat from by omega]; first | rw [if_pos (by assumption)] | rw [if_neg (by assumption)]⟩)))
      ·
        refine jt_ite (fun c24_ => ?_) (fun c24_ => ?_)
        ·
          have h25_ := jxw_im (y3 + (-1))
          have h26_ := jxw_rg (y3 + (-1))
          have h27_ := jxw_im ((jxw (y3 + (-1))) - 1)
          have h28_ := jxw_rg ((jxw (y3 + (-1))) - 1)
          refine jt_grd (by omega) ?_
          have h29_ := iv_get hv (k := 170) (j := (jxw ((jxw (y3 + (-1))) - 1)).toNat) (l := 0) (u := 1) rfl
          refine jt_ite (fun c30_ => ?_) (fun c30_ => ?_)
          ·
            refine jt_grd (by omega) ?_
            have hv31_ : iv (jxu a 170 ((jxw ((jxw (y3 + (-1))) - 1)).toNat) 0) := iv_put hv (l := 0) (u := 1) rfl (by omega) (by omega)
            have hf32_ : jfr jW_X12_isMet a0 (jxu a 170 ((jxw ((jxw (y3 + (-1))) - 1)).toNat) 0) := jfr_put hf rfl
            exact hc172 y1 y2 (jxw (y3 + (-1))) y4 (jxu a 170 ((jxw ((jxw (y3 + (-1))) - 1)).toNat) 0) (show (((64 - y4) * 1) + 0).toNat ≤ n from by omega) hv31_ hf32_ (show 0 ≤ y1 from by omega) (show y1 ≤ 39 from by omega) (show 0 ≤ y2 from by omega) (show y2 ≤ 39 from by omega) (show 0 ≤ y4 from by omega) (show y4 ≤ 63 from by omega) (show y1 = x1 from by omega) (show y2 = x2 from by omega) (show 0 ≤ y4 from by omega) (show 0 ≤ jxw (y3 + (-1)) from by omega) (show y4 < a 167 (y1.toNat) from by omega) (by first | assumption | omega) (show ¬ a0 167 (x1.toNat) = 0 from by omega) (by first | exact IRS (s := a 170) (y := y3) (z := jxw (y3 + (-1))) hst (by omega) (by omega) (fun i hi => by show (if i = ((jxw ((jxw (y3 + (-1))) - 1)).toNat) then _ else a 170 i) = _; rw [if_neg (by omega)]) (Or.inr (Or.inr (Or.inl ⟨by show a0 166 (x1.toNat * 64 + y4.toNat) = 1; omega, by omega, by omega, by show (if _ = ((jxw ((jxw (y3 + (-1))) - 1)).toNat) then _ else _) = _; rw [if_pos (by omega)]; rw [show (y3 - 2).toNat = (jxw ((jxw (y3 + (-1))) - 1)).toNat from by omega, show (y3 - 1).toNat = (jxw (y3 + (-1))).toNat from by omega]; repeat (first | rw [if_pos (by assumption)] | rw [if_neg (by assumption)])⟩))) | exact IRS (s := a 170) (y := y3) (z := jxw (y3 + (-1))) hst (by omega) (by omega) (fun i hi => by show (if i = ((jxw ((jxw (y3 + (-1))) - 1)).toNat) then _ else a 170 i) = _; rw [if_neg (by omega)]) (Or.inr (Or.inr (Or.inr ⟨by show ¬ 1024 ≤ a0 166 (x1.toNat * 64 + y4.toNat); omega, by show ¬ a0 166 (x1.toNat * 64 + y4.toNat) = 2; omega, by show ¬ a0 166 (x1.toNat * 64 + y4.toNat) = 1; omega, by omega, by omega, by show (if _ = ((jxw ((jxw (y3 + (-1))) - 1)).toNat) then _ else _) = _; rw [if_pos (by omega)]; rw [show (y3 - 2).toNat = (jxw ((jxw (y3 + (-1))) - 1)).toNat from by omega, show (y3 - 1).toNat = (jxw (y3 + (-1))).toNat from by omega]; repeat (first | rw [if_pos (by assumption)] | rw [if_neg (by assumption)])⟩))))
          ·
            refine jt_grd (by omega) ?_
            have h33_ := iv_get hv (k := 170) (j := (jxw (y3 + (-1))).toNat) (l := 0) (u := 1) rfl
            refine jt_ite (fun c34_ => ?_) (fun c34_ => ?_)
            ·
              refine jt_grd (by omega) ?_
              have hv35_ : iv (jxu a 170 ((jxw ((jxw (y3 + (-1))) - 1)).toNat) 0) := iv_put hv (l := 0) (u := 1) rfl (by omega) (by omega)
              have hf36_ : jfr jW_X12_isMet a0 (jxu a 170 ((jxw ((jxw (y3 + (-1))) - 1)).toNat) 0) := jfr_put hf rfl
              exact hc172 y1 y2 (jxw (y3 + (-1))) y4 (jxu a 170 ((jxw ((jxw (y3 + (-1))) - 1)).toNat) 0) (show (((64 - y4) * 1) + 0).toNat ≤ n from by omega) hv35_ hf36_ (show 0 ≤ y1 from by omega) (show y1 ≤ 39 from by omega) (show 0 ≤ y2 from by omega) (show y2 ≤ 39 from by omega) (show 0 ≤ y4 from by omega) (show y4 ≤ 63 from by omega) (show y1 = x1 from by omega) (show y2 = x2 from by omega) (show 0 ≤ y4 from by omega) (show 0 ≤ jxw (y3 + (-1)) from by omega) (show y4 < a 167 (y1.toNat) from by omega) (by first | assumption | omega) (show ¬ a0 167 (x1.toNat) = 0 from by omega) (by first | exact IRS (s := a 170) (y := y3) (z := jxw (y3 + (-1))) hst (by omega) (by omega) (fun i hi => by show (if i = ((jxw ((jxw (y3 + (-1))) - 1)).toNat) then _ else a 170 i) = _; rw [if_neg (by omega)]) (Or.inr (Or.inr (Or.inl ⟨by show a0 166 (x1.toNat * 64 + y4.toNat) = 1; omega, by omega, by omega, by show (if _ = ((jxw ((jxw (y3 + (-1))) - 1)).toNat) then _ else _) = _; rw [if_pos (by omega)]; rw [show (y3 - 2).toNat = (jxw ((jxw (y3 + (-1))) - 1)).toNat from by omega, show (y3 - 1).toNat = (jxw (y3 + (-1))).toNat from by omega]; repeat (first | rw [if_pos (by assumption)] | rw [if_neg (by assumption)])⟩))) | exact IRS (s := a 170) (y := y3) (z := jxw (y3 + (-1))) hst (by omega) (by omega) (fun i hi => by show (if i = ((jxw ((jxw (y3 + (-1))) - 1)).toNat) then _ else a 170 i) = _; rw [if_neg (by omega)]) (Or.inr (Or.inr (Or.inr ⟨by show ¬ 1024 ≤ a0 166 (x1.toNat * 64 + y4.toNat); omega, by show ¬ a0 166 (x1.toNat * 64 + y4.toNat) = 2; omega, by show ¬ a0 166 (x1.toNat * 64 + y4.toNat) = 1; omega, by omega, by omega, by show (if _ = ((jxw ((jxw (y3 + (-1))) - 1)).toNat) then _ else _) = _; rw [if_pos (by omega)]; rw [show (y3 - 2).toNat = (jxw ((jxw (y3 + (-1))) - 1)).toNat from by omega, show (y3 - 1).toNat = (jxw (y3 + (-1))).toNat from by omega]; repeat (first | rw [if_pos (by assumption)] | rw [if_neg (by assumption)])⟩))))
            ·
              refine jt_grd (by omega) ?_
              have hv37_ : iv (jxu a 170 ((jxw ((jxw (y3 + (-1))) - 1)).toNat) 1) := iv_put hv (l := 0) (u := 1) rfl (by omega) (by omega)
              have hf38_ : jfr jW_X12_isMet a0 (jxu a 170 ((jxw ((jxw (y3 + (-1))) - 1)).toNat) 1) := jfr_put hf rfl
              exact hc172 y1 y2 (jxw (y3 + (-1))) y4 (jxu a 170 ((jxw ((jxw (y3 + (-1))) - 1)).toNat) 1) (show (((64 - y4) * 1) + 0).toNat ≤ n from by omega) hv37_ hf38_ (show 0 ≤ y1 from by omega) (show y1 ≤ 39 from by omega) (show 0 ≤ y2 from by omega) (show y2 ≤ 39 from by omega) (show 0 ≤ y4 from by omega) (show y4 ≤ 63 from by omega) (show y1 = x1 from by omega) (show y2 = x2 from by omega) (show 0 ≤ y4 from by omega) (show 0 ≤ jxw (y3 + (-1)) from by omega) (show y4 < a 167 (y1.toNat) from by omega) (by first | assumption | omega) (show ¬ a0 167 (x1.toNat) = 0 from by omega) (by first | exact IRS (s := a 170) (y := y3) (z := jxw (y3 + (-1))) hst (by omega) (by omega) (fun i hi => by show (if i = ((jxw ((jxw (y3 + (-1))) - 1)).toNat) then _ else a 170 i) = _; rw [if_neg (by omega)]) (Or.inr (Or.inr (Or.inl ⟨by show a0 166 (x1.toNat * 64 + y4.toNat) = 1; omega, by omega, by omega, by show (if _ = ((jxw ((jxw (y3 + (-1))) - 1)).toNat) then _ else _) = _; rw [if_pos (by omega)]; rw [show (y3 - 2).toNat = (jxw ((jxw (y3 + (-1))) - 1)).toNat from by omega, show (y3 - 1).toNat = (jxw (y3 + (-1))).toNat from by omega]; repeat (first | rw [if_pos (by assumption)] | rw [if_neg (by assumption)])⟩))) | exact IRS (s := a 170) (y := y3) (z := jxw (y3 + (-1))) hst (by omega) (by omega) (fun i hi => by show (if i = ((jxw ((jxw (y3 + (-1))) - 1)).toNat) then _ else a 170 i) = _; rw [if_neg (by omega)]) (Or.inr (Or.inr (Or.inr ⟨by show ¬ 1024 ≤ a0 166 (x1.toNat * 64 + y4.toNat); omega, by show ¬ a0 166 (x1.toNat * 64 + y4.toNat) = 2; omega, by show ¬ a0 166 (x1.toNat * 64 + y4.toNat) = 1; omega, by omega, by omega, by show (if _ = ((jxw ((jxw (y3 + (-1))) - 1)).toNat) then _ else _) = _; rw [if_pos (by omega)]; rw [show (y3 - 2).toNat = (jxw ((jxw (y3 + (-1))) - 1)).toNat from by omega, show (y3 - 1).toNat = (jxw (y3 + (-1))).toNat from by omega]; repeat (first | rw [if_pos (by assumption)] | rw [if_neg (by assumption)])⟩))))
        ·
          have h39_ := jxw_im (y3 + (-1))
          have h40_ := jxw_rg (y3 + (-1))
          have h41_ := jxw_im ((jxw (y3 + (-1))) - 1)
          have h42_ := jxw_rg ((jxw (y3 + (-1))) - 1)
          refine jt_grd (by omega) ?_
          have h43_ := iv_get hv (k := 170) (j := (jxw ((jxw (y3 + (-1))) - 1)).toNat) (l := 0) (u := 1) rfl
          refine jt_ite (fun c44_ => ?_) (fun c44_ => ?_)
          ·
            refine jt_grd (by omega) ?_
            have h45_ := iv_get hv (k := 170) (j := (jxw (y3 + (-1))).toNat) (l := 0) (u := 1) rfl
            refine jt_ite (fun c46_ => ?_) (fun c46_ => ?_)
            ·
              refine jt_grd (by omega) ?_
              have hv47_ : iv (jxu a 170 ((jxw ((jxw (y3 + (-1))) - 1)).toNat) 0) := iv_put hv (l := 0) (u := 1) rfl (by omega) (by omega)
              have hf48_ : jfr jW_X12_isMet a0 (jxu a 170 ((jxw ((jxw (y3 + (-1))) - 1)).toNat) 0) := jfr_put hf rfl
              exact hc172 y1 y2 (jxw (y3 + (-1))) y4 (jxu a 170 ((jxw ((jxw (y3 + (-1))) - 1)).toNat) 0) (show (((64 - y4) * 1) + 0).toNat ≤ n from by omega) hv47_ hf48_ (show 0 ≤ y1 from by omega) (show y1 ≤ 39 from by omega) (show 0 ≤ y2 from by omega) (show y2 ≤ 39 from by omega) (show 0 ≤ y4 from by omega) (show y4 ≤ 63 from by omega) (show y1 = x1 from by omega) (show y2 = x2 from by omega) (show 0 ≤ y4 from by omega) (show 0 ≤ jxw (y3 + (-1)) from by omega) (show y4 < a 167 (y1.toNat) from by omega) (by first | assumption | omega) (show ¬ a0 167 (x1.toNat) = 0 from by omega) (by first | exact IRS (s := a 170) (y := y3) (z := jxw (y3 + (-1))) hst (by omega) (by omega) (fun i hi => by show (if i = ((jxw ((jxw (y3 + (-1))) - 1)).toNat) then _ else a 170 i) = _; rw [if_neg (by omega)]) (Or.inr (Or.inr (Or.inl ⟨by show a0 166 (x1.toNat * 64 + y4.toNat) = 1; omega, by omega, by omega, by show (if _ = ((jxw ((jxw (y3 + (-1))) - 1)).toNat) then _ else _) = _; rw [if_pos (by omega)]; rw [show (y3 - 2).toNat = (jxw ((jxw (y3 + (-1))) - 1)).toNat from by omega, show (y3 - 1).toNat = (jxw (y3 + (-1))).toNat from by omega]; repeat (first | rw [if_pos (by assumption)] | rw [if_neg (by assumption)])⟩))) | exact IRS (s := a 170) (y := y3) (z := jxw (y3 + (-1))) hst (by omega) (by omega) (fun i hi => by show (if i = ((jxw ((jxw (y3 + (-1))) - 1)).toNat) then _ else a 170 i) = _; rw [if_neg (by omega)]) (Or.inr (Or.inr (Or.inr ⟨by show ¬ 1024 ≤ a0 166 (x1.toNat * 64 + y4.toNat); omega, by show ¬ a0 166 (x1.toNat * 64 + y4.toNat) = 2; omega, by show ¬ a0 166 (x1.toNat * 64 + y4.toNat) = 1; omega, by omega, by omega, by show (if _ = ((jxw ((jxw (y3 + (-1))) - 1)).toNat) then _ else _) = _; rw [if_pos (by omega)]; rw [show (y3 - 2).toNat = (jxw ((jxw (y3 + (-1))) - 1)).toNat from by omega, show (y3 - 1).toNat = (jxw (y3 + (-1))).toNat from by omega]; repeat (first | rw [if_pos (by assumption)] | rw [if_neg (by assumption)])⟩))))
            ·
              refine jt_grd (by omega) ?_
              have hv49_ : iv (jxu a 170 ((jxw ((jxw (y3 + (-1))) - 1)).toNat) 1) := iv_put hv (l := 0) (u := 1) rfl (by omega) (by omega)
              have hf50_ : jfr jW_X12_isMet a0 (jxu a 170 ((jxw ((jxw (y3 + (-1))) - 1)).toNat) 1) := jfr_put hf rfl
              exact hc172 y1 y2 (jxw (y3 + (-1))) y4 (jxu a 170 ((jxw ((jxw (y3 + (-1))) - 1)).toNat) 1) (show (((64 - y4) * 1) + 0).toNat ≤ n from by omega) hv49_ hf50_ (show 0 ≤ y1 from by omega) (show y1 ≤ 39 from by omega) (show 0 ≤ y2 from by omega) (show y2 ≤ 39 from by omega) (show 0 ≤ y4 from by omega) (show y4 ≤ 63 from by omega) (show y1 = x1 from by omega) (show y2 = x2 from by omega) (show 0 ≤ y4 from by omega) (show 0 ≤ jxw (y3 + (-1)) from by omega) (show y4 < a 167 (y1.toNat) from by omega) (by first | assumption | omega) (show ¬ a0 167 (x1.toNat) = 0 from by omega) (by first | exact IRS (s := a 170) (y := y3) (z := jxw (y3 + (-1))) hst (by omega) (by omega) (fun i hi => by show (if i = ((jxw ((jxw (y3 + (-1))) - 1)).toNat) then _ else a 170 i) = _; rw [if_neg (by omega)]) (Or.inr (Or.inr (Or.inl ⟨by show a0 166 (x1.toNat * 64 + y4.toNat) = 1; omega, by omega, by omega, by show (if _ = ((jxw ((jxw (y3 + (-1))) - 1)).toNat) then _ else _) = _; rw [if_pos (by omega)]; rw [show (y3 - 2).toNat = (jxw ((jxw (y3 + (-1))) - 1)).toNat from by omega, show (y3 - 1).toNat = (jxw (y3 + (-1))).toNat from by omega]; repeat (first | rw [if_pos (by assumption)] | rw [if_neg (by assumption)])⟩))) | exact IRS (s := a 170) (y := y3) (z := jxw (y3 + (-1))) hst (by omega) (by omega) (fun i hi => by show (if i = ((jxw ((jxw (y3 + (-1))) - 1)).toNat) then _ else a 170 i) = _; rw [if_neg (by omega)]) (Or.inr (Or.inr (Or.inr ⟨by show ¬ 1024 ≤ a0 166 (x1.toNat * 64 + y4.toNat); omega, by show ¬ a0 166 (x1.toNat * 64 + y4.toNat) = 2; omega, by show ¬ a0 166 (x1.toNat * 64 + y4.toNat) = 1; omega, by omega, by omega, by show (if _ = ((jxw ((jxw (y3 + (-1))) - 1)).toNat) then _ else _) = _; rw [if_pos (by omega)]; rw [show (y3 - 2).toNat = (jxw ((jxw (y3 + (-1))) - 1)).toNat from by omega, show (y3 - 1).toNat = (jxw (y3 + (-1))).toNat from by omega]; repeat (first | rw [if_pos (by assumption)] | rw [if_neg (by assumption)])⟩))))
          ·
            refine jt_grd (by omega) ?_
            have hv51_ : iv (jxu a 170 ((jxw ((jxw (y3 + (-1))) - 1)).toNat) 1) := iv_put hv (l := 0) (u := 1) rfl (by omega) (by omega)
            have hf52_ : jfr jW_X12_isMet a0 (jxu a 170 ((jxw ((jxw (y3 + (-1))) - 1)).toNat) 1) := jfr_put hf rfl
            exact hc172 y1 y2 (jxw (y3 + (-1))) y4 (jxu a 170 ((jxw ((jxw (y3 + (-1))) - 1)).toNat) 1) (show (((64 - y4) * 1) + 0).toNat ≤ n from by omega) hv51_ hf52_ (show 0 ≤ y1 from by omega) (show y1 ≤ 39 from by omega) (show 0 ≤ y2 from by omega) (show y2 ≤ 39 from by omega) (show 0 ≤ y4 from by omega) (show y4 ≤ 63 from by omega) (show y1 = x1 from by omega) (show y2 = x2 from by omega) (show 0 ≤ y4 from by omega) (show 0 ≤ jxw (y3 + (-1)) from by omega) (show y4 < a 167 (y1.toNat) from by omega) (by first | assumption | omega) (show ¬ a0 167 (x1.toNat) = 0 from by omega) (by first | exact IRS (s := a 170) (y := y3) (z := jxw (y3 + (-1))) hst (by omega) (by omega) (fun i hi => by show (if i = ((jxw ((jxw (y3 + (-1))) - 1)).toNat) then _ else a 170 i) = _; rw [if_neg (by omega)]) (Or.inr (Or.inr (Or.inl ⟨by show a0 166 (x1.toNat * 64 + y4.toNat) = 1; omega, by omega, by omega, by show (if _ = ((jxw ((jxw (y3 + (-1))) - 1)).toNat) then _ else _) = _; rw [if_pos (by omega)]; rw [show (y3 - 2).toNat = (jxw ((jxw (y3 + (-1))) - 1)).toNat from by omega, show (y3 - 1).toNat = (jxw (y3 + (-1))).toNat from by omega]; repeat (first | rw [if_pos (by assumption)] | rw [if_neg (by assumption)])⟩))) | exact IRS (s := a 170) (y := y3) (z := jxw (y3 + (-1))) hst (by omega) (by omega) (fun i hi => by show (if i = ((jxw ((jxw (y3 + (-1))) - 1)).toNat) then _ else a 170 i) = _; rw [if_neg (by omega)]) (Or.inr (Or.inr (Or.inr ⟨by show ¬ 1024 ≤ a0 166 (x1.toNat * 64 + y4.toNat); omega, by show ¬ a0 166 (x1.toNat * 64 + y4.toNat) = 2; omega, by show ¬ a0 166 (x1.toNat * 64 + y4.toNat) = 1; omega, by omega, by omega, by show (if _ = ((jxw ((jxw (y3 + (-1))) - 1)).toNat) then _ else _) = _; rw [if_pos (by omega)]; rw [show (y3 - 2).toNat = (jxw ((jxw (y3 + (-1))) - 1)).toNat from by omega, show (y3 - 1).toNat = (jxw (y3 + (-1))).toNat from by omega]; repeat (first | rw [if_pos (by assumption)] | rw [if_neg (by assumption)])⟩))))
    ·
      refine jt_eI (eq_X12_isAtom E d (jd_le hd rfl) y5 y1 y2 a b0 hv (show (0 ≤ y1 ∧ y1 < 40) from by omega) (show (0 ≤ y2 ∧ y2 < 40) from by omega)) ?_
      refine jt_grd (by omega) ?_
      have h53_ := f_X12_isAtom_bool a b0 y5 y1 y2
      refine jt_grd (by omega) ?_
      have hv54_ : iv (jxu a 170 (y3.toNat) (f_X12_isAtom a b0 y5 y1 y2)) := iv_put hv (l := 0) (u := 1) rfl (by omega) (by omega)
      have hf55_ : jfr jW_X12_isMet a0 (jxu a 170 (y3.toNat) (f_X12_isAtom a b0 y5 y1 y2)) := jfr_put hf rfl
      have h56_ : jxw (y3 + 1) = y3 + 1 := jxw_id (by omega) (by omega)
      exact hc172 y1 y2 (jxw (y3 + 1)) y4 (jxu a 170 (y3.toNat) (f_X12_isAtom a b0 y5 y1 y2)) (show (((64 - y4) * 1) + 0).toNat ≤ n from by omega) hv54_ hf55_ (show 0 ≤ y1 from by omega) (show y1 ≤ 39 from by omega) (show 0 ≤ y2 from by omega) (show y2 ≤ 39 from by omega) (show 0 ≤ y4 from by omega) (show y4 ≤ 63 from by omega) (show y1 = x1 from by omega) (show y2 = x2 from by omega) (show 0 ≤ y4 from by omega) (show 0 ≤ jxw (y3 + 1) from by omega) (show y4 < a 167 (y1.toNat) from by omega) (by first | assumption | omega) (show ¬ a0 167 (x1.toNat) = 0 from by omega) (by first | exact IRS (s := a 170) (y := y3) (z := jxw (y3 + 1)) hst (by omega) (by omega) (fun i hi => by show (if i = (y3.toNat) then _ else a 170 i) = _; rw [if_neg (by omega)]) (Or.inl ⟨by show 1024 ≤ a0 166 (x1.toNat * 64 + y4.toNat); omega, by omega, by show (if _ = (y3.toNat) then _ else _) = _; rw [if_pos (by omega)]; show _ = TRR a0 b0 x1 x2 (a0 166 (x1.toNat * 64 + y4.toNat)); rw [hg5, show y1 = x1 from by omega, show y2 = x2 from by omega]; exact isAtom_fr (funext fun j => hf 147 j rfl) (funext fun j => hf 148 j rfl) (funext fun j => hf 149 j rfl) (funext fun j => hf 151 j rfl) (hf 146 0 rfl) _ _ _⟩))
  have hc16 : ∀ (y1 y2 y3 y4 : Int) (a : Nat → Nat → Int), (((64 - y4) * 1) + 0).toNat ≤ n → iv a → jfr jW_X12_isMet a0 a → 0 ≤ y1 → y1 ≤ 39 → 0 ≤ y2 → y2 ≤ 39 → 0 ≤ y4 → y4 ≤ 64 → y1 = x1 → y2 = x2 → 0 ≤ y4 → 0 ≤ y3 → y4 ≤ a 167 (y1.toNat) → (y3 = jhg (fun k => a0 166 (64 * x1.toNat + k)) y4.toNat) → ¬ a0 167 (x1.toNat) = 0 → (OUL (a 170) y3.toNat = ESTR (TRR a0 b0 x1 x2) (fun k => a0 166 (x1.toNat * 64 + k)) y4.toNat) → jt (jxX E d 227 16 [some (.inr (.inr (.inl 146))), some (.inl y1), some (.inl y2), some (.inl y3), some (.inl y4), none] [] (jxSH, a, b0)) (jQ_X12_isMet x1 x2 a0 b0) := by
    intro y1 y2 y3 y4 a hm hv hf hi0 hi1 hi2 hi3 hi4 hi5 hi6 hi7 hi8 hi9 hi10 hi11 hi12 hst
    refine jt_eq (bq_X12_isMet_16 E d y1 y2 y3 y4 a b0) ?_
    have h57_ := iv_get hv (k := 167) (j := y1.toNat) (l := 0) (u := 64) rfl
    have h58_ : a 167 (y1.toNat) = a0 167 (y1.toNat) := hf 167 (y1.toNat) rfl
    have h59_ := iv_get hv0 (k := 167) (j := y1.toNat) (l := 0) (u := 64) rfl
    have h60_ := iv_get hv0 (k := 167) (j := x1.toNat) (l := 0) (u := 64) rfl
    have hix : (jxw ((jxw (64 * y1)) + y4)).toNat = 64 * x1.toNat + y4.toNat ∨ a 167 y1.toNat ≤ y4 := by
      have := iv_get hv (k := 167) (j := y1.toNat) (l := 0) (u := 64) rfl
      by_cases hc : a 167 y1.toNat ≤ y4
      · exact Or.inr hc
      · left
        rw [jxw_id (x := 64 * y1) (by omega) (by omega), jxw_id (by omega) (by omega)]
        omega
    have hs : y4 < a 167 y1.toNat → a 166 ((jxw ((jxw (64 * y1)) + y4)).toNat) = a0 166 (64 * x1.toNat + y4.toNat) := by
      intro hlt
      rcases hix with h | h
      · rw [h]; exact hf 166 _ rfl
      · omega
    refine jt_grd (by omega) ?_
    refine jt_ite (fun c61_ => ?_) (fun c61_ => ?_)
    ·
      have h62_ : jxw (64 * y1) = 64 * y1 := jxw_id (by omega) (by omega)
      have h63_ : jxw ((jxw (64 * y1)) + y4) = (jxw (64 * y1)) + y4 := jxw_id (by omega) (by omega)
      refine jt_grd (by omega) ?_
      have h64_ : a 166 ((jxw ((jxw (64 * y1)) + y4)).toNat) = a0 166 ((jxw ((jxw (64 * y1)) + y4)).toNat) := hf 166 ((jxw ((jxw (64 * y1)) + y4)).toNat) rfl
      exact hc41 y1 y2 y3 y4 (a 166 ((jxw ((jxw (64 * y1)) + y4)).toNat)) a (show (((64 - y4) * 1) + 0).toNat ≤ n from by omega) hv hf (show 0 ≤ y1 from by omega) (show y1 ≤ 39 from by omega) (show 0 ≤ y2 from by omega) (show y2 ≤ 39 from by omega) (show 0 ≤ y4 from by omega) (show y4 ≤ 63 from by omega) (show y1 = x1 from by omega) (show y2 = x2 from by omega) (show 0 ≤ y4 from by omega) (show 0 ≤ y3 from by omega) (show y4 < a 167 (y1.toNat) from by omega) (by assumption) (by first | assumption | exact hs (by omega)) (show ¬ a0 167 (x1.toNat) = 0 from by omega) hst
    ·
      have h65_ := iv_get hv (k := 170) (j := 0) (l := 0) (u := 1) rfl
      refine jt_grd (by omega) ?_
      exact jt_rI ⟨hv, hf, rfl, (show (0 ≤ a 170 0 ∧ a 170 0 ≤ 1) from by omega), (by have h167a := hf 167 y1.toNat rfl; have h167c : a0 167 x1.toNat = a0 167 y1.toNat := (by rw [show y1 = x1 from by omega]); have i167 := iv_get hv0 (k := 167) (j := x1.toNat) (l := 0) (u := 64) rfl; have ek : y4.toNat = (a0 167 x1.toNat).toNat := (by omega); have q := hst; rw [ek] at q; unfold METR; rw [if_neg (by omega)]; exact IRS_end q (WISHR_one hp3 (by omega) (by omega)) (by omega))⟩
  exact ⟨hc172, hc99, hc41, hc16⟩
theorem sp_X12_isMet (E : jxE) (d : Nat) (hd : Nat.ble 2 d = true) (x1 x2 : Int) (a0 b0 : Nat → Nat → Int) (hv0 : iv a0) (hp0 : (0 ≤ x1 ∧ x1 ≤ 39)) (hp1 : (0 ≤ x2 ∧ x2 ≤ 39)) (hp2 : WFW a0) (hp3 : WISHR a0) : jt (jxC E d 227 [.inr (.inr (.inl 146)), .inl x1, .inl x2] (jxSH, a0, b0)) (jQ_X12_isMet x1 x2 a0 b0) := by
  obtain ⟨d, rfl⟩ := jd_succ hd
  refine jt_eq (bq_X12_isMet E d x1 x2 a0 b0) ?_
  refine jt_grd (by omega) ?_
  have h66_ := iv_get hv0 (k := 167) (j := x1.toNat) (l := 0) (u := 64) rfl
  refine jt_ite (fun c67_ => ?_) (fun c67_ => ?_)
  ·
    exact jt_rI ⟨hv0, (jfr_rf _ _), rfl, (show (0 ≤ 1 ∧ 1 ≤ 1) from by omega), (by unfold METR; rw [if_pos (by assumption)])⟩
  ·
    exact (cp_X12_isMet_16 E d hd x1 x2 a0 b0 hv0 hp0 hp1 hp2 hp3 _).2.2.2 x1 x2 0 0 a0 (Nat.le_refl _) hv0 (jfr_rf _ _) (show 0 ≤ x1 from by omega) (show x1 ≤ 39 from by omega) (show 0 ≤ x2 from by omega) (show x2 ≤ 39 from by omega) (show 0 ≤ 0 from by omega) (show 0 ≤ 64 from by omega) (show x1 = x1 from by omega) (show x2 = x2 from by omega) (show 0 ≤ 0 from by omega) (show 0 ≤ 0 from by omega) (show 0 ≤ a0 167 (x1.toNat) from by omega) (by first | rfl | (rw [show (jxw (y4 + 1)).toNat = y4.toNat + 1 from by omega]; assumption)) (show ¬ a0 167 (x1.toNat) = 0 from by omega) (by first | rfl | (rw [show (jxw (y4 + 1)).toNat = y4.toNat + 1 from by omega]; exact hst))
def jW_X12_unhappy : List (Nat × Nat) := [(170, 9999)]
abbrev jQ_X12_unhappy (x1 x2 : Int) (a0 b0 : Nat → Nat → Int) : List jxV → (Nat → Nat → Int) → (Nat → Nat → Int) → Prop := rI (fun r a b => (iv a) ∧ (jfr jW_X12_unhappy a0 a) ∧ (b0 = b) ∧ (0 ≤ r) ∧ (r ≤ 2) ∧ (r = UNR a0 b0 x1 x2))
theorem cp_X12_unhappy_14 (E : jxE) (d : Nat) (hd : Nat.ble 3 (d + 1) = true) (x1 x2 : Int) (a0 b0 : Nat → Nat → Int) (hv0 : iv a0) (hp0 : (0 ≤ x1 ∧ x1 ≤ 39)) (hp1 : (0 ≤ x2 ∧ x2 ≤ 39)) (hp2 : WFW a0) (hp3 : WISHR a0) : ∀ (y1 y2 s0 : Int) (a : Nat → Nat → Int), iv a → jfr jW_X12_unhappy a0 a → 0 ≤ y1 → y1 ≤ 39 → 0 ≤ y2 → y2 ≤ 39 → 0 ≤ s0 → s0 ≤ 1 → (y1 = x1) → (y2 = x2) → (s0 = (if METR a0 b0 x1 x2 = 0 then 1 else 0)) → jt (jxX E d 229 14 [some (.inr (.inr (.inl 146))), some (.inl y1), some (.inl y2)] [.inl s0] (jxSH, a, b0)) (jQ_X12_unhappy x1 x2 a0 b0) := by
  intro y1 y2 s0 a hv hf hi0 hi1 hi2 hi3 hi4 hi5 hy1 hy2 hs0
  refine jt_eq (bq_X12_unhappy_14 E d y1 y2 s0 a b0) ?_
  refine jt_bI (sp_X12_isMet E d (jd_le hd rfl) y2 y1 a b0 hv (show (0 ≤ y2 ∧ y2 ≤ 39) from by omega) (show (0 ≤ y1 ∧ y1 ≤ 39) from by omega) (WFW_fr hp2 hf (fun _ => rfl) (fun _ => rfl)) (WISHR_fr hp3 hf (fun _ => rfl) (fun _ => rfl) (fun _ => rfl) (fun _ => rfl))) (fun r68_ a68_ b68_ h68_ => ?_)
  obtain ⟨hv68_, hf68_, rfl, hq68_0, hq68_1⟩ := h68_
  refine jt_ite (fun c69_ => ?_) (fun c69_ => ?_)
  ·
    have hf70_ : jfr jW_X12_unhappy a0 a68_ := jfr_tr hf hf68_ rfl
    have h71_ : jxw (s0 + 1) = s0 + 1 := jxw_id (by omega) (by omega)
    exact jt_rI ⟨hv68_, hf70_, rfl, (show 0 ≤ jxw (s0 + 1) from by omega), (show jxw (s0 + 1) ≤ 2 from by omega), (by unfold UNR unh; rw [← hs0]; have q := hq68_1; rw [hy1, hy2, METR_170 hf rfl] at q; rw [← q]; first | rw [if_pos (by assumption)] | rw [if_neg (by assumption)])⟩
  ·
    have hf72_ : jfr jW_X12_unhappy a0 a68_ := jfr_tr hf hf68_ rfl
    have h73_ : jxw (s0 + 0) = s0 + 0 := jxw_id (by omega) (by omega)
    exact jt_rI ⟨hv68_, hf72_, rfl, (show 0 ≤ jxw (s0 + 0) from by omega), (show jxw (s0 + 0) ≤ 2 from by omega), (by unfold UNR unh; rw [← hs0]; have q := hq68_1; rw [hy1, hy2, METR_170 hf rfl] at q; rw [← q]; first | rw [if_pos (by assumption)] | rw [if_neg (by assumption)])⟩
theorem sp_X12_unhappy (E : jxE) (d : Nat) (hd : Nat.ble 3 d = true) (x1 x2 : Int) (a0 b0 : Nat → Nat → Int) (hv0 : iv a0) (hp0 : (0 ≤ x1 ∧ x1 ≤ 39)) (hp1 : (0 ≤ x2 ∧ x2 ≤ 39)) (hp2 : WFW a0) (hp3 : WISHR a0) : jt (jxC E d 229 [.inr (.inr (.inl 146)), .inl x1, .inl x2] (jxSH, a0, b0)) (jQ_X12_unhappy x1 x2 a0 b0) := by
  obtain ⟨d, rfl⟩ := jd_succ hd
  refine jt_eq (bq_X12_unhappy E d x1 x2 a0 b0) ?_
  refine jt_bI (sp_X12_isMet E d (jd_le hd rfl) x1 x2 a0 b0 hv0 (show (0 ≤ x1 ∧ x1 ≤ 39) from by omega) (show (0 ≤ x2 ∧ x2 ≤ 39) from by omega) hp2 hp3) (fun r74_ a74_ b74_ h74_ => ?_)
  obtain ⟨hv74_, hf74_, rfl, hq74_0, hq74_1⟩ := h74_
  refine jt_ite (fun c75_ => ?_) (fun c75_ => ?_)
  ·
    have hf76_ : jfr jW_X12_unhappy a0 a74_ := jfr_tr (jfr_rf _ _) hf74_ rfl
    exact cp_X12_unhappy_14 E d hd x1 x2 a0 b0 hv0 hp0 hp1 hp2 hp3 x1 x2 1 a74_ hv74_ hf76_ (show 0 ≤ x1 from by omega) (show x1 ≤ 39 from by omega) (show 0 ≤ x2 from by omega) (show x2 ≤ 39 from by omega) (show 0 ≤ 1 from by omega) (show 1 ≤ 1 from by omega) (by first | rfl | assumption) (by first | rfl | assumption) (by rw [← hq74_1]; first | rw [if_pos (by assumption)] | rw [if_neg (by assumption)])
  ·
    have hf77_ : jfr jW_X12_unhappy a0 a74_ := jfr_tr (jfr_rf _ _) hf74_ rfl
    exact cp_X12_unhappy_14 E d hd x1 x2 a0 b0 hv0 hp0 hp1 hp2 hp3 x1 x2 0 a74_ hv74_ hf77_ (show 0 ≤ x1 from by omega) (show x1 ≤ 39 from by omega) (show 0 ≤ x2 from by omega) (show x2 ≤ 39 from by omega) (show 0 ≤ 0 from by omega) (show 0 ≤ 1 from by omega) (by first | rfl | assumption) (by first | rfl | assumption) (by rw [← hq74_1]; first | rw [if_pos (by assumption)] | rw [if_neg (by assumption)])
def jW_X12_mayGet : List (Nat × Nat) := [(170, 9999)]
abbrev jQ_X12_mayGet (x1 x2 : Int) (a0 b0 : Nat → Nat → Int) : List jxV → (Nat → Nat → Int) → (Nat → Nat → Int) → Prop := rI (fun r a b => (iv a) ∧ (jfr jW_X12_mayGet a0 a) ∧ (b0 = b) ∧ ((0 ≤ r ∧ r ≤ 1)) ∧ (r = MGR a0 b0 x1 x2))
theorem cp_X12_mayGet_96 (E : jxE) (d : Nat) (hd : Nat.ble 7 (d + 1) = true) (x1 x2 : Int) (a0 b0 : Nat → Nat → Int) (hv0 : iv a0) (hp0 : (0 ≤ x1 ∧ x1 ≤ 39)) (hp1 : (0 ≤ x2 ∧ x2 ≤ 39)) (hp2 : WFW a0) (hp3 : WISHR a0) : ∀ (a : Nat → Nat → Int), iv a → jfr jW_X12_mayGet a0 a → (MGR a0 b0 x1 x2 = 0) → jt (jxX E d 248 96 [none, none, none, none] [] (jxSH, a, b0)) (jQ_X12_mayGet x1 x2 a0 b0) := by
  intro a hv hf hmg
  refine jt_eq (bq_X12_mayGet_96 E d a b0) ?_
  exact jt_rI ⟨hv, hf, rfl, (show (0 ≤ 0 ∧ 0 ≤ 1) from by omega), hmg.symm⟩
theorem cp_X12_mayGet_54 (E : jxE) (d : Nat) (hd : Nat.ble 7 (d + 1) = true) (x1 x2 : Int) (a0 b0 : Nat → Nat → Int) (hv0 : iv a0) (hp0 : (0 ≤ x1 ∧ x1 ≤ 39)) (hp1 : (0 ≤ x2 ∧ x2 ≤ 39)) (hp2 : WFW a0) (hp3 : WISHR a0) : ∀ (a : Nat → Nat → Int), iv a → jfr jW_X12_mayGet a0 a → 1 ≤ a 146 9 → (¬ a0 152 x2.toNat = 0 ∧ f_X12_isKin a0 b0 x1 x2 = 0) → 0 ≤ a 146 9 → (RCR a0 b0 x1 x2 (a0 146 9).toNat = 1) → jt (jxX E d 248 54 [none, none, none, none] [] (jxSH, a, b0)) (jQ_X12_mayGet x1 x2 a0 b0) := by
  intro a hv hf hi0 hst0 hi2 hr
  refine jt_eq (bq_X12_mayGet_54 E d a b0) ?_
  have h78_ := iv_get hv (k := 146) (j := 9) (l := 0) (u := 300) rfl
  have h79_ : a 146 9 = a0 146 9 := hf 146 9 rfl
  have h80_ := iv_get hv0 (k := 146) (j := 9) (l := 0) (u := 300) rfl
  exact jt_rI ⟨hv, hf, rfl, (show (0 ≤ 0 ∧ 0 ≤ 1) from by omega), (by unfold MGR; rw [if_neg hst0.1, if_neg (fun q => q hst0.2), if_pos (by rw [hr]; decide)])⟩
theorem cp_X12_mayGet_92 (E : jxE) (d : Nat) (hd : Nat.ble 7 (d + 1) = true) (x1 x2 : Int) (a0 b0 : Nat → Nat → Int) (hv0 : iv a0) (hp0 : (0 ≤ x1 ∧ x1 ≤ 39)) (hp1 : (0 ≤ x2 ∧ x2 ≤ 39)) (hp2 : WFW a0) (hp3 : WISHR a0) : ∀ (a : Nat → Nat → Int), iv a → jfr jW_X12_mayGet a0 a → (MGR a0 b0 x1 x2 = 1) → jt (jxX E d 248 92 [none, none, none, none] [] (jxSH, a, b0)) (jQ_X12_mayGet x1 x2 a0 b0) := by
  intro a hv hf hmg
  refine jt_eq (bq_X12_mayGet_92 E d a b0) ?_
  exact jt_rI ⟨hv, hf, rfl, (show (0 ≤ 1 ∧ 1 ≤ 1) from by omega), hmg.symm⟩
theorem cp_X12_mayGet_22 (E : jxE) (d : Nat) (hd : Nat.ble 7 (d + 1) = true) (x1 x2 : Int) (a0 b0 : Nat → Nat → Int) (hv0 : iv a0) (hp0 : (0 ≤ x1 ∧ x1 ≤ 39)) (hp1 : (0 ≤ x2 ∧ x2 ≤ 39)) (hp2 : WFW a0) (hp3 : WISHR a0) : ∀ n : Nat, (∀ (y1 y2 y3 : Int) (a : Nat → Nat → Int), (((300 - y3) * 1) + 0).toNat ≤ n → iv a → jfr jW_X12_mayGet a0 a → 0 ≤ y1 → y1 ≤ 39 → 0 ≤ y2 → y2 ≤ 39 → 0 ≤ y3 → y3 ≤ 299 → 1 ≤ a 146 9 → (¬ a0 152 x2.toNat = 0 ∧ f_X12_isKin a0 b0 x1 x2 = 0) → y1 = x1 → y2 = x2 → 0 ≤ y3 → 0 ≤ a 146 9 → y3 < a 146 9 → (RCR a0 b0 x1 x2 (y3.toNat + 1) = 0) → jt (jxX E d 248 56 [some (.inr (.inr (.inl 146))), some (.inl y1), some (.inl y2), some (.inl y3)] [] (jxSH, a, b0)) (jQ_X12_mayGet x1 x2 a0 b0)) ∧ (∀ (y1 y2 y3 : Int) (a : Nat → Nat → Int), (((300 - y3) * 1) + 0).toNat ≤ n → iv a → jfr jW_X12_mayGet a0 a → 0 ≤ y1 → y1 ≤ 39 → 0 ≤ y2 → y2 ≤ 39 → 0 ≤ y3 → y3 ≤ 300 → (¬ a0 152 x2.toNat = 0 ∧ f_X12_isKin a0 b0 x1 x2 = 0) → y1 = x1 → y2 = x2 → 0 ≤ y3 → y3 ≤ a 146 9 → (RCR a0 b0 x1 x2 y3.toNat = 0) → jt (jxX E d 248 22 [some (.inr (.inr (.inl 146))), some (.inl y1), some (.inl y2), some (.inl y3)] [] (jxSH, a, b0)) (jQ_X12_mayGet x1 x2 a0 b0)) := by
  refine jx_ind fun n ih => ?_
  have ih56 : ∀ (y1 y2 y3 : Int) (a : Nat → Nat → Int), (((300 - y3) * 1) + 0).toNat < n → iv a → jfr jW_X12_mayGet a0 a → 0 ≤ y1 → y1 ≤ 39 → 0 ≤ y2 → y2 ≤ 39 → 0 ≤ y3 → y3 ≤ 299 → 1 ≤ a 146 9 → (¬ a0 152 x2.toNat = 0 ∧ f_X12_isKin a0 b0 x1 x2 = 0) → y1 = x1 → y2 = x2 → 0 ≤ y3 → 0 ≤ a 146 9 → y3 < a 146 9 → (RCR a0 b0 x1 x2 (y3.toNat + 1) = 0) → jt (jxX E d 248 56 [some (.inr (.inr (.inl 146))), some (.inl y1), some (.inl y2), some (.inl y3)] [] (jxSH, a, b0)) (jQ_X12_mayGet x1 x2 a0 b0) := fun y1 y2 y3 a hlt i0 i1 i2 i3 i4 i5 i6 i7 i8 i9 i10 i11 i12 i13 i14 i15 => (ih _ hlt).1 y1 y2 y3 a (Nat.le_refl _) i0 i1 i2 i3 i4 i5 i6 i7 i8 i9 i10 i11 i12 i13 i14 i15
  have ih22 : ∀ (y1 y2 y3 : Int) (a : Nat → Nat → Int), (((300 - y3) * 1) + 0).toNat < n → iv a → jfr jW_X12_mayGet a0 a → 0 ≤ y1 → y1 ≤ 39 → 0 ≤ y2 → y2 ≤ 39 → 0 ≤ y3 → y3 ≤ 300 → (¬ a0 152 x2.toNat = 0 ∧ f_X12_isKin a0 b0 x1 x2 = 0) → y1 = x1 → y2 = x2 → 0 ≤ y3 → y3 ≤ a 146 9 → (RCR a0 b0 x1 x2 y3.toNat = 0) → jt (jxX E d 248 22 [some (.inr (.inr (.inl 146))), some (.inl y1), some (.inl y2), some (.inl y3)] [] (jxSH, a, b0)) (jQ_X12_mayGet x1 x2 a0 b0) := fun y1 y2 y3 a hlt i0 i1 i2 i3 i4 i5 i6 i7 i8 i9 i10 i11 i12 i13 => (ih _ hlt).2 y1 y2 y3 a (Nat.le_refl _) i0 i1 i2 i3 i4 i5 i6 i7 i8 i9 i10 i11 i12 i13
  have hc56 : ∀ (y1 y2 y3 : Int) (a : Nat → Nat → Int), (((300 - y3) * 1) + 0).toNat ≤ n → iv a → jfr jW_X12_mayGet a0 a → 0 ≤ y1 → y1 ≤ 39 → 0 ≤ y2 → y2 ≤ 39 → 0 ≤ y3 → y3 ≤ 299 → 1 ≤ a 146 9 → (¬ a0 152 x2.toNat = 0 ∧ f_X12_isKin a0 b0 x1 x2 = 0) → y1 = x1 → y2 = x2 → 0 ≤ y3 → 0 ≤ a 146 9 → y3 < a 146 9 → (RCR a0 b0 x1 x2 (y3.toNat + 1) = 0) → jt (jxX E d 248 56 [some (.inr (.inr (.inl 146))), some (.inl y1), some (.inl y2), some (.inl y3)] [] (jxSH, a, b0)) (jQ_X12_mayGet x1 x2 a0 b0) := by
    intro y1 y2 y3 a hm hv hf hi0 hi1 hi2 hi3 hi4 hi5 hi6 hst0 hi8 hi9 hi10 hi11 hi12 hr
    refine jt_eq (bq_X12_mayGet_56 E d y1 y2 y3 a b0) ?_
    have h81_ := iv_get hv (k := 146) (j := 9) (l := 0) (u := 300) rfl
    have h82_ : a 146 9 = a0 146 9 := hf 146 9 rfl
    have h83_ := iv_get hv0 (k := 146) (j := 9) (l := 0) (u := 300) rfl
    have h84_ : jxw (y3 + 1) = y3 + 1 := jxw_id (by omega) (by omega)
    exact ih22 y1 y2 (jxw (y3 + 1)) a (show (((300 - (jxw (y3 + 1))) * 1) + 0).toNat < n from by omega) hv hf (show 0 ≤ y1 from by omega) (show y1 ≤ 39 from by omega) (show 0 ≤ y2 from by omega) (show y2 ≤ 39 from by omega) (show 0 ≤ jxw (y3 + 1) from by omega) (show jxw (y3 + 1) ≤ 300 from by omega) (by first | exact hst0 | exact ⟨by assumption, by assumption⟩) (show y1 = x1 from by omega) (show y2 = x2 from by omega) (show 0 ≤ jxw (y3 + 1) from by omega) (show jxw (y3 + 1) ≤ a 146 9 from by omega) (by first | rfl | (rw [show (jxw (y3 + 1)).toNat = y3.toNat + 1 from by omega]; exact hr))
  have hc22 : ∀ (y1 y2 y3 : Int) (a : Nat → Nat → Int), (((300 - y3) * 1) + 0).toNat ≤ n → iv a → jfr jW_X12_mayGet a0 a → 0 ≤ y1 → y1 ≤ 39 → 0 ≤ y2 → y2 ≤ 39 → 0 ≤ y3 → y3 ≤ 300 → (¬ a0 152 x2.toNat = 0 ∧ f_X12_isKin a0 b0 x1 x2 = 0) → y1 = x1 → y2 = x2 → 0 ≤ y3 → y3 ≤ a 146 9 → (RCR a0 b0 x1 x2 y3.toNat = 0) → jt (jxX E d 248 22 [some (.inr (.inr (.inl 146))), some (.inl y1), some (.inl y2), some (.inl y3)] [] (jxSH, a, b0)) (jQ_X12_mayGet x1 x2 a0 b0) := by
    intro y1 y2 y3 a hm hv hf hi0 hi1 hi2 hi3 hi4 hi5 hst0 hi7 hi8 hi9 hi10 hr
    refine jt_eq (bq_X12_mayGet_22 E d y1 y2 y3 a b0) ?_
    have h85_ := iv_get hv (k := 146) (j := 9) (l := 0) (u := 300) rfl
    have h86_ : a 146 9 = a0 146 9 := hf 146 9 rfl
    have h87_ := iv_get hv0 (k := 146) (j := 9) (l := 0) (u := 300) rfl
    refine jt_ite (fun c88_ => ?_) (fun c88_ => ?_)
    ·
      refine jt_grd (by omega) ?_
      have h89_ := iv_get hv (k := 155) (j := y3.toNat) (l := 0) (u := 39) rfl
      have h90_ : a 155 (y3.toNat) = a0 155 (y3.toNat) := hf 155 (y3.toNat) rfl
      have h91_ := iv_get hv0 (k := 155) (j := y3.toNat) (l := 0) (u := 39) rfl
      refine jt_ite (fun c92_ => ?_) (fun c92_ => ?_)
      ·
        refine jt_grd (by omega) ?_
        have h93_ := iv_get hv (k := 154) (j := y3.toNat) (l := 0) (u := 39) rfl
        have h94_ : a 154 (y3.toNat) = a0 154 (y3.toNat) := hf 154 (y3.toNat) rfl
        have h95_ := iv_get hv0 (k := 154) (j := y3.toNat) (l := 0) (u := 39) rfl
        refine jt_eI (eq_X12_isKin E d (jd_le hd rfl) (a 154 (y3.toNat)) y1 a b0 (show (0 ≤ a 154 (y3.toNat) ∧ a 154 (y3.toNat) < 40) from by omega) (show (0 ≤ y1 ∧ y1 < 40) from by omega)) ?_
        have h96_ := f_X12_isKin_bool a b0 (a 154 (y3.toNat)) y1
        refine jt_ite (fun c97_ => ?_) (fun c97_ => ?_)
        ·
          exact hc56 y1 y2 y3 a (show (((300 - y3) * 1) + 0).toNat ≤ n from by omega) hv hf (show 0 ≤ y1 from by omega) (show y1 ≤ 39 from by omega) (show 0 ≤ y2 from by omega) (show y2 ≤ 39 from by omega) (show 0 ≤ y3 from by omega) (show y3 ≤ 299 from by omega) (show 1 ≤ a 146 9 from by omega) (by first | exact hst0 | exact ⟨by assumption, by assumption⟩) (show y1 = x1 from by omega) (show y2 = x2 from by omega) (show 0 ≤ y3 from by omega) (show 0 ≤ a 146 9 from by omega) (show y3 < a 146 9 from by omega) (by have hkn : f_X12_isKin a b0 (a 154 (y3.toNat)) y1 = f_X12_isKin a0 b0 (a0 154 y3.toNat) x1 := (by rw [isKin_fr (a := a0) (a1 := a) (funext fun j => hf 150 j rfl), hf 154 _ rfl, show y1 = x1 from by omega]); have h155 := hf 155 y3.toNat rfl; show (if a0 155 y3.toNat = x2 ∧ ¬ f_X12_isKin a0 b0 (a0 154 y3.toNat) x1 = 0 then 1 else RCR a0 b0 x1 x2 y3.toNat) = 0; rw [if_neg (fun q => by first | (have q1 := q.1; omega) | (rw [← hkn] at q; exact q.2 (by assumption)))]; exact hr)
        ·
          exact cp_X12_mayGet_54 E d hd x1 x2 a0 b0 hv0 hp0 hp1 hp2 hp3 a hv hf (show 1 ≤ a 146 9 from by omega) (by first | exact hst0 | exact ⟨by assumption, by assumption⟩) (show 0 ≤ a 146 9 from by omega) (by have hkn : f_X12_isKin a b0 (a 154 (y3.toNat)) y1 = f_X12_isKin a0 b0 (a0 154 y3.toNat) x1 := (by rw [isKin_fr (a := a0) (a1 := a) (funext fun j => hf 150 j rfl), hf 154 _ rfl, show y1 = x1 from by omega]); have h155 := hf 155 y3.toNat rfl; exact RCR_1 (k := y3.toNat) ⟨by omega, by rw [← hkn]; assumption⟩ _ (by have h9 := hf 146 9 rfl; omega))
      ·
        exact hc56 y1 y2 y3 a (show (((300 - y3) * 1) + 0).toNat ≤ n from by omega) hv hf (show 0 ≤ y1 from by omega) (show y1 ≤ 39 from by omega) (show 0 ≤ y2 from by omega) (show y2 ≤ 39 from by omega) (show 0 ≤ y3 from by omega) (show y3 ≤ 299 from by omega) (show 1 ≤ a 146 9 from by omega) (by first | exact hst0 | exact ⟨by assumption, by assumption⟩) (show y1 = x1 from by omega) (show y2 = x2 from by omega) (show 0 ≤ y3 from by omega) (show 0 ≤ a 146 9 from by omega) (show y3 < a 146 9 from by omega) (by have hkn : f_X12_isKin a b0 (a 154 (y3.toNat)) y1 = f_X12_isKin a0 b0 (a0 154 y3.toNat) x1 := (by rw [isKin_fr (a := a0) (a1 := a) (funext fun j => hf 150 j rfl), hf 154 _ rfl, show y1 = x1 from by omega]); have h155 := hf 155 y3.toNat rfl; show (if a0 155 y3.toNat = x2 ∧ ¬ f_X12_isKin a0 b0 (a0 154 y3.toNat) x1 = 0 then 1 else RCR a0 b0 x1 x2 y3.toNat) = 0; rw [if_neg (fun q => by first | (have q1 := q.1; omega) | (rw [← hkn] at q; exact q.2 (by assumption)))]; exact hr)
    ·
      refine jt_bI (sp_X12_owed E d (jd_le hd rfl) y2 a b0 hv (show (0 ≤ y2 ∧ y2 ≤ 39) from by omega)) (fun r98_ a98_ b98_ h98_ => ?_)
      obtain ⟨rfl, rfl, hq98_0⟩ := h98_
      have h99_ : a 171 2 = a0 171 2 := hf 171 2 rfl
      have h100_ := jxw_im (r98_ + (a 171 2))
      have h101_ := jxw_rg (r98_ + (a 171 2))
      refine jt_ite (fun c102_ => ?_) (fun c102_ => ?_)
      ·
        refine jt_bI (sp_X12_unhappy E d (jd_le hd rfl) y1 y2 a b0 hv (show (0 ≤ y1 ∧ y1 ≤ 39) from by omega) (show (0 ≤ y2 ∧ y2 ≤ 39) from by omega) (WFW_fr hp2 hf (fun _ => rfl) (fun _ => rfl)) (WISHR_fr hp3 hf (fun _ => rfl) (fun _ => rfl) (fun _ => rfl) (fun _ => rfl))) (fun r103_ a103_ b103_ h103_ => ?_)
        obtain ⟨hv103_, hf103_, rfl, hq103_0, hq103_1, hq103_2⟩ := h103_
        have h104_ : a103_ 171 4 = a 171 4 := hf103_ 171 4 rfl
        have h105_ : a 171 4 = a0 171 4 := hf 171 4 rfl
        refine jt_ite (fun c106_ => ?_) (fun c106_ => ?_)
        ·
          have hf107_ : jfr jW_X12_mayGet a0 a103_ := jfr_tr hf hf103_ rfl
          exact cp_X12_mayGet_96 E d hd x1 x2 a0 b0 hv0 hp0 hp1 hp2 hp3 a103_ hv103_ hf107_ (by have hr9 : RCR a0 b0 x1 x2 (a0 146 9).toNat = 0 := (by have h9 := hf 146 9 rfl; rw [show (a0 146 9).toNat = y3.toNat from by omega]; exact hr); have qo := hq98_0; rw [show y2 = x2 from by omega] at qo; have eo : r98_ = vOwR a0 x2 := (by rw [qo]; unfold vOwR; rw [show cvR a = cvR a0 from cvR_fr hf rfl, hf 146 0 rfl, hf 153 _ rfl]); have qu := hq103_2; rw [show y1 = x1 from by omega, show y2 = x2 from by omega, UNR_170 hf rfl] at qu; have e4 := hf103_ 171 4 rfl; have e5 := hf 171 4 rfl; unfold MGR; rw [if_neg hst0.1, if_neg (fun q => q hst0.2), if_neg (fun q => q hr9), if_neg (by rw [← eo, ← hf 171 2 rfl]; omega), ← qu]; first | rw [if_pos (by omega)] | rw [if_neg (by omega)])
        ·
          have hf108_ : jfr jW_X12_mayGet a0 a103_ := jfr_tr hf hf103_ rfl
          exact cp_X12_mayGet_92 E d hd x1 x2 a0 b0 hv0 hp0 hp1 hp2 hp3 a103_ hv103_ hf108_ (by have hr9 : RCR a0 b0 x1 x2 (a0 146 9).toNat = 0 := (by have h9 := hf 146 9 rfl; rw [show (a0 146 9).toNat = y3.toNat from by omega]; exact hr); have qo := hq98_0; rw [show y2 = x2 from by omega] at qo; have eo : r98_ = vOwR a0 x2 := (by rw [qo]; unfold vOwR; rw [show cvR a = cvR a0 from cvR_fr hf rfl, hf 146 0 rfl, hf 153 _ rfl]); have qu := hq103_2; rw [show y1 = x1 from by omega, show y2 = x2 from by omega, UNR_170 hf rfl] at qu; have e4 := hf103_ 171 4 rfl; have e5 := hf 171 4 rfl; unfold MGR; rw [if_neg hst0.1, if_neg (fun q => q hst0.2), if_neg (fun q => q hr9), if_neg (by rw [← eo, ← hf 171 2 rfl]; omega), ← qu]; first | rw [if_pos (by omega)] | rw [if_neg (by omega)])
      ·
        exact cp_X12_mayGet_96 E d hd x1 x2 a0 b0 hv0 hp0 hp1 hp2 hp3 a hv hf (by have hr9 : RCR a0 b0 x1 x2 (a0 146 9).toNat = 0 := (by have h9 := hf 146 9 rfl; rw [show (a0 146 9).toNat = y3.toNat from by omega]; exact hr); have qo := hq98_0; rw [show y2 = x2 from by omega] at qo; have eo : r98_ = vOwR a0 x2 := (by rw [qo]; unfold vOwR; rw [show cvR a = cvR a0 from cvR_fr hf rfl, hf 146 0 rfl, hf 153 _ rfl]); unfold MGR; rw [if_neg hst0.1, if_neg (fun q => q hst0.2), if_neg (fun q => q hr9), if_pos (by rw [← eo, ← hf 171 2 rfl]; assumption)])
  exact ⟨hc56, hc22⟩
theorem sp_X12_mayGet (E : jxE) (d : Nat) (hd : Nat.ble 7 d = true) (x1 x2 : Int) (a0 b0 : Nat → Nat → Int) (hv0 : iv a0) (hp0 : (0 ≤ x1 ∧ x1 ≤ 39)) (hp1 : (0 ≤ x2 ∧ x2 ≤ 39)) (hp2 : WFW a0) (hp3 : WISHR a0) : jt (jxC E d 248 [.inr (.inr (.inl 146)), .inl x1, .inl x2] (jxSH, a0, b0)) (jQ_X12_mayGet x1 x2 a0 b0) := by
  obtain ⟨d, rfl⟩ := jd_succ hd
  refine jt_eq (bq_X12_mayGet E d x1 x2 a0 b0) ?_
  refine jt_grd (by omega) ?_
  have h109_ := iv_get hv0 (k := 152) (j := x2.toNat) (l := 0) (u := 1) rfl
  refine jt_ite (fun c110_ => ?_) (fun c110_ => ?_)
  ·
    exact jt_rI ⟨hv0, (jfr_rf _ _), rfl, (show (0 ≤ 0 ∧ 0 ≤ 1) from by omega), (by unfold MGR; first | rw [if_pos (by assumption)] | rw [if_neg (by assumption), if_pos (by assumption)])⟩
  ·
    refine jt_eI (eq_X12_isKin E d (jd_le hd rfl) x1 x2 a0 b0 (show (0 ≤ x1 ∧ x1 < 40) from by omega) (show (0 ≤ x2 ∧ x2 < 40) from by omega)) ?_
    have h111_ := f_X12_isKin_bool a0 b0 x1 x2
    refine jt_ite (fun c112_ => ?_) (fun c112_ => ?_)
    ·
      have h113_ := iv_get hv0 (k := 146) (j := 9) (l := 0) (u := 300) rfl
      exact (cp_X12_mayGet_22 E d hd x1 x2 a0 b0 hv0 hp0 hp1 hp2 hp3 _).2 x1 x2 0 a0 (Nat.le_refl _) hv0 (jfr_rf _ _) (show 0 ≤ x1 from by omega) (show x1 ≤ 39 from by omega) (show 0 ≤ x2 from by omega) (show x2 ≤ 39 from by omega) (show 0 ≤ 0 from by omega) (show 0 ≤ 300 from by omega) (by first | exact hst0 | exact ⟨by assumption, by assumption⟩) (show x1 = x1 from by omega) (show x2 = x2 from by omega) (show 0 ≤ 0 from by omega) (show 0 ≤ a0 146 9 from by omega) (by first | rfl | (rw [show (jxw (y3 + 1)).toNat = y3.toNat + 1 from by omega]; exact hr))
    ·
      exact jt_rI ⟨hv0, (jfr_rf _ _), rfl, (show (0 ≤ 0 ∧ 0 ≤ 1) from by omega), (by unfold MGR; first | rw [if_pos (by assumption)] | rw [if_neg (by assumption), if_pos (by assumption)])⟩
def jW_X12_ask : List (Nat × Nat) := [(146, 9), (146, 39), (146, 40), (146, 41), (154, 9999), (155, 9999), (156, 9999), (157, 9999), (158, 9999), (159, 9999), (160, 9999), (170, 9999)]
abbrev jQ_X12_ask (x1 : Int) (a0 b0 : Nat → Nat → Int) : List jxV → (Nat → Nat → Int) → (Nat → Nat → Int) → Prop := rI (fun r a b => (iv a) ∧ (jfr jW_X12_ask a0 a) ∧ (b0 = b) ∧ (OC a) ∧ ((a0 146 2 = 0 → r = 0 - 1)) ∧ (0 ≤ x1 → x1 < a0 146 2 → a0 146 9 < 300 → ASKR a0 b0 a x1 r) ∧ ((((x1 < 0 ∨ a0 146 2 ≤ x1) ∨ a0 146 9 = 300) → r = 0 - 1)) ∧ ((x1 < 0 ∨ a0 146 2 ≤ x1 ∨ a0 146 9 = 300) → cvR a = cvR a0))
theorem cp_X12_ask_44 (E : jxE) (d : Nat) (hd : Nat.ble 8 (d + 1) = true) (x1 : Int) (a0 b0 : Nat → Nat → Int) (hv0 : iv a0) (hp0 : WFW a0) (hp1 : OC a0) (hp2 : WISHR a0) : ∀ n : Nat, (∀ (y1 y2 y3 y4 y5 y6 y7 y8 y9 s0 : Int) (a : Nat → Nat → Int), (((40 - y6) * 1) + 0).toNat ≤ n → iv a → jfr jW_X12_ask a0 a → 0 ≤ y1 → y1 ≤ 39 → 0 - 1 ≤ y2 → y2 ≤ 39 → 0 ≤ y4 → y4 ≤ 2 → 0 ≤ y6 → y6 ≤ 39 → 0 ≤ y8 → y8 ≤ 2 → 0 ≤ s0 → s0 ≤ 1 → 1 ≤ a 146 2 → a 146 9 ≤ 299 → (y1 = x1) → (0 ≤ x1 ∧ x1 < a 146 2) → a0 146 9 < 300 → (SAM7 a0 a) → (¬ vMay (a0 152 x1.toNat) (SUMN (ohF (cvR a0) (a0 146 0) x1 0) (a0 146 9).toNat) (SUMN (gvF (cvR a0) (a0 146 0) x1) (a0 146 9).toNat) (a0 171 0) (a0 171 1) = 0) → 0 ≤ y6 → y6 < a 146 2 → (s0 = 0 → y2 = BSR a0 b0 x1 (y6.toNat + 1) ∧ (0 ≤ y2 → y3 = vOwR a0 y2 ∧ y4 = UNR a0 b0 x1 y2 ∧ y5 = lstR a0 y2)) → (s0 = 1 → y6 = BSR a0 b0 x1 (y6.toNat + 1) ∧ y7 = vOwR a0 y6 ∧ y8 = UNR a0 b0 x1 y6 ∧ y9 = lstR a0 y6) → (s0 = 0 ∨ s0 = 1) → (OC a) → 1 ≤ a0 146 2 → jt (jxX E d 251 139 [some (.inr (.inr (.inl 146))), some (.inl y1), some (.inl y2), some (.inl y3), some (.inl y4), some (.inl y5), some (.inl y6), some (.inl y7), some (.inl y8), some (.inl y9), none] [.inl s0] (jxSH, a, b0)) (jQ_X12_ask x1 a0 b0)) ∧ (∀ (y1 y2 y3 y4 y5 y6 y7 y8 y9 : Int) (a : Nat → Nat → Int), (((40 - y6) * 1) + 0).toNat ≤ n → iv a → jfr jW_X12_ask a0 a → 0 ≤ y1 → y1 ≤ 39 → 0 - 1 ≤ y2 → y2 ≤ 39 → 0 ≤ y4 → y4 ≤ 2 → 0 ≤ y6 → y6 ≤ 39 → 0 ≤ y8 → y8 ≤ 2 → 1 ≤ a 146 2 → a 146 9 ≤ 299 → (y1 = x1) → (0 ≤ x1 ∧ x1 < a 146 2) → a0 146 9 < 300 → (SAM7 a0 a) → (¬ vMay (a0 152 x1.toNat) (SUMN (ohF (cvR a0) (a0 146 0) x1 0) (a0 146 9).toNat) (SUMN (gvF (cvR a0) (a0 146 0) x1) (a0 146 9).toNat) (a0 171 0) (a0 171 1) = 0) → 0 ≤ y6 → y6 < a 146 2 → (y2 = BSR a0 b0 x1 y6.toNat) → ((0 ≤ y2 → y3 = vOwR a0 y2 ∧ y4 = UNR a0 b0 x1 y2 ∧ y5 = lstR a0 y2)) → (¬ MGR a0 b0 x1 y6 = 0) → (y7 = vOwR a0 y6 ∧ y8 = UNR a0 b0 x1 y6) → (y9 = lstR a0 y6) → ((y2 < 0 ∨ (if ¬ vOwR a0 y6 = vOwR a0 y2 then vOwR a0 y2 < vOwR a0 y6 else if ¬ UNR a0 b0 x1 y6 = UNR a0 b0 x1 y2 then UNR a0 b0 x1 y6 < UNR a0 b0 x1 y2 else lstR a0 y6 < lstR a0 y2))) → (OC a) → 1 ≤ a0 146 2 → jt (jxX E d 251 134 [some (.inr (.inr (.inl 146))), some (.inl y1), some (.inl y2), some (.inl y3), some (.inl y4), some (.inl y5), some (.inl y6), some (.inl y7), some (.inl y8), some (.inl y9), none] [] (jxSH, a, b0)) (jQ_X12_ask x1 a0 b0)) ∧ (∀ (y1 y2 y3 y4 y5 y6 y7 y8 y9 : Int) (a : Nat → Nat → Int), (((40 - y6) * 1) + 0).toNat ≤ n → iv a → jfr jW_X12_ask a0 a → 0 ≤ y1 → y1 ≤ 39 → 0 ≤ y2 → y2 ≤ 39 → 1 ≤ y4 → y4 ≤ 2 → 0 ≤ y6 → y6 ≤ 39 → 0 ≤ y8 → y8 ≤ 1 → 1 ≤ a 146 2 → a 146 9 ≤ 299 → (y1 = x1) → (0 ≤ x1 ∧ x1 < a 146 2) → a0 146 9 < 300 → (SAM7 a0 a) → (¬ vMay (a0 152 x1.toNat) (SUMN (ohF (cvR a0) (a0 146 0) x1 0) (a0 146 9).toNat) (SUMN (gvF (cvR a0) (a0 146 0) x1) (a0 146 9).toNat) (a0 171 0) (a0 171 1) = 0) → 0 ≤ y6 → y6 < a 146 2 → (y2 = BSR a0 b0 x1 y6.toNat) → ((0 ≤ y2 → y3 = vOwR a0 y2 ∧ y4 = UNR a0 b0 x1 y2 ∧ y5 = lstR a0 y2)) → (¬ MGR a0 b0 x1 y6 = 0) → (y7 = vOwR a0 y6 ∧ y8 = UNR a0 b0 x1 y6) → (y9 = lstR a0 y6) → ((y2 < 0 ∨ (if ¬ vOwR a0 y6 = vOwR a0 y2 then vOwR a0 y2 < vOwR a0 y6 else if ¬ UNR a0 b0 x1 y6 = UNR a0 b0 x1 y2 then UNR a0 b0 x1 y6 < UNR a0 b0 x1 y2 else lstR a0 y6 < lstR a0 y2))) → (OC a) → 1 ≤ a0 146 2 → jt (jxX E d 251 124 [some (.inr (.inr (.inl 146))), some (.inl y1), some (.inl y2), some (.inl y3), some (.inl y4), some (.inl y5), some (.inl y6), some (.inl y7), some (.inl y8), some (.inl y9), none] [] (jxSH, a, b0)) (jQ_X12_ask x1 a0 b0)) ∧ (∀ (y1 y2 y3 y4 y5 y6 y7 y8 y9 : Int) (a : Nat → Nat → Int), (((40 - y6) * 1) + 0).toNat ≤ n → iv a → jfr jW_X12_ask a0 a → 0 ≤ y1 → y1 ≤ 39 → 0 ≤ y2 → y2 ≤ 39 → 0 ≤ y4 → y4 ≤ 2 → 0 ≤ y6 → y6 ≤ 39 → 0 ≤ y8 → y8 ≤ 2 → 1 ≤ a 146 2 → a 146 9 ≤ 299 → (y1 = x1) → (0 ≤ x1 ∧ x1 < a 146 2) → a0 146 9 < 300 → (SAM7 a0 a) → (¬ vMay (a0 152 x1.toNat) (SUMN (ohF (cvR a0) (a0 146 0) x1 0) (a0 146 9).toNat) (SUMN (gvF (cvR a0) (a0 146 0) x1) (a0 146 9).toNat) (a0 171 0) (a0 171 1) = 0) → 0 ≤ y6 → y6 < a 146 2 → (y2 = BSR a0 b0 x1 y6.toNat) → ((0 ≤ y2 → y3 = vOwR a0 y2 ∧ y4 = UNR a0 b0 x1 y2 ∧ y5 = lstR a0 y2)) → (¬ MGR a0 b0 x1 y6 = 0) → (y7 = vOwR a0 y6 ∧ y8 = UNR a0 b0 x1 y6) → (y9 = lstR a0 y6) → (¬ (y2 < 0 ∨ (if ¬ vOwR a0 y6 = vOwR a0 y2 then vOwR a0 y2 < vOwR a0 y6 else if ¬ UNR a0 b0 x1 y6 = UNR a0 b0 x1 y2 then UNR a0 b0 x1 y6 < UNR a0 b0 x1 y2 else lstR a0 y6 < lstR a0 y2))) → (OC a) → 1 ≤ a0 146 2 → jt (jxX E d 251 138 [some (.inr (.inr (.inl 146))), some (.inl y1), some (.inl y2), some (.inl y3), some (.inl y4), some (.inl y5), some (.inl y6), some (.inl y7), some (.inl y8), some (.inl y9), none] [] (jxSH, a, b0)) (jQ_X12_ask x1 a0 b0)) ∧ (∀ (y1 y2 y3 y4 y5 y6 y7 y8 : Int) (a : Nat → Nat → Int), (((40 - y6) * 1) + 0).toNat ≤ n → iv a → jfr jW_X12_ask a0 a → 0 ≤ y1 → y1 ≤ 39 → 0 - 1 ≤ y2 → y2 ≤ 39 → 0 ≤ y4 → y4 ≤ 2 → 0 ≤ y6 → y6 ≤ 39 → 0 ≤ y8 → y8 ≤ 2 → 1 ≤ a 146 2 → a 146 9 ≤ 299 → (y1 = x1) → (0 ≤ x1 ∧ x1 < a 146 2) → a0 146 9 < 300 → (SAM7 a0 a) → (¬ vMay (a0 152 x1.toNat) (SUMN (ohF (cvR a0) (a0 146 0) x1 0) (a0 146 9).toNat) (SUMN (gvF (cvR a0) (a0 146 0) x1) (a0 146 9).toNat) (a0 171 0) (a0 171 1) = 0) → 0 ≤ y6 → y6 < a 146 2 → (y2 = BSR a0 b0 x1 y6.toNat) → ((0 ≤ y2 → y3 = vOwR a0 y2 ∧ y4 = UNR a0 b0 x1 y2 ∧ y5 = lstR a0 y2)) → (¬ MGR a0 b0 x1 y6 = 0) → (y7 = vOwR a0 y6 ∧ y8 = UNR a0 b0 x1 y6) → (OC a) → 1 ≤ a0 146 2 → jt (jxX E d 251 83 [some (.inr (.inr (.inl 146))), some (.inl y1), some (.inl y2), some (.inl y3), some (.inl y4), some (.inl y5), some (.inl y6), some (.inl y7), some (.inl y8), none, none] [] (jxSH, a, b0)) (jQ_X12_ask x1 a0 b0)) ∧ (∀ (y1 y2 y3 y4 y5 y6 : Int) (a : Nat → Nat → Int), (((40 - y6) * 1) + 0).toNat ≤ n → iv a → jfr jW_X12_ask a0 a → 0 ≤ y1 → y1 ≤ 39 → 0 - 1 ≤ y2 → y2 ≤ 39 → 0 ≤ y4 → y4 ≤ 2 → 0 ≤ y6 → y6 ≤ 40 → a 146 9 ≤ 299 → (y1 = x1) → (0 ≤ x1 ∧ x1 < a 146 2) → a0 146 9 < 300 → (SAM7 a0 a) → (¬ vMay (a0 152 x1.toNat) (SUMN (ohF (cvR a0) (a0 146 0) x1 0) (a0 146 9).toNat) (SUMN (gvF (cvR a0) (a0 146 0) x1) (a0 146 9).toNat) (a0 171 0) (a0 171 1) = 0) → 0 ≤ y6 → y6 ≤ a 146 2 → (y2 = BSR a0 b0 x1 y6.toNat) → ((0 ≤ y2 → y3 = vOwR a0 y2 ∧ y4 = UNR a0 b0 x1 y2 ∧ y5 = lstR a0 y2)) → (OC a) → 1 ≤ a0 146 2 → jt (jxX E d 251 44 [some (.inr (.inr (.inl 146))), some (.inl y1), some (.inl y2), some (.inl y3), some (.inl y4), some (.inl y5), some (.inl y6), none, none, none, none] [] (jxSH, a, b0)) (jQ_X12_ask x1 a0 b0)) := by
  refine jx_ind fun n ih => ?_
  have ih139 : ∀ (y1 y2 y3 y4 y5 y6 y7 y8 y9 s0 : Int) (a : Nat → Nat → Int), (((40 - y6) * 1) + 0).toNat < n → iv a → jfr jW_X12_ask a0 a → 0 ≤ y1 → y1 ≤ 39 → 0 - 1 ≤ y2 → y2 ≤ 39 → 0 ≤ y4 → y4 ≤ 2 → 0 ≤ y6 → y6 ≤ 39 → 0 ≤ y8 → y8 ≤ 2 → 0 ≤ s0 → s0 ≤ 1 → 1 ≤ a 146 2 → a 146 9 ≤ 299 → (y1 = x1) → (0 ≤ x1 ∧ x1 < a 146 2) → a0 146 9 < 300 → (SAM7 a0 a) → (¬ vMay (a0 152 x1.toNat) (SUMN (ohF (cvR a0) (a0 146 0) x1 0) (a0 146 9).toNat) (SUMN (gvF (cvR a0) (a0 146 0) x1) (a0 146 9).toNat) (a0 171 0) (a0 171 1) = 0) → 0 ≤ y6 → y6 < a 146 2 → (s0 = 0 → y2 = BSR a0 b0 x1 (y6.toNat + 1) ∧ (0 ≤ y2 → y3 = vOwR a0 y2 ∧ y4 = UNR a0 b0 x1 y2 ∧ y5 = lstR a0 y2)) → (s0 = 1 → y6 = BSR a0 b0 x1 (y6.toNat + 1) ∧ y7 = vOwR a0 y6 ∧ y8 = UNR a0 b0 x1 y6 ∧ y9 = lstR a0 y6) → (s0 = 0 ∨ s0 = 1) → (OC a) → 1 ≤ a0 146 2 → jt (jxX E d 251 139 [some (.inr (.inr (.inl 146))), some (.inl y1), some (.inl y2), some (.inl y3), some (.inl y4), some (.inl y5), some (.inl y6), some (.inl y7), some (.inl y8), some (.inl y9), none] [.inl s0] (jxSH, a, b0)) (jQ_X12_ask x1 a0 b0) := fun y1 y2 y3 y4 y5 y6 y7 y8 y9 s0 a hlt i0 i1 i2 i3 i4 i5 i6 i7 i8 i9 i10 i11 i12 i13 i14 i15 i16 i17 i18 i19 i20 i21 i22 i23 i24 i25 i26 i27 => (ih _ hlt).1 y1 y2 y3 y4 y5 y6 y7 y8 y9 s0 a (Nat.le_refl _) i0 i1 i2 i3 i4 i5 i6 i7 i8 i9 i10 i11 i12 i13 i14 i15 i16 i17 i18 i19 i20 i21 i22 i23 i24 i25 i26 i27
  have ih134 : ∀ (y1 y2 y3 y4 y5 y6 y7 y8 y9 : Int) (a : Nat → Nat → Int), (((40 - y6) * 1) + 0).toNat < n → iv a → jfr jW_X12_ask a0 a → 0 ≤ y1 → y1 ≤ 39 → 0 - 1 ≤ y2 → y2 ≤ 39 → 0 ≤ y4 → y4 ≤ 2 → 0 ≤ y6 → y6 ≤ 39 → 0 ≤ y8 → y8 ≤ 2 → 1 ≤ a 146 2 → a 146 9 ≤ 299 → (y1 = x1) → (0 ≤ x1 ∧ x1 < a 146 2) → a0 146 9 < 300 → (SAM7 a0 a) → (¬ vMay (a0 152 x1.toNat) (SUMN (ohF (cvR a0) (a0 146 0) x1 0) (a0 146 9).toNat) (SUMN (gvF (cvR a0) (a0 146 0) x1) (a0 146 9).toNat) (a0 171 0) (a0 171 1) = 0) → 0 ≤ y6 → y6 < a 146 2 → (y2 = BSR a0 b0 x1 y6.toNat) → ((0 ≤ y2 → y3 = vOwR a0 y2 ∧ y4 = UNR a0 b0 x1 y2 ∧ y5 = lstR a0 y2)) → (¬ MGR a0 b0 x1 y6 = 0) → (y7 = vOwR a0 y6 ∧ y8 = UNR a0 b0 x1 y6) → (y9 = lstR a0 y6) → ((y2 < 0 ∨ (if ¬ vOwR a0 y6 = vOwR a0 y2 then vOwR a0 y2 < vOwR a0 y6 else if ¬ UNR a0 b0 x1 y6 = UNR a0 b0 x1 y2 then UNR a0 b0 x1 y6 < UNR a0 b0 x1 y2 else lstR a0 y6 < lstR a0 y2))) → (OC a) → 1 ≤ a0 146 2 → jt (jxX E d 251 134 [some (.inr (.inr (.inl 146))), some (.inl y1), some (.inl y2), some (.inl y3), some (.inl y4), some (.inl y5), some (.inl y6), some (.inl y7), some (.inl y8), some (.inl y9), none] [] (jxSH, a, b0)) (jQ_X12_ask x1 a0 b0) := fun y1 y2 y3 y4 y5 y6 y7 y8 y9 a hlt i0 i1 i2 i3 i4 i5 i6 i7 i8 i9 i10 i11 i12 i13 i14 i15 i16 i17 i18 i19 i20 i21 i22 i23 i24 i25 i26 i27 i28 => (ih _ hlt).2.1 y1 y2 y3 y4 y5 y6 y7 y8 y9 a (Nat.le_refl _) i0 i1 i2 i3 i4 i5 i6 i7 i8 i9 i10 i11 i12 i13 i14 i15 i16 i17 i18 i19 i20 i21 i22 i23 i24 i25 i26 i27 i28
  have ih124 : ∀ (y1 y2 y3 y4 y5 y6 y7 y8 y9 : Int) (a : Nat → Nat → Int), (((40 - y6) * 1) + 0).toNat < n → iv a → jfr jW_X12_ask a0 a → 0 ≤ y1 → y1 ≤ 39 → 0 ≤ y2 → y2 ≤ 39 → 1 ≤ y4 → y4 ≤ 2 → 0 ≤ y6 → y6 ≤ 39 → 0 ≤ y8 → y8 ≤ 1 → 1 ≤ a 146 2 → a 146 9 ≤ 299 → (y1 = x1) → (0 ≤ x1 ∧ x1 < a 146 2) → a0 146 9 < 300 → (SAM7 a0 a) → (¬ vMay (a0 152 x1.toNat) (SUMN (ohF (cvR a0) (a0 146 0) x1 0) (a0 146 9).toNat) (SUMN (gvF (cvR a0) (a0 146 0) x1) (a0 146 9).toNat) (a0 171 0) (a0 171 1) = 0) → 0 ≤ y6 → y6 < a 146 2 → (y2 = BSR a0 b0 x1 y6.toNat) → ((0 ≤ y2 → y3 = vOwR a0 y2 ∧ y4 = UNR a0 b0 x1 y2 ∧ y5 = lstR a0 y2)) → (¬ MGR a0 b0 x1 y6 = 0) → (y7 = vOwR a0 y6 ∧ y8 = UNR a0 b0 x1 y6) → (y9 = lstR a0 y6) → ((y2 < 0 ∨ (if ¬ vOwR a0 y6 = vOwR a0 y2 then vOwR a0 y2 < vOwR a0 y6 else if ¬ UNR a0 b0 x1 y6 = UNR a0 b0 x1 y2 then UNR a0 b0 x1 y6 < UNR a0 b0 x1 y2 else lstR a0 y6 < lstR a0 y2))) → (OC a) → 1 ≤ a0 146 2 → jt (jxX E d 251 124 [some (.inr (.inr (.inl 146))), some (.inl y1), some (.inl y2), some (.inl y3), some (.inl y4), some (.inl y5), some (.inl y6), some (.inl y7), some (.inl y8), some (.inl y9), none] [] (jxSH, a, b0)) (jQ_X12_ask x1 a0 b0) := fun y1 y2 y3 y4 y5 y6 y7 y8 y9 a hlt i0 i1 i2 i3 i4 i5 i6 i7 i8 i9 i10 i11 i12 i13 i14 i15 i16 i17 i18 i19 i20 i21 i22 i23 i24 i25 i26 i27 i28 => (ih _ hlt).2.2.1 y1 y2 y3 y4 y5 y6 y7 y8 y9 a (Nat.le_refl _) i0 i1 i2 i3 i4 i5 i6 i7 i8 i9 i10 i11 i12 i13 i14 i15 i16 i17 i18 i19 i20 i21 i22 i23 i24 i25 i26 i27 i28
  have ih138 : ∀ (y1 y2 y3 y4 y5 y6 y7 y8 y9 : Int) (a : Nat → Nat → Int), (((40 - y6) * 1) + 0).toNat < n → iv a → jfr jW_X12_ask a0 a → 0 ≤ y1 → y1 ≤ 39 → 0 ≤ y2 → y2 ≤ 39 → 0 ≤ y4 → y4 ≤ 2 → 0 ≤ y6 → y6 ≤ 39 → 0 ≤ y8 → y8 ≤ 2 → 1 ≤ a 146 2 → a 146 9 ≤ 299 → (y1 = x1) → (0 ≤ x1 ∧ x1 < a 146 2) → a0 146 9 < 300 → (SAM7 a0 a) → (¬ vMay (a0 152 x1.toNat) (SUMN (ohF (cvR a0) (a0 146 0) x1 0) (a0 146 9).toNat) (SUMN (gvF (cvR a0) (a0 146 0) x1) (a0 146 9).toNat) (a0 171 0) (a0 171 1) = 0) → 0 ≤ y6 → y6 < a 146 2 → (y2 = BSR a0 b0 x1 y6.toNat) → ((0 ≤ y2 → y3 = vOwR a0 y2 ∧ y4 = UNR a0 b0 x1 y2 ∧ y5 = lstR a0 y2)) → (¬ MGR a0 b0 x1 y6 = 0) → (y7 = vOwR a0 y6 ∧ y8 = UNR a0 b0 x1 y6) → (y9 = lstR a0 y6) → (¬ (y2 < 0 ∨ (if ¬ vOwR a0 y6 = vOwR a0 y2 then vOwR a0 y2 < vOwR a0 y6 else if ¬ UNR a0 b0 x1 y6 = UNR a0 b0 x1 y2 then UNR a0 b0 x1 y6 < UNR a0 b0 x1 y2 else lstR a0 y6 < lstR a0 y2))) → (OC a) → 1 ≤ a0 146 2 → jt (jxX E d 251 138 [some (.inr (.inr (.inl 146))), some (.inl y1), some (.inl y2), some (.inl y3), some (.inl y4), some (.inl y5), some (.inl y6), some (.inl y7), some (.inl y8), some (.inl y9), none] [] (jxSH, a, b0)) (jQ_X12_ask x1 a0 b0) := fun y1 y2 y3 y4 y5 y6 y7 y8 y9 a hlt i0 i1 i2 i3 i4 i5 i6 i7 i8 i9 i10 i11 i12 i13 i14 i15 i16 i17 i18 i19 i20 i21 i22 i23 i24 i25 i26 i27 i28 => (ih _ hlt).2.2.2.1 y1 y2 y3 y4 y5 y6 y7 y8 y9 a (Nat.le_refl _) i0 i1 i2 i3 i4 i5 i6 i7 i8 i9 i10 i11 i12 i13 i14 i15 i16 i17 i18 i19 i20 i21 i22 i23 i24 i25 i26 i27 i28
  have ih83 : ∀ (y1 y2 y3 y4 y5 y6 y7 y8 : Int) (a : Nat → Nat → Int), (((40 - y6) * 1) + 0).toNat < n → iv a → jfr jW_X12_ask a0 a → 0 ≤ y1 → y1 ≤ 39 → 0 - 1 ≤ y2 → y2 ≤ 39 → 0 ≤ y4 → y4 ≤ 2 → 0 ≤ y6 → y6 ≤ 39 → 0 ≤ y8 → y8 ≤ 2 → 1 ≤ a 146 2 → a 146 9 ≤ 299 → (y1 = x1) → (0 ≤ x1 ∧ x1 < a 146 2) → a0 146 9 < 300 → (SAM7 a0 a) → (¬ vMay (a0 152 x1.toNat) (SUMN (ohF (cvR a0) (a0 146 0) x1 0) (a0 146 9).toNat) (SUMN (gvF (cvR a0) (a0 146 0) x1) (a0 146 9).toNat) (a0 171 0) (a0 171 1) = 0) → 0 ≤ y6 → y6 < a 146 2 → (y2 = BSR a0 b0 x1 y6.toNat) → ((0 ≤ y2 → y3 = vOwR a0 y2 ∧ y4 = UNR a0 b0 x1 y2 ∧ y5 = lstR a0 y2)) → (¬ MGR a0 b0 x1 y6 = 0) → (y7 = vOwR a0 y6 ∧ y8 = UNR a0 b0 x1 y6) → (OC a) → 1 ≤ a0 146 2 → jt (jxX E d 251 83 [some (.inr (.inr (.inl 146))), some (.inl y1), some (.inl y2), some (.inl y3), some (.inl y4), some (.inl y5), some (.inl y6), some (.inl y7), some (.inl y8), none, none] [] (jxSH, a, b0)) (jQ_X12_ask x1 a0 b0) := fun y1 y2 y3 y4 y5 y6 y7 y8 a hlt i0 i1 i2 i3 i4 i5 i6 i7 i8 i9 i10 i11 i12 i13 i14 i15 i16 i17 i18 i19 i20 i21 i22 i23 i24 i25 i26 => (ih _ hlt).2.2.2.2.1 y1 y2 y3 y4 y5 y6 y7 y8 a (Nat.le_refl _) i0 i1 i2 i3 i4 i5 i6 i7 i8 i9 i10 i11 i12 i13 i14 i15 i16 i17 i18 i19 i20 i21 i22 i23 i24 i25 i26
  have ih44 : ∀ (y1 y2 y3 y4 y5 y6 : Int) (a : Nat → Nat → Int), (((40 - y6) * 1) + 0).toNat < n → iv a → jfr jW_X12_ask a0 a → 0 ≤ y1 → y1 ≤ 39 → 0 - 1 ≤ y2 → y2 ≤ 39 → 0 ≤ y4 → y4 ≤ 2 → 0 ≤ y6 → y6 ≤ 40 → a 146 9 ≤ 299 → (y1 = x1) → (0 ≤ x1 ∧ x1 < a 146 2) → a0 146 9 < 300 → (SAM7 a0 a) → (¬ vMay (a0 152 x1.toNat) (SUMN (ohF (cvR a0) (a0 146 0) x1 0) (a0 146 9).toNat) (SUMN (gvF (cvR a0) (a0 146 0) x1) (a0 146 9).toNat) (a0 171 0) (a0 171 1) = 0) → 0 ≤ y6 → y6 ≤ a 146 2 → (y2 = BSR a0 b0 x1 y6.toNat) → ((0 ≤ y2 → y3 = vOwR a0 y2 ∧ y4 = UNR a0 b0 x1 y2 ∧ y5 = lstR a0 y2)) → (OC a) → 1 ≤ a0 146 2 → jt (jxX E d 251 44 [some (.inr (.inr (.inl 146))), some (.inl y1), some (.inl y2), some (.inl y3), some (.inl y4), some (.inl y5), some (.inl y6), none, none, none, none] [] (jxSH, a, b0)) (jQ_X12_ask x1 a0 b0) := fun y1 y2 y3 y4 y5 y6 a hlt i0 i1 i2 i3 i4 i5 i6 i7 i8 i9 i10 i11 i12 i13 i14 i15 i16 i17 i18 i19 i20 i21 => (ih _ hlt).2.2.2.2.2 y1 y2 y3 y4 y5 y6 a (Nat.le_refl _) i0 i1 i2 i3 i4 i5 i6 i7 i8 i9 i10 i11 i12 i13 i14 i15 i16 i17 i18 i19 i20 i21
  have hc139 : ∀ (y1 y2 y3 y4 y5 y6 y7 y8 y9 s0 : Int) (a : Nat → Nat → Int), (((40 - y6) * 1) + 0).toNat ≤ n → iv a → jfr jW_X12_ask a0 a → 0 ≤ y1 → y1 ≤ 39 → 0 - 1 ≤ y2 → y2 ≤ 39 → 0 ≤ y4 → y4 ≤ 2 → 0 ≤ y6 → y6 ≤ 39 → 0 ≤ y8 → y8 ≤ 2 → 0 ≤ s0 → s0 ≤ 1 → 1 ≤ a 146 2 → a 146 9 ≤ 299 → (y1 = x1) → (0 ≤ x1 ∧ x1 < a 146 2) → a0 146 9 < 300 → (SAM7 a0 a) → (¬ vMay (a0 152 x1.toNat) (SUMN (ohF (cvR a0) (a0 146 0) x1 0) (a0 146 9).toNat) (SUMN (gvF (cvR a0) (a0 146 0) x1) (a0 146 9).toNat) (a0 171 0) (a0 171 1) = 0) → 0 ≤ y6 → y6 < a 146 2 → (s0 = 0 → y2 = BSR a0 b0 x1 (y6.toNat + 1) ∧ (0 ≤ y2 → y3 = vOwR a0 y2 ∧ y4 = UNR a0 b0 x1 y2 ∧ y5 = lstR a0 y2)) → (s0 = 1 → y6 = BSR a0 b0 x1 (y6.toNat + 1) ∧ y7 = vOwR a0 y6 ∧ y8 = UNR a0 b0 x1 y6 ∧ y9 = lstR a0 y6) → (s0 = 0 ∨ s0 = 1) → (OC a) → 1 ≤ a0 146 2 → jt (jxX E d 251 139 [some (.inr (.inr (.inl 146))), some (.inl y1), some (.inl y2), some (.inl y3), some (.inl y4), some (.inl y5), some (.inl y6), some (.inl y7), some (.inl y8), some (.inl y9), none] [.inl s0] (jxSH, a, b0)) (jQ_X12_ask x1 a0 b0) := by
    intro y1 y2 y3 y4 y5 y6 y7 y8 y9 s0 a hm hv hf hi0 hi1 hi2 hi3 hi4 hi5 hi6 hi7 hi8 hi9 hi10 hi11 hi12 hi13 hy1 hi15 hi16 hsm hmy hi19 hi20 hn0 hn1 hi23 hi24 hi25
    refine jt_eq (bq_X12_ask_139 E d y1 y2 y3 y4 y5 y6 y7 y8 y9 s0 a b0) ?_
    have h114_ := iv_get hv (k := 146) (j := 2) (l := 0) (u := 40) rfl
    have h115_ : a 146 2 = a0 146 2 := hf 146 2 rfl
    have h116_ := iv_get hv0 (k := 146) (j := 2) (l := 0) (u := 40) rfl
    have h117_ := iv_get hv (k := 146) (j := 9) (l := 0) (u := 300) rfl
    have h118_ := iv_get hv0 (k := 146) (j := 9) (l := 0) (u := 300) rfl
    have hst : BSR a0 b0 x1 (y6.toNat + 1) = if MGR a0 b0 x1 ((y6.toNat : Nat) : Int) = 0 then BSR a0 b0 x1 y6.toNat else if BSR a0 b0 x1 y6.toNat < 0 ∨ (if ¬ vOwR a0 ((y6.toNat : Nat) : Int) = vOwR a0 (BSR a0 b0 x1 y6.toNat) then vOwR a0 (BSR a0 b0 x1 y6.toNat) < vOwR a0 ((y6.toNat : Nat) : Int) else if ¬ UNR a0 b0 x1 ((y6.toNat : Nat) : Int) = UNR a0 b0 x1 (BSR a0 b0 x1 y6.toNat) then UNR a0 b0 x1 ((y6.toNat : Nat) : Int) < UNR a0 b0 x1 (BSR a0 b0 x1 y6.toNat) else lstR a0 ((y6.toNat : Nat) : Int) < lstR a0 (BSR a0 b0 x1 y6.toNat)) then ((y6.toNat : Nat) : Int) else BSR a0 b0 x1 y6.toNat := rfl
    rw [show ((y6.toNat : Nat) : Int) = y6 from by omega] at hst
    refine jt_ite (fun c119_ => ?_) (fun c119_ => ?_)
    ·
      have h120_ : jxw (y6 + 1) = y6 + 1 := jxw_id (by omega) (by omega)
      exact ih44 y1 y2 y3 y4 y5 (jxw (y6 + 1)) a (show (((40 - (jxw (y6 + 1))) * 1) + 0).toNat < n from by omega) hv hf (show 0 ≤ y1 from by omega) (show y1 ≤ 39 from by omega) (show 0 - 1 ≤ y2 from by omega) (show y2 ≤ 39 from by omega) (show 0 ≤ y4 from by omega) (show y4 ≤ 2 from by omega) (show 0 ≤ jxw (y6 + 1) from by omega) (show jxw (y6 + 1) ≤ 40 from by omega) (show a 146 9 ≤ 299 from by omega) (by first | rfl | assumption) (show (0 ≤ x1 ∧ x1 < a 146 2) from by omega) (show a0 146 9 < 300 from by omega) hsm hmy (show 0 ≤ jxw (y6 + 1) from by omega) (show jxw (y6 + 1) ≤ a 146 2 from by omega) (by rw [show (jxw (y6 + 1)).toNat = y6.toNat + 1 from by omega]; exact (hn0 (by omega)).1) ((hn0 (by omega)).2) hi24 (show 1 ≤ a0 146 2 from by omega)
    ·
      have h121_ : jxw (y6 + 1) = y6 + 1 := jxw_id (by omega) (by omega)
      exact ih44 y1 y6 y7 y8 y9 (jxw (y6 + 1)) a (show (((40 - (jxw (y6 + 1))) * 1) + 0).toNat < n from by omega) hv hf (show 0 ≤ y1 from by omega) (show y1 ≤ 39 from by omega) (show 0 - 1 ≤ y6 from by omega) (show y6 ≤ 39 from by omega) (show 0 ≤ y8 from by omega) (show y8 ≤ 2 from by omega) (show 0 ≤ jxw (y6 + 1) from by omega) (show jxw (y6 + 1) ≤ 40 from by omega) (show a 146 9 ≤ 299 from by omega) (by first | rfl | assumption) (show (0 ≤ x1 ∧ x1 < a 146 2) from by omega) (show a0 146 9 < 300 from by omega) hsm hmy (show 0 ≤ jxw (y6 + 1) from by omega) (show jxw (y6 + 1) ≤ a 146 2 from by omega) (by rw [show (jxw (y6 + 1)).toNat = y6.toNat + 1 from by omega]; exact (hn1 (by omega)).1) (fun _ => (hn1 (by omega)).2) hi24 (show 1 ≤ a0 146 2 from by omega)
  have hc134 : ∀ (y1 y2 y3 y4 y5 y6 y7 y8 y9 : Int) (a : Nat → Nat → Int), (((40 - y6) * 1) + 0).toNat ≤ n → iv a → jfr jW_X12_ask a0 a → 0 ≤ y1 → y1 ≤ 39 → 0 - 1 ≤ y2 → y2 ≤ 39 → 0 ≤ y4 → y4 ≤ 2 → 0 ≤ y6 → y6 ≤ 39 → 0 ≤ y8 → y8 ≤ 2 → 1 ≤ a 146 2 → a 146 9 ≤ 299 → (y1 = x1) → (0 ≤ x1 ∧ x1 < a 146 2) → a0 146 9 < 300 → (SAM7 a0 a) → (¬ vMay (a0 152 x1.toNat) (SUMN (ohF (cvR a0) (a0 146 0) x1 0) (a0 146 9).toNat) (SUMN (gvF (cvR a0) (a0 146 0) x1) (a0 146 9).toNat) (a0 171 0) (a0 171 1) = 0) → 0 ≤ y6 → y6 < a 146 2 → (y2 = BSR a0 b0 x1 y6.toNat) → ((0 ≤ y2 → y3 = vOwR a0 y2 ∧ y4 = UNR a0 b0 x1 y2 ∧ y5 = lstR a0 y2)) → (¬ MGR a0 b0 x1 y6 = 0) → (y7 = vOwR a0 y6 ∧ y8 = UNR a0 b0 x1 y6) → (y9 = lstR a0 y6) → ((y2 < 0 ∨ (if ¬ vOwR a0 y6 = vOwR a0 y2 then vOwR a0 y2 < vOwR a0 y6 else if ¬ UNR a0 b0 x1 y6 = UNR a0 b0 x1 y2 then UNR a0 b0 x1 y6 < UNR a0 b0 x1 y2 else lstR a0 y6 < lstR a0 y2))) → (OC a) → 1 ≤ a0 146 2 → jt (jxX E d 251 134 [some (.inr (.inr (.inl 146))), some (.inl y1), some (.inl y2), some (.inl y3), some (.inl y4), some (.inl y5), some (.inl y6), some (.inl y7), some (.inl y8), some (.inl y9), none] [] (jxSH, a, b0)) (jQ_X12_ask x1 a0 b0) := by
    intro y1 y2 y3 y4 y5 y6 y7 y8 y9 a hm hv hf hi0 hi1 hi2 hi3 hi4 hi5 hi6 hi7 hi8 hi9 hi10 hi11 hy1 hi13 hi14 hsm hmy hi17 hi18 hb1 hb2 hmg hb3 hb4 hah hi25 hi26
    refine jt_eq (bq_X12_ask_134 E d y1 y2 y3 y4 y5 y6 y7 y8 y9 a b0) ?_
    have h122_ := iv_get hv (k := 146) (j := 2) (l := 0) (u := 40) rfl
    have h123_ : a 146 2 = a0 146 2 := hf 146 2 rfl
    have h124_ := iv_get hv0 (k := 146) (j := 2) (l := 0) (u := 40) rfl
    have h125_ := iv_get hv (k := 146) (j := 9) (l := 0) (u := 300) rfl
    have h126_ := iv_get hv0 (k := 146) (j := 9) (l := 0) (u := 300) rfl
    have hst : BSR a0 b0 x1 (y6.toNat + 1) = if MGR a0 b0 x1 ((y6.toNat : Nat) : Int) = 0 then BSR a0 b0 x1 y6.toNat else if BSR a0 b0 x1 y6.toNat < 0 ∨ (if ¬ vOwR a0 ((y6.toNat : Nat) : Int) = vOwR a0 (BSR a0 b0 x1 y6.toNat) then vOwR a0 (BSR a0 b0 x1 y6.toNat) < vOwR a0 ((y6.toNat : Nat) : Int) else if ¬ UNR a0 b0 x1 ((y6.toNat : Nat) : Int) = UNR a0 b0 x1 (BSR a0 b0 x1 y6.toNat) then UNR a0 b0 x1 ((y6.toNat : Nat) : Int) < UNR a0 b0 x1 (BSR a0 b0 x1 y6.toNat) else lstR a0 ((y6.toNat : Nat) : Int) < lstR a0 (BSR a0 b0 x1 y6.toNat)) then ((y6.toNat : Nat) : Int) else BSR a0 b0 x1 y6.toNat := rfl
    rw [show ((y6.toNat : Nat) : Int) = y6 from by omega] at hst
    exact hc139 y1 y2 y3 y4 y5 y6 y7 y8 y9 1 a (show (((40 - y6) * 1) + 0).toNat ≤ n from by omega) hv hf (show 0 ≤ y1 from by omega) (show y1 ≤ 39 from by omega) (show 0 - 1 ≤ y2 from by omega) (show y2 ≤ 39 from by omega) (show 0 ≤ y4 from by omega) (show y4 ≤ 2 from by omega) (show 0 ≤ y6 from by omega) (show y6 ≤ 39 from by omega) (show 0 ≤ y8 from by omega) (show y8 ≤ 2 from by omega) (show 0 ≤ 1 from by omega) (show 1 ≤ 1 from by omega) (show 1 ≤ a 146 2 from by omega) (show a 146 9 ≤ 299 from by omega) (by first | rfl | assumption) (show (0 ≤ x1 ∧ x1 < a 146 2) from by omega) (show a0 146 9 < 300 from by omega) hsm hmy (show 0 ≤ y6 from by omega) (show y6 < a 146 2 from by omega) (fun h => absurd h (by decide)) (fun _ => ⟨by rw [hst, if_neg hmg, if_pos (by rw [← hb1]; exact hah)], hb3.1, hb3.2, hb4⟩) (show (1 = 0 ∨ 1 = 1) from by omega) hi25 (show 1 ≤ a0 146 2 from by omega)
  have hc124 : ∀ (y1 y2 y3 y4 y5 y6 y7 y8 y9 : Int) (a : Nat → Nat → Int), (((40 - y6) * 1) + 0).toNat ≤ n → iv a → jfr jW_X12_ask a0 a → 0 ≤ y1 → y1 ≤ 39 → 0 ≤ y2 → y2 ≤ 39 → 1 ≤ y4 → y4 ≤ 2 → 0 ≤ y6 → y6 ≤ 39 → 0 ≤ y8 → y8 ≤ 1 → 1 ≤ a 146 2 → a 146 9 ≤ 299 → (y1 = x1) → (0 ≤ x1 ∧ x1 < a 146 2) → a0 146 9 < 300 → (SAM7 a0 a) → (¬ vMay (a0 152 x1.toNat) (SUMN (ohF (cvR a0) (a0 146 0) x1 0) (a0 146 9).toNat) (SUMN (gvF (cvR a0) (a0 146 0) x1) (a0 146 9).toNat) (a0 171 0) (a0 171 1) = 0) → 0 ≤ y6 → y6 < a 146 2 → (y2 = BSR a0 b0 x1 y6.toNat) → ((0 ≤ y2 → y3 = vOwR a0 y2 ∧ y4 = UNR a0 b0 x1 y2 ∧ y5 = lstR a0 y2)) → (¬ MGR a0 b0 x1 y6 = 0) → (y7 = vOwR a0 y6 ∧ y8 = UNR a0 b0 x1 y6) → (y9 = lstR a0 y6) → ((y2 < 0 ∨ (if ¬ vOwR a0 y6 = vOwR a0 y2 then vOwR a0 y2 < vOwR a0 y6 else if ¬ UNR a0 b0 x1 y6 = UNR a0 b0 x1 y2 then UNR a0 b0 x1 y6 < UNR a0 b0 x1 y2 else lstR a0 y6 < lstR a0 y2))) → (OC a) → 1 ≤ a0 146 2 → jt (jxX E d 251 124 [some (.inr (.inr (.inl 146))), some (.inl y1), some (.inl y2), some (.inl y3), some (.inl y4), some (.inl y5), some (.inl y6), some (.inl y7), some (.inl y8), some (.inl y9), none] [] (jxSH, a, b0)) (jQ_X12_ask x1 a0 b0) := by
    intro y1 y2 y3 y4 y5 y6 y7 y8 y9 a hm hv hf hi0 hi1 hi2 hi3 hi4 hi5 hi6 hi7 hi8 hi9 hi10 hi11 hy1 hi13 hi14 hsm hmy hi17 hi18 hb1 hb2 hmg hb3 hb4 hah hi25 hi26
    refine jt_eq (bq_X12_ask_124 E d y1 y2 y3 y4 y5 y6 y7 y8 y9 a b0) ?_
    have h127_ := iv_get hv (k := 146) (j := 2) (l := 0) (u := 40) rfl
    have h128_ : a 146 2 = a0 146 2 := hf 146 2 rfl
    have h129_ := iv_get hv0 (k := 146) (j := 2) (l := 0) (u := 40) rfl
    have h130_ := iv_get hv (k := 146) (j := 9) (l := 0) (u := 300) rfl
    have h131_ := iv_get hv0 (k := 146) (j := 9) (l := 0) (u := 300) rfl
    exact hc134 y1 y2 y3 y4 y5 y6 y7 y8 y9 a (show (((40 - y6) * 1) + 0).toNat ≤ n from by omega) hv hf (show 0 ≤ y1 from by omega) (show y1 ≤ 39 from by omega) (show 0 - 1 ≤ y2 from by omega) (show y2 ≤ 39 from by omega) (show 0 ≤ y4 from by omega) (show y4 ≤ 2 from by omega) (show 0 ≤ y6 from by omega) (show y6 ≤ 39 from by omega) (show 0 ≤ y8 from by omega) (show y8 ≤ 2 from by omega) (show 1 ≤ a 146 2 from by omega) (show a 146 9 ≤ 299 from by omega) (by first | rfl | assumption) (show (0 ≤ x1 ∧ x1 < a 146 2) from by omega) (show a0 146 9 < 300 from by omega) hsm hmy (show 0 ≤ y6 from by omega) (show y6 < a 146 2 from by omega) hb1 hb2 hmg hb3 hb4 hah hi25 (show 1 ≤ a0 146 2 from by omega)
  have hc138 : ∀ (y1 y2 y3 y4 y5 y6 y7 y8 y9 : Int) (a : Nat → Nat → Int), (((40 - y6) * 1) + 0).toNat ≤ n → iv a → jfr jW_X12_ask a0 a → 0 ≤ y1 → y1 ≤ 39 → 0 ≤ y2 → y2 ≤ 39 → 0 ≤ y4 → y4 ≤ 2 → 0 ≤ y6 → y6 ≤ 39 → 0 ≤ y8 → y8 ≤ 2 → 1 ≤ a 146 2 → a 146 9 ≤ 299 → (y1 = x1) → (0 ≤ x1 ∧ x1 < a 146 2) → a0 146 9 < 300 → (SAM7 a0 a) → (¬ vMay (a0 152 x1.toNat) (SUMN (ohF (cvR a0) (a0 146 0) x1 0) (a0 146 9).toNat) (SUMN (gvF (cvR a0) (a0 146 0) x1) (a0 146 9).toNat) (a0 171 0) (a0 171 1) = 0) → 0 ≤ y6 → y6 < a 146 2 → (y2 = BSR a0 b0 x1 y6.toNat) → ((0 ≤ y2 → y3 = vOwR a0 y2 ∧ y4 = UNR a0 b0 x1 y2 ∧ y5 = lstR a0 y2)) → (¬ MGR a0 b0 x1 y6 = 0) → (y7 = vOwR a0 y6 ∧ y8 = UNR a0 b0 x1 y6) → (y9 = lstR a0 y6) → (¬ (y2 < 0 ∨ (if ¬ vOwR a0 y6 = vOwR a0 y2 then vOwR a0 y2 < vOwR a0 y6 else if ¬ UNR a0 b0 x1 y6 = UNR a0 b0 x1 y2 then UNR a0 b0 x1 y6 < UNR a0 b0 x1 y2 else lstR a0 y6 < lstR a0 y2))) → (OC a) → 1 ≤ a0 146 2 → jt (jxX E d 251 138 [some (.inr (.inr (.inl 146))), some (.inl y1), some (.inl y2), some (.inl y3), some (.inl y4), some (.inl y5), some (.inl y6), some (.inl y7), some (.inl y8), some (.inl y9), none] [] (jxSH, a, b0)) (jQ_X12_ask x1 a0 b0) := by
    intro y1 y2 y3 y4 y5 y6 y7 y8 y9 a hm hv hf hi0 hi1 hi2 hi3 hi4 hi5 hi6 hi7 hi8 hi9 hi10 hi11 hy1 hi13 hi14 hsm hmy hi17 hi18 hb1 hb2 hmg hb3 hb4 hah hi25 hi26
    refine jt_eq (bq_X12_ask_138 E d y1 y2 y3 y4 y5 y6 y7 y8 y9 a b0) ?_
    have h132_ := iv_get hv (k := 146) (j := 2) (l := 0) (u := 40) rfl
    have h133_ : a 146 2 = a0 146 2 := hf 146 2 rfl
    have h134_ := iv_get hv0 (k := 146) (j := 2) (l := 0) (u := 40) rfl
    have h135_ := iv_get hv (k := 146) (j := 9) (l := 0) (u := 300) rfl
    have h136_ := iv_get hv0 (k := 146) (j := 9) (l := 0) (u := 300) rfl
    have hst : BSR a0 b0 x1 (y6.toNat + 1) = if MGR a0 b0 x1 ((y6.toNat : Nat) : Int) = 0 then BSR a0 b0 x1 y6.toNat else if BSR a0 b0 x1 y6.toNat < 0 ∨ (if ¬ vOwR a0 ((y6.toNat : Nat) : Int) = vOwR a0 (BSR a0 b0 x1 y6.toNat) then vOwR a0 (BSR a0 b0 x1 y6.toNat) < vOwR a0 ((y6.toNat : Nat) : Int) else if ¬ UNR a0 b0 x1 ((y6.toNat : Nat) : Int) = UNR a0 b0 x1 (BSR a0 b0 x1 y6.toNat) then UNR a0 b0 x1 ((y6.toNat : Nat) : Int) < UNR a0 b0 x1 (BSR a0 b0 x1 y6.toNat) else lstR a0 ((y6.toNat : Nat) : Int) < lstR a0 (BSR a0 b0 x1 y6.toNat)) then ((y6.toNat : Nat) : Int) else BSR a0 b0 x1 y6.toNat := rfl
    rw [show ((y6.toNat : Nat) : Int) = y6 from by omega] at hst
    exact hc139 y1 y2 y3 y4 y5 y6 y7 y8 y9 0 a (show (((40 - y6) * 1) + 0).toNat ≤ n from by omega) hv hf (show 0 ≤ y1 from by omega) (show y1 ≤ 39 from by omega) (show 0 - 1 ≤ y2 from by omega) (show y2 ≤ 39 from by omega) (show 0 ≤ y4 from by omega) (show y4 ≤ 2 from by omega) (show 0 ≤ y6 from by omega) (show y6 ≤ 39 from by omega) (show 0 ≤ y8 from by omega) (show y8 ≤ 2 from by omega) (show 0 ≤ 0 from by omega) (show 0 ≤ 1 from by omega) (show 1 ≤ a 146 2 from by omega) (show a 146 9 ≤ 299 from by omega) (by first | rfl | assumption) (show (0 ≤ x1 ∧ x1 < a 146 2) from by omega) (show a0 146 9 < 300 from by omega) hsm hmy (show 0 ≤ y6 from by omega) (show y6 < a 146 2 from by omega) (fun _ => ⟨by rw [hst, if_neg hmg, if_neg (by rw [← hb1]; exact hah)]; exact hb1, hb2⟩) (fun h => absurd h (by decide)) (show (0 = 0 ∨ 0 = 1) from by omega) hi25 (show 1 ≤ a0 146 2 from by omega)
  have hc83 : ∀ (y1 y2 y3 y4 y5 y6 y7 y8 : Int) (a : Nat → Nat → Int), (((40 - y6) * 1) + 0).toNat ≤ n → iv a → jfr jW_X12_ask a0 a → 0 ≤ y1 → y1 ≤ 39 → 0 - 1 ≤ y2 → y2 ≤ 39 → 0 ≤ y4 → y4 ≤ 2 → 0 ≤ y6 → y6 ≤ 39 → 0 ≤ y8 → y8 ≤ 2 → 1 ≤ a 146 2 → a 146 9 ≤ 299 → (y1 = x1) → (0 ≤ x1 ∧ x1 < a 146 2) → a0 146 9 < 300 → (SAM7 a0 a) → (¬ vMay (a0 152 x1.toNat) (SUMN (ohF (cvR a0) (a0 146 0) x1 0) (a0 146 9).toNat) (SUMN (gvF (cvR a0) (a0 146 0) x1) (a0 146 9).toNat) (a0 171 0) (a0 171 1) = 0) → 0 ≤ y6 → y6 < a 146 2 → (y2 = BSR a0 b0 x1 y6.toNat) → ((0 ≤ y2 → y3 = vOwR a0 y2 ∧ y4 = UNR a0 b0 x1 y2 ∧ y5 = lstR a0 y2)) → (¬ MGR a0 b0 x1 y6 = 0) → (y7 = vOwR a0 y6 ∧ y8 = UNR a0 b0 x1 y6) → (OC a) → 1 ≤ a0 146 2 → jt (jxX E d 251 83 [some (.inr (.inr (.inl 146))), some (.inl y1), some (.inl y2), some (.inl y3), some (.inl y4), some (.inl y5), some (.inl y6), some (.inl y7), some (.inl y8), none, none] [] (jxSH, a, b0)) (jQ_X12_ask x1 a0 b0) := by
    intro y1 y2 y3 y4 y5 y6 y7 y8 a hm hv hf hi0 hi1 hi2 hi3 hi4 hi5 hi6 hi7 hi8 hi9 hi10 hi11 hy1 hi13 hi14 hsm hmy hi17 hi18 hb1 hb2 hmg hb3 hi23 hi24
    refine jt_eq (bq_X12_ask_83 E d y1 y2 y3 y4 y5 y6 y7 y8 a b0) ?_
    have h137_ := iv_get hv (k := 146) (j := 2) (l := 0) (u := 40) rfl
    have h138_ : a 146 2 = a0 146 2 := hf 146 2 rfl
    have h139_ := iv_get hv0 (k := 146) (j := 2) (l := 0) (u := 40) rfl
    have h140_ := iv_get hv (k := 146) (j := 9) (l := 0) (u := 300) rfl
    have h141_ := iv_get hv0 (k := 146) (j := 9) (l := 0) (u := 300) rfl
    have hst : BSR a0 b0 x1 (y6.toNat + 1) = if MGR a0 b0 x1 ((y6.toNat : Nat) : Int) = 0 then BSR a0 b0 x1 y6.toNat else if BSR a0 b0 x1 y6.toNat < 0 ∨ (if ¬ vOwR a0 ((y6.toNat : Nat) : Int) = vOwR a0 (BSR a0 b0 x1 y6.toNat) then vOwR a0 (BSR a0 b0 x1 y6.toNat) < vOwR a0 ((y6.toNat : Nat) : Int) else if ¬ UNR a0 b0 x1 ((y6.toNat : Nat) : Int) = UNR a0 b0 x1 (BSR a0 b0 x1 y6.toNat) then UNR a0 b0 x1 ((y6.toNat : Nat) : Int) < UNR a0 b0 x1 (BSR a0 b0 x1 y6.toNat) else lstR a0 ((y6.toNat : Nat) : Int) < lstR a0 (BSR a0 b0 x1 y6.toNat)) then ((y6.toNat : Nat) : Int) else BSR a0 b0 x1 y6.toNat := rfl
    rw [show ((y6.toNat : Nat) : Int) = y6 from by omega] at hst
    refine jt_bI (sp_X12_lastSentTo E d (jd_le hd rfl) y6 a b0 hv) (fun r142_ a142_ b142_ h142_ => ?_)
    obtain ⟨rfl, rfl, hq142_0⟩ := h142_
    refine jt_ite (fun c143_ => ?_) (fun c143_ => ?_)
    ·
      exact hc134 y1 y2 y3 y4 y5 y6 y7 y8 r142_ a (show (((40 - y6) * 1) + 0).toNat ≤ n from by omega) hv hf (show 0 ≤ y1 from by omega) (show y1 ≤ 39 from by omega) (show 0 - 1 ≤ y2 from by omega) (show y2 ≤ 39 from by omega) (show 0 ≤ y4 from by omega) (show y4 ≤ 2 from by omega) (show 0 ≤ y6 from by omega) (show y6 ≤ 39 from by omega) (show 0 ≤ y8 from by omega) (show y8 ≤ 2 from by omega) (show 1 ≤ a 146 2 from by omega) (show a 146 9 ≤ 299 from by omega) (by first | rfl | assumption) (show (0 ≤ x1 ∧ x1 < a 146 2) from by omega) (show a0 146 9 < 300 from by omega) hsm hmy (show 0 ≤ y6 from by omega) (show y6 < a 146 2 from by omega) hb1 hb2 hmg hb3 (by rw [← SAM7_ls hsm]; exact hq142_0) (by have q4 : r142_ = lstR a0 y6 := (by rw [← SAM7_ls hsm]; exact hq142_0); by_cases c : y2 < 0 <;> first | exact Or.inl c | (obtain ⟨k1, k2, k3⟩ := hb2 (by omega); right; rw [← hb3.1, ← hb3.2, ← k1, ← k2, ← k3, ← q4]; first | (rw [if_pos (by omega)]; omega) | (rw [if_neg (by omega), if_pos (by omega)]; omega) | (rw [if_neg (by omega), if_neg (by omega)]; omega))) hi23 (show 1 ≤ a0 146 2 from by omega)
    ·
      refine jt_ite (fun c144_ => ?_) (fun c144_ => ?_)
      ·
        refine jt_ite (fun c145_ => ?_) (fun c145_ => ?_)
        ·
          refine jt_ite (fun c146_ => ?_) (fun c146_ => ?_)
          ·
            exact hc134 y1 y2 y3 y4 y5 y6 y7 y8 r142_ a (show (((40 - y6) * 1) + 0).toNat ≤ n from by omega) hv hf (show 0 ≤ y1 from by omega) (show y1 ≤ 39 from by omega) (show 0 - 1 ≤ y2 from by omega) (show y2 ≤ 39 from by omega) (show 0 ≤ y4 from by omega) (show y4 ≤ 2 from by omega) (show 0 ≤ y6 from by omega) (show y6 ≤ 39 from by omega) (show 0 ≤ y8 from by omega) (show y8 ≤ 2 from by omega) (show 1 ≤ a 146 2 from by omega) (show a 146 9 ≤ 299 from by omega) (by first | rfl | assumption) (show (0 ≤ x1 ∧ x1 < a 146 2) from by omega) (show a0 146 9 < 300 from by omega) hsm hmy (show 0 ≤ y6 from by omega) (show y6 < a 146 2 from by omega) hb1 hb2 hmg hb3 (by rw [← SAM7_ls hsm]; exact hq142_0) (by have q4 : r142_ = lstR a0 y6 := (by rw [← SAM7_ls hsm]; exact hq142_0); by_cases c : y2 < 0 <;> first | exact Or.inl c | (obtain ⟨k1, k2, k3⟩ := hb2 (by omega); right; rw [← hb3.1, ← hb3.2, ← k1, ← k2, ← k3, ← q4]; first | (rw [if_pos (by omega)]; omega) | (rw [if_neg (by omega), if_pos (by omega)]; omega) | (rw [if_neg (by omega), if_neg (by omega)]; omega))) hi23 (show 1 ≤ a0 146 2 from by omega)
          ·
            exact hc138 y1 y2 y3 y4 y5 y6 y7 y8 r142_ a (show (((40 - y6) * 1) + 0).toNat ≤ n from by omega) hv hf (show 0 ≤ y1 from by omega) (show y1 ≤ 39 from by omega) (show 0 ≤ y2 from by omega) (show y2 ≤ 39 from by omega) (show 0 ≤ y4 from by omega) (show y4 ≤ 2 from by omega) (show 0 ≤ y6 from by omega) (show y6 ≤ 39 from by omega) (show 0 ≤ y8 from by omega) (show y8 ≤ 2 from by omega) (show 1 ≤ a 146 2 from by omega) (show a 146 9 ≤ 299 from by omega) (by first | rfl | assumption) (show (0 ≤ x1 ∧ x1 < a 146 2) from by omega) (show a0 146 9 < 300 from by omega) hsm hmy (show 0 ≤ y6 from by omega) (show y6 < a 146 2 from by omega) hb1 hb2 hmg hb3 (by rw [← SAM7_ls hsm]; exact hq142_0) (by have q4 : r142_ = lstR a0 y6 := (by rw [← SAM7_ls hsm]; exact hq142_0); obtain ⟨k1, k2, k3⟩ := hb2 (by omega); rintro (c | c) <;> first | omega | (rw [← hb3.1, ← hb3.2, ← k1, ← k2, ← k3, ← q4] at c; first | (rw [if_pos (by omega)] at c; omega) | (rw [if_neg (by omega), if_pos (by omega)] at c; omega) | (rw [if_neg (by omega), if_neg (by omega)] at c; omega))) hi23 (show 1 ≤ a0 146 2 from by omega)
        ·
          refine jt_ite (fun c147_ => ?_) (fun c147_ => ?_)
          ·
            exact hc124 y1 y2 y3 y4 y5 y6 y7 y8 r142_ a (show (((40 - y6) * 1) + 0).toNat ≤ n from by omega) hv hf (show 0 ≤ y1 from by omega) (show y1 ≤ 39 from by omega) (show 0 ≤ y2 from by omega) (show y2 ≤ 39 from by omega) (show 1 ≤ y4 from by omega) (show y4 ≤ 2 from by omega) (show 0 ≤ y6 from by omega) (show y6 ≤ 39 from by omega) (show 0 ≤ y8 from by omega) (show y8 ≤ 1 from by omega) (show 1 ≤ a 146 2 from by omega) (show a 146 9 ≤ 299 from by omega) (by first | rfl | assumption) (show (0 ≤ x1 ∧ x1 < a 146 2) from by omega) (show a0 146 9 < 300 from by omega) hsm hmy (show 0 ≤ y6 from by omega) (show y6 < a 146 2 from by omega) hb1 hb2 hmg hb3 (by rw [← SAM7_ls hsm]; exact hq142_0) (by have q4 : r142_ = lstR a0 y6 := (by rw [← SAM7_ls hsm]; exact hq142_0); by_cases c : y2 < 0 <;> first | exact Or.inl c | (obtain ⟨k1, k2, k3⟩ := hb2 (by omega); right; rw [← hb3.1, ← hb3.2, ← k1, ← k2, ← k3, ← q4]; first | (rw [if_pos (by omega)]; omega) | (rw [if_neg (by omega), if_pos (by omega)]; omega) | (rw [if_neg (by omega), if_neg (by omega)]; omega))) hi23 (show 1 ≤ a0 146 2 from by omega)
          ·
            exact hc138 y1 y2 y3 y4 y5 y6 y7 y8 r142_ a (show (((40 - y6) * 1) + 0).toNat ≤ n from by omega) hv hf (show 0 ≤ y1 from by omega) (show y1 ≤ 39 from by omega) (show 0 ≤ y2 from by omega) (show y2 ≤ 39 from by omega) (show 0 ≤ y4 from by omega) (show y4 ≤ 2 from by omega) (show 0 ≤ y6 from by omega) (show y6 ≤ 39 from by omega) (show 0 ≤ y8 from by omega) (show y8 ≤ 2 from by omega) (show 1 ≤ a 146 2 from by omega) (show a 146 9 ≤ 299 from by omega) (by first | rfl | assumption) (show (0 ≤ x1 ∧ x1 < a 146 2) from by omega) (show a0 146 9 < 300 from by omega) hsm hmy (show 0 ≤ y6 from by omega) (show y6 < a 146 2 from by omega) hb1 hb2 hmg hb3 (by rw [← SAM7_ls hsm]; exact hq142_0) (by have q4 : r142_ = lstR a0 y6 := (by rw [← SAM7_ls hsm]; exact hq142_0); obtain ⟨k1, k2, k3⟩ := hb2 (by omega); rintro (c | c) <;> first | omega | (rw [← hb3.1, ← hb3.2, ← k1, ← k2, ← k3, ← q4] at c; first | (rw [if_pos (by omega)] at c; omega) | (rw [if_neg (by omega), if_pos (by omega)] at c; omega) | (rw [if_neg (by omega), if_neg (by omega)] at c; omega))) hi23 (show 1 ≤ a0 146 2 from by omega)
      ·
        refine jt_ite (fun c148_ => ?_) (fun c148_ => ?_)
        ·
          exact hc134 y1 y2 y3 y4 y5 y6 y7 y8 r142_ a (show (((40 - y6) * 1) + 0).toNat ≤ n from by omega) hv hf (show 0 ≤ y1 from by omega) (show y1 ≤ 39 from by omega) (show 0 - 1 ≤ y2 from by omega) (show y2 ≤ 39 from by omega) (show 0 ≤ y4 from by omega) (show y4 ≤ 2 from by omega) (show 0 ≤ y6 from by omega) (show y6 ≤ 39 from by omega) (show 0 ≤ y8 from by omega) (show y8 ≤ 2 from by omega) (show 1 ≤ a 146 2 from by omega) (show a 146 9 ≤ 299 from by omega) (by first | rfl | assumption) (show (0 ≤ x1 ∧ x1 < a 146 2) from by omega) (show a0 146 9 < 300 from by omega) hsm hmy (show 0 ≤ y6 from by omega) (show y6 < a 146 2 from by omega) hb1 hb2 hmg hb3 (by rw [← SAM7_ls hsm]; exact hq142_0) (by have q4 : r142_ = lstR a0 y6 := (by rw [← SAM7_ls hsm]; exact hq142_0); by_cases c : y2 < 0 <;> first | exact Or.inl c | (obtain ⟨k1, k2, k3⟩ := hb2 (by omega); right; rw [← hb3.1, ← hb3.2, ← k1, ← k2, ← k3, ← q4]; first | (rw [if_pos (by omega)]; omega) | (rw [if_neg (by omega), if_pos (by omega)]; omega) | (rw [if_neg (by omega), if_neg (by omega)]; omega))) hi23 (show 1 ≤ a0 146 2 from by omega)
        ·
          exact hc138 y1 y2 y3 y4 y5 y6 y7 y8 r142_ a (show (((40 - y6) * 1) + 0).toNat ≤ n from by omega) hv hf (show 0 ≤ y1 from by omega) (show y1 ≤ 39 from by omega) (show 0 ≤ y2 from by omega) (show y2 ≤ 39 from by omega) (show 0 ≤ y4 from by omega) (show y4 ≤ 2 from by omega) (show 0 ≤ y6 from by omega) (show y6 ≤ 39 from by omega) (show 0 ≤ y8 from by omega) (show y8 ≤ 2 from by omega) (show 1 ≤ a 146 2 from by omega) (show a 146 9 ≤ 299 from by omega) (by first | rfl | assumption) (show (0 ≤ x1 ∧ x1 < a 146 2) from by omega) (show a0 146 9 < 300 from by omega) hsm hmy (show 0 ≤ y6 from by omega) (show y6 < a 146 2 from by omega) hb1 hb2 hmg hb3 (by rw [← SAM7_ls hsm]; exact hq142_0) (by have q4 : r142_ = lstR a0 y6 := (by rw [← SAM7_ls hsm]; exact hq142_0); obtain ⟨k1, k2, k3⟩ := hb2 (by omega); rintro (c | c) <;> first | omega | (rw [← hb3.1, ← hb3.2, ← k1, ← k2, ← k3, ← q4] at c; first | (rw [if_pos (by omega)] at c; omega) | (rw [if_neg (by omega), if_pos (by omega)] at c; omega) | (rw [if_neg (by omega), if_neg (by omega)] at c; omega))) hi23 (show 1 ≤ a0 146 2 from by omega)
  have hc44 : ∀ (y1 y2 y3 y4 y5 y6 : Int) (a : Nat → Nat → Int), (((40 - y6) * 1) + 0).toNat ≤ n → iv a → jfr jW_X12_ask a0 a → 0 ≤ y1 → y1 ≤ 39 → 0 - 1 ≤ y2 → y2 ≤ 39 → 0 ≤ y4 → y4 ≤ 2 → 0 ≤ y6 → y6 ≤ 40 → a 146 9 ≤ 299 → (y1 = x1) → (0 ≤ x1 ∧ x1 < a 146 2) → a0 146 9 < 300 → (SAM7 a0 a) → (¬ vMay (a0 152 x1.toNat) (SUMN (ohF (cvR a0) (a0 146 0) x1 0) (a0 146 9).toNat) (SUMN (gvF (cvR a0) (a0 146 0) x1) (a0 146 9).toNat) (a0 171 0) (a0 171 1) = 0) → 0 ≤ y6 → y6 ≤ a 146 2 → (y2 = BSR a0 b0 x1 y6.toNat) → ((0 ≤ y2 → y3 = vOwR a0 y2 ∧ y4 = UNR a0 b0 x1 y2 ∧ y5 = lstR a0 y2)) → (OC a) → 1 ≤ a0 146 2 → jt (jxX E d 251 44 [some (.inr (.inr (.inl 146))), some (.inl y1), some (.inl y2), some (.inl y3), some (.inl y4), some (.inl y5), some (.inl y6), none, none, none, none] [] (jxSH, a, b0)) (jQ_X12_ask x1 a0 b0) := by
    intro y1 y2 y3 y4 y5 y6 a hm hv hf hi0 hi1 hi2 hi3 hi4 hi5 hi6 hi7 hi8 hy1 hi10 hi11 hsm hmy hi14 hi15 hb1 hb2 hi18 hi19
    refine jt_eq (bq_X12_ask_44 E d y1 y2 y3 y4 y5 y6 a b0) ?_
    have h149_ := iv_get hv (k := 146) (j := 9) (l := 0) (u := 300) rfl
    have h150_ := iv_get hv (k := 146) (j := 2) (l := 0) (u := 40) rfl
    have h151_ : a 146 2 = a0 146 2 := hf 146 2 rfl
    have h152_ := iv_get hv0 (k := 146) (j := 2) (l := 0) (u := 40) rfl
    have h153_ := iv_get hv0 (k := 146) (j := 9) (l := 0) (u := 300) rfl
    have hst : BSR a0 b0 x1 (y6.toNat + 1) = if MGR a0 b0 x1 ((y6.toNat : Nat) : Int) = 0 then BSR a0 b0 x1 y6.toNat else if BSR a0 b0 x1 y6.toNat < 0 ∨ (if ¬ vOwR a0 ((y6.toNat : Nat) : Int) = vOwR a0 (BSR a0 b0 x1 y6.toNat) then vOwR a0 (BSR a0 b0 x1 y6.toNat) < vOwR a0 ((y6.toNat : Nat) : Int) else if ¬ UNR a0 b0 x1 ((y6.toNat : Nat) : Int) = UNR a0 b0 x1 (BSR a0 b0 x1 y6.toNat) then UNR a0 b0 x1 ((y6.toNat : Nat) : Int) < UNR a0 b0 x1 (BSR a0 b0 x1 y6.toNat) else lstR a0 ((y6.toNat : Nat) : Int) < lstR a0 (BSR a0 b0 x1 y6.toNat)) then ((y6.toNat : Nat) : Int) else BSR a0 b0 x1 y6.toNat := rfl
    rw [show ((y6.toNat : Nat) : Int) = y6 from by omega] at hst
    refine jt_ite (fun c154_ => ?_) (fun c154_ => ?_)
    ·
      refine jt_bI (sp_X12_mayGet E d (jd_le hd rfl) y1 y6 a b0 hv (show (0 ≤ y1 ∧ y1 ≤ 39) from by omega) (show (0 ≤ y6 ∧ y6 ≤ 39) from by omega) (WFW_fr hp0 hf (fun _ => rfl) (fun _ => rfl)) (WISHR_fr hp2 hf (fun _ => rfl) (fun _ => rfl) (fun _ => rfl) (fun _ => rfl))) (fun r155_ a155_ b155_ h155_ => ?_)
      obtain ⟨hv155_, hf155_, rfl, hq155_0, hq155_1⟩ := h155_
      have hqmg_ := hq155_1
      have hsm155 := SAM7_tr hsm (SAM7_fr hf155_ rfl)
      refine jt_ite (fun c156_ => ?_) (fun c156_ => ?_)
      ·
        have hf157_ : jfr jW_X12_ask a0 a155_ := jfr_tr hf hf155_ rfl
        have h158_ : jxw (y6 + 1) = y6 + 1 := jxw_id (by omega) (by omega)
        have h159_ := iv_get hv155_ (k := 146) (j := 9) (l := 0) (u := 300) rfl
        have h160_ : a155_ 146 9 = a 146 9 := hf155_ 146 9 rfl
        have h161_ := iv_get hv155_ (k := 146) (j := 2) (l := 0) (u := 40) rfl
        have h162_ : a155_ 146 2 = a 146 2 := hf155_ 146 2 rfl
        exact ih44 y1 y2 y3 y4 y5 (jxw (y6 + 1)) a155_ (show (((40 - (jxw (y6 + 1))) * 1) + 0).toNat < n from by omega) hv155_ hf157_ (show 0 ≤ y1 from by omega) (show y1 ≤ 39 from by omega) (show 0 - 1 ≤ y2 from by omega) (show y2 ≤ 39 from by omega) (show 0 ≤ y4 from by omega) (show y4 ≤ 2 from by omega) (show 0 ≤ jxw (y6 + 1) from by omega) (show jxw (y6 + 1) ≤ 40 from by omega) (show a155_ 146 9 ≤ 299 from by omega) (by first | rfl | assumption) (show (0 ≤ x1 ∧ x1 < a155_ 146 2) from by omega) (show a0 146 9 < 300 from by omega) (SAM7_tr hsm (SAM7_fr hf155_ rfl)) hmy (show 0 ≤ jxw (y6 + 1) from by omega) (show jxw (y6 + 1) ≤ a155_ 146 2 from by omega) (by rw [show (jxw (y6 + 1)).toNat = y6.toNat + 1 from by omega]; have qm := hq155_1; rw [hy1, SAM7_mg hsm] at qm; rw [hst, if_pos (by omega)]; exact hb1) hb2 (OC_fr hi18 hf155_ rfl rfl (fun _ => rfl) (fun _ => rfl) (fun _ => rfl) (fun _ => rfl) (fun _ => rfl)) (show 1 ≤ a0 146 2 from by omega)
      ·
        refine jt_bI (sp_X12_owed E d (jd_le hd rfl) y6 a155_ b0 hv155_ (show (0 ≤ y6 ∧ y6 ≤ 39) from by omega)) (fun r163_ a163_ b163_ h163_ => ?_)
        obtain ⟨rfl, rfl, hq163_0⟩ := h163_
        have hqow_ := hq163_0
        have hsmo_ := hsm155
        refine jt_bI (sp_X12_unhappy E d (jd_le hd rfl) y1 y6 a155_ b0 hv155_ (show (0 ≤ y1 ∧ y1 ≤ 39) from by omega) (show (0 ≤ y6 ∧ y6 ≤ 39) from by omega) (WFW_fr (WFW_fr hp0 hf (fun _ => rfl) (fun _ => rfl)) hf155_ (fun _ => rfl) (fun _ => rfl)) (WISHR_fr (WISHR_fr hp2 hf (fun _ => rfl) (fun _ => rfl) (fun _ => rfl) (fun _ => rfl)) hf155_ (fun _ => rfl) (fun _ => rfl) (fun _ => rfl) (fun _ => rfl))) (fun r164_ a164_ b164_ h164_ => ?_)
        obtain ⟨hv164_, hf164_, rfl, hq164_0, hq164_1, hq164_2⟩ := h164_
        have hqun_ := hq164_2
        have hf165_ : jfr jW_X12_ask a0 a155_ := jfr_tr hf hf155_ rfl
        have hf166_ : jfr jW_X12_ask a0 a164_ := jfr_tr hf165_ hf164_ rfl
        have h167_ := iv_get hv164_ (k := 146) (j := 2) (l := 0) (u := 40) rfl
        have h168_ : a164_ 146 2 = a155_ 146 2 := hf164_ 146 2 rfl
        have h169_ := iv_get hv155_ (k := 146) (j := 2) (l := 0) (u := 40) rfl
        have h170_ : a155_ 146 2 = a 146 2 := hf155_ 146 2 rfl
        have h171_ := iv_get hv164_ (k := 146) (j := 9) (l := 0) (u := 300) rfl
        have h172_ : a164_ 146 9 = a155_ 146 9 := hf164_ 146 9 rfl
        have h173_ := iv_get hv155_ (k := 146) (j := 9) (l := 0) (u := 300) rfl
        have h174_ : a155_ 146 9 = a 146 9 := hf155_ 146 9 rfl
        exact hc83 y1 y2 y3 y4 y5 y6 r163_ r164_ a164_ (show (((40 - y6) * 1) + 0).toNat ≤ n from by omega) hv164_ hf166_ (show 0 ≤ y1 from by omega) (show y1 ≤ 39 from by omega) (show 0 - 1 ≤ y2 from by omega) (show y2 ≤ 39 from by omega) (show 0 ≤ y4 from by omega) (show y4 ≤ 2 from by omega) (show 0 ≤ y6 from by omega) (show y6 ≤ 39 from by omega) (show 0 ≤ r164_ from by omega) (show r164_ ≤ 2 from by omega) (show 1 ≤ a164_ 146 2 from by omega) (show a164_ 146 9 ≤ 299 from by omega) (by first | rfl | assumption) (show (0 ≤ x1 ∧ x1 < a164_ 146 2) from by omega) (show a0 146 9 < 300 from by omega) (SAM7_tr (SAM7_tr hsm (SAM7_fr hf155_ rfl)) (SAM7_fr hf164_ rfl)) hmy (show 0 ≤ y6 from by omega) (show y6 < a164_ 146 2 from by omega) hb1 hb2 (by rw [← SAM7_mg hsm, ← hy1, ← hqmg_]; assumption) (by rw [hy1] at hqun_; exact ⟨by rw [hqow_]; exact SAM7_ow hsmo_ _, by rw [hqun_]; exact SAM7_un hsmo_ _ _ _⟩) (OC_fr (OC_fr hi18 hf155_ rfl rfl (fun _ => rfl) (fun _ => rfl) (fun _ => rfl) (fun _ => rfl) (fun _ => rfl)) hf164_ rfl rfl (fun _ => rfl) (fun _ => rfl) (fun _ => rfl) (fun _ => rfl) (fun _ => rfl)) (show 1 ≤ a0 146 2 from by omega)
    ·
      refine jt_ite (fun c175_ => ?_) (fun c175_ => ?_)
      ·
        exact jt_rI ⟨hv, hf, rfl, hi18, (show (a0 146 2 = 0 → (-3) = 0 - 1) from by omega), (fun h1 h2 h3 => by have hb9 : BSR a0 b0 x1 (a0 146 2).toNat = y2 := (by have h2 := hsm.2.2.2.1; rw [show (a0 146 2).toNat = y6.toNat from by omega]; exact hb1.symm); exact Or.inr ⟨hmy, Or.inl ⟨by rw [hb9]; assumption, rfl, hsm.1⟩⟩), (show (((x1 < 0 ∨ a0 146 2 ≤ x1) ∨ a0 146 9 = 300) → (-3) = 0 - 1) from by omega), (fun h => absurd (by omega : False) id)⟩
      ·
        refine jt_bI (sp_X12_sends E d (jd_le hd rfl) y1 y2 (-1) a b0 hv (show (0 ≤ y1 ∧ y1 ≤ 39) from by omega) (show (0 ≤ y2 ∧ y2 ≤ 39) from by omega) (show a 146 9 ≤ 299 from by omega)) (fun r176_ a176_ b176_ h176_ => ?_)
        obtain ⟨hv176_, hf176_, rfl, hq176_0, hq176_1, hq176_2, hq176_3, hq176_4⟩ := h176_
        have h177_ := iv_get hv176_ (k := 146) (j := 9) (l := 0) (u := 300) rfl
        have hf178_ : jfr jW_X12_ask a0 a176_ := jfr_tr hf hf176_ rfl
        exact jt_rI ⟨hv176_, hf178_, rfl, (OC_card hi18 hq176_0 (hf176_ 146 49 rfl) (fun c hc => hq176_2 c hc) (fun j => hf176_ 178 j rfl) (fun j => hf176_ 181 j rfl) (fun j => hf176_ 182 j rfl)), (show (a0 146 2 = 0 → r176_ = 0 - 1) from by omega), (fun h1 h2 h3 => by have hb9 : BSR a0 b0 x1 (a0 146 2).toNat = y2 := (by have h2 := hsm.2.2.2.1; rw [show (a0 146 2).toNat = y6.toNat from by omega]; exact hb1.symm); have q1 := hq176_3; rw [hy1, hsm.1, hsm.2.1, BNR_fr hsm, hsm.2.2.2.2 148 (by decide)] at q1; have h9 := hsm.2.2.1; exact Or.inr ⟨hmy, Or.inr ⟨by rw [hb9]; omega, by omega, by rw [hb9]; exact q1⟩⟩), (show (((x1 < 0 ∨ a0 146 2 ≤ x1) ∨ a0 146 9 = 300) → r176_ = 0 - 1) from by omega), (fun h => absurd (by omega : False) id)⟩
  exact ⟨hc139, hc134, hc124, hc138, hc83, hc44⟩
theorem cp_X12_ask_33 (E : jxE) (d : Nat) (hd : Nat.ble 8 (d + 1) = true) (x1 : Int) (a0 b0 : Nat → Nat → Int) (hv0 : iv a0) (hp0 : WFW a0) (hp1 : OC a0) (hp2 : WISHR a0) : ∀ (y1 y2 : Int) (a : Nat → Nat → Int), iv a → jfr jW_X12_ask a0 a → 0 ≤ y1 → y1 ≤ 39 → 0 - 1 ≤ y2 → y2 ≤ 0 - 1 → a 146 9 ≤ 299 → (y1 = x1) → (0 ≤ x1 ∧ x1 < a 146 2) → a0 146 9 < 300 → (SAM7 a0 a) → (¬ vMay (a0 152 x1.toNat) (SUMN (ohF (cvR a0) (a0 146 0) x1 0) (a0 146 9).toNat) (SUMN (gvF (cvR a0) (a0 146 0) x1) (a0 146 9).toNat) (a0 171 0) (a0 171 1) = 0) → (y2 = -1) → (OC a) → 1 ≤ a0 146 2 → jt (jxX E d 251 33 [some (.inr (.inr (.inl 146))), some (.inl y1), some (.inl y2), none, none, none, none, none, none, none, none] [] (jxSH, a, b0)) (jQ_X12_ask x1 a0 b0) := by
  intro y1 y2 a hv hf hi0 hi1 hi2 hi3 hi4 hy1 hi6 hi7 hsm hmy hy2 hi11 hi12
  refine jt_eq (bq_X12_ask_33 E d y1 y2 a b0) ?_
  have h179_ := iv_get hv (k := 146) (j := 9) (l := 0) (u := 300) rfl
  have h180_ := iv_get hv (k := 146) (j := 2) (l := 0) (u := 40) rfl
  have h181_ : a 146 2 = a0 146 2 := hf 146 2 rfl
  have h182_ := iv_get hv0 (k := 146) (j := 2) (l := 0) (u := 40) rfl
  have h183_ := iv_get hv0 (k := 146) (j := 9) (l := 0) (u := 300) rfl
  exact (cp_X12_ask_44 E d hd x1 a0 b0 hv0 hp0 hp1 hp2 _).2.2.2.2.2 y1 y2 0 0 0 0 a (Nat.le_refl _) hv hf (show 0 ≤ y1 from by omega) (show y1 ≤ 39 from by omega) (show 0 - 1 ≤ y2 from by omega) (show y2 ≤ 39 from by omega) (show 0 ≤ 0 from by omega) (show 0 ≤ 2 from by omega) (show 0 ≤ 0 from by omega) (show 0 ≤ 40 from by omega) (show a 146 9 ≤ 299 from by omega) (by first | rfl | assumption) (show (0 ≤ x1 ∧ x1 < a 146 2) from by omega) (show a0 146 9 < 300 from by omega) hsm hmy (show 0 ≤ 0 from by omega) (show 0 ≤ a 146 2 from by omega) (by rw [hy2]; rfl) (fun h => absurd h (by omega)) hi11 (show 1 ≤ a0 146 2 from by omega)
theorem sp_X12_ask (E : jxE) (d : Nat) (hd : Nat.ble 8 d = true) (x1 : Int) (a0 b0 : Nat → Nat → Int) (hv0 : iv a0) (hp0 : WFW a0) (hp1 : OC a0) (hp2 : WISHR a0) : jt (jxC E d 251 [.inr (.inr (.inl 146)), .inl x1] (jxSH, a0, b0)) (jQ_X12_ask x1 a0 b0) := by
  obtain ⟨d, rfl⟩ := jd_succ hd
  refine jt_eq (bq_X12_ask E d x1 a0 b0) ?_
  refine jt_eI (eq_X12_isMember E d (jd_le hd rfl) x1 a0 b0) ?_
  have h184_ := f_X12_isMember_eq a0 b0 x1
  have h185_ := iv_get hv0 (k := 146) (j := 2) (l := 0) (u := 40) rfl
  have h186_ : jxw ((a0 146 2) - 1) = (a0 146 2) - 1 := jxw_id (by omega) (by omega)
  have h187_ := f_X12_in_eq a0 b0 x1 0 (jxw ((a0 146 2) - 1))
  refine jt_ite (fun c188_ => ?_) (fun c188_ => ?_)
  ·
    have h189_ := iv_get hv0 (k := 146) (j := 9) (l := 0) (u := 300) rfl
    exact jt_rI ⟨hv0, (jfr_rf _ _), rfl, hp1, (show (a0 146 2 = 0 → (-1) = 0 - 1) from by omega), (fun h1 h2 h3 => absurd (by omega : False) id), (show (((x1 < 0 ∨ a0 146 2 ≤ x1) ∨ a0 146 9 = 300) → (-1) = 0 - 1) from by omega), (fun _ => rfl)⟩
  ·
    have h190_ := iv_get hv0 (k := 146) (j := 9) (l := 0) (u := 300) rfl
    refine jt_ite (fun c191_ => ?_) (fun c191_ => ?_)
    ·
      exact jt_rI ⟨hv0, (jfr_rf _ _), rfl, hp1, (show (a0 146 2 = 0 → (-1) = 0 - 1) from by omega), (fun h1 h2 h3 => absurd (by omega : False) id), (show (((x1 < 0 ∨ a0 146 2 ≤ x1) ∨ a0 146 9 = 300) → (-1) = 0 - 1) from by omega), (fun _ => rfl)⟩
    ·
      refine jt_bI (sp_X12_mayAsk E d (jd_le hd rfl) x1 a0 b0 hv0 (show (0 ≤ x1 ∧ x1 ≤ 39) from by omega)) (fun r192_ a192_ b192_ h192_ => ?_)
      obtain ⟨rfl, rfl, hq192_0, hq192_1⟩ := h192_
      refine jt_ite (fun c193_ => ?_) (fun c193_ => ?_)
      ·
        exact jt_rI ⟨hv0, (jfr_rf _ _), rfl, hp1, (show (a0 146 2 = 0 → (-2) = 0 - 1) from by omega), (fun h1 h2 h3 => Or.inl ⟨by rw [← hq192_1]; omega, rfl, rfl⟩), (show (((x1 < 0 ∨ a0 146 2 ≤ x1) ∨ a0 146 9 = 300) → (-2) = 0 - 1) from by omega), (fun h => absurd (by omega : False) id)⟩
      ·
        exact cp_X12_ask_33 E d hd x1 a0 b0 hv0 hp0 hp1 hp2 x1 (-1) a0 hv0 (jfr_rf _ _) (show 0 ≤ x1 from by omega) (show x1 ≤ 39 from by omega) (show 0 - 1 ≤ (-1) from by omega) (show (-1) ≤ 0 - 1 from by omega) (show a0 146 9 ≤ 299 from by omega) (by first | rfl | assumption) (show (0 ≤ x1 ∧ x1 < a0 146 2) from by omega) (show a0 146 9 < 300 from by omega) (SAM7_rf _) (by rw [← hq192_1]; assumption) rfl hp1 (show 1 ≤ a0 146 2 from by omega)
def jW_X12_away : List (Nat × Nat) := [(181, 9999)]
abbrev jQ_X12_away (x1 : Int) (a0 b0 : Nat → Nat → Int) : List jxV → (Nat → Nat → Int) → (Nat → Nat → Int) → Prop := rI (fun r a b => (iv a) ∧ (jfr jW_X12_away a0 a) ∧ (b0 = b) ∧ ((0 ≤ r ∧ r ≤ 1)) ∧ (OC a) ∧ ((a0 146 49 = 0 → r = 0)))
theorem cp_X12_away_32 (E : jxE) (d : Nat) (hd : Nat.ble 2 (d + 1) = true) (x1 : Int) (a0 b0 : Nat → Nat → Int) (hv0 : iv a0) (hp0 : OC a0) : ∀ (a : Nat → Nat → Int), iv a → jfr jW_X12_away a0 a → 1 ≤ a0 146 49 → (OC a) → jt (jxX E d 263 32 [none, none] [] (jxSH, a, b0)) (jQ_X12_away x1 a0 b0) := by
  intro a hv hf hi0 hi1
  refine jt_eq (bq_X12_away_32 E d a b0) ?_
  have h194_ := iv_get hv0 (k := 146) (j := 49) (l := 0) (u := 20) rfl
  exact jt_rI ⟨hv, hf, rfl, (show (0 ≤ 1 ∧ 1 ≤ 1) from by omega), hi1, (show (a0 146 49 = 0 → 1 = 0) from by omega)⟩
theorem sp_X12_away (E : jxE) (d : Nat) (hd : Nat.ble 2 d = true) (x1 : Int) (a0 b0 : Nat → Nat → Int) (hv0 : iv a0) (hp0 : OC a0) : jt (jxC E d 263 [.inr (.inr (.inl 146)), .inl x1] (jxSH, a0, b0)) (jQ_X12_away x1 a0 b0) := by
  obtain ⟨d, rfl⟩ := jd_succ hd
  refine jt_eq (bq_X12_away E d x1 a0 b0) ?_
  refine jt_eI (eq_X12_in E d (jd_le hd rfl) x1 0 (jxw ((a0 146 49) - 1)) a0 b0) ?_
  have h195_ := iv_get hv0 (k := 146) (j := 49) (l := 0) (u := 20) rfl
  have h196_ : jxw ((a0 146 49) - 1) = (a0 146 49) - 1 := jxw_id (by omega) (by omega)
  have h197_ := f_X12_in_eq a0 b0 x1 0 (jxw ((a0 146 49) - 1))
  refine jt_ite (fun c198_ => ?_) (fun c198_ => ?_)
  ·
    exact jt_rI ⟨hv0, (jfr_rf _ _), rfl, (show (0 ≤ 0 ∧ 0 ≤ 1) from by omega), hp0, (show (a0 146 49 = 0 → 0 = 0) from by omega)⟩
  ·
    refine jt_grd (by omega) ?_
    have h199_ := iv_get hv0 (k := 181) (j := x1.toNat) (l := 0) (u := 2) rfl
    refine jt_ite (fun c200_ => ?_) (fun c200_ => ?_)
    ·
      refine jt_grd (by omega) ?_
      have hv201_ : iv (jxu a0 181 (x1.toNat) 2) := iv_put hv0 (l := 0) (u := 2) rfl (by omega) (by omega)
      have hf202_ : jfr jW_X12_away a0 (jxu a0 181 (x1.toNat) 2) := jfr_put (jfr_rf _ _) rfl
      have hg203_ : OC (jxu a0 181 (x1.toNat) 2) := (OC_put2 hp0 (by decide) (by omega))
      exact cp_X12_away_32 E d hd x1 a0 b0 hv0 hp0 (jxu a0 181 (x1.toNat) 2) hv201_ hf202_ (show 1 ≤ a0 146 49 from by omega) hg203_
    ·
      exact jt_rI ⟨hv0, (jfr_rf _ _), rfl, (show (0 ≤ 0 ∧ 0 ≤ 1) from by omega), hp0, (show (a0 146 49 = 0 → 0 = 0) from by omega)⟩
def jW_X12_may : List (Nat × Nat) := [(170, 9999)]
abbrev jQ_X12_may (x1 x2 : Int) (a0 b0 : Nat → Nat → Int) : List jxV → (Nat → Nat → Int) → (Nat → Nat → Int) → Prop := rI (fun r a b => (iv a) ∧ (jfr jW_X12_may a0 a) ∧ (b0 = b) ∧ ((a0 146 2 = 0 → r = 0 - 1)) ∧ (0 ≤ x1 → x1 < a0 146 2 → 0 ≤ x2 → x2 < a0 146 2 → r = MGR a0 b0 x1 x2) ∧ (((((x1 < 0 ∨ a0 146 2 ≤ x1) ∨ x2 < 0) ∨ a0 146 2 ≤ x2) → r = 0 - 1)))
theorem sp_X12_may (E : jxE) (d : Nat) (hd : Nat.ble 8 d = true) (x1 x2 : Int) (a0 b0 : Nat → Nat → Int) (hv0 : iv a0) (hp0 : WFW a0) (hp1 : WISHR a0) : jt (jxC E d 249 [.inr (.inr (.inl 146)), .inl x1, .inl x2] (jxSH, a0, b0)) (jQ_X12_may x1 x2 a0 b0) := by
  obtain ⟨d, rfl⟩ := jd_succ hd
  refine jt_eq (bq_X12_may E d x1 x2 a0 b0) ?_
  refine jt_eI (eq_X12_isMember E d (jd_le hd rfl) x1 a0 b0) ?_
  have h204_ := f_X12_isMember_eq a0 b0 x1
  have h205_ := iv_get hv0 (k := 146) (j := 2) (l := 0) (u := 40) rfl
  have h206_ : jxw ((a0 146 2) - 1) = (a0 146 2) - 1 := jxw_id (by omega) (by omega)
  have h207_ := f_X12_in_eq a0 b0 x1 0 (jxw ((a0 146 2) - 1))
  refine jt_ite (fun c208_ => ?_) (fun c208_ => ?_)
  ·
    exact jt_rI ⟨hv0, (jfr_rf _ _), rfl, (show (a0 146 2 = 0 → (-1) = 0 - 1) from by omega), (fun h1 h2 h3 h4 => absurd (by omega : False) id), (show ((((x1 < 0 ∨ a0 146 2 ≤ x1) ∨ x2 < 0) ∨ a0 146 2 ≤ x2) → (-1) = 0 - 1) from by omega)⟩
  ·
    refine jt_eI (eq_X12_isMember E d (jd_le hd rfl) x2 a0 b0) ?_
    have h209_ := f_X12_isMember_eq a0 b0 x2
    have h210_ := f_X12_in_eq a0 b0 x2 0 (jxw ((a0 146 2) - 1))
    refine jt_ite (fun c211_ => ?_) (fun c211_ => ?_)
    ·
      exact jt_rI ⟨hv0, (jfr_rf _ _), rfl, (show (a0 146 2 = 0 → (-1) = 0 - 1) from by omega), (fun h1 h2 h3 h4 => absurd (by omega : False) id), (show ((((x1 < 0 ∨ a0 146 2 ≤ x1) ∨ x2 < 0) ∨ a0 146 2 ≤ x2) → (-1) = 0 - 1) from by omega)⟩
    ·
      refine jt_bI (sp_X12_mayGet E d (jd_le hd rfl) x1 x2 a0 b0 hv0 (show (0 ≤ x1 ∧ x1 ≤ 39) from by omega) (show (0 ≤ x2 ∧ x2 ≤ 39) from by omega) hp0 hp1) (fun r212_ a212_ b212_ h212_ => ?_)
      obtain ⟨hv212_, hf212_, rfl, hq212_0, hq212_1⟩ := h212_
      refine jt_ite (fun c213_ => ?_) (fun c213_ => ?_)
      ·
        have hf214_ : jfr jW_X12_may a0 a212_ := jfr_tr (jfr_rf _ _) hf212_ rfl
        exact jt_rI ⟨hv212_, hf214_, rfl, (show (a0 146 2 = 0 → 0 = 0 - 1) from by omega), (fun _ _ _ _ => by have q := hq212_1; omega), (show ((((x1 < 0 ∨ a0 146 2 ≤ x1) ∨ x2 < 0) ∨ a0 146 2 ≤ x2) → 0 = 0 - 1) from by omega)⟩
      ·
        have hf215_ : jfr jW_X12_may a0 a212_ := jfr_tr (jfr_rf _ _) hf212_ rfl
        exact jt_rI ⟨hv212_, hf215_, rfl, (show (a0 146 2 = 0 → 1 = 0 - 1) from by omega), (fun _ _ _ _ => by have q := hq212_1; omega), (show ((((x1 < 0 ∨ a0 146 2 ≤ x1) ∨ x2 < 0) ∨ a0 146 2 ≤ x2) → 1 = 0 - 1) from by omega)⟩
def jW_X12_meets : List (Nat × Nat) := [(170, 9999)]
abbrev jQ_X12_meets (x1 x2 : Int) (a0 b0 : Nat → Nat → Int) : List jxV → (Nat → Nat → Int) → (Nat → Nat → Int) → Prop := rI (fun r a b => (iv a) ∧ (jfr jW_X12_meets a0 a) ∧ (b0 = b) ∧ ((a0 146 2 = 0 → r = 0 - 1)) ∧ (0 ≤ x1 → x1 < a0 146 2 → 0 ≤ x2 → x2 < a0 146 2 → ¬ x1 = x2 → r = METR a0 b0 x1 x2) ∧ ((((((x1 < 0 ∨ a0 146 2 ≤ x1) ∨ x2 < 0) ∨ a0 146 2 ≤ x2) ∨ x1 = x2) → r = 0 - 1)))
theorem cp_X12_meets_34 (E : jxE) (d : Nat) (hd : Nat.ble 3 (d + 1) = true) (x1 x2 : Int) (a0 b0 : Nat → Nat → Int) (hv0 : iv a0) (hp0 : WFW a0) (hp1 : WISHR a0) : ∀ (a : Nat → Nat → Int), iv a → jfr jW_X12_meets a0 a → ((((0 ≤ x1 ∧ x1 < a 146 2) ∧ 0 ≤ x2) ∧ x2 < a 146 2) ∧ ¬ x1 = x2) → (METR a0 b0 x1 x2 = 1) → 1 ≤ a0 146 2 → jt (jxX E d 228 34 [none, none, none] [] (jxSH, a, b0)) (jQ_X12_meets x1 x2 a0 b0) := by
  intro a hv hf hi0 hmx hi2
  refine jt_eq (bq_X12_meets_34 E d a b0) ?_
  have h216_ := iv_get hv (k := 146) (j := 2) (l := 0) (u := 40) rfl
  have h217_ : a 146 2 = a0 146 2 := hf 146 2 rfl
  have h218_ := iv_get hv0 (k := 146) (j := 2) (l := 0) (u := 40) rfl
  exact jt_rI ⟨hv, hf, rfl, (show (a0 146 2 = 0 → 1 = 0 - 1) from by omega), (fun _ _ _ _ _ => hmx.symm), (show (((((x1 < 0 ∨ a0 146 2 ≤ x1) ∨ x2 < 0) ∨ a0 146 2 ≤ x2) ∨ x1 = x2) → 1 = 0 - 1) from by omega)⟩
theorem cp_X12_meets_38 (E : jxE) (d : Nat) (hd : Nat.ble 3 (d + 1) = true) (x1 x2 : Int) (a0 b0 : Nat → Nat → Int) (hv0 : iv a0) (hp0 : WFW a0) (hp1 : WISHR a0) : ∀ (a : Nat → Nat → Int), iv a → jfr jW_X12_meets a0 a → ((((0 ≤ x1 ∧ x1 < a 146 2) ∧ 0 ≤ x2) ∧ x2 < a 146 2) ∧ ¬ x1 = x2) → (METR a0 b0 x1 x2 = 0) → 1 ≤ a0 146 2 → jt (jxX E d 228 38 [none, none, none] [] (jxSH, a, b0)) (jQ_X12_meets x1 x2 a0 b0) := by
  intro a hv hf hi0 hmx hi2
  refine jt_eq (bq_X12_meets_38 E d a b0) ?_
  have h219_ := iv_get hv (k := 146) (j := 2) (l := 0) (u := 40) rfl
  have h220_ : a 146 2 = a0 146 2 := hf 146 2 rfl
  have h221_ := iv_get hv0 (k := 146) (j := 2) (l := 0) (u := 40) rfl
  exact jt_rI ⟨hv, hf, rfl, (show (a0 146 2 = 0 → 0 = 0 - 1) from by omega), (fun _ _ _ _ _ => hmx.symm), (show (((((x1 < 0 ∨ a0 146 2 ≤ x1) ∨ x2 < 0) ∨ a0 146 2 ≤ x2) ∨ x1 = x2) → 0 = 0 - 1) from by omega)⟩
theorem sp_X12_meets (E : jxE) (d : Nat) (hd : Nat.ble 3 d = true) (x1 x2 : Int) (a0 b0 : Nat → Nat → Int) (hv0 : iv a0) (hp0 : WFW a0) (hp1 : WISHR a0) : jt (jxC E d 228 [.inr (.inr (.inl 146)), .inl x1, .inl x2] (jxSH, a0, b0)) (jQ_X12_meets x1 x2 a0 b0) := by
  obtain ⟨d, rfl⟩ := jd_succ hd
  refine jt_eq (bq_X12_meets E d x1 x2 a0 b0) ?_
  refine jt_eI (eq_X12_isMember E d (jd_le hd rfl) x1 a0 b0) ?_
  have h222_ := f_X12_isMember_eq a0 b0 x1
  have h223_ := iv_get hv0 (k := 146) (j := 2) (l := 0) (u := 40) rfl
  have h224_ : jxw ((a0 146 2) - 1) = (a0 146 2) - 1 := jxw_id (by omega) (by omega)
  have h225_ := f_X12_in_eq a0 b0 x1 0 (jxw ((a0 146 2) - 1))
  refine jt_ite (fun c226_ => ?_) (fun c226_ => ?_)
  ·
    exact jt_rI ⟨hv0, (jfr_rf _ _), rfl, (show (a0 146 2 = 0 → (-1) = 0 - 1) from by omega), (fun h1 h2 h3 h4 h5 => by omega), (show (((((x1 < 0 ∨ a0 146 2 ≤ x1) ∨ x2 < 0) ∨ a0 146 2 ≤ x2) ∨ x1 = x2) → (-1) = 0 - 1) from by omega)⟩
  ·
    refine jt_eI (eq_X12_isMember E d (jd_le hd rfl) x2 a0 b0) ?_
    have h227_ := f_X12_isMember_eq a0 b0 x2
    have h228_ := f_X12_in_eq a0 b0 x2 0 (jxw ((a0 146 2) - 1))
    refine jt_ite (fun c229_ => ?_) (fun c229_ => ?_)
    ·
      exact jt_rI ⟨hv0, (jfr_rf _ _), rfl, (show (a0 146 2 = 0 → (-1) = 0 - 1) from by omega), (fun h1 h2 h3 h4 h5 => by omega), (show (((((x1 < 0 ∨ a0 146 2 ≤ x1) ∨ x2 < 0) ∨ a0 146 2 ≤ x2) ∨ x1 = x2) → (-1) = 0 - 1) from by omega)⟩
    ·
      refine jt_ite (fun c230_ => ?_) (fun c230_ => ?_)
      ·
        exact jt_rI ⟨hv0, (jfr_rf _ _), rfl, (show (a0 146 2 = 0 → (-1) = 0 - 1) from by omega), (fun h1 h2 h3 h4 h5 => by omega), (show (((((x1 < 0 ∨ a0 146 2 ≤ x1) ∨ x2 < 0) ∨ a0 146 2 ≤ x2) ∨ x1 = x2) → (-1) = 0 - 1) from by omega)⟩
      ·
        refine jt_bI (sp_X12_isMet E d (jd_le hd rfl) x1 x2 a0 b0 hv0 (show (0 ≤ x1 ∧ x1 ≤ 39) from by omega) (show (0 ≤ x2 ∧ x2 ≤ 39) from by omega) hp0 hp1) (fun r231_ a231_ b231_ h231_ => ?_)
        obtain ⟨hv231_, hf231_, rfl, hq231_0, hq231_1⟩ := h231_
        refine jt_ite (fun c232_ => ?_) (fun c232_ => ?_)
        ·
          have hf233_ : jfr jW_X12_meets a0 a231_ := jfr_tr (jfr_rf _ _) hf231_ rfl
          have h234_ := iv_get hv231_ (k := 146) (j := 2) (l := 0) (u := 40) rfl
          have h235_ : a231_ 146 2 = a0 146 2 := hf231_ 146 2 rfl
          exact cp_X12_meets_38 E d hd x1 x2 a0 b0 hv0 hp0 hp1 a231_ hv231_ hf233_ (show ((((0 ≤ x1 ∧ x1 < a231_ 146 2) ∧ 0 ≤ x2) ∧ x2 < a231_ 146 2) ∧ ¬ x1 = x2) from by omega) (by have q := hq231_1; omega) (show 1 ≤ a0 146 2 from by omega)
        ·
          have hf236_ : jfr jW_X12_meets a0 a231_ := jfr_tr (jfr_rf _ _) hf231_ rfl
          have h237_ := iv_get hv231_ (k := 146) (j := 2) (l := 0) (u := 40) rfl
          have h238_ : a231_ 146 2 = a0 146 2 := hf231_ 146 2 rfl
          exact cp_X12_meets_34 E d hd x1 x2 a0 b0 hv0 hp0 hp1 a231_ hv231_ hf236_ (show ((((0 ≤ x1 ∧ x1 < a231_ 146 2) ∧ 0 ≤ x2) ∧ x2 < a231_ 146 2) ∧ ¬ x1 = x2) from by omega) (by have q := hq231_1; omega) (show 1 ≤ a0 146 2 from by omega)
def jW_X12_offer : List (Nat × Nat) := [(146, 49), (178, 9999), (179, 9999), (180, 9999), (182, 9999)]
abbrev jQ_X12_offer (x1 x2 x3 : Int) (a0 b0 : Nat → Nat → Int) : List jxV → (Nat → Nat → Int) → (Nat → Nat → Int) → Prop := rI (fun r a b => (iv a) ∧ (jfr jW_X12_offer a0 a) ∧ (b0 = b) ∧ (OC a) ∧ (FO a) ∧ (FW a) ∧ ((a0 146 2 = 0 → r = 0 - 1)) ∧ (((((((((0 ≤ x1 ∧ x1 < a0 146 2) ∧ ¬ a0 152 (x1.toNat) = 0) ∧ 0 ≤ x2) ∧ x2 ≤ 31) ∧ a0 146 49 < 20) ∧ r = a0 146 49) ∧ a 146 49 = (a0 146 49) + 1) ∨ (((((((x1 < 0 ∨ a0 146 2 ≤ x1) ∨ a0 152 (x1.toNat) = 0) ∨ x2 < 0) ∨ 31 < x2) ∨ 20 ≤ a0 146 49) ∧ r = 0 - 1) ∧ a 146 49 = a0 146 49))))
theorem cp_X12_offer_36 (E : jxE) (d : Nat) (hd : Nat.ble 3 (d + 1) = true) (x1 x2 x3 : Int) (a0 b0 : Nat → Nat → Int) (hv0 : iv a0) (hp0 : OC a0) (hp1 : FO a0) (hp2 : FW a0) : ∀ (a : Nat → Nat → Int), iv a → jfr jW_X12_offer a0 a → (((((x1 < 0 ∨ a0 146 2 ≤ x1) ∨ a0 152 (x1.toNat) = 0) ∨ x2 < 0) ∨ 31 < x2) ∨ 20 ≤ a0 146 49) → a 146 49 = a0 146 49 → (OC a) → (FO a) → (FW a) → jt (jxX E d 262 36 [none, none, none, none] [] (jxSH, a, b0)) (jQ_X12_offer x1 x2 x3 a0 b0) := by
  intro a hv hf hi0 hi1 hi2 hi3 hi4
  refine jt_eq (bq_X12_offer_36 E d a b0) ?_
  have h239_ := iv_get hv0 (k := 146) (j := 2) (l := 0) (u := 40) rfl
  have h240_ := iv_get hv0 (k := 152) (j := x1.toNat) (l := 0) (u := 1) rfl
  have h241_ := iv_get hv0 (k := 146) (j := 49) (l := 0) (u := 20) rfl
  have h242_ := iv_get hv (k := 146) (j := 49) (l := 0) (u := 20) rfl
  exact jt_rI ⟨hv, hf, rfl, hi2, hi3, hi4, (show (a0 146 2 = 0 → (-1) = 0 - 1) from by omega), (show ((((((((0 ≤ x1 ∧ x1 < a0 146 2) ∧ ¬ a0 152 (x1.toNat) = 0) ∧ 0 ≤ x2) ∧ x2 ≤ 31) ∧ a0 146 49 < 20) ∧ (-1) = a0 146 49) ∧ a 146 49 = (a0 146 49) + 1) ∨ (((((((x1 < 0 ∨ a0 146 2 ≤ x1) ∨ a0 152 (x1.toNat) = 0) ∨ x2 < 0) ∨ 31 < x2) ∨ 20 ≤ a0 146 49) ∧ (-1) = 0 - 1) ∧ a 146 49 = a0 146 49)) from by omega)⟩
theorem cp_X12_offer_68 (E : jxE) (d : Nat) (hd : Nat.ble 3 (d + 1) = true) (x1 x2 x3 : Int) (a0 b0 : Nat → Nat → Int) (hv0 : iv a0) (hp0 : OC a0) (hp1 : FO a0) (hp2 : FW a0) : ∀ (a : Nat → Nat → Int), iv a → jfr jW_X12_offer a0 a → a 146 49 ≤ 19 → 1 ≤ a0 146 2 → (((((0 ≤ x1 ∧ x1 < a0 146 2) ∧ ¬ a0 152 (x1.toNat) = 0) ∧ 0 ≤ x2) ∧ x2 ≤ 31) ∧ a0 146 49 < 20) → a 146 49 = a0 146 49 → (OC a) → (FO a) → (FW a) → jt (jxX E d 262 68 [some (.inr (.inr (.inl 146))), none, none, none] [] (jxSH, a, b0)) (jQ_X12_offer x1 x2 x3 a0 b0) := by
  intro a hv hf hi0 hi1 hi2 hi3 hi4 hi5 hi6
  refine jt_eq (bq_X12_offer_68 E d a b0) ?_
  have h243_ := iv_get hv (k := 146) (j := 49) (l := 0) (u := 20) rfl
  have h244_ := iv_get hv0 (k := 146) (j := 2) (l := 0) (u := 40) rfl
  have h245_ := iv_get hv0 (k := 152) (j := x1.toNat) (l := 0) (u := 1) rfl
  have h246_ := iv_get hv0 (k := 146) (j := 49) (l := 0) (u := 20) rfl
  refine jt_grd (by omega) ?_
  have hv247_ : iv (jxu a 182 ((a 146 49).toNat) (-1)) := iv_putf hv rfl
  have h249_ : jxw ((a 146 49) + 1) = (a 146 49) + 1 := jxw_id (by omega) (by omega)
  have hv248_ : iv (jxu (jxu a 182 ((a 146 49).toNat) (-1)) 146 49 (jxw ((a 146 49) + 1))) := iv_put hv247_ (l := 0) (u := 20) rfl (by omega) (by omega)
  have hf250_ : jfr jW_X12_offer a0 (jxu a 182 ((a 146 49).toNat) (-1)) := jfr_put hf rfl
  have hf251_ : jfr jW_X12_offer a0 (jxu (jxu a 182 ((a 146 49).toNat) (-1)) 146 49 (jxw ((a 146 49) + 1))) := jfr_put hf250_ rfl
  have hg252_ : OC (jxu a 182 ((a 146 49).toNat) (-1)) := (OC_putx hi4 (by decide) (show a 146 49 ≤ ((((a 146 49).toNat) : Nat) : Int) from by omega))
  have hg253_ : OC (jxu (jxu a 182 ((a 146 49).toNat) (-1)) 146 49 (jxw ((a 146 49) + 1))) := (OC_put49 hg252_ (show 0 ≤ a 146 49 from by omega) (show jxw ((a 146 49) + 1) = a 146 49 + 1 from by omega))
  have hg254_ : FO (jxu a 182 ((a 146 49).toNat) (-1)) := (FO_fr hi5 (jfr_1 a 182 ((a 146 49).toNat) (-1)) rfl rfl (fun _ => rfl))
  have hg255_ : FO (jxu (jxu a 182 ((a 146 49).toNat) (-1)) 146 49 (jxw ((a 146 49) + 1))) := (FO_put49 hg254_ (show a 146 49 ≤ jxw ((a 146 49) + 1) from by omega))
  have hg256_ : FW (jxu a 182 ((a 146 49).toNat) (-1)) := (FW_fr hi6 (jfr_1 a 182 ((a 146 49).toNat) (-1)) rfl (fun _ => rfl))
  have hg257_ : FW (jxu (jxu a 182 ((a 146 49).toNat) (-1)) 146 49 (jxw ((a 146 49) + 1))) := (FW_put49 hg256_ (show a 146 49 ≤ jxw ((a 146 49) + 1) from by omega))
  have h258_ : jxw ((jxw ((a 146 49) + 1)) - 1) = (jxw ((a 146 49) + 1)) - 1 := jxw_id (by omega) (by omega)
  exact jt_rI ⟨hv248_, hf251_, rfl, hg253_, hg255_, hg257_, (show (a0 146 2 = 0 → jxw ((jxw ((a 146 49) + 1)) - 1) = 0 - 1) from by omega), (show ((((((((0 ≤ x1 ∧ x1 < a0 146 2) ∧ ¬ a0 152 (x1.toNat) = 0) ∧ 0 ≤ x2) ∧ x2 ≤ 31) ∧ a0 146 49 < 20) ∧ jxw ((jxw ((a 146 49) + 1)) - 1) = a0 146 49) ∧ jxw ((a 146 49) + 1) = (a0 146 49) + 1) ∨ (((((((x1 < 0 ∨ a0 146 2 ≤ x1) ∨ a0 152 (x1.toNat) = 0) ∨ x2 < 0) ∨ 31 < x2) ∨ 20 ≤ a0 146 49) ∧ jxw ((jxw ((a 146 49) + 1)) - 1) = 0 - 1) ∧ jxw ((a 146 49) + 1) = a0 146 49)) from by omega)⟩
theorem cp_X12_offer_38 (E : jxE) (d : Nat) (hd : Nat.ble 3 (d + 1) = true) (x1 x2 x3 : Int) (a0 b0 : Nat → Nat → Int) (hv0 : iv a0) (hp0 : OC a0) (hp1 : FO a0) (hp2 : FW a0) : ∀ (y1 y2 y3 : Int) (a : Nat → Nat → Int), iv a → jfr jW_X12_offer a0 a → 0 ≤ y1 → y1 ≤ 39 → 0 ≤ y2 → y2 ≤ 31 → a 146 49 ≤ 19 → 1 ≤ a0 146 2 → (((((0 ≤ x1 ∧ x1 < a0 146 2) ∧ ¬ a0 152 (x1.toNat) = 0) ∧ 0 ≤ x2) ∧ x2 ≤ 31) ∧ a0 146 49 < 20) → a 146 49 = a0 146 49 → (OC a) → (FO a) → (FW a) → jt (jxX E d 262 38 [some (.inr (.inr (.inl 146))), some (.inl y1), some (.inl y2), some (.inl y3)] [] (jxSH, a, b0)) (jQ_X12_offer x1 x2 x3 a0 b0) := by
  intro y1 y2 y3 a hv hf hi0 hi1 hi2 hi3 hi4 hi5 hi6 hi7 hi8 hi9 hi10
  refine jt_eq (bq_X12_offer_38 E d y1 y2 y3 a b0) ?_
  have h259_ := iv_get hv (k := 146) (j := 49) (l := 0) (u := 20) rfl
  have h260_ := iv_get hv0 (k := 146) (j := 2) (l := 0) (u := 40) rfl
  have h261_ := iv_get hv0 (k := 152) (j := x1.toNat) (l := 0) (u := 1) rfl
  have h262_ := iv_get hv0 (k := 146) (j := 49) (l := 0) (u := 20) rfl
  refine jt_grd (by omega) ?_
  refine jt_grd (by omega) ?_
  refine jt_grd (by omega) ?_
  have hv263_ : iv (jxu a 178 ((a 146 49).toNat) y1) := iv_put hv (l := 0) (u := 39) rfl (by omega) (by omega)
  have hv264_ : iv (jxu (jxu a 178 ((a 146 49).toNat) y1) 179 ((a 146 49).toNat) y2) := iv_put hv263_ (l := 0) (u := 31) rfl (by omega) (by omega)
  have hv265_ : iv (jxu (jxu (jxu a 178 ((a 146 49).toNat) y1) 179 ((a 146 49).toNat) y2) 180 ((a 146 49).toNat) y3) := iv_putf hv264_ rfl
  have hf266_ : jfr jW_X12_offer a0 (jxu a 178 ((a 146 49).toNat) y1) := jfr_put hf rfl
  have hf267_ : jfr jW_X12_offer a0 (jxu (jxu a 178 ((a 146 49).toNat) y1) 179 ((a 146 49).toNat) y2) := jfr_put hf266_ rfl
  have hf268_ : jfr jW_X12_offer a0 (jxu (jxu (jxu a 178 ((a 146 49).toNat) y1) 179 ((a 146 49).toNat) y2) 180 ((a 146 49).toNat) y3) := jfr_put hf267_ rfl
  have hg269_ : OC (jxu a 178 ((a 146 49).toNat) y1) := (OC_putx hi8 (by decide) (show a 146 49 ≤ ((((a 146 49).toNat) : Nat) : Int) from by omega))
  have hg270_ : OC (jxu (jxu a 178 ((a 146 49).toNat) y1) 179 ((a 146 49).toNat) y2) := (OC_fr hg269_ (jfr_1 (jxu a 178 ((a 146 49).toNat) y1) 179 ((a 146 49).toNat) y2) rfl rfl (fun _ => rfl) (fun _ => rfl) (fun _ => rfl) (fun _ => rfl) (fun _ => rfl))
  have hg271_ : OC (jxu (jxu (jxu a 178 ((a 146 49).toNat) y1) 179 ((a 146 49).toNat) y2) 180 ((a 146 49).toNat) y3) := (OC_fr hg270_ (jfr_1 (jxu (jxu a 178 ((a 146 49).toNat) y1) 179 ((a 146 49).toNat) y2) 180 ((a 146 49).toNat) y3) rfl rfl (fun _ => rfl) (fun _ => rfl) (fun _ => rfl) (fun _ => rfl) (fun _ => rfl))
  have hg272_ : FO (jxu a 178 ((a 146 49).toNat) y1) := (FO_fr hi9 (jfr_1 a 178 ((a 146 49).toNat) y1) rfl rfl (fun _ => rfl))
  have hg273_ : FO (jxu (jxu a 178 ((a 146 49).toNat) y1) 179 ((a 146 49).toNat) y2) := (FO_fr hg272_ (jfr_1 (jxu a 178 ((a 146 49).toNat) y1) 179 ((a 146 49).toNat) y2) rfl rfl (fun _ => rfl))
  have hg274_ : FO (jxu (jxu (jxu a 178 ((a 146 49).toNat) y1) 179 ((a 146 49).toNat) y2) 180 ((a 146 49).toNat) y3) := (FO_fr hg273_ (jfr_1 (jxu (jxu a 178 ((a 146 49).toNat) y1) 179 ((a 146 49).toNat) y2) 180 ((a 146 49).toNat) y3) rfl rfl (fun _ => rfl))
  have hg275_ : FW (jxu a 178 ((a 146 49).toNat) y1) := (FW_fr hi10 (jfr_1 a 178 ((a 146 49).toNat) y1) rfl (fun _ => rfl))
  have hg276_ : FW (jxu (jxu a 178 ((a 146 49).toNat) y1) 179 ((a 146 49).toNat) y2) := (FW_fr hg275_ (jfr_1 (jxu a 178 ((a 146 49).toNat) y1) 179 ((a 146 49).toNat) y2) rfl (fun _ => rfl))
  have hg277_ : FW (jxu (jxu (jxu a 178 ((a 146 49).toNat) y1) 179 ((a 146 49).toNat) y2) 180 ((a 146 49).toNat) y3) := (FW_fr hg276_ (jfr_1 (jxu (jxu a 178 ((a 146 49).toNat) y1) 179 ((a 146 49).toNat) y2) 180 ((a 146 49).toNat) y3) rfl (fun _ => rfl))
  exact cp_X12_offer_68 E d hd x1 x2 x3 a0 b0 hv0 hp0 hp1 hp2 (jxu (jxu (jxu a 178 ((a 146 49).toNat) y1) 179 ((a 146 49).toNat) y2) 180 ((a 146 49).toNat) y3) hv265_ hf268_ (show a 146 49 ≤ 19 from by omega) (show 1 ≤ a0 146 2 from by omega) (show (((((0 ≤ x1 ∧ x1 < a0 146 2) ∧ ¬ a0 152 (x1.toNat) = 0) ∧ 0 ≤ x2) ∧ x2 ≤ 31) ∧ a0 146 49 < 20) from by omega) (show a 146 49 = a0 146 49 from by omega) hg271_ hg274_ hg277_
theorem sp_X12_offer (E : jxE) (d : Nat) (hd : Nat.ble 3 d = true) (x1 x2 x3 : Int) (a0 b0 : Nat → Nat → Int) (hv0 : iv a0) (hp0 : OC a0) (hp1 : FO a0) (hp2 : FW a0) : jt (jxC E d 262 [.inr (.inr (.inl 146)), .inl x1, .inl x2, .inl x3] (jxSH, a0, b0)) (jQ_X12_offer x1 x2 x3 a0 b0) := by
  obtain ⟨d, rfl⟩ := jd_succ hd
  refine jt_eq (bq_X12_offer E d x1 x2 x3 a0 b0) ?_
  have h278_ := iv_get hv0 (k := 146) (j := 49) (l := 0) (u := 20) rfl
  refine jt_ite (fun c279_ => ?_) (fun c279_ => ?_)
  ·
    have h280_ := iv_get hv0 (k := 146) (j := 2) (l := 0) (u := 40) rfl
    have h281_ := iv_get hv0 (k := 152) (j := x1.toNat) (l := 0) (u := 1) rfl
    exact cp_X12_offer_36 E d hd x1 x2 x3 a0 b0 hv0 hp0 hp1 hp2 a0 hv0 (jfr_rf _ _) (show (((((x1 < 0 ∨ a0 146 2 ≤ x1) ∨ a0 152 (x1.toNat) = 0) ∨ x2 < 0) ∨ 31 < x2) ∨ 20 ≤ a0 146 49) from by omega) (show a0 146 49 = a0 146 49 from by omega) hp0 hp1 hp2
  ·
    refine jt_eI (eq_X12_isMember E d (jd_le hd rfl) x1 a0 b0) ?_
    have h282_ := f_X12_isMember_eq a0 b0 x1
    have h283_ := iv_get hv0 (k := 146) (j := 2) (l := 0) (u := 40) rfl
    have h284_ : jxw ((a0 146 2) - 1) = (a0 146 2) - 1 := jxw_id (by omega) (by omega)
    have h285_ := f_X12_in_eq a0 b0 x1 0 (jxw ((a0 146 2) - 1))
    refine jt_ite (fun c286_ => ?_) (fun c286_ => ?_)
    ·
      have h287_ := iv_get hv0 (k := 152) (j := x1.toNat) (l := 0) (u := 1) rfl
      exact cp_X12_offer_36 E d hd x1 x2 x3 a0 b0 hv0 hp0 hp1 hp2 a0 hv0 (jfr_rf _ _) (show (((((x1 < 0 ∨ a0 146 2 ≤ x1) ∨ a0 152 (x1.toNat) = 0) ∨ x2 < 0) ∨ 31 < x2) ∨ 20 ≤ a0 146 49) from by omega) (show a0 146 49 = a0 146 49 from by omega) hp0 hp1 hp2
    ·
      refine jt_grd (by omega) ?_
      have h288_ := iv_get hv0 (k := 152) (j := x1.toNat) (l := 0) (u := 1) rfl
      refine jt_ite (fun c289_ => ?_) (fun c289_ => ?_)
      ·
        exact cp_X12_offer_36 E d hd x1 x2 x3 a0 b0 hv0 hp0 hp1 hp2 a0 hv0 (jfr_rf _ _) (show (((((x1 < 0 ∨ a0 146 2 ≤ x1) ∨ a0 152 (x1.toNat) = 0) ∨ x2 < 0) ∨ 31 < x2) ∨ 20 ≤ a0 146 49) from by omega) (show a0 146 49 = a0 146 49 from by omega) hp0 hp1 hp2
      ·
        refine jt_eI (eq_X12_in E d (jd_le hd rfl) x2 0 31 a0 b0) ?_
        have h290_ := f_X12_in_eq a0 b0 x2 0 31
        refine jt_ite (fun c291_ => ?_) (fun c291_ => ?_)
        ·
          exact cp_X12_offer_36 E d hd x1 x2 x3 a0 b0 hv0 hp0 hp1 hp2 a0 hv0 (jfr_rf _ _) (show (((((x1 < 0 ∨ a0 146 2 ≤ x1) ∨ a0 152 (x1.toNat) = 0) ∨ x2 < 0) ∨ 31 < x2) ∨ 20 ≤ a0 146 49) from by omega) (show a0 146 49 = a0 146 49 from by omega) hp0 hp1 hp2
        ·
          exact cp_X12_offer_38 E d hd x1 x2 x3 a0 b0 hv0 hp0 hp1 hp2 x1 x2 x3 a0 hv0 (jfr_rf _ _) (show 0 ≤ x1 from by omega) (show x1 ≤ 39 from by omega) (show 0 ≤ x2 from by omega) (show x2 ≤ 31 from by omega) (show a0 146 49 ≤ 19 from by omega) (show 1 ≤ a0 146 2 from by omega) (show (((((0 ≤ x1 ∧ x1 < a0 146 2) ∧ ¬ a0 152 (x1.toNat) = 0) ∧ 0 ≤ x2) ∧ x2 ≤ 31) ∧ a0 146 49 < 20) from by omega) (show a0 146 49 = a0 146 49 from by omega) hp0 hp1 hp2
def jW_X12_stamps : List (Nat × Nat) := [(196, 9999), (197, 9999)]
abbrev jQ_X12_stamps (x1 x2 x3 : Int) (a0 b0 : Nat → Nat → Int) : List jxV → (Nat → Nat → Int) → (Nat → Nat → Int) → Prop := rI (fun r a b => (iv a) ∧ (jfr jW_X12_stamps a0 a) ∧ (b0 = b) ∧ ((0 ≤ r ∧ r ≤ 1)) ∧ (SV a) ∧ ((((((((r = 1 ∧ 0 ≤ x1) ∧ x1 ≤ 7) ∧ 1 ≤ x2) ∧ x2 ≤ 500) ∧ 0 ≤ x3) ∧ x3 ≤ 50) ∨ (r = 0 ∧ (((((x1 < 0 ∨ 7 < x1) ∨ x2 < 1) ∨ 500 < x2) ∨ x3 < 0) ∨ 50 < x3)))))
theorem cp_X12_stamps_31 (E : jxE) (d : Nat) (hd : Nat.ble 2 (d + 1) = true) (x1 x2 x3 : Int) (a0 b0 : Nat → Nat → Int) (hv0 : iv a0) (hp0 : SV a0) : ∀ (a : Nat → Nat → Int), iv a → jfr jW_X12_stamps a0 a → (((((x1 < 0 ∨ 7 < x1) ∨ x2 < 1) ∨ 500 < x2) ∨ x3 < 0) ∨ 50 < x3) → (SV a) → jt (jxX E d 285 31 [none, none, none, none] [] (jxSH, a, b0)) (jQ_X12_stamps x1 x2 x3 a0 b0) := by
  intro a hv hf hi0 hi1
  refine jt_eq (bq_X12_stamps_31 E d a b0) ?_
  exact jt_rI ⟨hv, hf, rfl, (show (0 ≤ 0 ∧ 0 ≤ 1) from by omega), hi1, (show (((((((0 = 1 ∧ 0 ≤ x1) ∧ x1 ≤ 7) ∧ 1 ≤ x2) ∧ x2 ≤ 500) ∧ 0 ≤ x3) ∧ x3 ≤ 50) ∨ (0 = 0 ∧ (((((x1 < 0 ∨ 7 < x1) ∨ x2 < 1) ∨ 500 < x2) ∨ x3 < 0) ∨ 50 < x3))) from by omega)⟩
theorem cp_X12_stamps_33 (E : jxE) (d : Nat) (hd : Nat.ble 2 (d + 1) = true) (x1 x2 x3 : Int) (a0 b0 : Nat → Nat → Int) (hv0 : iv a0) (hp0 : SV a0) : ∀ (y1 y2 y3 : Int) (a : Nat → Nat → Int), iv a → jfr jW_X12_stamps a0 a → 0 ≤ y1 → y1 ≤ 7 → 1 ≤ y2 → y2 ≤ 500 → 0 ≤ y3 → y3 ≤ 50 → y1 = x1 → y2 = x2 → y3 = x3 → (((((0 ≤ x1 ∧ x1 ≤ 7) ∧ 1 ≤ x2) ∧ x2 ≤ 500) ∧ 0 ≤ x3) ∧ x3 ≤ 50) → (SV a) → jt (jxX E d 285 33 [some (.inr (.inr (.inl 146))), some (.inl y1), some (.inl y2), some (.inl y3)] [] (jxSH, a, b0)) (jQ_X12_stamps x1 x2 x3 a0 b0) := by
  intro y1 y2 y3 a hv hf hi0 hi1 hi2 hi3 hi4 hi5 hi6 hi7 hi8 hi9 hi10
  refine jt_eq (bq_X12_stamps_33 E d y1 y2 y3 a b0) ?_
  refine jt_grd (by omega) ?_
  refine jt_grd (by omega) ?_
  have hv292_ : iv (jxu a 196 (y1.toNat) y2) := iv_put hv (l := (-1)) (u := 500) rfl (by omega) (by omega)
  have hv293_ : iv (jxu (jxu a 196 (y1.toNat) y2) 197 (y1.toNat) y3) := iv_put hv292_ (l := 0) (u := 50) rfl (by omega) (by omega)
  have hf294_ : jfr jW_X12_stamps a0 (jxu a 196 (y1.toNat) y2) := jfr_put hf rfl
  have hf295_ : jfr jW_X12_stamps a0 (jxu (jxu a 196 (y1.toNat) y2) 197 (y1.toNat) y3) := jfr_put hf294_ rfl
  have hg296_ : SV (jxu a 196 (y1.toNat) y2) := (SV_put196 hi10 (by omega))
  have h297_ := iv_get hv (k := 197) (j := y1.toNat) (l := 0) (u := 50) rfl
  have h298_ := iv_get hv292_ (k := 196) (j := y1.toNat) (l := (-1)) (u := 500) rfl
  have h299_ := jxu_sp a 196 (y1.toNat) y2 (y1.toNat)
  have h300_ := iv_get hv (k := 196) (j := y1.toNat) (l := (-1)) (u := 500) rfl
  have hg301_ : SV (jxu (jxu a 196 (y1.toNat) y2) 197 (y1.toNat) y3) := (SV_put197 hg296_ (by first | (left; show y3 ≤ a 197 (y1.toNat); omega) | (right; show 1 ≤ (jxu a 196 (y1.toNat) y2) 196 (y1.toNat); omega)))
  exact jt_rI ⟨hv293_, hf295_, rfl, (show (0 ≤ 1 ∧ 1 ≤ 1) from by omega), hg301_, (show (((((((1 = 1 ∧ 0 ≤ x1) ∧ x1 ≤ 7) ∧ 1 ≤ x2) ∧ x2 ≤ 500) ∧ 0 ≤ x3) ∧ x3 ≤ 50) ∨ (1 = 0 ∧ (((((x1 < 0 ∨ 7 < x1) ∨ x2 < 1) ∨ 500 < x2) ∨ x3 < 0) ∨ 50 < x3))) from by omega)⟩
theorem sp_X12_stamps (E : jxE) (d : Nat) (hd : Nat.ble 2 d = true) (x1 x2 x3 : Int) (a0 b0 : Nat → Nat → Int) (hv0 : iv a0) (hp0 : SV a0) : jt (jxC E d 285 [.inr (.inr (.inl 146)), .inl x1, .inl x2, .inl x3] (jxSH, a0, b0)) (jQ_X12_stamps x1 x2 x3 a0 b0) := by
  obtain ⟨d, rfl⟩ := jd_succ hd
  refine jt_eq (bq_X12_stamps E d x1 x2 x3 a0 b0) ?_
  refine jt_eI (eq_X12_in E d (jd_le hd rfl) x1 0 7 a0 b0) ?_
  have h302_ := f_X12_in_eq a0 b0 x1 0 7
  refine jt_ite (fun c303_ => ?_) (fun c303_ => ?_)
  ·
    exact cp_X12_stamps_31 E d hd x1 x2 x3 a0 b0 hv0 hp0 a0 hv0 (jfr_rf _ _) (show (((((x1 < 0 ∨ 7 < x1) ∨ x2 < 1) ∨ 500 < x2) ∨ x3 < 0) ∨ 50 < x3) from by omega) hp0
  ·
    refine jt_eI (eq_X12_in E d (jd_le hd rfl) x2 1 500 a0 b0) ?_
    have h304_ := f_X12_in_eq a0 b0 x2 1 500
    refine jt_ite (fun c305_ => ?_) (fun c305_ => ?_)
    ·
      exact cp_X12_stamps_31 E d hd x1 x2 x3 a0 b0 hv0 hp0 a0 hv0 (jfr_rf _ _) (show (((((x1 < 0 ∨ 7 < x1) ∨ x2 < 1) ∨ 500 < x2) ∨ x3 < 0) ∨ 50 < x3) from by omega) hp0
    ·
      refine jt_eI (eq_X12_in E d (jd_le hd rfl) x3 0 50 a0 b0) ?_
      have h306_ := f_X12_in_eq a0 b0 x3 0 50
      refine jt_ite (fun c307_ => ?_) (fun c307_ => ?_)
      ·
        exact cp_X12_stamps_31 E d hd x1 x2 x3 a0 b0 hv0 hp0 a0 hv0 (jfr_rf _ _) (show (((((x1 < 0 ∨ 7 < x1) ∨ x2 < 1) ∨ 500 < x2) ∨ x3 < 0) ∨ 50 < x3) from by omega) hp0
      ·
        exact cp_X12_stamps_33 E d hd x1 x2 x3 a0 b0 hv0 hp0 x1 x2 x3 a0 hv0 (jfr_rf _ _) (show 0 ≤ x1 from by omega) (show x1 ≤ 7 from by omega) (show 1 ≤ x2 from by omega) (show x2 ≤ 500 from by omega) (show 0 ≤ x3 from by omega) (show x3 ≤ 50 from by omega) (show x1 = x1 from by omega) (show x2 = x2 from by omega) (show x3 = x3 from by omega) (show (((((0 ≤ x1 ∧ x1 ≤ 7) ∧ 1 ≤ x2) ∧ x2 ≤ 500) ∧ 0 ≤ x3) ∧ x3 ≤ 50) from by omega) hp0
