abbrev jQ_X12_best (x1 x2 : Int) (a0 b0 : Nat → Nat → Int) : List jxV → (Nat → Nat → Int) → (Nat → Nat → Int) → Prop := rJ (fun r a b => (a0 = a))
theorem cp_X12_best_49 (E : jxE) (d : Nat) (hd : Nat.ble 1 (d + 1) = true) (x1 x2 : Int) (a0 b0 : Nat → Nat → Int) (hv0 : iv a0) (hp0 : (0 ≤ x1 ∧ x1 ≤ 255)) : ∀ n : Nat, (∀ (y1 y2 y4 y5 y6 y7 y9 : Int) (b : Nat → Nat → Int), (((((((y5 + 1) * 5677) + 0) + ((256 - y6) * 22)) + 0) + ((8 - y9) * 1)) + 0).toNat ≤ n → 0 ≤ y1 → y1 ≤ 255 → 1 ≤ y4 → y4 ≤ 256 → 0 ≤ y5 → y5 ≤ 39 → 0 ≤ y6 → y6 ≤ 255 → 0 ≤ y9 → y9 ≤ 7 → jt (jxX E d 253 192 [some (.inr (.inr (.inl 146))), some (.inl y1), some (.inr (.inl y2)), none, some (.inl y4), some (.inl y5), some (.inl y6), some (.inr (.inl y7)), none, some (.inl y9), none, none] [] (jxSH, a0, b)) (jQ_X12_best x1 x2 a0 b0)) ∧ (∀ (y1 y2 y4 y5 y6 y7 y9 y10 : Int) (b : Nat → Nat → Int), (((((((y5 + 1) * 5677) + 0) + ((256 - y6) * 22)) + 0) + ((8 - y9) * 1)) + 0).toNat ≤ n → 0 ≤ y1 → y1 ≤ 255 → 1 ≤ y4 → y4 ≤ 256 → 0 ≤ y5 → y5 ≤ 39 → 0 ≤ y6 → y6 ≤ 255 → 0 ≤ y9 → y9 ≤ 7 → jt (jxX E d 253 175 [some (.inr (.inr (.inl 146))), some (.inl y1), some (.inr (.inl y2)), none, some (.inl y4), some (.inl y5), some (.inl y6), some (.inr (.inl y7)), none, some (.inl y9), some (.inr (.inl y10)), none] [] (jxSH, a0, b)) (jQ_X12_best x1 x2 a0 b0)) ∧ (∀ (y1 y2 y4 y5 y6 y7 y9 : Int) (b : Nat → Nat → Int), (((((((y5 + 1) * 5677) + 0) + ((256 - y6) * 22)) + 0) + ((8 - y9) * 1)) + 0).toNat ≤ n → 0 ≤ y1 → y1 ≤ 255 → 1 ≤ y4 → y4 ≤ 256 → 0 ≤ y5 → y5 ≤ 39 → 0 ≤ y6 → y6 ≤ 255 → 0 ≤ y9 → y9 ≤ 7 → jt (jxX E d 253 115 [some (.inr (.inr (.inl 146))), some (.inl y1), some (.inr (.inl y2)), none, some (.inl y4), some (.inl y5), some (.inl y6), some (.inr (.inl y7)), none, some (.inl y9), none, none] [] (jxSH, a0, b)) (jQ_X12_best x1 x2 a0 b0)) ∧ (∀ (y1 y2 y4 y5 y6 : Int) (b : Nat → Nat → Int), (((((y5 + 1) * 5677) + 0) + ((256 - y6) * 22)) + 11).toNat ≤ n → 0 ≤ y1 → y1 ≤ 255 → 1 ≤ y4 → y4 ≤ 256 → 0 ≤ y5 → y5 ≤ 39 → 1 ≤ y6 → y6 ≤ 256 → jt (jxX E d 253 217 [some (.inr (.inr (.inl 146))), some (.inl y1), some (.inr (.inl y2)), none, some (.inl y4), some (.inl y5), some (.inl y6), none, none, none, none, none] [] (jxSH, a0, b)) (jQ_X12_best x1 x2 a0 b0)) ∧ (∀ (y1 y2 y4 y5 y6 y7 y9 : Int) (b : Nat → Nat → Int), (((((((y5 + 1) * 5677) + 0) + ((256 - y6) * 22)) + 0) + ((8 - y9) * 1)) + 0).toNat ≤ n → 0 ≤ y1 → y1 ≤ 255 → 1 ≤ y4 → y4 ≤ 256 → 0 ≤ y5 → y5 ≤ 39 → 0 ≤ y6 → y6 ≤ 255 → 0 ≤ y9 → y9 ≤ 8 → jt (jxX E d 253 85 [some (.inr (.inr (.inl 146))), some (.inl y1), some (.inr (.inl y2)), none, some (.inl y4), some (.inl y5), some (.inl y6), some (.inr (.inl y7)), none, some (.inl y9), none, none] [] (jxSH, a0, b)) (jQ_X12_best x1 x2 a0 b0)) ∧ (∀ (y1 y2 y4 y5 y6 y7 : Int) (b : Nat → Nat → Int), (((((y5 + 1) * 5677) + 0) + ((256 - y6) * 22)) + 10).toNat ≤ n → 0 ≤ y1 → y1 ≤ 255 → 1 ≤ y4 → y4 ≤ 256 → 0 ≤ y5 → y5 ≤ 39 → 0 ≤ y6 → y6 ≤ 255 → jt (jxX E d 253 82 [some (.inr (.inr (.inl 146))), some (.inl y1), some (.inr (.inl y2)), none, some (.inl y4), some (.inl y5), some (.inl y6), some (.inr (.inl y7)), none, none, none, none] [] (jxSH, a0, b)) (jQ_X12_best x1 x2 a0 b0)) ∧ (∀ (y1 y2 y4 y5 y6 : Int) (b : Nat → Nat → Int), (((((y5 + 1) * 5677) + 0) + ((256 - y6) * 22)) + 10).toNat ≤ n → 0 ≤ y1 → y1 ≤ 255 → 1 ≤ y4 → y4 ≤ 256 → 0 ≤ y5 → y5 ≤ 39 → 0 ≤ y6 → y6 ≤ 256 → jt (jxX E d 253 57 [some (.inr (.inr (.inl 146))), some (.inl y1), some (.inr (.inl y2)), none, some (.inl y4), some (.inl y5), some (.inl y6), none, none, none, none, none] [] (jxSH, a0, b)) (jQ_X12_best x1 x2 a0 b0)) ∧ (∀ (y1 y2 y4 y5 : Int) (b : Nat → Nat → Int), (((y5 + 1) * 5677) + 5676).toNat ≤ n → 0 ≤ y1 → y1 ≤ 255 → 1 ≤ y4 → y4 ≤ 256 → 0 - 1 ≤ y5 → y5 ≤ 39 → jt (jxX E d 253 49 [some (.inr (.inr (.inl 146))), some (.inl y1), some (.inr (.inl y2)), none, some (.inl y4), some (.inl y5), none, none, none, none, none, none] [] (jxSH, a0, b)) (jQ_X12_best x1 x2 a0 b0)) := by
  refine jx_ind fun n ih => ?_
  have ih192 : ∀ (y1 y2 y4 y5 y6 y7 y9 : Int) (b : Nat → Nat → Int), (((((((y5 + 1) * 5677) + 0) + ((256 - y6) * 22)) + 0) + ((8 - y9) * 1)) + 0).toNat < n → 0 ≤ y1 → y1 ≤ 255 → 1 ≤ y4 → y4 ≤ 256 → 0 ≤ y5 → y5 ≤ 39 → 0 ≤ y6 → y6 ≤ 255 → 0 ≤ y9 → y9 ≤ 7 → jt (jxX E d 253 192 [some (.inr (.inr (.inl 146))), some (.inl y1), some (.inr (.inl y2)), none, some (.inl y4), some (.inl y5), some (.inl y6), some (.inr (.inl y7)), none, some (.inl y9), none, none] [] (jxSH, a0, b)) (jQ_X12_best x1 x2 a0 b0) := fun y1 y2 y4 y5 y6 y7 y9 b hlt i0 i1 i2 i3 i4 i5 i6 i7 i8 i9 => (ih _ hlt).1 y1 y2 y4 y5 y6 y7 y9 b (Nat.le_refl _) i0 i1 i2 i3 i4 i5 i6 i7 i8 i9
  have ih175 : ∀ (y1 y2 y4 y5 y6 y7 y9 y10 : Int) (b : Nat → Nat → Int), (((((((y5 + 1) * 5677) + 0) + ((256 - y6) * 22)) + 0) + ((8 - y9) * 1)) + 0).toNat < n → 0 ≤ y1 → y1 ≤ 255 → 1 ≤ y4 → y4 ≤ 256 → 0 ≤ y5 → y5 ≤ 39 → 0 ≤ y6 → y6 ≤ 255 → 0 ≤ y9 → y9 ≤ 7 → jt (jxX E d 253 175 [some (.inr (.inr (.inl 146))), some (.inl y1), some (.inr (.inl y2)), none, some (.inl y4), some (.inl y5), some (.inl y6), some (.inr (.inl y7)), none, some (.inl y9), some (.inr (.inl y10)), none] [] (jxSH, a0, b)) (jQ_X12_best x1 x2 a0 b0) := fun y1 y2 y4 y5 y6 y7 y9 y10 b hlt i0 i1 i2 i3 i4 i5 i6 i7 i8 i9 => (ih _ hlt).2.1 y1 y2 y4 y5 y6 y7 y9 y10 b (Nat.le_refl _) i0 i1 i2 i3 i4 i5 i6 i7 i8 i9
  have ih115 : ∀ (y1 y2 y4 y5 y6 y7 y9 : Int) (b : Nat → Nat → Int), (((((((y5 + 1) * 5677) + 0) + ((256 - y6) * 22)) + 0) + ((8 - y9) * 1)) + 0).toNat < n → 0 ≤ y1 → y1 ≤ 255 → 1 ≤ y4 → y4 ≤ 256 → 0 ≤ y5 → y5 ≤ 39 → 0 ≤ y6 → y6 ≤ 255 → 0 ≤ y9 → y9 ≤ 7 → jt (jxX E d 253 115 [some (.inr (.inr (.inl 146))), some (.inl y1), some (.inr (.inl y2)), none, some (.inl y4), some (.inl y5), some (.inl y6), some (.inr (.inl y7)), none, some (.inl y9), none, none] [] (jxSH, a0, b)) (jQ_X12_best x1 x2 a0 b0) := fun y1 y2 y4 y5 y6 y7 y9 b hlt i0 i1 i2 i3 i4 i5 i6 i7 i8 i9 => (ih _ hlt).2.2.1 y1 y2 y4 y5 y6 y7 y9 b (Nat.le_refl _) i0 i1 i2 i3 i4 i5 i6 i7 i8 i9
  have ih217 : ∀ (y1 y2 y4 y5 y6 : Int) (b : Nat → Nat → Int), (((((y5 + 1) * 5677) + 0) + ((256 - y6) * 22)) + 11).toNat < n → 0 ≤ y1 → y1 ≤ 255 → 1 ≤ y4 → y4 ≤ 256 → 0 ≤ y5 → y5 ≤ 39 → 1 ≤ y6 → y6 ≤ 256 → jt (jxX E d 253 217 [some (.inr (.inr (.inl 146))), some (.inl y1), some (.inr (.inl y2)), none, some (.inl y4), some (.inl y5), some (.inl y6), none, none, none, none, none] [] (jxSH, a0, b)) (jQ_X12_best x1 x2 a0 b0) := fun y1 y2 y4 y5 y6 b hlt i0 i1 i2 i3 i4 i5 i6 i7 => (ih _ hlt).2.2.2.1 y1 y2 y4 y5 y6 b (Nat.le_refl _) i0 i1 i2 i3 i4 i5 i6 i7
  have ih85 : ∀ (y1 y2 y4 y5 y6 y7 y9 : Int) (b : Nat → Nat → Int), (((((((y5 + 1) * 5677) + 0) + ((256 - y6) * 22)) + 0) + ((8 - y9) * 1)) + 0).toNat < n → 0 ≤ y1 → y1 ≤ 255 → 1 ≤ y4 → y4 ≤ 256 → 0 ≤ y5 → y5 ≤ 39 → 0 ≤ y6 → y6 ≤ 255 → 0 ≤ y9 → y9 ≤ 8 → jt (jxX E d 253 85 [some (.inr (.inr (.inl 146))), some (.inl y1), some (.inr (.inl y2)), none, some (.inl y4), some (.inl y5), some (.inl y6), some (.inr (.inl y7)), none, some (.inl y9), none, none] [] (jxSH, a0, b)) (jQ_X12_best x1 x2 a0 b0) := fun y1 y2 y4 y5 y6 y7 y9 b hlt i0 i1 i2 i3 i4 i5 i6 i7 i8 i9 => (ih _ hlt).2.2.2.2.1 y1 y2 y4 y5 y6 y7 y9 b (Nat.le_refl _) i0 i1 i2 i3 i4 i5 i6 i7 i8 i9
  have ih82 : ∀ (y1 y2 y4 y5 y6 y7 : Int) (b : Nat → Nat → Int), (((((y5 + 1) * 5677) + 0) + ((256 - y6) * 22)) + 10).toNat < n → 0 ≤ y1 → y1 ≤ 255 → 1 ≤ y4 → y4 ≤ 256 → 0 ≤ y5 → y5 ≤ 39 → 0 ≤ y6 → y6 ≤ 255 → jt (jxX E d 253 82 [some (.inr (.inr (.inl 146))), some (.inl y1), some (.inr (.inl y2)), none, some (.inl y4), some (.inl y5), some (.inl y6), some (.inr (.inl y7)), none, none, none, none] [] (jxSH, a0, b)) (jQ_X12_best x1 x2 a0 b0) := fun y1 y2 y4 y5 y6 y7 b hlt i0 i1 i2 i3 i4 i5 i6 i7 => (ih _ hlt).2.2.2.2.2.1 y1 y2 y4 y5 y6 y7 b (Nat.le_refl _) i0 i1 i2 i3 i4 i5 i6 i7
  have ih57 : ∀ (y1 y2 y4 y5 y6 : Int) (b : Nat → Nat → Int), (((((y5 + 1) * 5677) + 0) + ((256 - y6) * 22)) + 10).toNat < n → 0 ≤ y1 → y1 ≤ 255 → 1 ≤ y4 → y4 ≤ 256 → 0 ≤ y5 → y5 ≤ 39 → 0 ≤ y6 → y6 ≤ 256 → jt (jxX E d 253 57 [some (.inr (.inr (.inl 146))), some (.inl y1), some (.inr (.inl y2)), none, some (.inl y4), some (.inl y5), some (.inl y6), none, none, none, none, none] [] (jxSH, a0, b)) (jQ_X12_best x1 x2 a0 b0) := fun y1 y2 y4 y5 y6 b hlt i0 i1 i2 i3 i4 i5 i6 i7 => (ih _ hlt).2.2.2.2.2.2.1 y1 y2 y4 y5 y6 b (Nat.le_refl _) i0 i1 i2 i3 i4 i5 i6 i7
  have ih49 : ∀ (y1 y2 y4 y5 : Int) (b : Nat → Nat → Int), (((y5 + 1) * 5677) + 5676).toNat < n → 0 ≤ y1 → y1 ≤ 255 → 1 ≤ y4 → y4 ≤ 256 → 0 - 1 ≤ y5 → y5 ≤ 39 → jt (jxX E d 253 49 [some (.inr (.inr (.inl 146))), some (.inl y1), some (.inr (.inl y2)), none, some (.inl y4), some (.inl y5), none, none, none, none, none, none] [] (jxSH, a0, b)) (jQ_X12_best x1 x2 a0 b0) := fun y1 y2 y4 y5 b hlt i0 i1 i2 i3 i4 i5 => (ih _ hlt).2.2.2.2.2.2.2 y1 y2 y4 y5 b (Nat.le_refl _) i0 i1 i2 i3 i4 i5
  have hc192 : ∀ (y1 y2 y4 y5 y6 y7 y9 : Int) (b : Nat → Nat → Int), (((((((y5 + 1) * 5677) + 0) + ((256 - y6) * 22)) + 0) + ((8 - y9) * 1)) + 0).toNat ≤ n → 0 ≤ y1 → y1 ≤ 255 → 1 ≤ y4 → y4 ≤ 256 → 0 ≤ y5 → y5 ≤ 39 → 0 ≤ y6 → y6 ≤ 255 → 0 ≤ y9 → y9 ≤ 7 → jt (jxX E d 253 192 [some (.inr (.inr (.inl 146))), some (.inl y1), some (.inr (.inl y2)), none, some (.inl y4), some (.inl y5), some (.inl y6), some (.inr (.inl y7)), none, some (.inl y9), none, none] [] (jxSH, a0, b)) (jQ_X12_best x1 x2 a0 b0) := by
    intro y1 y2 y4 y5 y6 y7 y9 b hm hi0 hi1 hi2 hi3 hi4 hi5 hi6 hi7 hi8 hi9
    refine jt_eq (bq_X12_best_192 E d y1 y2 y4 y5 y6 y7 y9 a0 b) ?_
    have h62_ : jxw (y9 + 1) = y9 + 1 := jxw_id (by omega) (by omega)
    exact ih85 y1 y2 y4 y5 y6 y7 (jxw (y9 + 1)) b (show (((((((y5 + 1) * 5677) + 0) + ((256 - y6) * 22)) + 0) + ((8 - (jxw (y9 + 1))) * 1)) + 0).toNat < n from by omega) (show 0 ≤ y1 from by omega) (show y1 ≤ 255 from by omega) (show 1 ≤ y4 from by omega) (show y4 ≤ 256 from by omega) (show 0 ≤ y5 from by omega) (show y5 ≤ 39 from by omega) (show 0 ≤ y6 from by omega) (show y6 ≤ 255 from by omega) (show 0 ≤ jxw (y9 + 1) from by omega) (show jxw (y9 + 1) ≤ 8 from by omega)
  have hc175 : ∀ (y1 y2 y4 y5 y6 y7 y9 y10 : Int) (b : Nat → Nat → Int), (((((((y5 + 1) * 5677) + 0) + ((256 - y6) * 22)) + 0) + ((8 - y9) * 1)) + 0).toNat ≤ n → 0 ≤ y1 → y1 ≤ 255 → 1 ≤ y4 → y4 ≤ 256 → 0 ≤ y5 → y5 ≤ 39 → 0 ≤ y6 → y6 ≤ 255 → 0 ≤ y9 → y9 ≤ 7 → jt (jxX E d 253 175 [some (.inr (.inr (.inl 146))), some (.inl y1), some (.inr (.inl y2)), none, some (.inl y4), some (.inl y5), some (.inl y6), some (.inr (.inl y7)), none, some (.inl y9), some (.inr (.inl y10)), none] [] (jxSH, a0, b)) (jQ_X12_best x1 x2 a0 b0) := by
    intro y1 y2 y4 y5 y6 y7 y9 y10 b hm hi0 hi1 hi2 hi3 hi4 hi5 hi6 hi7 hi8 hi9
    refine jt_eq (bq_X12_best_175 E d y1 y2 y4 y5 y6 y7 y9 y10 a0 b) ?_
    have h63_ := jxlcmp_b y10 y7
    refine jt_ite (fun c64_ => ?_) (fun c64_ => ?_)
    ·
      exact hc192 y1 y2 y4 y5 y6 y10 y9 b (show (((((((y5 + 1) * 5677) + 0) + ((256 - y6) * 22)) + 0) + ((8 - y9) * 1)) + 0).toNat ≤ n from by omega) (show 0 ≤ y1 from by omega) (show y1 ≤ 255 from by omega) (show 1 ≤ y4 from by omega) (show y4 ≤ 256 from by omega) (show 0 ≤ y5 from by omega) (show y5 ≤ 39 from by omega) (show 0 ≤ y6 from by omega) (show y6 ≤ 255 from by omega) (show 0 ≤ y9 from by omega) (show y9 ≤ 7 from by omega)
    ·
      exact hc192 y1 y2 y4 y5 y6 y7 y9 b (show (((((((y5 + 1) * 5677) + 0) + ((256 - y6) * 22)) + 0) + ((8 - y9) * 1)) + 0).toNat ≤ n from by omega) (show 0 ≤ y1 from by omega) (show y1 ≤ 255 from by omega) (show 1 ≤ y4 from by omega) (show y4 ≤ 256 from by omega) (show 0 ≤ y5 from by omega) (show y5 ≤ 39 from by omega) (show 0 ≤ y6 from by omega) (show y6 ≤ 255 from by omega) (show 0 ≤ y9 from by omega) (show y9 ≤ 7 from by omega)
  have hc115 : ∀ (y1 y2 y4 y5 y6 y7 y9 : Int) (b : Nat → Nat → Int), (((((((y5 + 1) * 5677) + 0) + ((256 - y6) * 22)) + 0) + ((8 - y9) * 1)) + 0).toNat ≤ n → 0 ≤ y1 → y1 ≤ 255 → 1 ≤ y4 → y4 ≤ 256 → 0 ≤ y5 → y5 ≤ 39 → 0 ≤ y6 → y6 ≤ 255 → 0 ≤ y9 → y9 ≤ 7 → jt (jxX E d 253 115 [some (.inr (.inr (.inl 146))), some (.inl y1), some (.inr (.inl y2)), none, some (.inl y4), some (.inl y5), some (.inl y6), some (.inr (.inl y7)), none, some (.inl y9), none, none] [] (jxSH, a0, b)) (jQ_X12_best x1 x2 a0 b0) := by
    intro y1 y2 y4 y5 y6 y7 y9 b hm hi0 hi1 hi2 hi3 hi4 hi5 hi6 hi7 hi8 hi9
    refine jt_eq (bq_X12_best_115 E d y1 y2 y4 y5 y6 y7 y9 a0 b) ?_
    have h65_ : jxw (40 * y9) = 40 * y9 := jxw_id (by omega) (by omega)
    have h66_ : jxw ((jxw (40 * y9)) + y5) = (jxw (40 * y9)) + y5 := jxw_id (by omega) (by omega)
    refine jt_grd (by omega) ?_
    have h67_ := jxlcmp_b (b 175 ((jxw ((jxw (40 * y9)) + y5)).toNat)) (-4000000000000000000)
    refine jt_ite (fun c68_ => ?_) (fun c68_ => ?_)
    ·
      exact hc192 y1 y2 y4 y5 y6 y7 y9 b (show (((((((y5 + 1) * 5677) + 0) + ((256 - y6) * 22)) + 0) + ((8 - y9) * 1)) + 0).toNat ≤ n from by omega) (show 0 ≤ y1 from by omega) (show y1 ≤ 255 from by omega) (show 1 ≤ y4 from by omega) (show y4 ≤ 256 from by omega) (show 0 ≤ y5 from by omega) (show y5 ≤ 39 from by omega) (show 0 ≤ y6 from by omega) (show y6 ≤ 255 from by omega) (show 0 ≤ y9 from by omega) (show y9 ≤ 7 from by omega)
    ·
      refine jt_grd (by omega) ?_
      have h69_ : jxw (y5 + 1) = y5 + 1 := jxw_id (by omega) (by omega)
      have h70_ : jxw (256 * (jxw (y5 + 1))) = 256 * (jxw (y5 + 1)) := jxw_id (by omega) (by omega)
      have h71_ := jxshl1_b y9
      have h72_ := jxxor_b y6 (jxshl 1 y9)
      have h73_ : jxw ((jxw (256 * (jxw (y5 + 1)))) + (jxxor y6 (jxshl 1 y9))) = (jxw (256 * (jxw (y5 + 1)))) + (jxxor y6 (jxshl 1 y9)) := jxw_id (by omega) (by omega)
      refine jt_grd (by omega) ?_
      exact hc175 y1 y2 y4 y5 y6 y7 y9 (jxwl ((b 175 ((jxw ((jxw (40 * y9)) + y5)).toNat)) + (b 177 ((jxw ((jxw (256 * (jxw (y5 + 1)))) + (jxxor y6 (jxshl 1 y9)))).toNat)))) b (show (((((((y5 + 1) * 5677) + 0) + ((256 - y6) * 22)) + 0) + ((8 - y9) * 1)) + 0).toNat ≤ n from by omega) (show 0 ≤ y1 from by omega) (show y1 ≤ 255 from by omega) (show 1 ≤ y4 from by omega) (show y4 ≤ 256 from by omega) (show 0 ≤ y5 from by omega) (show y5 ≤ 39 from by omega) (show 0 ≤ y6 from by omega) (show y6 ≤ 255 from by omega) (show 0 ≤ y9 from by omega) (show y9 ≤ 7 from by omega)
  have hc217 : ∀ (y1 y2 y4 y5 y6 : Int) (b : Nat → Nat → Int), (((((y5 + 1) * 5677) + 0) + ((256 - y6) * 22)) + 11).toNat ≤ n → 0 ≤ y1 → y1 ≤ 255 → 1 ≤ y4 → y4 ≤ 256 → 0 ≤ y5 → y5 ≤ 39 → 1 ≤ y6 → y6 ≤ 256 → jt (jxX E d 253 217 [some (.inr (.inr (.inl 146))), some (.inl y1), some (.inr (.inl y2)), none, some (.inl y4), some (.inl y5), some (.inl y6), none, none, none, none, none] [] (jxSH, a0, b)) (jQ_X12_best x1 x2 a0 b0) := by
    intro y1 y2 y4 y5 y6 b hm hi0 hi1 hi2 hi3 hi4 hi5 hi6 hi7
    refine jt_eq (bq_X12_best_217 E d y1 y2 y4 y5 y6 a0 b) ?_
    exact ih57 y1 y2 y4 y5 y6 b (show (((((y5 + 1) * 5677) + 0) + ((256 - y6) * 22)) + 10).toNat < n from by omega) (show 0 ≤ y1 from by omega) (show y1 ≤ 255 from by omega) (show 1 ≤ y4 from by omega) (show y4 ≤ 256 from by omega) (show 0 ≤ y5 from by omega) (show y5 ≤ 39 from by omega) (show 0 ≤ y6 from by omega) (show y6 ≤ 256 from by omega)
  have hc85 : ∀ (y1 y2 y4 y5 y6 y7 y9 : Int) (b : Nat → Nat → Int), (((((((y5 + 1) * 5677) + 0) + ((256 - y6) * 22)) + 0) + ((8 - y9) * 1)) + 0).toNat ≤ n → 0 ≤ y1 → y1 ≤ 255 → 1 ≤ y4 → y4 ≤ 256 → 0 ≤ y5 → y5 ≤ 39 → 0 ≤ y6 → y6 ≤ 255 → 0 ≤ y9 → y9 ≤ 8 → jt (jxX E d 253 85 [some (.inr (.inr (.inl 146))), some (.inl y1), some (.inr (.inl y2)), none, some (.inl y4), some (.inl y5), some (.inl y6), some (.inr (.inl y7)), none, some (.inl y9), none, none] [] (jxSH, a0, b)) (jQ_X12_best x1 x2 a0 b0) := by
    intro y1 y2 y4 y5 y6 y7 y9 b hm hi0 hi1 hi2 hi3 hi4 hi5 hi6 hi7 hi8 hi9
    refine jt_eq (bq_X12_best_85 E d y1 y2 y4 y5 y6 y7 y9 a0 b) ?_
    have h74_ := iv_get hv0 (k := 146) (j := 44) (l := 0) (u := 8) rfl
    refine jt_ite (fun c75_ => ?_) (fun c75_ => ?_)
    ·
      have h76_ := jxshr_b y6 y9
      have h77_ := jxand_r (jxshr y6 y9) 1 (by decide) (by decide)
      refine jt_ite (fun c78_ => ?_) (fun c78_ => ?_)
      ·
        exact hc192 y1 y2 y4 y5 y6 y7 y9 b (show (((((((y5 + 1) * 5677) + 0) + ((256 - y6) * 22)) + 0) + ((8 - y9) * 1)) + 0).toNat ≤ n from by omega) (show 0 ≤ y1 from by omega) (show y1 ≤ 255 from by omega) (show 1 ≤ y4 from by omega) (show y4 ≤ 256 from by omega) (show 0 ≤ y5 from by omega) (show y5 ≤ 39 from by omega) (show 0 ≤ y6 from by omega) (show y6 ≤ 255 from by omega) (show 0 ≤ y9 from by omega) (show y9 ≤ 7 from by omega)
      ·
        have h79_ := jxlcmp_b (jxandl (jxshrl y2 y5) 1) 1
        refine jt_ite (fun c80_ => ?_) (fun c80_ => ?_)
        ·
          exact hc192 y1 y2 y4 y5 y6 y7 y9 b (show (((((((y5 + 1) * 5677) + 0) + ((256 - y6) * 22)) + 0) + ((8 - y9) * 1)) + 0).toNat ≤ n from by omega) (show 0 ≤ y1 from by omega) (show y1 ≤ 255 from by omega) (show 1 ≤ y4 from by omega) (show y4 ≤ 256 from by omega) (show 0 ≤ y5 from by omega) (show y5 ≤ 39 from by omega) (show 0 ≤ y6 from by omega) (show y6 ≤ 255 from by omega) (show 0 ≤ y9 from by omega) (show y9 ≤ 7 from by omega)
        ·
          exact hc115 y1 y2 y4 y5 y6 y7 y9 b (show (((((((y5 + 1) * 5677) + 0) + ((256 - y6) * 22)) + 0) + ((8 - y9) * 1)) + 0).toNat ≤ n from by omega) (show 0 ≤ y1 from by omega) (show y1 ≤ 255 from by omega) (show 1 ≤ y4 from by omega) (show y4 ≤ 256 from by omega) (show 0 ≤ y5 from by omega) (show y5 ≤ 39 from by omega) (show 0 ≤ y6 from by omega) (show y6 ≤ 255 from by omega) (show 0 ≤ y9 from by omega) (show y9 ≤ 7 from by omega)
    ·
      have h81_ : jxw (256 * y5) = 256 * y5 := jxw_id (by omega) (by omega)
      have h82_ : jxw ((jxw (256 * y5)) + y6) = (jxw (256 * y5)) + y6 := jxw_id (by omega) (by omega)
      refine jt_grd (by omega) ?_
      have h83_ : jxw (y6 + 1) = y6 + 1 := jxw_id (by omega) (by omega)
      exact hc217 y1 y2 y4 y5 (jxw (y6 + 1)) (jxu b 177 ((jxw ((jxw (256 * y5)) + y6)).toNat) y7) (show (((((y5 + 1) * 5677) + 0) + ((256 - (jxw (y6 + 1))) * 22)) + 11).toNat ≤ n from by omega) (show 0 ≤ y1 from by omega) (show y1 ≤ 255 from by omega) (show 1 ≤ y4 from by omega) (show y4 ≤ 256 from by omega) (show 0 ≤ y5 from by omega) (show y5 ≤ 39 from by omega) (show 1 ≤ jxw (y6 + 1) from by omega) (show jxw (y6 + 1) ≤ 256 from by omega)
  have hc82 : ∀ (y1 y2 y4 y5 y6 y7 : Int) (b : Nat → Nat → Int), (((((y5 + 1) * 5677) + 0) + ((256 - y6) * 22)) + 10).toNat ≤ n → 0 ≤ y1 → y1 ≤ 255 → 1 ≤ y4 → y4 ≤ 256 → 0 ≤ y5 → y5 ≤ 39 → 0 ≤ y6 → y6 ≤ 255 → jt (jxX E d 253 82 [some (.inr (.inr (.inl 146))), some (.inl y1), some (.inr (.inl y2)), none, some (.inl y4), some (.inl y5), some (.inl y6), some (.inr (.inl y7)), none, none, none, none] [] (jxSH, a0, b)) (jQ_X12_best x1 x2 a0 b0) := by
    intro y1 y2 y4 y5 y6 y7 b hm hi0 hi1 hi2 hi3 hi4 hi5 hi6 hi7
    refine jt_eq (bq_X12_best_82 E d y1 y2 y4 y5 y6 y7 a0 b) ?_
    exact hc85 y1 y2 y4 y5 y6 y7 0 b (show (((((((y5 + 1) * 5677) + 0) + ((256 - y6) * 22)) + 0) + ((8 - 0) * 1)) + 0).toNat ≤ n from by omega) (show 0 ≤ y1 from by omega) (show y1 ≤ 255 from by omega) (show 1 ≤ y4 from by omega) (show y4 ≤ 256 from by omega) (show 0 ≤ y5 from by omega) (show y5 ≤ 39 from by omega) (show 0 ≤ y6 from by omega) (show y6 ≤ 255 from by omega) (show 0 ≤ 0 from by omega) (show 0 ≤ 8 from by omega)
  have hc57 : ∀ (y1 y2 y4 y5 y6 : Int) (b : Nat → Nat → Int), (((((y5 + 1) * 5677) + 0) + ((256 - y6) * 22)) + 10).toNat ≤ n → 0 ≤ y1 → y1 ≤ 255 → 1 ≤ y4 → y4 ≤ 256 → 0 ≤ y5 → y5 ≤ 39 → 0 ≤ y6 → y6 ≤ 256 → jt (jxX E d 253 57 [some (.inr (.inr (.inl 146))), some (.inl y1), some (.inr (.inl y2)), none, some (.inl y4), some (.inl y5), some (.inl y6), none, none, none, none, none] [] (jxSH, a0, b)) (jQ_X12_best x1 x2 a0 b0) := by
    intro y1 y2 y4 y5 y6 b hm hi0 hi1 hi2 hi3 hi4 hi5 hi6 hi7
    refine jt_eq (bq_X12_best_57 E d y1 y2 y4 y5 y6 a0 b) ?_
    refine jt_ite (fun c84_ => ?_) (fun c84_ => ?_)
    ·
      have h85_ : jxw (y5 + 1) = y5 + 1 := jxw_id (by omega) (by omega)
      have h86_ : jxw (256 * (jxw (y5 + 1))) = 256 * (jxw (y5 + 1)) := jxw_id (by omega) (by omega)
      have h87_ : jxw ((jxw (256 * (jxw (y5 + 1)))) + y6) = (jxw (256 * (jxw (y5 + 1)))) + y6 := jxw_id (by omega) (by omega)
      refine jt_grd (by omega) ?_
      exact hc82 y1 y2 y4 y5 y6 (b 177 ((jxw ((jxw (256 * (jxw (y5 + 1)))) + y6)).toNat)) b (show (((((y5 + 1) * 5677) + 0) + ((256 - y6) * 22)) + 10).toNat ≤ n from by omega) (show 0 ≤ y1 from by omega) (show y1 ≤ 255 from by omega) (show 1 ≤ y4 from by omega) (show y4 ≤ 256 from by omega) (show 0 ≤ y5 from by omega) (show y5 ≤ 39 from by omega) (show 0 ≤ y6 from by omega) (show y6 ≤ 255 from by omega)
    ·
      have h88_ : jxw (y5 + (-1)) = y5 + (-1) := jxw_id (by omega) (by omega)
      exact ih49 y1 y2 y4 (jxw (y5 + (-1))) b (show ((((jxw (y5 + (-1))) + 1) * 5677) + 5676).toNat < n from by omega) (show 0 ≤ y1 from by omega) (show y1 ≤ 255 from by omega) (show 1 ≤ y4 from by omega) (show y4 ≤ 256 from by omega) (show 0 - 1 ≤ jxw (y5 + (-1)) from by omega) (show jxw (y5 + (-1)) ≤ 39 from by omega)
  have hc49 : ∀ (y1 y2 y4 y5 : Int) (b : Nat → Nat → Int), (((y5 + 1) * 5677) + 5676).toNat ≤ n → 0 ≤ y1 → y1 ≤ 255 → 1 ≤ y4 → y4 ≤ 256 → 0 - 1 ≤ y5 → y5 ≤ 39 → jt (jxX E d 253 49 [some (.inr (.inr (.inl 146))), some (.inl y1), some (.inr (.inl y2)), none, some (.inl y4), some (.inl y5), none, none, none, none, none, none] [] (jxSH, a0, b)) (jQ_X12_best x1 x2 a0 b0) := by
    intro y1 y2 y4 y5 b hm hi0 hi1 hi2 hi3 hi4 hi5
    refine jt_eq (bq_X12_best_49 E d y1 y2 y4 y5 a0 b) ?_
    refine jt_ite (fun c89_ => ?_) (fun c89_ => ?_)
    ·
      refine jt_grd (by omega) ?_
      exact jt_rJ rfl
    ·
      exact hc57 y1 y2 y4 y5 0 b (show (((((y5 + 1) * 5677) + 0) + ((256 - 0) * 22)) + 10).toNat ≤ n from by omega) (show 0 ≤ y1 from by omega) (show y1 ≤ 255 from by omega) (show 1 ≤ y4 from by omega) (show y4 ≤ 256 from by omega) (show 0 ≤ y5 from by omega) (show y5 ≤ 39 from by omega) (show 0 ≤ 0 from by omega) (show 0 ≤ 256 from by omega)
  exact ⟨hc192, hc175, hc115, hc217, hc85, hc82, hc57, hc49⟩
theorem cp_X12_best_11 (E : jxE) (d : Nat) (hd : Nat.ble 1 (d + 1) = true) (x1 x2 : Int) (a0 b0 : Nat → Nat → Int) (hv0 : iv a0) (hp0 : (0 ≤ x1 ∧ x1 ≤ 255)) : ∀ n : Nat, (∀ (y1 y2 y4 y5 : Int) (b : Nat → Nat → Int), (((256 - y5) * 2) + 1).toNat ≤ n → 0 ≤ y1 → y1 ≤ 255 → 1 ≤ y4 → y4 ≤ 256 → 1 ≤ y5 → y5 ≤ 256 → jt (jxX E d 253 38 [some (.inr (.inr (.inl 146))), some (.inl y1), some (.inr (.inl y2)), none, some (.inl y4), some (.inl y5), none, none, none, none, none, none] [] (jxSH, a0, b)) (jQ_X12_best x1 x2 a0 b0)) ∧ (∀ (y1 y2 y4 y5 : Int) (b : Nat → Nat → Int), (((256 - y5) * 2) + 0).toNat ≤ n → 0 ≤ y1 → y1 ≤ 255 → 1 ≤ y4 → y4 ≤ 256 → 0 ≤ y5 → y5 ≤ 256 → jt (jxX E d 253 11 [some (.inr (.inr (.inl 146))), some (.inl y1), some (.inr (.inl y2)), none, some (.inl y4), some (.inl y5), none, none, none, none, none, none] [] (jxSH, a0, b)) (jQ_X12_best x1 x2 a0 b0)) := by
  refine jx_ind fun n ih => ?_
  have ih38 : ∀ (y1 y2 y4 y5 : Int) (b : Nat → Nat → Int), (((256 - y5) * 2) + 1).toNat < n → 0 ≤ y1 → y1 ≤ 255 → 1 ≤ y4 → y4 ≤ 256 → 1 ≤ y5 → y5 ≤ 256 → jt (jxX E d 253 38 [some (.inr (.inr (.inl 146))), some (.inl y1), some (.inr (.inl y2)), none, some (.inl y4), some (.inl y5), none, none, none, none, none, none] [] (jxSH, a0, b)) (jQ_X12_best x1 x2 a0 b0) := fun y1 y2 y4 y5 b hlt i0 i1 i2 i3 i4 i5 => (ih _ hlt).1 y1 y2 y4 y5 b (Nat.le_refl _) i0 i1 i2 i3 i4 i5
  have ih11 : ∀ (y1 y2 y4 y5 : Int) (b : Nat → Nat → Int), (((256 - y5) * 2) + 0).toNat < n → 0 ≤ y1 → y1 ≤ 255 → 1 ≤ y4 → y4 ≤ 256 → 0 ≤ y5 → y5 ≤ 256 → jt (jxX E d 253 11 [some (.inr (.inr (.inl 146))), some (.inl y1), some (.inr (.inl y2)), none, some (.inl y4), some (.inl y5), none, none, none, none, none, none] [] (jxSH, a0, b)) (jQ_X12_best x1 x2 a0 b0) := fun y1 y2 y4 y5 b hlt i0 i1 i2 i3 i4 i5 => (ih _ hlt).2 y1 y2 y4 y5 b (Nat.le_refl _) i0 i1 i2 i3 i4 i5
  have hc38 : ∀ (y1 y2 y4 y5 : Int) (b : Nat → Nat → Int), (((256 - y5) * 2) + 1).toNat ≤ n → 0 ≤ y1 → y1 ≤ 255 → 1 ≤ y4 → y4 ≤ 256 → 1 ≤ y5 → y5 ≤ 256 → jt (jxX E d 253 38 [some (.inr (.inr (.inl 146))), some (.inl y1), some (.inr (.inl y2)), none, some (.inl y4), some (.inl y5), none, none, none, none, none, none] [] (jxSH, a0, b)) (jQ_X12_best x1 x2 a0 b0) := by
    intro y1 y2 y4 y5 b hm hi0 hi1 hi2 hi3 hi4 hi5
    refine jt_eq (bq_X12_best_38 E d y1 y2 y4 y5 a0 b) ?_
    exact ih11 y1 y2 y4 y5 b (show (((256 - y5) * 2) + 0).toNat < n from by omega) (show 0 ≤ y1 from by omega) (show y1 ≤ 255 from by omega) (show 1 ≤ y4 from by omega) (show y4 ≤ 256 from by omega) (show 0 ≤ y5 from by omega) (show y5 ≤ 256 from by omega)
  have hc11 : ∀ (y1 y2 y4 y5 : Int) (b : Nat → Nat → Int), (((256 - y5) * 2) + 0).toNat ≤ n → 0 ≤ y1 → y1 ≤ 255 → 1 ≤ y4 → y4 ≤ 256 → 0 ≤ y5 → y5 ≤ 256 → jt (jxX E d 253 11 [some (.inr (.inr (.inl 146))), some (.inl y1), some (.inr (.inl y2)), none, some (.inl y4), some (.inl y5), none, none, none, none, none, none] [] (jxSH, a0, b)) (jQ_X12_best x1 x2 a0 b0) := by
    intro y1 y2 y4 y5 b hm hi0 hi1 hi2 hi3 hi4 hi5
    refine jt_eq (bq_X12_best_11 E d y1 y2 y4 y5 a0 b) ?_
    refine jt_ite (fun c90_ => ?_) (fun c90_ => ?_)
    ·
      have h91_ := iv_get hv0 (k := 146) (j := 2) (l := 0) (u := 40) rfl
      have h92_ : jxw (256 * (a0 146 2)) = 256 * (a0 146 2) := jxw_id (by omega) (by omega)
      have h93_ : jxw ((jxw (256 * (a0 146 2))) + y5) = (jxw (256 * (a0 146 2))) + y5 := jxw_id (by omega) (by omega)
      refine jt_grd (by omega) ?_
      have h94_ : jxw (y5 + 1) = y5 + 1 := jxw_id (by omega) (by omega)
      exact hc38 y1 y2 y4 (jxw (y5 + 1)) (jxu b 177 ((jxw ((jxw (256 * (a0 146 2))) + y5)).toNat) 0) (show (((256 - (jxw (y5 + 1))) * 2) + 1).toNat ≤ n from by omega) (show 0 ≤ y1 from by omega) (show y1 ≤ 255 from by omega) (show 1 ≤ y4 from by omega) (show y4 ≤ 256 from by omega) (show 1 ≤ jxw (y5 + 1) from by omega) (show jxw (y5 + 1) ≤ 256 from by omega)
    ·
      have h95_ := iv_get hv0 (k := 146) (j := 2) (l := 0) (u := 40) rfl
      have h96_ : jxw ((a0 146 2) - 1) = (a0 146 2) - 1 := jxw_id (by omega) (by omega)
      exact (cp_X12_best_49 E d hd x1 x2 a0 b0 hv0 hp0 _).2.2.2.2.2.2.2 y1 y2 y4 (jxw ((a0 146 2) - 1)) b (Nat.le_refl _) (show 0 ≤ y1 from by omega) (show y1 ≤ 255 from by omega) (show 1 ≤ y4 from by omega) (show y4 ≤ 256 from by omega) (show 0 - 1 ≤ jxw ((a0 146 2) - 1) from by omega) (show jxw ((a0 146 2) - 1) ≤ 39 from by omega)
  exact ⟨hc38, hc11⟩
theorem sp_X12_best (E : jxE) (d : Nat) (hd : Nat.ble 1 d = true) (x1 x2 : Int) (a0 b0 : Nat → Nat → Int) (hv0 : iv a0) (hp0 : (0 ≤ x1 ∧ x1 ≤ 255)) : jt (jxC E d 253 [.inr (.inr (.inl 146)), .inl x1, .inr (.inl x2)] (jxSH, a0, b0)) (jQ_X12_best x1 x2 a0 b0) := by
  obtain ⟨d, rfl⟩ := jd_succ hd
  refine jt_eq (bq_X12_best E d x1 x2 a0 b0) ?_
  have h97_ := iv_get hv0 (k := 146) (j := 44) (l := 0) (u := 8) rfl
  have h98_ := jxshl1_b (a0 146 44)
  exact (cp_X12_best_11 E d hd x1 x2 a0 b0 hv0 hp0 _).2 x1 x2 (jxshl 1 (a0 146 44)) 0 b0 (Nat.le_refl _) (show 0 ≤ x1 from by omega) (show x1 ≤ 255 from by omega) (show 1 ≤ jxshl 1 (a0 146 44) from by omega) (show jxshl 1 (a0 146 44) ≤ 256 from by omega) (show 0 ≤ 0 from by omega) (show 0 ≤ 256 from by omega)
def jW_X12_weighs : List (Nat × Nat) := [(146, 44), (170, 9999), (174, 9999)]
abbrev jQ_X12_weighs (a0 b0 : Nat → Nat → Int) : List jxV → (Nat → Nat → Int) → (Nat → Nat → Int) → Prop := rV (fun a b => (iv a) ∧ (jfr jW_X12_weighs a0 a) ∧ (a 146 44 ≤ a 146 42))
theorem cp_X12_weighs_64 (E : jxE) (d : Nat) (hd : Nat.ble 8 (d + 1) = true) (a0 b0 : Nat → Nat → Int) (hv0 : iv a0) (hp0 : WFW a0) (hp1 : WISHR a0) : ∀ n : Nat, (∀ (y1 y2 : Int) (a b : Nat → Nat → Int), (((((8 - y1) * 43) + 0) + ((40 - y2) * 1)) + 0).toNat ≤ n → iv a → jfr jW_X12_weighs a0 a → 0 ≤ y1 → y1 ≤ 7 → 0 ≤ y2 → y2 ≤ 39 → 1 ≤ a 146 2 → 1 ≤ a 146 44 → a 146 44 ≤ a 146 42 → jt (jxX E d 254 142 [some (.inr (.inr (.inl 146))), some (.inl y1), some (.inl y2), none] [] (jxSH, a, b)) (jQ_X12_weighs a0 b0)) ∧ (∀ (y1 y2 : Int) (a b : Nat → Nat → Int), (((((8 - y1) * 43) + 0) + ((40 - y2) * 1)) + 0).toNat ≤ n → iv a → jfr jW_X12_weighs a0 a → 0 ≤ y1 → y1 ≤ 7 → 0 ≤ y2 → y2 ≤ 40 → 1 ≤ a 146 44 → a 146 44 ≤ a 146 42 → jt (jxX E d 254 74 [some (.inr (.inr (.inl 146))), some (.inl y1), some (.inl y2), none] [] (jxSH, a, b)) (jQ_X12_weighs a0 b0)) ∧ (∀ (y1 : Int) (a b : Nat → Nat → Int), (((8 - y1) * 43) + 42).toNat ≤ n → iv a → jfr jW_X12_weighs a0 a → 0 ≤ y1 → y1 ≤ 8 → a 146 44 ≤ a 146 42 → jt (jxX E d 254 64 [some (.inr (.inr (.inl 146))), some (.inl y1), none, none] [] (jxSH, a, b)) (jQ_X12_weighs a0 b0)) := by
  refine jx_ind fun n ih => ?_
  have ih142 : ∀ (y1 y2 : Int) (a b : Nat → Nat → Int), (((((8 - y1) * 43) + 0) + ((40 - y2) * 1)) + 0).toNat < n → iv a → jfr jW_X12_weighs a0 a → 0 ≤ y1 → y1 ≤ 7 → 0 ≤ y2 → y2 ≤ 39 → 1 ≤ a 146 2 → 1 ≤ a 146 44 → a 146 44 ≤ a 146 42 → jt (jxX E d 254 142 [some (.inr (.inr (.inl 146))), some (.inl y1), some (.inl y2), none] [] (jxSH, a, b)) (jQ_X12_weighs a0 b0) := fun y1 y2 a b hlt i0 i1 i2 i3 i4 i5 i6 i7 i8 => (ih _ hlt).1 y1 y2 a b (Nat.le_refl _) i0 i1 i2 i3 i4 i5 i6 i7 i8
  have ih74 : ∀ (y1 y2 : Int) (a b : Nat → Nat → Int), (((((8 - y1) * 43) + 0) + ((40 - y2) * 1)) + 0).toNat < n → iv a → jfr jW_X12_weighs a0 a → 0 ≤ y1 → y1 ≤ 7 → 0 ≤ y2 → y2 ≤ 40 → 1 ≤ a 146 44 → a 146 44 ≤ a 146 42 → jt (jxX E d 254 74 [some (.inr (.inr (.inl 146))), some (.inl y1), some (.inl y2), none] [] (jxSH, a, b)) (jQ_X12_weighs a0 b0) := fun y1 y2 a b hlt i0 i1 i2 i3 i4 i5 i6 i7 => (ih _ hlt).2.1 y1 y2 a b (Nat.le_refl _) i0 i1 i2 i3 i4 i5 i6 i7
  have ih64 : ∀ (y1 : Int) (a b : Nat → Nat → Int), (((8 - y1) * 43) + 42).toNat < n → iv a → jfr jW_X12_weighs a0 a → 0 ≤ y1 → y1 ≤ 8 → a 146 44 ≤ a 146 42 → jt (jxX E d 254 64 [some (.inr (.inr (.inl 146))), some (.inl y1), none, none] [] (jxSH, a, b)) (jQ_X12_weighs a0 b0) := fun y1 a b hlt i0 i1 i2 i3 i4 => (ih _ hlt).2.2 y1 a b (Nat.le_refl _) i0 i1 i2 i3 i4
  have hc142 : ∀ (y1 y2 : Int) (a b : Nat → Nat → Int), (((((8 - y1) * 43) + 0) + ((40 - y2) * 1)) + 0).toNat ≤ n → iv a → jfr jW_X12_weighs a0 a → 0 ≤ y1 → y1 ≤ 7 → 0 ≤ y2 → y2 ≤ 39 → 1 ≤ a 146 2 → 1 ≤ a 146 44 → a 146 44 ≤ a 146 42 → jt (jxX E d 254 142 [some (.inr (.inr (.inl 146))), some (.inl y1), some (.inl y2), none] [] (jxSH, a, b)) (jQ_X12_weighs a0 b0) := by
    intro y1 y2 a b hm hv hf hi0 hi1 hi2 hi3 hi4 hi5 hi6
    refine jt_eq (bq_X12_weighs_142 E d y1 y2 a b) ?_
    have h99_ := iv_get hv (k := 146) (j := 2) (l := 0) (u := 40) rfl
    have h100_ : a 146 2 = a0 146 2 := hf 146 2 rfl
    have h101_ := iv_get hv0 (k := 146) (j := 2) (l := 0) (u := 40) rfl
    have h102_ := iv_get hv (k := 146) (j := 44) (l := 0) (u := 8) rfl
    have h103_ := iv_get hv (k := 146) (j := 42) (l := 0) (u := 8) rfl
    have h104_ : a 146 42 = a0 146 42 := hf 146 42 rfl
    have h105_ := iv_get hv0 (k := 146) (j := 42) (l := 0) (u := 8) rfl
    have h106_ : jxw (y2 + 1) = y2 + 1 := jxw_id (by omega) (by omega)
    exact ih74 y1 (jxw (y2 + 1)) a b (show (((((8 - y1) * 43) + 0) + ((40 - (jxw (y2 + 1))) * 1)) + 0).toNat < n from by omega) hv hf (show 0 ≤ y1 from by omega) (show y1 ≤ 7 from by omega) (show 0 ≤ jxw (y2 + 1) from by omega) (show jxw (y2 + 1) ≤ 40 from by omega) (show 1 ≤ a 146 44 from by omega) (show a 146 44 ≤ a 146 42 from by omega)
  have hc74 : ∀ (y1 y2 : Int) (a b : Nat → Nat → Int), (((((8 - y1) * 43) + 0) + ((40 - y2) * 1)) + 0).toNat ≤ n → iv a → jfr jW_X12_weighs a0 a → 0 ≤ y1 → y1 ≤ 7 → 0 ≤ y2 → y2 ≤ 40 → 1 ≤ a 146 44 → a 146 44 ≤ a 146 42 → jt (jxX E d 254 74 [some (.inr (.inr (.inl 146))), some (.inl y1), some (.inl y2), none] [] (jxSH, a, b)) (jQ_X12_weighs a0 b0) := by
    intro y1 y2 a b hm hv hf hi0 hi1 hi2 hi3 hi4 hi5
    refine jt_eq (bq_X12_weighs_74 E d y1 y2 a b) ?_
    have h107_ := iv_get hv (k := 146) (j := 44) (l := 0) (u := 8) rfl
    have h108_ := iv_get hv (k := 146) (j := 42) (l := 0) (u := 8) rfl
    have h109_ : a 146 42 = a0 146 42 := hf 146 42 rfl
    have h110_ := iv_get hv0 (k := 146) (j := 42) (l := 0) (u := 8) rfl
    have h111_ := iv_get hv (k := 146) (j := 2) (l := 0) (u := 40) rfl
    have h112_ : a 146 2 = a0 146 2 := hf 146 2 rfl
    have h113_ := iv_get hv0 (k := 146) (j := 2) (l := 0) (u := 40) rfl
    refine jt_ite (fun c114_ => ?_) (fun c114_ => ?_)
    ·
      refine jt_grd (by omega) ?_
      have h115_ := iv_get hv (k := 174) (j := y1.toNat) (l := 0) (u := 39) rfl
      refine jt_bI (sp_X12_mayGet E d (jd_le hd rfl) (a 174 (y1.toNat)) y2 a b hv (show (0 ≤ a 174 (y1.toNat) ∧ a 174 (y1.toNat) ≤ 39) from by omega) (show (0 ≤ y2 ∧ y2 ≤ 39) from by omega) (WFW_fr hp0 hf (fun _ => rfl) (fun _ => rfl)) (WISHR_fr hp1 hf (fun _ => rfl) (fun _ => rfl) (fun _ => rfl) (fun _ => rfl))) (fun r116_ a116_ b116_ h116_ => ?_)
      obtain ⟨hv116_, hf116_, rfl, hq116_0⟩ := h116_
      refine jt_ite (fun c117_ => ?_) (fun c117_ => ?_)
      ·
        have h118_ : jxw (40 * y1) = 40 * y1 := jxw_id (by omega) (by omega)
        have h119_ : jxw ((jxw (40 * y1)) + y2) = (jxw (40 * y1)) + y2 := jxw_id (by omega) (by omega)
        refine jt_grd (by omega) ?_
        have hf120_ : jfr jW_X12_weighs a0 a116_ := jfr_tr hf hf116_ rfl
        have h121_ := iv_get hv116_ (k := 146) (j := 2) (l := 0) (u := 40) rfl
        have h122_ : a116_ 146 2 = a 146 2 := hf116_ 146 2 rfl
        have h123_ := iv_get hv116_ (k := 146) (j := 44) (l := 0) (u := 8) rfl
        have h124_ : a116_ 146 44 = a 146 44 := hf116_ 146 44 rfl
        have h125_ := iv_get hv116_ (k := 146) (j := 42) (l := 0) (u := 8) rfl
        have h126_ : a116_ 146 42 = a 146 42 := hf116_ 146 42 rfl
        exact hc142 y1 y2 a116_ (jxu b 175 ((jxw ((jxw (40 * y1)) + y2)).toNat) (-4000000000000000000)) (show (((((8 - y1) * 43) + 0) + ((40 - y2) * 1)) + 0).toNat ≤ n from by omega) hv116_ hf120_ (show 0 ≤ y1 from by omega) (show y1 ≤ 7 from by omega) (show 0 ≤ y2 from by omega) (show y2 ≤ 39 from by omega) (show 1 ≤ a116_ 146 2 from by omega) (show 1 ≤ a116_ 146 44 from by omega) (show a116_ 146 44 ≤ a116_ 146 42 from by omega)
      ·
        refine jt_grd (by omega) ?_
        have h127_ := iv_get hv116_ (k := 174) (j := y1.toNat) (l := 0) (u := 39) rfl
        have h128_ : a116_ 174 (y1.toNat) = a 174 (y1.toNat) := hf116_ 174 (y1.toNat) rfl
        refine jt_bI (sp_X12_unhappy E d (jd_le hd rfl) (a116_ 174 (y1.toNat)) y2 a116_ b hv116_ (show (0 ≤ a116_ 174 (y1.toNat) ∧ a116_ 174 (y1.toNat) ≤ 39) from by omega) (show (0 ≤ y2 ∧ y2 ≤ 39) from by omega) (WFW_fr (WFW_fr hp0 hf (fun _ => rfl) (fun _ => rfl)) hf116_ (fun _ => rfl) (fun _ => rfl)) (WISHR_fr (WISHR_fr hp1 hf (fun _ => rfl) (fun _ => rfl) (fun _ => rfl) (fun _ => rfl)) hf116_ (fun _ => rfl) (fun _ => rfl) (fun _ => rfl) (fun _ => rfl))) (fun r129_ a129_ b129_ h129_ => ?_)
        obtain ⟨hv129_, hf129_, rfl, hq129_0, hq129_1⟩ := h129_
        refine jt_bI (sp_X12_owed E d (jd_le hd rfl) y2 a129_ b hv129_ (show (0 ≤ y2 ∧ y2 ≤ 39) from by omega)) (fun r130_ a130_ b130_ h130_ => ?_)
        obtain ⟨rfl, rfl⟩ := h130_
        have h131_ : jxw (40 * y1) = 40 * y1 := jxw_id (by omega) (by omega)
        have h132_ : jxw ((jxw (40 * y1)) + y2) = (jxw (40 * y1)) + y2 := jxw_id (by omega) (by omega)
        refine jt_grd (by omega) ?_
        have hf133_ : jfr jW_X12_weighs a0 a116_ := jfr_tr hf hf116_ rfl
        have hf134_ : jfr jW_X12_weighs a0 a129_ := jfr_tr hf133_ hf129_ rfl
        have h135_ := iv_get hv129_ (k := 146) (j := 2) (l := 0) (u := 40) rfl
        have h136_ : a129_ 146 2 = a116_ 146 2 := hf129_ 146 2 rfl
        have h137_ := iv_get hv116_ (k := 146) (j := 2) (l := 0) (u := 40) rfl
        have h138_ : a116_ 146 2 = a 146 2 := hf116_ 146 2 rfl
        have h139_ := iv_get hv129_ (k := 146) (j := 44) (l := 0) (u := 8) rfl
        have h140_ : a129_ 146 44 = a116_ 146 44 := hf129_ 146 44 rfl
        have h141_ := iv_get hv116_ (k := 146) (j := 44) (l := 0) (u := 8) rfl
        have h142_ : a116_ 146 44 = a 146 44 := hf116_ 146 44 rfl
        have h143_ := iv_get hv129_ (k := 146) (j := 42) (l := 0) (u := 8) rfl
        have h144_ : a129_ 146 42 = a116_ 146 42 := hf129_ 146 42 rfl
        have h145_ := iv_get hv116_ (k := 146) (j := 42) (l := 0) (u := 8) rfl
        have h146_ : a116_ 146 42 = a 146 42 := hf116_ 146 42 rfl
        exact hc142 y1 y2 a129_ (jxu b 175 ((jxw ((jxw (40 * y1)) + y2)).toNat) (jxwl ((jxwl (1000000000 - (jxwl (1000000 * r129_)))) + r130_))) (show (((((8 - y1) * 43) + 0) + ((40 - y2) * 1)) + 0).toNat ≤ n from by omega) hv129_ hf134_ (show 0 ≤ y1 from by omega) (show y1 ≤ 7 from by omega) (show 0 ≤ y2 from by omega) (show y2 ≤ 39 from by omega) (show 1 ≤ a129_ 146 2 from by omega) (show 1 ≤ a129_ 146 44 from by omega) (show a129_ 146 44 ≤ a129_ 146 42 from by omega)
    ·
      have h147_ : jxw (y1 + 1) = y1 + 1 := jxw_id (by omega) (by omega)
      exact ih64 (jxw (y1 + 1)) a b (show (((8 - (jxw (y1 + 1))) * 43) + 42).toNat < n from by omega) hv hf (show 0 ≤ jxw (y1 + 1) from by omega) (show jxw (y1 + 1) ≤ 8 from by omega) (show a 146 44 ≤ a 146 42 from by omega)
  have hc64 : ∀ (y1 : Int) (a b : Nat → Nat → Int), (((8 - y1) * 43) + 42).toNat ≤ n → iv a → jfr jW_X12_weighs a0 a → 0 ≤ y1 → y1 ≤ 8 → a 146 44 ≤ a 146 42 → jt (jxX E d 254 64 [some (.inr (.inr (.inl 146))), some (.inl y1), none, none] [] (jxSH, a, b)) (jQ_X12_weighs a0 b0) := by
    intro y1 a b hm hv hf hi0 hi1 hi2
    refine jt_eq (bq_X12_weighs_64 E d y1 a b) ?_
    have h148_ := iv_get hv (k := 146) (j := 44) (l := 0) (u := 8) rfl
    have h149_ := iv_get hv (k := 146) (j := 42) (l := 0) (u := 8) rfl
    have h150_ : a 146 42 = a0 146 42 := hf 146 42 rfl
    have h151_ := iv_get hv0 (k := 146) (j := 42) (l := 0) (u := 8) rfl
    refine jt_ite (fun c152_ => ?_) (fun c152_ => ?_)
    ·
      exact hc74 y1 0 a b (show (((((8 - y1) * 43) + 0) + ((40 - 0) * 1)) + 0).toNat ≤ n from by omega) hv hf (show 0 ≤ y1 from by omega) (show y1 ≤ 7 from by omega) (show 0 ≤ 0 from by omega) (show 0 ≤ 40 from by omega) (show 1 ≤ a 146 44 from by omega) (show a 146 44 ≤ a 146 42 from by omega)
    ·
      exact jt_rV ⟨hv, hf, (show a 146 44 ≤ a 146 42 from by omega)⟩
  exact ⟨hc142, hc74, hc64⟩
theorem cp_X12_weighs_7 (E : jxE) (d : Nat) (hd : Nat.ble 8 (d + 1) = true) (a0 b0 : Nat → Nat → Int) (hv0 : iv a0) (hp0 : WFW a0) (hp1 : WISHR a0) : ∀ n : Nat, (∀ (y1 : Int) (a b : Nat → Nat → Int), (((8 - y1) * 1) + 0).toNat ≤ n → iv a → jfr jW_X12_weighs a0 a → 0 ≤ y1 → y1 ≤ 7 → 1 ≤ a 146 42 → a 146 44 ≤ 7 → a 146 44 ≤ y1 → y1 < a 146 42 → a 146 44 ≤ a 146 42 → jt (jxX E d 254 46 [some (.inr (.inr (.inl 146))), some (.inl y1), none, none] [] (jxSH, a, b)) (jQ_X12_weighs a0 b0)) ∧ (∀ (y1 : Int) (a b : Nat → Nat → Int), (((8 - y1) * 1) + 0).toNat ≤ n → iv a → jfr jW_X12_weighs a0 a → 0 ≤ y1 → y1 ≤ 8 → a 146 44 ≤ y1 → a 146 44 ≤ a 146 42 → jt (jxX E d 254 7 [some (.inr (.inr (.inl 146))), some (.inl y1), none, none] [] (jxSH, a, b)) (jQ_X12_weighs a0 b0)) := by
  refine jx_ind fun n ih => ?_
  have ih46 : ∀ (y1 : Int) (a b : Nat → Nat → Int), (((8 - y1) * 1) + 0).toNat < n → iv a → jfr jW_X12_weighs a0 a → 0 ≤ y1 → y1 ≤ 7 → 1 ≤ a 146 42 → a 146 44 ≤ 7 → a 146 44 ≤ y1 → y1 < a 146 42 → a 146 44 ≤ a 146 42 → jt (jxX E d 254 46 [some (.inr (.inr (.inl 146))), some (.inl y1), none, none] [] (jxSH, a, b)) (jQ_X12_weighs a0 b0) := fun y1 a b hlt i0 i1 i2 i3 i4 i5 i6 i7 i8 => (ih _ hlt).1 y1 a b (Nat.le_refl _) i0 i1 i2 i3 i4 i5 i6 i7 i8
  have ih7 : ∀ (y1 : Int) (a b : Nat → Nat → Int), (((8 - y1) * 1) + 0).toNat < n → iv a → jfr jW_X12_weighs a0 a → 0 ≤ y1 → y1 ≤ 8 → a 146 44 ≤ y1 → a 146 44 ≤ a 146 42 → jt (jxX E d 254 7 [some (.inr (.inr (.inl 146))), some (.inl y1), none, none] [] (jxSH, a, b)) (jQ_X12_weighs a0 b0) := fun y1 a b hlt i0 i1 i2 i3 i4 i5 => (ih _ hlt).2 y1 a b (Nat.le_refl _) i0 i1 i2 i3 i4 i5
  have hc46 : ∀ (y1 : Int) (a b : Nat → Nat → Int), (((8 - y1) * 1) + 0).toNat ≤ n → iv a → jfr jW_X12_weighs a0 a → 0 ≤ y1 → y1 ≤ 7 → 1 ≤ a 146 42 → a 146 44 ≤ 7 → a 146 44 ≤ y1 → y1 < a 146 42 → a 146 44 ≤ a 146 42 → jt (jxX E d 254 46 [some (.inr (.inr (.inl 146))), some (.inl y1), none, none] [] (jxSH, a, b)) (jQ_X12_weighs a0 b0) := by
    intro y1 a b hm hv hf hi0 hi1 hi2 hi3 hi4 hi5 hi6
    refine jt_eq (bq_X12_weighs_46 E d y1 a b) ?_
    have h153_ := iv_get hv (k := 146) (j := 42) (l := 0) (u := 8) rfl
    have h154_ : a 146 42 = a0 146 42 := hf 146 42 rfl
    have h155_ := iv_get hv0 (k := 146) (j := 42) (l := 0) (u := 8) rfl
    have h156_ := iv_get hv (k := 146) (j := 44) (l := 0) (u := 8) rfl
    have h158_ : jxw ((a 146 44) + 1) = (a 146 44) + 1 := jxw_id (by omega) (by omega)
    have hv157_ : iv (jxu a 146 44 (jxw ((a 146 44) + 1))) := iv_put hv (l := 0) (u := 8) rfl (by omega) (by omega)
    have hf159_ : jfr jW_X12_weighs a0 (jxu a 146 44 (jxw ((a 146 44) + 1))) := jfr_put hf rfl
    have h160_ : jxw (y1 + 1) = y1 + 1 := jxw_id (by omega) (by omega)
    exact ih7 (jxw (y1 + 1)) (jxu a 146 44 (jxw ((a 146 44) + 1))) b (show (((8 - (jxw (y1 + 1))) * 1) + 0).toNat < n from by omega) hv157_ hf159_ (show 0 ≤ jxw (y1 + 1) from by omega) (show jxw (y1 + 1) ≤ 8 from by omega) (show jxw ((a 146 44) + 1) ≤ jxw (y1 + 1) from by omega) (show jxw ((a 146 44) + 1) ≤ a 146 42 from by omega)
  have hc7 : ∀ (y1 : Int) (a b : Nat → Nat → Int), (((8 - y1) * 1) + 0).toNat ≤ n → iv a → jfr jW_X12_weighs a0 a → 0 ≤ y1 → y1 ≤ 8 → a 146 44 ≤ y1 → a 146 44 ≤ a 146 42 → jt (jxX E d 254 7 [some (.inr (.inr (.inl 146))), some (.inl y1), none, none] [] (jxSH, a, b)) (jQ_X12_weighs a0 b0) := by
    intro y1 a b hm hv hf hi0 hi1 hi2 hi3
    refine jt_eq (bq_X12_weighs_7 E d y1 a b) ?_
    have h161_ := iv_get hv (k := 146) (j := 44) (l := 0) (u := 8) rfl
    have h162_ := iv_get hv (k := 146) (j := 42) (l := 0) (u := 8) rfl
    have h163_ : a 146 42 = a0 146 42 := hf 146 42 rfl
    have h164_ := iv_get hv0 (k := 146) (j := 42) (l := 0) (u := 8) rfl
    refine jt_ite (fun c165_ => ?_) (fun c165_ => ?_)
    ·
      refine jt_grd (by omega) ?_
      have h166_ := iv_get hv (k := 173) (j := y1.toNat) (l := 0) (u := 39) rfl
      have h167_ : a 173 (y1.toNat) = a0 173 (y1.toNat) := hf 173 (y1.toNat) rfl
      have h168_ := iv_get hv0 (k := 173) (j := y1.toNat) (l := 0) (u := 39) rfl
      refine jt_bI (sp_X12_mayAsk E d (jd_le hd rfl) (a 173 (y1.toNat)) a b hv (show (0 ≤ a 173 (y1.toNat) ∧ a 173 (y1.toNat) ≤ 39) from by omega)) (fun r169_ a169_ b169_ h169_ => ?_)
      obtain ⟨rfl, rfl, hq169_0⟩ := h169_
      refine jt_ite (fun c170_ => ?_) (fun c170_ => ?_)
      ·
        have h171_ : jxw (y1 + 1) = y1 + 1 := jxw_id (by omega) (by omega)
        exact ih7 (jxw (y1 + 1)) a b (show (((8 - (jxw (y1 + 1))) * 1) + 0).toNat < n from by omega) hv hf (show 0 ≤ jxw (y1 + 1) from by omega) (show jxw (y1 + 1) ≤ 8 from by omega) (show a 146 44 ≤ jxw (y1 + 1) from by omega) (show a 146 44 ≤ a 146 42 from by omega)
      ·
        refine jt_grd (by omega) ?_
        refine jt_grd (by omega) ?_
        have hv172_ : iv (jxu a 174 ((a 146 44).toNat) (a 173 (y1.toNat))) := iv_put hv (l := 0) (u := 39) rfl (by omega) (by omega)
        have hf173_ : jfr jW_X12_weighs a0 (jxu a 174 ((a 146 44).toNat) (a 173 (y1.toNat))) := jfr_put hf rfl
        exact hc46 y1 (jxu a 174 ((a 146 44).toNat) (a 173 (y1.toNat))) b (show (((8 - y1) * 1) + 0).toNat ≤ n from by omega) hv172_ hf173_ (show 0 ≤ y1 from by omega) (show y1 ≤ 7 from by omega) (show 1 ≤ a 146 42 from by omega) (show a 146 44 ≤ 7 from by omega) (show a 146 44 ≤ y1 from by omega) (show y1 < a 146 42 from by omega) (show a 146 44 ≤ a 146 42 from by omega)
    ·
      exact (cp_X12_weighs_64 E d hd a0 b0 hv0 hp0 hp1 _).2.2 0 a b (Nat.le_refl _) hv hf (show 0 ≤ 0 from by omega) (show 0 ≤ 8 from by omega) (show a 146 44 ≤ a 146 42 from by omega)
  exact ⟨hc46, hc7⟩
theorem sp_X12_weighs (E : jxE) (d : Nat) (hd : Nat.ble 8 d = true) (a0 b0 : Nat → Nat → Int) (hv0 : iv a0) (hp0 : WFW a0) (hp1 : WISHR a0) : jt (jxC E d 254 [.inr (.inr (.inl 146))] (jxSH, a0, b0)) (jQ_X12_weighs a0 b0) := by
  obtain ⟨d, rfl⟩ := jd_succ hd
  refine jt_eq (bq_X12_weighs E d a0 b0) ?_
  have hv174_ : iv (jxu a0 146 44 0) := iv_put hv0 (l := 0) (u := 8) rfl (by omega) (by omega)
  have hf175_ : jfr jW_X12_weighs a0 (jxu a0 146 44 0) := jfr_put (jfr_rf _ _) rfl
  have h176_ := iv_get hv0 (k := 146) (j := 42) (l := 0) (u := 8) rfl
  exact (cp_X12_weighs_7 E d hd a0 b0 hv0 hp0 hp1 _).2 0 (jxu a0 146 44 0) b0 (Nat.le_refl _) hv174_ hf175_ (show 0 ≤ 0 from by omega) (show 0 ≤ 8 from by omega) (show 0 ≤ 0 from by omega) (show 0 ≤ a0 146 42 from by omega)
def jW_X12_give : List (Nat × Nat) := [(146, 9), (146, 39), (146, 40), (146, 41), (146, 42), (146, 44), (154, 9999), (155, 9999), (156, 9999), (157, 9999), (158, 9999), (159, 9999), (160, 9999), (170, 9999), (174, 9999), (176, 9999)]
abbrev jQ_X12_give (a0 b0 : Nat → Nat → Int) : List jxV → (Nat → Nat → Int) → (Nat → Nat → Int) → Prop := rI (fun r a b => (iv a) ∧ (jfr jW_X12_give a0 a) ∧ (OC a) ∧ ((a0 146 42 = 0 → r = 0)))
theorem cp_X12_give_215 (E : jxE) (d : Nat) (hd : Nat.ble 9 (d + 1) = true) (a0 b0 : Nat → Nat → Int) (hv0 : iv a0) (hp0 : WFW a0) (hp1 : OC a0) (hp2 : WISHR a0) : ∀ n : Nat, (∀ (y6 y7 : Int) (a b : Nat → Nat → Int), (((8 - y7) * 1) + 0).toNat ≤ n → iv a → jfr jW_X12_give a0 a → 0 ≤ y7 → y7 ≤ 7 → a 146 42 ≤ 0 → 1 ≤ a 146 44 → ((a 146 9) + (a 146 44)) - y7 ≤ 301 → (a0 146 42 = 0 → y6 = 0) → (OC a) → (a0 146 42 = 0 → a 146 44 = 0) → jt (jxX E d 255 258 [some (.inr (.inr (.inl 146))), none, none, none, none, none, some (.inl y6), some (.inl y7)] [] (jxSH, a, b)) (jQ_X12_give a0 b0)) ∧ (∀ (y6 y7 : Int) (a b : Nat → Nat → Int), (((8 - y7) * 1) + 0).toNat ≤ n → iv a → jfr jW_X12_give a0 a → 0 ≤ y7 → y7 ≤ 8 → a 146 42 ≤ 0 → ((a 146 9) + (a 146 44)) - y7 ≤ 300 → (a0 146 42 = 0 → y6 = 0) → (OC a) → (a0 146 42 = 0 → a 146 44 = 0) → jt (jxX E d 255 215 [some (.inr (.inr (.inl 146))), none, none, none, none, none, some (.inl y6), some (.inl y7)] [] (jxSH, a, b)) (jQ_X12_give a0 b0)) := by
  refine jx_ind fun n ih => ?_
  have ih258 : ∀ (y6 y7 : Int) (a b : Nat → Nat → Int), (((8 - y7) * 1) + 0).toNat < n → iv a → jfr jW_X12_give a0 a → 0 ≤ y7 → y7 ≤ 7 → a 146 42 ≤ 0 → 1 ≤ a 146 44 → ((a 146 9) + (a 146 44)) - y7 ≤ 301 → (a0 146 42 = 0 → y6 = 0) → (OC a) → (a0 146 42 = 0 → a 146 44 = 0) → jt (jxX E d 255 258 [some (.inr (.inr (.inl 146))), none, none, none, none, none, some (.inl y6), some (.inl y7)] [] (jxSH, a, b)) (jQ_X12_give a0 b0) := fun y6 y7 a b hlt i0 i1 i2 i3 i4 i5 i6 i7 i8 i9 => (ih _ hlt).1 y6 y7 a b (Nat.le_refl _) i0 i1 i2 i3 i4 i5 i6 i7 i8 i9
  have ih215 : ∀ (y6 y7 : Int) (a b : Nat → Nat → Int), (((8 - y7) * 1) + 0).toNat < n → iv a → jfr jW_X12_give a0 a → 0 ≤ y7 → y7 ≤ 8 → a 146 42 ≤ 0 → ((a 146 9) + (a 146 44)) - y7 ≤ 300 → (a0 146 42 = 0 → y6 = 0) → (OC a) → (a0 146 42 = 0 → a 146 44 = 0) → jt (jxX E d 255 215 [some (.inr (.inr (.inl 146))), none, none, none, none, none, some (.inl y6), some (.inl y7)] [] (jxSH, a, b)) (jQ_X12_give a0 b0) := fun y6 y7 a b hlt i0 i1 i2 i3 i4 i5 i6 i7 i8 => (ih _ hlt).2 y6 y7 a b (Nat.le_refl _) i0 i1 i2 i3 i4 i5 i6 i7 i8
  have hc258 : ∀ (y6 y7 : Int) (a b : Nat → Nat → Int), (((8 - y7) * 1) + 0).toNat ≤ n → iv a → jfr jW_X12_give a0 a → 0 ≤ y7 → y7 ≤ 7 → a 146 42 ≤ 0 → 1 ≤ a 146 44 → ((a 146 9) + (a 146 44)) - y7 ≤ 301 → (a0 146 42 = 0 → y6 = 0) → (OC a) → (a0 146 42 = 0 → a 146 44 = 0) → jt (jxX E d 255 258 [some (.inr (.inr (.inl 146))), none, none, none, none, none, some (.inl y6), some (.inl y7)] [] (jxSH, a, b)) (jQ_X12_give a0 b0) := by
    intro y6 y7 a b hm hv hf hi0 hi1 hi2 hi3 hi4 hi5 hi6 hi7
    refine jt_eq (bq_X12_give_258 E d y6 y7 a b) ?_
    have h177_ := iv_get hv (k := 146) (j := 42) (l := 0) (u := 8) rfl
    have h178_ := iv_get hv (k := 146) (j := 44) (l := 0) (u := 8) rfl
    have h179_ := iv_get hv (k := 146) (j := 9) (l := 0) (u := 300) rfl
    have h180_ := iv_get hv0 (k := 146) (j := 42) (l := 0) (u := 8) rfl
    have h181_ : jxw (y7 + 1) = y7 + 1 := jxw_id (by omega) (by omega)
    have h182_ := jxw_im (y6 + 1)
    have h183_ := jxw_rg (y6 + 1)
    exact ih215 (jxw (y6 + 1)) (jxw (y7 + 1)) a b (show (((8 - (jxw (y7 + 1))) * 1) + 0).toNat < n from by omega) hv hf (show 0 ≤ jxw (y7 + 1) from by omega) (show jxw (y7 + 1) ≤ 8 from by omega) (show a 146 42 ≤ 0 from by omega) (show ((a 146 9) + (a 146 44)) - (jxw (y7 + 1)) ≤ 300 from by omega) (show (a0 146 42 = 0 → jxw (y6 + 1) = 0) from by omega) hi6 (show (a0 146 42 = 0 → a 146 44 = 0) from by omega)
  have hc215 : ∀ (y6 y7 : Int) (a b : Nat → Nat → Int), (((8 - y7) * 1) + 0).toNat ≤ n → iv a → jfr jW_X12_give a0 a → 0 ≤ y7 → y7 ≤ 8 → a 146 42 ≤ 0 → ((a 146 9) + (a 146 44)) - y7 ≤ 300 → (a0 146 42 = 0 → y6 = 0) → (OC a) → (a0 146 42 = 0 → a 146 44 = 0) → jt (jxX E d 255 215 [some (.inr (.inr (.inl 146))), none, none, none, none, none, some (.inl y6), some (.inl y7)] [] (jxSH, a, b)) (jQ_X12_give a0 b0) := by
    intro y6 y7 a b hm hv hf hi0 hi1 hi2 hi3 hi4 hi5 hi6
    refine jt_eq (bq_X12_give_215 E d y6 y7 a b) ?_
    have h184_ := iv_get hv (k := 146) (j := 42) (l := 0) (u := 8) rfl
    have h185_ := iv_get hv (k := 146) (j := 9) (l := 0) (u := 300) rfl
    have h186_ := iv_get hv (k := 146) (j := 44) (l := 0) (u := 8) rfl
    have h187_ := iv_get hv0 (k := 146) (j := 42) (l := 0) (u := 8) rfl
    refine jt_ite (fun c188_ => ?_) (fun c188_ => ?_)
    ·
      refine jt_grd (by omega) ?_
      have h189_ := iv_get hv (k := 176) (j := y7.toNat) (l := (-1)) (u := 39) rfl
      refine jt_ite (fun c190_ => ?_) (fun c190_ => ?_)
      ·
        have h191_ : jxw (y7 + 1) = y7 + 1 := jxw_id (by omega) (by omega)
        exact ih215 y6 (jxw (y7 + 1)) a b (show (((8 - (jxw (y7 + 1))) * 1) + 0).toNat < n from by omega) hv hf (show 0 ≤ jxw (y7 + 1) from by omega) (show jxw (y7 + 1) ≤ 8 from by omega) (show a 146 42 ≤ 0 from by omega) (show ((a 146 9) + (a 146 44)) - (jxw (y7 + 1)) ≤ 300 from by omega) (show (a0 146 42 = 0 → y6 = 0) from by omega) hi5 (show (a0 146 42 = 0 → a 146 44 = 0) from by omega)
      ·
        refine jt_grd (by omega) ?_
        refine jt_grd (by omega) ?_
        have h192_ := iv_get hv (k := 174) (j := y7.toNat) (l := 0) (u := 39) rfl
        refine jt_bI (sp_X12_sends E d (jd_le hd rfl) (a 174 (y7.toNat)) (a 176 (y7.toNat)) (-1) a b hv (show (0 ≤ a 174 (y7.toNat) ∧ a 174 (y7.toNat) ≤ 39) from by omega) (show (0 ≤ a 176 (y7.toNat) ∧ a 176 (y7.toNat) ≤ 39) from by omega) (show a 146 9 ≤ 299 from by omega)) (fun r193_ a193_ b193_ h193_ => ?_)
        obtain ⟨hv193_, hf193_, rfl, hq193_0, hq193_1, hq193_2⟩ := h193_
        have h194_ := iv_get hv193_ (k := 146) (j := 9) (l := 0) (u := 300) rfl
        have hf195_ : jfr jW_X12_give a0 a193_ := jfr_tr hf hf193_ rfl
        have h196_ := iv_get hv193_ (k := 146) (j := 42) (l := 0) (u := 8) rfl
        have h197_ : a193_ 146 42 = a 146 42 := hf193_ 146 42 rfl
        have h198_ := iv_get hv193_ (k := 146) (j := 44) (l := 0) (u := 8) rfl
        have h199_ : a193_ 146 44 = a 146 44 := hf193_ 146 44 rfl
        exact hc258 y6 y7 a193_ b (show (((8 - y7) * 1) + 0).toNat ≤ n from by omega) hv193_ hf195_ (show 0 ≤ y7 from by omega) (show y7 ≤ 7 from by omega) (show a193_ 146 42 ≤ 0 from by omega) (show 1 ≤ a193_ 146 44 from by omega) (show ((a193_ 146 9) + (a193_ 146 44)) - y7 ≤ 301 from by omega) (show (a0 146 42 = 0 → y6 = 0) from by omega) (OC_card hi5 hq193_0 (hf193_ 146 49 rfl) (fun c hc => hq193_2 c hc) (fun j => hf193_ 178 j rfl) (fun j => hf193_ 181 j rfl) (fun j => hf193_ 182 j rfl)) (show (a0 146 42 = 0 → a193_ 146 44 = 0) from by omega)
    ·
      exact jt_rI ⟨hv, hf, hi5, (show (a0 146 42 = 0 → y6 = 0) from by omega)⟩
  exact ⟨hc258, hc215⟩
theorem cp_X12_give_48 (E : jxE) (d : Nat) (hd : Nat.ble 9 (d + 1) = true) (a0 b0 : Nat → Nat → Int) (hv0 : iv a0) (hp0 : WFW a0) (hp1 : OC a0) (hp2 : WISHR a0) : ∀ n : Nat, (∀ (y1 y2 y4 y6 y7 : Int) (a b : Nat → Nat → Int), (((((8 - y6) * 43) + 0) + ((40 - y7) * 1)) + 0).toNat ≤ n → iv a → jfr jW_X12_give a0 a → 0 ≤ y1 → y1 ≤ 255 → 0 ≤ y6 → y6 ≤ 7 → 0 ≤ y7 → y7 ≤ 39 → 1 ≤ a 146 2 → a 146 42 ≤ 0 → 1 ≤ a 146 44 → (a 146 9) + (a 146 44) ≤ 300 → (OC a) → (a0 146 42 = 0 → a 146 44 = 0) → jt (jxX E d 255 197 [some (.inr (.inr (.inl 146))), some (.inl y1), some (.inr (.inl y2)), none, some (.inr (.inl y4)), none, some (.inl y6), some (.inl y7)] [] (jxSH, a, b)) (jQ_X12_give a0 b0)) ∧ (∀ (y1 y2 y4 y6 y7 : Int) (a b : Nat → Nat → Int), (((((8 - y6) * 43) + 0) + ((40 - y7) * 1)) + 0).toNat ≤ n → iv a → jfr jW_X12_give a0 a → 0 ≤ y1 → y1 ≤ 255 → 0 ≤ y6 → y6 ≤ 7 → 0 ≤ y7 → y7 ≤ 39 → 1 ≤ a 146 2 → a 146 42 ≤ 0 → 1 ≤ a 146 44 → (a 146 9) + (a 146 44) ≤ 300 → (OC a) → (a0 146 42 = 0 → a 146 44 = 0) → jt (jxX E d 255 160 [some (.inr (.inr (.inl 146))), some (.inl y1), some (.inr (.inl y2)), none, some (.inr (.inl y4)), none, some (.inl y6), some (.inl y7)] [] (jxSH, a, b)) (jQ_X12_give a0 b0)) ∧ (∀ (y1 y2 y4 y6 y7 : Int) (a b : Nat → Nat → Int), (((((8 - y6) * 43) + 0) + ((40 - y7) * 1)) + 0).toNat ≤ n → iv a → jfr jW_X12_give a0 a → 0 ≤ y1 → y1 ≤ 255 → 0 ≤ y6 → y6 ≤ 7 → 0 ≤ y7 → y7 ≤ 39 → 1 ≤ a 146 2 → a 146 42 ≤ 0 → 1 ≤ a 146 44 → (a 146 9) + (a 146 44) ≤ 300 → (OC a) → (a0 146 42 = 0 → a 146 44 = 0) → jt (jxX E d 255 163 [some (.inr (.inr (.inl 146))), some (.inl y1), some (.inr (.inl y2)), none, some (.inr (.inl y4)), none, some (.inl y6), some (.inl y7)] [] (jxSH, a, b)) (jQ_X12_give a0 b0)) ∧ (∀ (y1 y2 y4 y6 y7 : Int) (a b : Nat → Nat → Int), (((((8 - y6) * 43) + 0) + ((40 - y7) * 1)) + 0).toNat ≤ n → iv a → jfr jW_X12_give a0 a → 0 ≤ y1 → y1 ≤ 255 → 0 ≤ y6 → y6 ≤ 7 → 0 ≤ y7 → y7 ≤ 39 → 1 ≤ a 146 2 → a 146 42 ≤ 0 → 1 ≤ a 146 44 → (a 146 9) + (a 146 44) ≤ 300 → (OC a) → (a0 146 42 = 0 → a 146 44 = 0) → jt (jxX E d 255 106 [some (.inr (.inr (.inl 146))), some (.inl y1), some (.inr (.inl y2)), none, some (.inr (.inl y4)), none, some (.inl y6), some (.inl y7)] [] (jxSH, a, b)) (jQ_X12_give a0 b0)) ∧ (∀ (y1 y2 y4 y6 y7 : Int) (a b : Nat → Nat → Int), (((((8 - y6) * 43) + 0) + ((40 - y7) * 1)) + 0).toNat ≤ n → iv a → jfr jW_X12_give a0 a → 0 ≤ y1 → y1 ≤ 255 → 0 ≤ y6 → y6 ≤ 7 → 0 ≤ y7 → y7 ≤ 40 → a 146 42 ≤ 0 → 1 ≤ a 146 44 → (a 146 9) + (a 146 44) ≤ 300 → (OC a) → (a0 146 42 = 0 → a 146 44 = 0) → jt (jxX E d 255 75 [some (.inr (.inr (.inl 146))), some (.inl y1), some (.inr (.inl y2)), none, some (.inr (.inl y4)), none, some (.inl y6), some (.inl y7)] [] (jxSH, a, b)) (jQ_X12_give a0 b0)) ∧ (∀ (y1 y2 y4 y6 : Int) (a b : Nat → Nat → Int), (((8 - y6) * 43) + 42).toNat ≤ n → iv a → jfr jW_X12_give a0 a → 0 ≤ y1 → y1 ≤ 255 → 0 ≤ y6 → y6 ≤ 7 → a 146 42 ≤ 0 → 1 ≤ a 146 44 → (a 146 9) + (a 146 44) ≤ 300 → (OC a) → (a0 146 42 = 0 → a 146 44 = 0) → jt (jxX E d 255 72 [some (.inr (.inr (.inl 146))), some (.inl y1), some (.inr (.inl y2)), none, some (.inr (.inl y4)), none, some (.inl y6), none] [] (jxSH, a, b)) (jQ_X12_give a0 b0)) ∧ (∀ (y1 y2 y4 y6 : Int) (a b : Nat → Nat → Int), (((8 - y6) * 43) + 42).toNat ≤ n → iv a → jfr jW_X12_give a0 a → 0 ≤ y1 → y1 ≤ 255 → 0 ≤ y6 → y6 ≤ 8 → a 146 42 ≤ 0 → (a 146 9) + (a 146 44) ≤ 300 → (OC a) → (a0 146 42 = 0 → a 146 44 = 0) → jt (jxX E d 255 48 [some (.inr (.inr (.inl 146))), some (.inl y1), some (.inr (.inl y2)), none, some (.inr (.inl y4)), none, some (.inl y6), none] [] (jxSH, a, b)) (jQ_X12_give a0 b0)) := by
  refine jx_ind fun n ih => ?_
  have ih197 : ∀ (y1 y2 y4 y6 y7 : Int) (a b : Nat → Nat → Int), (((((8 - y6) * 43) + 0) + ((40 - y7) * 1)) + 0).toNat < n → iv a → jfr jW_X12_give a0 a → 0 ≤ y1 → y1 ≤ 255 → 0 ≤ y6 → y6 ≤ 7 → 0 ≤ y7 → y7 ≤ 39 → 1 ≤ a 146 2 → a 146 42 ≤ 0 → 1 ≤ a 146 44 → (a 146 9) + (a 146 44) ≤ 300 → (OC a) → (a0 146 42 = 0 → a 146 44 = 0) → jt (jxX E d 255 197 [some (.inr (.inr (.inl 146))), some (.inl y1), some (.inr (.inl y2)), none, some (.inr (.inl y4)), none, some (.inl y6), some (.inl y7)] [] (jxSH, a, b)) (jQ_X12_give a0 b0) := fun y1 y2 y4 y6 y7 a b hlt i0 i1 i2 i3 i4 i5 i6 i7 i8 i9 i10 i11 i12 i13 => (ih _ hlt).1 y1 y2 y4 y6 y7 a b (Nat.le_refl _) i0 i1 i2 i3 i4 i5 i6 i7 i8 i9 i10 i11 i12 i13
  have ih160 : ∀ (y1 y2 y4 y6 y7 : Int) (a b : Nat → Nat → Int), (((((8 - y6) * 43) + 0) + ((40 - y7) * 1)) + 0).toNat < n → iv a → jfr jW_X12_give a0 a → 0 ≤ y1 → y1 ≤ 255 → 0 ≤ y6 → y6 ≤ 7 → 0 ≤ y7 → y7 ≤ 39 → 1 ≤ a 146 2 → a 146 42 ≤ 0 → 1 ≤ a 146 44 → (a 146 9) + (a 146 44) ≤ 300 → (OC a) → (a0 146 42 = 0 → a 146 44 = 0) → jt (jxX E d 255 160 [some (.inr (.inr (.inl 146))), some (.inl y1), some (.inr (.inl y2)), none, some (.inr (.inl y4)), none, some (.inl y6), some (.inl y7)] [] (jxSH, a, b)) (jQ_X12_give a0 b0) := fun y1 y2 y4 y6 y7 a b hlt i0 i1 i2 i3 i4 i5 i6 i7 i8 i9 i10 i11 i12 i13 => (ih _ hlt).2.1 y1 y2 y4 y6 y7 a b (Nat.le_refl _) i0 i1 i2 i3 i4 i5 i6 i7 i8 i9 i10 i11 i12 i13
  have ih163 : ∀ (y1 y2 y4 y6 y7 : Int) (a b : Nat → Nat → Int), (((((8 - y6) * 43) + 0) + ((40 - y7) * 1)) + 0).toNat < n → iv a → jfr jW_X12_give a0 a → 0 ≤ y1 → y1 ≤ 255 → 0 ≤ y6 → y6 ≤ 7 → 0 ≤ y7 → y7 ≤ 39 → 1 ≤ a 146 2 → a 146 42 ≤ 0 → 1 ≤ a 146 44 → (a 146 9) + (a 146 44) ≤ 300 → (OC a) → (a0 146 42 = 0 → a 146 44 = 0) → jt (jxX E d 255 163 [some (.inr (.inr (.inl 146))), some (.inl y1), some (.inr (.inl y2)), none, some (.inr (.inl y4)), none, some (.inl y6), some (.inl y7)] [] (jxSH, a, b)) (jQ_X12_give a0 b0) := fun y1 y2 y4 y6 y7 a b hlt i0 i1 i2 i3 i4 i5 i6 i7 i8 i9 i10 i11 i12 i13 => (ih _ hlt).2.2.1 y1 y2 y4 y6 y7 a b (Nat.le_refl _) i0 i1 i2 i3 i4 i5 i6 i7 i8 i9 i10 i11 i12 i13
  have ih106 : ∀ (y1 y2 y4 y6 y7 : Int) (a b : Nat → Nat → Int), (((((8 - y6) * 43) + 0) + ((40 - y7) * 1)) + 0).toNat < n → iv a → jfr jW_X12_give a0 a → 0 ≤ y1 → y1 ≤ 255 → 0 ≤ y6 → y6 ≤ 7 → 0 ≤ y7 → y7 ≤ 39 → 1 ≤ a 146 2 → a 146 42 ≤ 0 → 1 ≤ a 146 44 → (a 146 9) + (a 146 44) ≤ 300 → (OC a) → (a0 146 42 = 0 → a 146 44 = 0) → jt (jxX E d 255 106 [some (.inr (.inr (.inl 146))), some (.inl y1), some (.inr (.inl y2)), none, some (.inr (.inl y4)), none, some (.inl y6), some (.inl y7)] [] (jxSH, a, b)) (jQ_X12_give a0 b0) := fun y1 y2 y4 y6 y7 a b hlt i0 i1 i2 i3 i4 i5 i6 i7 i8 i9 i10 i11 i12 i13 => (ih _ hlt).2.2.2.1 y1 y2 y4 y6 y7 a b (Nat.le_refl _) i0 i1 i2 i3 i4 i5 i6 i7 i8 i9 i10 i11 i12 i13
  have ih75 : ∀ (y1 y2 y4 y6 y7 : Int) (a b : Nat → Nat → Int), (((((8 - y6) * 43) + 0) + ((40 - y7) * 1)) + 0).toNat < n → iv a → jfr jW_X12_give a0 a → 0 ≤ y1 → y1 ≤ 255 → 0 ≤ y6 → y6 ≤ 7 → 0 ≤ y7 → y7 ≤ 40 → a 146 42 ≤ 0 → 1 ≤ a 146 44 → (a 146 9) + (a 146 44) ≤ 300 → (OC a) → (a0 146 42 = 0 → a 146 44 = 0) → jt (jxX E d 255 75 [some (.inr (.inr (.inl 146))), some (.inl y1), some (.inr (.inl y2)), none, some (.inr (.inl y4)), none, some (.inl y6), some (.inl y7)] [] (jxSH, a, b)) (jQ_X12_give a0 b0) := fun y1 y2 y4 y6 y7 a b hlt i0 i1 i2 i3 i4 i5 i6 i7 i8 i9 i10 i11 i12 => (ih _ hlt).2.2.2.2.1 y1 y2 y4 y6 y7 a b (Nat.le_refl _) i0 i1 i2 i3 i4 i5 i6 i7 i8 i9 i10 i11 i12
  have ih72 : ∀ (y1 y2 y4 y6 : Int) (a b : Nat → Nat → Int), (((8 - y6) * 43) + 42).toNat < n → iv a → jfr jW_X12_give a0 a → 0 ≤ y1 → y1 ≤ 255 → 0 ≤ y6 → y6 ≤ 7 → a 146 42 ≤ 0 → 1 ≤ a 146 44 → (a 146 9) + (a 146 44) ≤ 300 → (OC a) → (a0 146 42 = 0 → a 146 44 = 0) → jt (jxX E d 255 72 [some (.inr (.inr (.inl 146))), some (.inl y1), some (.inr (.inl y2)), none, some (.inr (.inl y4)), none, some (.inl y6), none] [] (jxSH, a, b)) (jQ_X12_give a0 b0) := fun y1 y2 y4 y6 a b hlt i0 i1 i2 i3 i4 i5 i6 i7 i8 i9 i10 => (ih _ hlt).2.2.2.2.2.1 y1 y2 y4 y6 a b (Nat.le_refl _) i0 i1 i2 i3 i4 i5 i6 i7 i8 i9 i10
  have ih48 : ∀ (y1 y2 y4 y6 : Int) (a b : Nat → Nat → Int), (((8 - y6) * 43) + 42).toNat < n → iv a → jfr jW_X12_give a0 a → 0 ≤ y1 → y1 ≤ 255 → 0 ≤ y6 → y6 ≤ 8 → a 146 42 ≤ 0 → (a 146 9) + (a 146 44) ≤ 300 → (OC a) → (a0 146 42 = 0 → a 146 44 = 0) → jt (jxX E d 255 48 [some (.inr (.inr (.inl 146))), some (.inl y1), some (.inr (.inl y2)), none, some (.inr (.inl y4)), none, some (.inl y6), none] [] (jxSH, a, b)) (jQ_X12_give a0 b0) := fun y1 y2 y4 y6 a b hlt i0 i1 i2 i3 i4 i5 i6 i7 i8 i9 => (ih _ hlt).2.2.2.2.2.2 y1 y2 y4 y6 a b (Nat.le_refl _) i0 i1 i2 i3 i4 i5 i6 i7 i8 i9
  have hc197 : ∀ (y1 y2 y4 y6 y7 : Int) (a b : Nat → Nat → Int), (((((8 - y6) * 43) + 0) + ((40 - y7) * 1)) + 0).toNat ≤ n → iv a → jfr jW_X12_give a0 a → 0 ≤ y1 → y1 ≤ 255 → 0 ≤ y6 → y6 ≤ 7 → 0 ≤ y7 → y7 ≤ 39 → 1 ≤ a 146 2 → a 146 42 ≤ 0 → 1 ≤ a 146 44 → (a 146 9) + (a 146 44) ≤ 300 → (OC a) → (a0 146 42 = 0 → a 146 44 = 0) → jt (jxX E d 255 197 [some (.inr (.inr (.inl 146))), some (.inl y1), some (.inr (.inl y2)), none, some (.inr (.inl y4)), none, some (.inl y6), some (.inl y7)] [] (jxSH, a, b)) (jQ_X12_give a0 b0) := by
    intro y1 y2 y4 y6 y7 a b hm hv hf hi0 hi1 hi2 hi3 hi4 hi5 hi6 hi7 hi8 hi9 hi10 hi11
    refine jt_eq (bq_X12_give_197 E d y1 y2 y4 y6 y7 a b) ?_
    have h200_ := iv_get hv (k := 146) (j := 2) (l := 0) (u := 40) rfl
    have h201_ : a 146 2 = a0 146 2 := hf 146 2 rfl
    have h202_ := iv_get hv0 (k := 146) (j := 2) (l := 0) (u := 40) rfl
    have h203_ := iv_get hv (k := 146) (j := 42) (l := 0) (u := 8) rfl
    have h204_ := iv_get hv (k := 146) (j := 44) (l := 0) (u := 8) rfl
    have h205_ := iv_get hv (k := 146) (j := 9) (l := 0) (u := 300) rfl
    have h206_ := iv_get hv0 (k := 146) (j := 42) (l := 0) (u := 8) rfl
    have h207_ : jxw (y7 + 1) = y7 + 1 := jxw_id (by omega) (by omega)
    exact ih75 y1 y2 y4 y6 (jxw (y7 + 1)) a b (show (((((8 - y6) * 43) + 0) + ((40 - (jxw (y7 + 1))) * 1)) + 0).toNat < n from by omega) hv hf (show 0 ≤ y1 from by omega) (show y1 ≤ 255 from by omega) (show 0 ≤ y6 from by omega) (show y6 ≤ 7 from by omega) (show 0 ≤ jxw (y7 + 1) from by omega) (show jxw (y7 + 1) ≤ 40 from by omega) (show a 146 42 ≤ 0 from by omega) (show 1 ≤ a 146 44 from by omega) (show (a 146 9) + (a 146 44) ≤ 300 from by omega) hi10 (show (a0 146 42 = 0 → a 146 44 = 0) from by omega)
  have hc160 : ∀ (y1 y2 y4 y6 y7 : Int) (a b : Nat → Nat → Int), (((((8 - y6) * 43) + 0) + ((40 - y7) * 1)) + 0).toNat ≤ n → iv a → jfr jW_X12_give a0 a → 0 ≤ y1 → y1 ≤ 255 → 0 ≤ y6 → y6 ≤ 7 → 0 ≤ y7 → y7 ≤ 39 → 1 ≤ a 146 2 → a 146 42 ≤ 0 → 1 ≤ a 146 44 → (a 146 9) + (a 146 44) ≤ 300 → (OC a) → (a0 146 42 = 0 → a 146 44 = 0) → jt (jxX E d 255 160 [some (.inr (.inr (.inl 146))), some (.inl y1), some (.inr (.inl y2)), none, some (.inr (.inl y4)), none, some (.inl y6), some (.inl y7)] [] (jxSH, a, b)) (jQ_X12_give a0 b0) := by
    intro y1 y2 y4 y6 y7 a b hm hv hf hi0 hi1 hi2 hi3 hi4 hi5 hi6 hi7 hi8 hi9 hi10 hi11
    refine jt_eq (bq_X12_give_160 E d y1 y2 y4 y6 y7 a b) ?_
    have h208_ := iv_get hv (k := 146) (j := 2) (l := 0) (u := 40) rfl
    have h209_ : a 146 2 = a0 146 2 := hf 146 2 rfl
    have h210_ := iv_get hv0 (k := 146) (j := 2) (l := 0) (u := 40) rfl
    have h211_ := iv_get hv (k := 146) (j := 42) (l := 0) (u := 8) rfl
    have h212_ := iv_get hv (k := 146) (j := 44) (l := 0) (u := 8) rfl
    have h213_ := iv_get hv (k := 146) (j := 9) (l := 0) (u := 300) rfl
    have h214_ := iv_get hv0 (k := 146) (j := 42) (l := 0) (u := 8) rfl
    exact hc197 y1 y2 y4 y6 y7 a b (show (((((8 - y6) * 43) + 0) + ((40 - y7) * 1)) + 0).toNat ≤ n from by omega) hv hf (show 0 ≤ y1 from by omega) (show y1 ≤ 255 from by omega) (show 0 ≤ y6 from by omega) (show y6 ≤ 7 from by omega) (show 0 ≤ y7 from by omega) (show y7 ≤ 39 from by omega) (show 1 ≤ a 146 2 from by omega) (show a 146 42 ≤ 0 from by omega) (show 1 ≤ a 146 44 from by omega) (show (a 146 9) + (a 146 44) ≤ 300 from by omega) hi10 (show (a0 146 42 = 0 → a 146 44 = 0) from by omega)
  have hc163 : ∀ (y1 y2 y4 y6 y7 : Int) (a b : Nat → Nat → Int), (((((8 - y6) * 43) + 0) + ((40 - y7) * 1)) + 0).toNat ≤ n → iv a → jfr jW_X12_give a0 a → 0 ≤ y1 → y1 ≤ 255 → 0 ≤ y6 → y6 ≤ 7 → 0 ≤ y7 → y7 ≤ 39 → 1 ≤ a 146 2 → a 146 42 ≤ 0 → 1 ≤ a 146 44 → (a 146 9) + (a 146 44) ≤ 300 → (OC a) → (a0 146 42 = 0 → a 146 44 = 0) → jt (jxX E d 255 163 [some (.inr (.inr (.inl 146))), some (.inl y1), some (.inr (.inl y2)), none, some (.inr (.inl y4)), none, some (.inl y6), some (.inl y7)] [] (jxSH, a, b)) (jQ_X12_give a0 b0) := by
    intro y1 y2 y4 y6 y7 a b hm hv hf hi0 hi1 hi2 hi3 hi4 hi5 hi6 hi7 hi8 hi9 hi10 hi11
    refine jt_eq (bq_X12_give_163 E d y1 y2 y4 y6 y7 a b) ?_
    have h215_ := iv_get hv (k := 146) (j := 2) (l := 0) (u := 40) rfl
    have h216_ : a 146 2 = a0 146 2 := hf 146 2 rfl
    have h217_ := iv_get hv0 (k := 146) (j := 2) (l := 0) (u := 40) rfl
    have h218_ := iv_get hv (k := 146) (j := 42) (l := 0) (u := 8) rfl
    have h219_ := iv_get hv (k := 146) (j := 44) (l := 0) (u := 8) rfl
    have h220_ := iv_get hv (k := 146) (j := 9) (l := 0) (u := 300) rfl
    have h221_ := iv_get hv0 (k := 146) (j := 42) (l := 0) (u := 8) rfl
    refine jt_grd (by omega) ?_
    have h222_ : jxw (40 * y6) = 40 * y6 := jxw_id (by omega) (by omega)
    have h223_ : jxw ((jxw (40 * y6)) + y7) = (jxw (40 * y6)) + y7 := jxw_id (by omega) (by omega)
    refine jt_grd (by omega) ?_
    have hv224_ : iv (jxu a 176 (y6.toNat) y7) := iv_put hv (l := (-1)) (u := 39) rfl (by omega) (by omega)
    have hf225_ : jfr jW_X12_give a0 (jxu a 176 (y6.toNat) y7) := jfr_put hf rfl
    have hg226_ : OC (jxu a 176 (y6.toNat) y7) := (OC_fr hi10 (jfr_1 a 176 (y6.toNat) y7) rfl rfl (fun _ => rfl) (fun _ => rfl) (fun _ => rfl) (fun _ => rfl) (fun _ => rfl))
    exact hc197 y1 (jxorl y2 (jxshll 1 y7)) (jxwl (y4 - (b 175 ((jxw ((jxw (40 * y6)) + y7)).toNat)))) y6 y7 (jxu a 176 (y6.toNat) y7) b (show (((((8 - y6) * 43) + 0) + ((40 - y7) * 1)) + 0).toNat ≤ n from by omega) hv224_ hf225_ (show 0 ≤ y1 from by omega) (show y1 ≤ 255 from by omega) (show 0 ≤ y6 from by omega) (show y6 ≤ 7 from by omega) (show 0 ≤ y7 from by omega) (show y7 ≤ 39 from by omega) (show 1 ≤ a 146 2 from by omega) (show a 146 42 ≤ 0 from by omega) (show 1 ≤ a 146 44 from by omega) (show (a 146 9) + (a 146 44) ≤ 300 from by omega) hg226_ (show (a0 146 42 = 0 → a 146 44 = 0) from by omega)
  have hc106 : ∀ (y1 y2 y4 y6 y7 : Int) (a b : Nat → Nat → Int), (((((8 - y6) * 43) + 0) + ((40 - y7) * 1)) + 0).toNat ≤ n → iv a → jfr jW_X12_give a0 a → 0 ≤ y1 → y1 ≤ 255 → 0 ≤ y6 → y6 ≤ 7 → 0 ≤ y7 → y7 ≤ 39 → 1 ≤ a 146 2 → a 146 42 ≤ 0 → 1 ≤ a 146 44 → (a 146 9) + (a 146 44) ≤ 300 → (OC a) → (a0 146 42 = 0 → a 146 44 = 0) → jt (jxX E d 255 106 [some (.inr (.inr (.inl 146))), some (.inl y1), some (.inr (.inl y2)), none, some (.inr (.inl y4)), none, some (.inl y6), some (.inl y7)] [] (jxSH, a, b)) (jQ_X12_give a0 b0) := by
    intro y1 y2 y4 y6 y7 a b hm hv hf hi0 hi1 hi2 hi3 hi4 hi5 hi6 hi7 hi8 hi9 hi10 hi11
    refine jt_eq (bq_X12_give_106 E d y1 y2 y4 y6 y7 a b) ?_
    have h227_ := iv_get hv (k := 146) (j := 2) (l := 0) (u := 40) rfl
    have h228_ : a 146 2 = a0 146 2 := hf 146 2 rfl
    have h229_ := iv_get hv0 (k := 146) (j := 2) (l := 0) (u := 40) rfl
    have h230_ := iv_get hv (k := 146) (j := 42) (l := 0) (u := 8) rfl
    have h231_ := iv_get hv (k := 146) (j := 44) (l := 0) (u := 8) rfl
    have h232_ := iv_get hv (k := 146) (j := 9) (l := 0) (u := 300) rfl
    have h233_ := iv_get hv0 (k := 146) (j := 42) (l := 0) (u := 8) rfl
    have h234_ : jxw (40 * y6) = 40 * y6 := jxw_id (by omega) (by omega)
    have h235_ : jxw ((jxw (40 * y6)) + y7) = (jxw (40 * y6)) + y7 := jxw_id (by omega) (by omega)
    refine jt_grd (by omega) ?_
    have h236_ := jxlcmp_b (b 175 ((jxw ((jxw (40 * y6)) + y7)).toNat)) (-4000000000000000000)
    refine jt_ite (fun c237_ => ?_) (fun c237_ => ?_)
    ·
      exact hc197 y1 y2 y4 y6 y7 a b (show (((((8 - y6) * 43) + 0) + ((40 - y7) * 1)) + 0).toNat ≤ n from by omega) hv hf (show 0 ≤ y1 from by omega) (show y1 ≤ 255 from by omega) (show 0 ≤ y6 from by omega) (show y6 ≤ 7 from by omega) (show 0 ≤ y7 from by omega) (show y7 ≤ 39 from by omega) (show 1 ≤ a 146 2 from by omega) (show a 146 42 ≤ 0 from by omega) (show 1 ≤ a 146 44 from by omega) (show (a 146 9) + (a 146 44) ≤ 300 from by omega) hi10 (show (a0 146 42 = 0 → a 146 44 = 0) from by omega)
    ·
      refine jt_grd (by omega) ?_
      refine jt_bJ (sp_X12_best E d (jd_le hd rfl) y1 (jxorl y2 (jxshll 1 y7)) a b hv (show (0 ≤ y1 ∧ y1 ≤ 255) from by omega)) (fun r238_ a238_ b238_ h238_ => ?_)
      subst h238_
      have h239_ := jxlcmp_b (jxwl ((b 175 ((jxw ((jxw (40 * y6)) + y7)).toNat)) + r238_)) y4
      refine jt_ite (fun c240_ => ?_) (fun c240_ => ?_)
      ·
        exact hc163 y1 y2 y4 y6 y7 a b238_ (show (((((8 - y6) * 43) + 0) + ((40 - y7) * 1)) + 0).toNat ≤ n from by omega) hv hf (show 0 ≤ y1 from by omega) (show y1 ≤ 255 from by omega) (show 0 ≤ y6 from by omega) (show y6 ≤ 7 from by omega) (show 0 ≤ y7 from by omega) (show y7 ≤ 39 from by omega) (show 1 ≤ a 146 2 from by omega) (show a 146 42 ≤ 0 from by omega) (show 1 ≤ a 146 44 from by omega) (show (a 146 9) + (a 146 44) ≤ 300 from by omega) hi10 (show (a0 146 42 = 0 → a 146 44 = 0) from by omega)
      ·
        exact hc160 y1 y2 y4 y6 y7 a b238_ (show (((((8 - y6) * 43) + 0) + ((40 - y7) * 1)) + 0).toNat ≤ n from by omega) hv hf (show 0 ≤ y1 from by omega) (show y1 ≤ 255 from by omega) (show 0 ≤ y6 from by omega) (show y6 ≤ 7 from by omega) (show 0 ≤ y7 from by omega) (show y7 ≤ 39 from by omega) (show 1 ≤ a 146 2 from by omega) (show a 146 42 ≤ 0 from by omega) (show 1 ≤ a 146 44 from by omega) (show (a 146 9) + (a 146 44) ≤ 300 from by omega) hi10 (show (a0 146 42 = 0 → a 146 44 = 0) from by omega)
  have hc75 : ∀ (y1 y2 y4 y6 y7 : Int) (a b : Nat → Nat → Int), (((((8 - y6) * 43) + 0) + ((40 - y7) * 1)) + 0).toNat ≤ n → iv a → jfr jW_X12_give a0 a → 0 ≤ y1 → y1 ≤ 255 → 0 ≤ y6 → y6 ≤ 7 → 0 ≤ y7 → y7 ≤ 40 → a 146 42 ≤ 0 → 1 ≤ a 146 44 → (a 146 9) + (a 146 44) ≤ 300 → (OC a) → (a0 146 42 = 0 → a 146 44 = 0) → jt (jxX E d 255 75 [some (.inr (.inr (.inl 146))), some (.inl y1), some (.inr (.inl y2)), none, some (.inr (.inl y4)), none, some (.inl y6), some (.inl y7)] [] (jxSH, a, b)) (jQ_X12_give a0 b0) := by
    intro y1 y2 y4 y6 y7 a b hm hv hf hi0 hi1 hi2 hi3 hi4 hi5 hi6 hi7 hi8 hi9 hi10
    refine jt_eq (bq_X12_give_75 E d y1 y2 y4 y6 y7 a b) ?_
    have h241_ := iv_get hv (k := 146) (j := 42) (l := 0) (u := 8) rfl
    have h242_ := iv_get hv (k := 146) (j := 44) (l := 0) (u := 8) rfl
    have h243_ := iv_get hv (k := 146) (j := 9) (l := 0) (u := 300) rfl
    have h244_ := iv_get hv0 (k := 146) (j := 42) (l := 0) (u := 8) rfl
    have h245_ := iv_get hv (k := 146) (j := 2) (l := 0) (u := 40) rfl
    have h246_ : a 146 2 = a0 146 2 := hf 146 2 rfl
    have h247_ := iv_get hv0 (k := 146) (j := 2) (l := 0) (u := 40) rfl
    refine jt_ite (fun c248_ => ?_) (fun c248_ => ?_)
    ·
      refine jt_grd (by omega) ?_
      have h249_ := iv_get hv (k := 176) (j := y6.toNat) (l := (-1)) (u := 39) rfl
      refine jt_ite (fun c250_ => ?_) (fun c250_ => ?_)
      ·
        have h251_ := jxlcmp_b (jxandl (jxshrl y2 y7) 1) 1
        refine jt_ite (fun c252_ => ?_) (fun c252_ => ?_)
        ·
          exact hc197 y1 y2 y4 y6 y7 a b (show (((((8 - y6) * 43) + 0) + ((40 - y7) * 1)) + 0).toNat ≤ n from by omega) hv hf (show 0 ≤ y1 from by omega) (show y1 ≤ 255 from by omega) (show 0 ≤ y6 from by omega) (show y6 ≤ 7 from by omega) (show 0 ≤ y7 from by omega) (show y7 ≤ 39 from by omega) (show 1 ≤ a 146 2 from by omega) (show a 146 42 ≤ 0 from by omega) (show 1 ≤ a 146 44 from by omega) (show (a 146 9) + (a 146 44) ≤ 300 from by omega) hi9 (show (a0 146 42 = 0 → a 146 44 = 0) from by omega)
        ·
          exact hc106 y1 y2 y4 y6 y7 a b (show (((((8 - y6) * 43) + 0) + ((40 - y7) * 1)) + 0).toNat ≤ n from by omega) hv hf (show 0 ≤ y1 from by omega) (show y1 ≤ 255 from by omega) (show 0 ≤ y6 from by omega) (show y6 ≤ 7 from by omega) (show 0 ≤ y7 from by omega) (show y7 ≤ 39 from by omega) (show 1 ≤ a 146 2 from by omega) (show a 146 42 ≤ 0 from by omega) (show 1 ≤ a 146 44 from by omega) (show (a 146 9) + (a 146 44) ≤ 300 from by omega) hi9 (show (a0 146 42 = 0 → a 146 44 = 0) from by omega)
      ·
        have h253_ : jxw (y6 + 1) = y6 + 1 := jxw_id (by omega) (by omega)
        exact ih48 y1 y2 y4 (jxw (y6 + 1)) a b (show (((8 - (jxw (y6 + 1))) * 43) + 42).toNat < n from by omega) hv hf (show 0 ≤ y1 from by omega) (show y1 ≤ 255 from by omega) (show 0 ≤ jxw (y6 + 1) from by omega) (show jxw (y6 + 1) ≤ 8 from by omega) (show a 146 42 ≤ 0 from by omega) (show (a 146 9) + (a 146 44) ≤ 300 from by omega) hi9 (show (a0 146 42 = 0 → a 146 44 = 0) from by omega)
    ·
      have h254_ : jxw (y6 + 1) = y6 + 1 := jxw_id (by omega) (by omega)
      exact ih48 y1 y2 y4 (jxw (y6 + 1)) a b (show (((8 - (jxw (y6 + 1))) * 43) + 42).toNat < n from by omega) hv hf (show 0 ≤ y1 from by omega) (show y1 ≤ 255 from by omega) (show 0 ≤ jxw (y6 + 1) from by omega) (show jxw (y6 + 1) ≤ 8 from by omega) (show a 146 42 ≤ 0 from by omega) (show (a 146 9) + (a 146 44) ≤ 300 from by omega) hi9 (show (a0 146 42 = 0 → a 146 44 = 0) from by omega)
  have hc72 : ∀ (y1 y2 y4 y6 : Int) (a b : Nat → Nat → Int), (((8 - y6) * 43) + 42).toNat ≤ n → iv a → jfr jW_X12_give a0 a → 0 ≤ y1 → y1 ≤ 255 → 0 ≤ y6 → y6 ≤ 7 → a 146 42 ≤ 0 → 1 ≤ a 146 44 → (a 146 9) + (a 146 44) ≤ 300 → (OC a) → (a0 146 42 = 0 → a 146 44 = 0) → jt (jxX E d 255 72 [some (.inr (.inr (.inl 146))), some (.inl y1), some (.inr (.inl y2)), none, some (.inr (.inl y4)), none, some (.inl y6), none] [] (jxSH, a, b)) (jQ_X12_give a0 b0) := by
    intro y1 y2 y4 y6 a b hm hv hf hi0 hi1 hi2 hi3 hi4 hi5 hi6 hi7 hi8
    refine jt_eq (bq_X12_give_72 E d y1 y2 y4 y6 a b) ?_
    have h255_ := iv_get hv (k := 146) (j := 42) (l := 0) (u := 8) rfl
    have h256_ := iv_get hv (k := 146) (j := 44) (l := 0) (u := 8) rfl
    have h257_ := iv_get hv (k := 146) (j := 9) (l := 0) (u := 300) rfl
    have h258_ := iv_get hv0 (k := 146) (j := 42) (l := 0) (u := 8) rfl
    exact hc75 y1 y2 y4 y6 0 a b (show (((((8 - y6) * 43) + 0) + ((40 - 0) * 1)) + 0).toNat ≤ n from by omega) hv hf (show 0 ≤ y1 from by omega) (show y1 ≤ 255 from by omega) (show 0 ≤ y6 from by omega) (show y6 ≤ 7 from by omega) (show 0 ≤ 0 from by omega) (show 0 ≤ 40 from by omega) (show a 146 42 ≤ 0 from by omega) (show 1 ≤ a 146 44 from by omega) (show (a 146 9) + (a 146 44) ≤ 300 from by omega) hi7 (show (a0 146 42 = 0 → a 146 44 = 0) from by omega)
  have hc48 : ∀ (y1 y2 y4 y6 : Int) (a b : Nat → Nat → Int), (((8 - y6) * 43) + 42).toNat ≤ n → iv a → jfr jW_X12_give a0 a → 0 ≤ y1 → y1 ≤ 255 → 0 ≤ y6 → y6 ≤ 8 → a 146 42 ≤ 0 → (a 146 9) + (a 146 44) ≤ 300 → (OC a) → (a0 146 42 = 0 → a 146 44 = 0) → jt (jxX E d 255 48 [some (.inr (.inr (.inl 146))), some (.inl y1), some (.inr (.inl y2)), none, some (.inr (.inl y4)), none, some (.inl y6), none] [] (jxSH, a, b)) (jQ_X12_give a0 b0) := by
    intro y1 y2 y4 y6 a b hm hv hf hi0 hi1 hi2 hi3 hi4 hi5 hi6 hi7
    refine jt_eq (bq_X12_give_48 E d y1 y2 y4 y6 a b) ?_
    have h259_ := iv_get hv (k := 146) (j := 42) (l := 0) (u := 8) rfl
    have h260_ := iv_get hv (k := 146) (j := 9) (l := 0) (u := 300) rfl
    have h261_ := iv_get hv (k := 146) (j := 44) (l := 0) (u := 8) rfl
    have h262_ := iv_get hv0 (k := 146) (j := 42) (l := 0) (u := 8) rfl
    refine jt_ite (fun c263_ => ?_) (fun c263_ => ?_)
    ·
      refine jt_grd (by omega) ?_
      have hv264_ : iv (jxu a 176 (y6.toNat) (-1)) := iv_put hv (l := (-1)) (u := 39) rfl (by omega) (by omega)
      have hf265_ : jfr jW_X12_give a0 (jxu a 176 (y6.toNat) (-1)) := jfr_put hf rfl
      have h266_ := jxshl1_b y6
      have h267_ := jxxor_b y1 (jxshl 1 y6)
      have hg268_ : OC (jxu a 176 (y6.toNat) (-1)) := (OC_fr hi6 (jfr_1 a 176 (y6.toNat) (-1)) rfl rfl (fun _ => rfl) (fun _ => rfl) (fun _ => rfl) (fun _ => rfl) (fun _ => rfl))
      exact hc72 (jxxor y1 (jxshl 1 y6)) y2 y4 y6 (jxu a 176 (y6.toNat) (-1)) b (show (((8 - y6) * 43) + 42).toNat ≤ n from by omega) hv264_ hf265_ (show 0 ≤ jxxor y1 (jxshl 1 y6) from by omega) (show jxxor y1 (jxshl 1 y6) ≤ 255 from by omega) (show 0 ≤ y6 from by omega) (show y6 ≤ 7 from by omega) (show a 146 42 ≤ 0 from by omega) (show 1 ≤ a 146 44 from by omega) (show (a 146 9) + (a 146 44) ≤ 300 from by omega) hg268_ (show (a0 146 42 = 0 → a 146 44 = 0) from by omega)
    ·
      exact (cp_X12_give_215 E d hd a0 b0 hv0 hp0 hp1 hp2 _).2 0 0 a b (Nat.le_refl _) hv hf (show 0 ≤ 0 from by omega) (show 0 ≤ 8 from by omega) (show a 146 42 ≤ 0 from by omega) (show ((a 146 9) + (a 146 44)) - 0 ≤ 300 from by omega) (show (a0 146 42 = 0 → 0 = 0) from by omega) hi6 (show (a0 146 42 = 0 → a 146 44 = 0) from by omega)
  exact ⟨hc197, hc160, hc163, hc106, hc75, hc72, hc48⟩
theorem cp_X12_give_35 (E : jxE) (d : Nat) (hd : Nat.ble 9 (d + 1) = true) (a0 b0 : Nat → Nat → Int) (hv0 : iv a0) (hp0 : WFW a0) (hp1 : OC a0) (hp2 : WISHR a0) : ∀ (y1 : Int) (a b : Nat → Nat → Int), iv a → jfr jW_X12_give a0 a → 0 ≤ y1 → y1 ≤ 255 → a 146 42 ≤ 0 → (a 146 9) + (a 146 44) ≤ 300 → (OC a) → (a0 146 42 = 0 → a 146 44 = 0) → jt (jxX E d 255 35 [some (.inr (.inr (.inl 146))), some (.inl y1), none, none, none, none, none, none] [] (jxSH, a, b)) (jQ_X12_give a0 b0) := by
  intro y1 a b hv hf hi0 hi1 hi2 hi3 hi4 hi5
  refine jt_eq (bq_X12_give_35 E d y1 a b) ?_
  have h269_ := iv_get hv (k := 146) (j := 42) (l := 0) (u := 8) rfl
  have h270_ := iv_get hv (k := 146) (j := 9) (l := 0) (u := 300) rfl
  have h271_ := iv_get hv (k := 146) (j := 44) (l := 0) (u := 8) rfl
  have h272_ := iv_get hv0 (k := 146) (j := 42) (l := 0) (u := 8) rfl
  refine jt_bJ (sp_X12_best E d (jd_le hd rfl) y1 0 a b hv (show (0 ≤ y1 ∧ y1 ≤ 255) from by omega)) (fun r273_ a273_ b273_ h273_ => ?_)
  subst h273_
  exact (cp_X12_give_48 E d hd a0 b0 hv0 hp0 hp1 hp2 _).2.2.2.2.2.2 y1 0 r273_ 0 a b273_ (Nat.le_refl _) hv hf (show 0 ≤ y1 from by omega) (show y1 ≤ 255 from by omega) (show 0 ≤ 0 from by omega) (show 0 ≤ 8 from by omega) (show a 146 42 ≤ 0 from by omega) (show (a 146 9) + (a 146 44) ≤ 300 from by omega) hi4 (show (a0 146 42 = 0 → a 146 44 = 0) from by omega)
theorem sp_X12_give (E : jxE) (d : Nat) (hd : Nat.ble 9 d = true) (a0 b0 : Nat → Nat → Int) (hv0 : iv a0) (hp0 : WFW a0) (hp1 : OC a0) (hp2 : WISHR a0) : jt (jxC E d 255 [.inr (.inr (.inl 146))] (jxSH, a0, b0)) (jQ_X12_give a0 b0) := by
  obtain ⟨d, rfl⟩ := jd_succ hd
  refine jt_eq (bq_X12_give E d a0 b0) ?_
  have h274_ := iv_get hv0 (k := 146) (j := 9) (l := 0) (u := 300) rfl
  have h275_ := iv_get hv0 (k := 146) (j := 42) (l := 0) (u := 8) rfl
  have h276_ : jxw ((a0 146 9) + (a0 146 42)) = (a0 146 9) + (a0 146 42) := jxw_id (by omega) (by omega)
  refine jt_ite (fun c277_ => ?_) (fun c277_ => ?_)
  ·
    exact jt_rI ⟨hv0, (jfr_rf _ _), hp1, (show (a0 146 42 = 0 → (-1) = 0) from by omega)⟩
  ·
    refine jt_bV (sp_X12_weighs E d (jd_le hd rfl) a0 b0 hv0 hp0 hp2) (fun a278_ b278_ h278_ => ?_)
    obtain ⟨hv278_, hf278_, hq278_0⟩ := h278_
    have h279_ := iv_get hv278_ (k := 146) (j := 44) (l := 0) (u := 8) rfl
    have h280_ := iv_get hv278_ (k := 146) (j := 42) (l := 0) (u := 8) rfl
    have h281_ : a278_ 146 42 = a0 146 42 := hf278_ 146 42 rfl
    have hv282_ : iv (jxu a278_ 146 42 0) := iv_put hv278_ (l := 0) (u := 8) rfl (by omega) (by omega)
    have hf283_ : jfr jW_X12_give a0 a278_ := jfr_tr (jfr_rf _ _) hf278_ rfl
    have hf284_ : jfr jW_X12_give a0 (jxu a278_ 146 42 0) := jfr_put hf283_ rfl
    have h285_ := jxshl1_b (a278_ 146 44)
    have h286_ : jxw ((jxshl 1 (a278_ 146 44)) - 1) = (jxshl 1 (a278_ 146 44)) - 1 := jxw_id (by omega) (by omega)
    have h287_ := iv_get hv278_ (k := 146) (j := 9) (l := 0) (u := 300) rfl
    have h288_ : a278_ 146 9 = a0 146 9 := hf278_ 146 9 rfl
    have hg289_ : OC (jxu a278_ 146 42 0) := (OC_fr (OC_fr hp1 hf278_ rfl rfl (fun _ => rfl) (fun _ => rfl) (fun _ => rfl) (fun _ => rfl) (fun _ => rfl)) (jfr_1s a278_ 146 42 0) rfl rfl (fun _ => rfl) (fun _ => rfl) (fun _ => rfl) (fun _ => rfl) (fun _ => rfl))
    exact cp_X12_give_35 E d hd a0 b0 hv0 hp0 hp1 hp2 (jxw ((jxshl 1 (a278_ 146 44)) - 1)) (jxu a278_ 146 42 0) b278_ hv282_ hf284_ (show 0 ≤ jxw ((jxshl 1 (a278_ 146 44)) - 1) from by omega) (show jxw ((jxshl 1 (a278_ 146 44)) - 1) ≤ 255 from by omega) (show 0 ≤ 0 from by omega) (show (a278_ 146 9) + (a278_ 146 44) ≤ 300 from by omega) hg289_ (show (a0 146 42 = 0 → a278_ 146 44 = 0) from by omega)
