def jW_X12_finds : List (Nat × Nat) := [(146, 64), (189, 9999), (190, 9999)]
abbrev jQ_X12_finds (a0 b0 : Nat → Nat → Int) : List jxV → (Nat → Nat → Int) → (Nat → Nat → Int) → Prop := rV (fun a b => (iv a) ∧ (jfr jW_X12_finds a0 a) ∧ (b0 = b) ∧ (FO a) ∧ ((a0 146 56 = 0 → a 146 64 = 0)))
theorem cp_X12_finds_14 (E : jxE) (d : Nat) (hd : Nat.ble 3 (d + 1) = true) (a0 b0 : Nat → Nat → Int) (hv0 : iv a0) (hp0 : RS a0) (hp1 : FW a0) (hp2 : FO a0) (hp3 : RF a0 (a0 146 56 + 1)) (hp4 : a0 146 56 ≤ a0 146 49) : ∀ n : Nat, (∀ (y1 y2 y3 y4 : Int) (a : Nat → Nat → Int), (((((pc y1) * 27010) + 7) + ((27000 - y4) * 1)) + 0).toNat ≤ n → iv a → jfr jW_X12_finds a0 a → 1 ≤ y1 → y1 ≤ 4095 → 0 ≤ y2 → y2 ≤ 11 → 0 - 1 ≤ y3 → y3 ≤ 26999 → 0 ≤ y4 → y4 ≤ 26999 → 0 ≤ y1 → y1 ≤ 4095 → (2 * (a 146 64)) + (pc y1) ≤ 12 → y1 < jxshl 1 (a 146 56) → 1 ≤ y1 → 0 ≤ y2 → y2 < a 146 56 → (FO a) → (¬ jxand (jxshr y1 y2) 1 = 0) → (y3 = -1 ∨ (0 ≤ y3 ∧ y3 < a 146 58 ∧ jxand (a 184 y3.toNat) y1 = a 184 y3.toNat)) → 0 ≤ y4 → y4 ≤ 26999 → 1 ≤ a0 146 56 → jt (jxX E d 272 89 [some (.inr (.inr (.inl 146))), some (.inl y1), some (.inl y2), some (.inl y3), some (.inl y4), none] [] (jxSH, a, b0)) (jQ_X12_finds a0 b0)) ∧ (∀ (y1 y2 y3 y4 : Int) (a : Nat → Nat → Int), (((((pc y1) * 27010) + 7) + ((27000 - y4) * 1)) + 0).toNat ≤ n → iv a → jfr jW_X12_finds a0 a → 1 ≤ y1 → y1 ≤ 4095 → 0 ≤ y2 → y2 ≤ 11 → 0 - 1 ≤ y3 → y3 ≤ 0 - 1 → 0 ≤ y4 → y4 ≤ 26999 → 0 ≤ y1 → y1 ≤ 4095 → (2 * (a 146 64)) + (pc y1) ≤ 12 → y1 < jxshl 1 (a 146 56) → 1 ≤ y1 → 0 ≤ y2 → y2 < a 146 56 → (FO a) → (¬ jxand (jxshr y1 y2) 1 = 0) → (y3 = -1 ∨ (0 ≤ y3 ∧ y3 < a 146 58 ∧ jxand (a 184 y3.toNat) y1 = a 184 y3.toNat)) → 0 ≤ y4 → y4 < a 146 58 → (jxand (a 184 y4.toNat) y1 = a 184 y4.toNat) → 1 ≤ a0 146 56 → jt (jxX E d 272 70 [some (.inr (.inr (.inl 146))), some (.inl y1), some (.inl y2), some (.inl y3), some (.inl y4), none] [] (jxSH, a, b0)) (jQ_X12_finds a0 b0)) ∧ (∀ (y1 y3 y4 y5 : Int) (a : Nat → Nat → Int), (((((pc y1) * 27010) + 0) + ((5 - y5) * 1)) + 0).toNat ≤ n → iv a → jfr jW_X12_finds a0 a → 1 ≤ y1 → y1 ≤ 4095 → 0 ≤ y3 → y3 ≤ 26999 → 1 ≤ y4 → y4 ≤ 12 → 0 ≤ y5 → y5 ≤ 5 → 0 ≤ y1 → y1 ≤ 4095 → (2 * (a 146 64)) + (pc y1) ≤ 12 → y1 < jxshl 1 (a 146 56) → 1 ≤ y1 → (FO a) → (0 ≤ y3 ∧ y3 < a 146 58 ∧ jxand (a 184 y3.toNat) y1 = a 184 y3.toNat) → a 146 64 ≤ 5 → 2 ≤ y4 → y4 ≤ 5 → (y4 = pc (a 184 y3.toNat)) → 0 ≤ y5 → y5 < y4 → 1 ≤ a0 146 56 → jt (jxX E d 272 174 [some (.inr (.inr (.inl 146))), some (.inl y1), none, some (.inl y3), some (.inl y4), some (.inl y5)] [] (jxSH, a, b0)) (jQ_X12_finds a0 b0)) ∧ (∀ (y1 : Int) (a : Nat → Nat → Int), (((pc y1) * 27010) + 27010).toNat ≤ n → iv a → jfr jW_X12_finds a0 a → 0 ≤ y1 → y1 ≤ 4095 → 0 ≤ y1 → y1 ≤ 4095 → (2 * (a 146 64)) + (pc y1) ≤ 12 → y1 < jxshl 1 (a 146 56) → (FO a) → (a0 146 56 = 0 → (y1 = 0 ∧ a 146 64 = 0)) → jt (jxX E d 272 199 [some (.inr (.inr (.inl 146))), some (.inl y1), none, none, none, none] [] (jxSH, a, b0)) (jQ_X12_finds a0 b0)) ∧ (∀ (y1 y3 y4 y5 : Int) (a : Nat → Nat → Int), (((((pc y1) * 27010) + 0) + ((5 - y5) * 1)) + 0).toNat ≤ n → iv a → jfr jW_X12_finds a0 a → 1 ≤ y1 → y1 ≤ 4095 → 0 ≤ y3 → y3 ≤ 26999 → 0 ≤ y4 → y4 ≤ 12 → 0 ≤ y5 → y5 ≤ 5 → 0 ≤ y1 → y1 ≤ 4095 → (2 * (a 146 64)) + (pc y1) ≤ 12 → y1 < jxshl 1 (a 146 56) → 1 ≤ y1 → (FO a) → (0 ≤ y3 ∧ y3 < a 146 58 ∧ jxand (a 184 y3.toNat) y1 = a 184 y3.toNat) → a 146 64 ≤ 5 → 2 ≤ y4 → y4 ≤ 5 → (y4 = pc (a 184 y3.toNat)) → 0 ≤ y5 → y5 ≤ y4 → 1 ≤ a0 146 56 → jt (jxX E d 272 134 [some (.inr (.inr (.inl 146))), some (.inl y1), none, some (.inl y3), some (.inl y4), some (.inl y5)] [] (jxSH, a, b0)) (jQ_X12_finds a0 b0)) ∧ (∀ (y1 y3 y4 : Int) (a : Nat → Nat → Int), (((pc y1) * 27010) + 7).toNat ≤ n → iv a → jfr jW_X12_finds a0 a → 1 ≤ y1 → y1 ≤ 4095 → 0 ≤ y3 → y3 ≤ 26999 → 0 ≤ y4 → y4 ≤ 12 → 0 ≤ y1 → y1 ≤ 4095 → (2 * (a 146 64)) + (pc y1) ≤ 12 → y1 < jxshl 1 (a 146 56) → 1 ≤ y1 → (FO a) → (0 ≤ y3 ∧ y3 < a 146 58 ∧ jxand (a 184 y3.toNat) y1 = a 184 y3.toNat) → a 146 64 ≤ 5 → 2 ≤ y4 → y4 ≤ 5 → (y4 = pc (a 184 y3.toNat)) → 1 ≤ a0 146 56 → jt (jxX E d 272 131 [some (.inr (.inr (.inl 146))), some (.inl y1), none, some (.inl y3), some (.inl y4), none] [] (jxSH, a, b0)) (jQ_X12_finds a0 b0)) ∧ (∀ (y1 y2 y3 : Int) (a : Nat → Nat → Int), (((pc y1) * 27010) + 7).toNat ≤ n → iv a → jfr jW_X12_finds a0 a → 1 ≤ y1 → y1 ≤ 4095 → 0 ≤ y2 → y2 ≤ 11 → 0 - 1 ≤ y3 → y3 ≤ 26999 → 0 ≤ y1 → y1 ≤ 4095 → (2 * (a 146 64)) + (pc y1) ≤ 12 → y1 < jxshl 1 (a 146 56) → 1 ≤ y1 → 0 ≤ y2 → y2 < a 146 56 → (FO a) → (¬ jxand (jxshr y1 y2) 1 = 0) → (y3 = -1 ∨ (0 ≤ y3 ∧ y3 < a 146 58 ∧ jxand (a 184 y3.toNat) y1 = a 184 y3.toNat)) → 1 ≤ a0 146 56 → jt (jxX E d 272 95 [some (.inr (.inr (.inl 146))), some (.inl y1), some (.inl y2), some (.inl y3), none, none] [] (jxSH, a, b0)) (jQ_X12_finds a0 b0)) ∧ (∀ (y1 y2 y3 y4 : Int) (a : Nat → Nat → Int), (((((pc y1) * 27010) + 7) + ((27000 - y4) * 1)) + 0).toNat ≤ n → iv a → jfr jW_X12_finds a0 a → 1 ≤ y1 → y1 ≤ 4095 → 0 ≤ y2 → y2 ≤ 11 → 0 - 1 ≤ y3 → y3 ≤ 26999 → 0 ≤ y4 → y4 ≤ 27000 → 0 ≤ y1 → y1 ≤ 4095 → (2 * (a 146 64)) + (pc y1) ≤ 12 → y1 < jxshl 1 (a 146 56) → 1 ≤ y1 → 0 ≤ y2 → y2 < a 146 56 → (FO a) → (¬ jxand (jxshr y1 y2) 1 = 0) → (y3 = -1 ∨ (0 ≤ y3 ∧ y3 < a 146 58 ∧ jxand (a 184 y3.toNat) y1 = a 184 y3.toNat)) → 0 ≤ y4 → 1 ≤ a0 146 56 → jt (jxX E d 272 33 [some (.inr (.inr (.inl 146))), some (.inl y1), some (.inl y2), some (.inl y3), some (.inl y4), none] [] (jxSH, a, b0)) (jQ_X12_finds a0 b0)) ∧ (∀ (y1 : Int) (a : Nat → Nat → Int), (((pc y1) * 27010) + 27009).toNat ≤ n → iv a → jfr jW_X12_finds a0 a → 0 ≤ y1 → y1 ≤ 4095 → 0 ≤ y1 → y1 ≤ 4095 → (2 * (a 146 64)) + (pc y1) ≤ 12 → y1 < jxshl 1 (a 146 56) → (FO a) → (a0 146 56 = 0 → (y1 = 0 ∧ a 146 64 = 0)) → jt (jxX E d 272 14 [some (.inr (.inr (.inl 146))), some (.inl y1), none, none, none, none] [] (jxSH, a, b0)) (jQ_X12_finds a0 b0)) := by
  refine jx_ind fun n ih => ?_
  have ih89 : ∀ (y1 y2 y3 y4 : Int) (a : Nat → Nat → Int), (((((pc y1) * 27010) + 7) + ((27000 - y4) * 1)) + 0).toNat < n → iv a → jfr jW_X12_finds a0 a → 1 ≤ y1 → y1 ≤ 4095 → 0 ≤ y2 → y2 ≤ 11 → 0 - 1 ≤ y3 → y3 ≤ 26999 → 0 ≤ y4 → y4 ≤ 26999 → 0 ≤ y1 → y1 ≤ 4095 → (2 * (a 146 64)) + (pc y1) ≤ 12 → y1 < jxshl 1 (a 146 56) → 1 ≤ y1 → 0 ≤ y2 → y2 < a 146 56 → (FO a) → (¬ jxand (jxshr y1 y2) 1 = 0) → (y3 = -1 ∨ (0 ≤ y3 ∧ y3 < a 146 58 ∧ jxand (a 184 y3.toNat) y1 = a 184 y3.toNat)) → 0 ≤ y4 → y4 ≤ 26999 → 1 ≤ a0 146 56 → jt (jxX E d 272 89 [some (.inr (.inr (.inl 146))), some (.inl y1), some (.inl y2), some (.inl y3), some (.inl y4), none] [] (jxSH, a, b0)) (jQ_X12_finds a0 b0) := fun y1 y2 y3 y4 a hlt i0 i1 i2 i3 i4 i5 i6 i7 i8 i9 i10 i11 i12 i13 i14 i15 i16 i17 i18 i19 i20 i21 i22 => (ih _ hlt).1 y1 y2 y3 y4 a (Nat.le_refl _) i0 i1 i2 i3 i4 i5 i6 i7 i8 i9 i10 i11 i12 i13 i14 i15 i16 i17 i18 i19 i20 i21 i22
  have ih70 : ∀ (y1 y2 y3 y4 : Int) (a : Nat → Nat → Int), (((((pc y1) * 27010) + 7) + ((27000 - y4) * 1)) + 0).toNat < n → iv a → jfr jW_X12_finds a0 a → 1 ≤ y1 → y1 ≤ 4095 → 0 ≤ y2 → y2 ≤ 11 → 0 - 1 ≤ y3 → y3 ≤ 0 - 1 → 0 ≤ y4 → y4 ≤ 26999 → 0 ≤ y1 → y1 ≤ 4095 → (2 * (a 146 64)) + (pc y1) ≤ 12 → y1 < jxshl 1 (a 146 56) → 1 ≤ y1 → 0 ≤ y2 → y2 < a 146 56 → (FO a) → (¬ jxand (jxshr y1 y2) 1 = 0) → (y3 = -1 ∨ (0 ≤ y3 ∧ y3 < a 146 58 ∧ jxand (a 184 y3.toNat) y1 = a 184 y3.toNat)) → 0 ≤ y4 → y4 < a 146 58 → (jxand (a 184 y4.toNat) y1 = a 184 y4.toNat) → 1 ≤ a0 146 56 → jt (jxX E d 272 70 [some (.inr (.inr (.inl 146))), some (.inl y1), some (.inl y2), some (.inl y3), some (.inl y4), none] [] (jxSH, a, b0)) (jQ_X12_finds a0 b0) := fun y1 y2 y3 y4 a hlt i0 i1 i2 i3 i4 i5 i6 i7 i8 i9 i10 i11 i12 i13 i14 i15 i16 i17 i18 i19 i20 i21 i22 i23 => (ih _ hlt).2.1 y1 y2 y3 y4 a (Nat.le_refl _) i0 i1 i2 i3 i4 i5 i6 i7 i8 i9 i10 i11 i12 i13 i14 i15 i16 i17 i18 i19 i20 i21 i22 i23
  have ih174 : ∀ (y1 y3 y4 y5 : Int) (a : Nat → Nat → Int), (((((pc y1) * 27010) + 0) + ((5 - y5) * 1)) + 0).toNat < n → iv a → jfr jW_X12_finds a0 a → 1 ≤ y1 → y1 ≤ 4095 → 0 ≤ y3 → y3 ≤ 26999 → 1 ≤ y4 → y4 ≤ 12 → 0 ≤ y5 → y5 ≤ 5 → 0 ≤ y1 → y1 ≤ 4095 → (2 * (a 146 64)) + (pc y1) ≤ 12 → y1 < jxshl 1 (a 146 56) → 1 ≤ y1 → (FO a) → (0 ≤ y3 ∧ y3 < a 146 58 ∧ jxand (a 184 y3.toNat) y1 = a 184 y3.toNat) → a 146 64 ≤ 5 → 2 ≤ y4 → y4 ≤ 5 → (y4 = pc (a 184 y3.toNat)) → 0 ≤ y5 → y5 < y4 → 1 ≤ a0 146 56 → jt (jxX E d 272 174 [some (.inr (.inr (.inl 146))), some (.inl y1), none, some (.inl y3), some (.inl y4), some (.inl y5)] [] (jxSH, a, b0)) (jQ_X12_finds a0 b0) := fun y1 y3 y4 y5 a hlt i0 i1 i2 i3 i4 i5 i6 i7 i8 i9 i10 i11 i12 i13 i14 i15 i16 i17 i18 i19 i20 i21 i22 i23 => (ih _ hlt).2.2.1 y1 y3 y4 y5 a (Nat.le_refl _) i0 i1 i2 i3 i4 i5 i6 i7 i8 i9 i10 i11 i12 i13 i14 i15 i16 i17 i18 i19 i20 i21 i22 i23
  have ih199 : ∀ (y1 : Int) (a : Nat → Nat → Int), (((pc y1) * 27010) + 27010).toNat < n → iv a → jfr jW_X12_finds a0 a → 0 ≤ y1 → y1 ≤ 4095 → 0 ≤ y1 → y1 ≤ 4095 → (2 * (a 146 64)) + (pc y1) ≤ 12 → y1 < jxshl 1 (a 146 56) → (FO a) → (a0 146 56 = 0 → (y1 = 0 ∧ a 146 64 = 0)) → jt (jxX E d 272 199 [some (.inr (.inr (.inl 146))), some (.inl y1), none, none, none, none] [] (jxSH, a, b0)) (jQ_X12_finds a0 b0) := fun y1 a hlt i0 i1 i2 i3 i4 i5 i6 i7 i8 i9 => (ih _ hlt).2.2.2.1 y1 a (Nat.le_refl _) i0 i1 i2 i3 i4 i5 i6 i7 i8 i9
  have ih134 : ∀ (y1 y3 y4 y5 : Int) (a : Nat → Nat → Int), (((((pc y1) * 27010) + 0) + ((5 - y5) * 1)) + 0).toNat < n → iv a → jfr jW_X12_finds a0 a → 1 ≤ y1 → y1 ≤ 4095 → 0 ≤ y3 → y3 ≤ 26999 → 0 ≤ y4 → y4 ≤ 12 → 0 ≤ y5 → y5 ≤ 5 → 0 ≤ y1 → y1 ≤ 4095 → (2 * (a 146 64)) + (pc y1) ≤ 12 → y1 < jxshl 1 (a 146 56) → 1 ≤ y1 → (FO a) → (0 ≤ y3 ∧ y3 < a 146 58 ∧ jxand (a 184 y3.toNat) y1 = a 184 y3.toNat) → a 146 64 ≤ 5 → 2 ≤ y4 → y4 ≤ 5 → (y4 = pc (a 184 y3.toNat)) → 0 ≤ y5 → y5 ≤ y4 → 1 ≤ a0 146 56 → jt (jxX E d 272 134 [some (.inr (.inr (.inl 146))), some (.inl y1), none, some (.inl y3), some (.inl y4), some (.inl y5)] [] (jxSH, a, b0)) (jQ_X12_finds a0 b0) := fun y1 y3 y4 y5 a hlt i0 i1 i2 i3 i4 i5 i6 i7 i8 i9 i10 i11 i12 i13 i14 i15 i16 i17 i18 i19 i20 i21 i22 i23 => (ih _ hlt).2.2.2.2.1 y1 y3 y4 y5 a (Nat.le_refl _) i0 i1 i2 i3 i4 i5 i6 i7 i8 i9 i10 i11 i12 i13 i14 i15 i16 i17 i18 i19 i20 i21 i22 i23
  have ih131 : ∀ (y1 y3 y4 : Int) (a : Nat → Nat → Int), (((pc y1) * 27010) + 7).toNat < n → iv a → jfr jW_X12_finds a0 a → 1 ≤ y1 → y1 ≤ 4095 → 0 ≤ y3 → y3 ≤ 26999 → 0 ≤ y4 → y4 ≤ 12 → 0 ≤ y1 → y1 ≤ 4095 → (2 * (a 146 64)) + (pc y1) ≤ 12 → y1 < jxshl 1 (a 146 56) → 1 ≤ y1 → (FO a) → (0 ≤ y3 ∧ y3 < a 146 58 ∧ jxand (a 184 y3.toNat) y1 = a 184 y3.toNat) → a 146 64 ≤ 5 → 2 ≤ y4 → y4 ≤ 5 → (y4 = pc (a 184 y3.toNat)) → 1 ≤ a0 146 56 → jt (jxX E d 272 131 [some (.inr (.inr (.inl 146))), some (.inl y1), none, some (.inl y3), some (.inl y4), none] [] (jxSH, a, b0)) (jQ_X12_finds a0 b0) := fun y1 y3 y4 a hlt i0 i1 i2 i3 i4 i5 i6 i7 i8 i9 i10 i11 i12 i13 i14 i15 i16 i17 i18 i19 => (ih _ hlt).2.2.2.2.2.1 y1 y3 y4 a (Nat.le_refl _) i0 i1 i2 i3 i4 i5 i6 i7 i8 i9 i10 i11 i12 i13 i14 i15 i16 i17 i18 i19
  have ih95 : ∀ (y1 y2 y3 : Int) (a : Nat → Nat → Int), (((pc y1) * 27010) + 7).toNat < n → iv a → jfr jW_X12_finds a0 a → 1 ≤ y1 → y1 ≤ 4095 → 0 ≤ y2 → y2 ≤ 11 → 0 - 1 ≤ y3 → y3 ≤ 26999 → 0 ≤ y1 → y1 ≤ 4095 → (2 * (a 146 64)) + (pc y1) ≤ 12 → y1 < jxshl 1 (a 146 56) → 1 ≤ y1 → 0 ≤ y2 → y2 < a 146 56 → (FO a) → (¬ jxand (jxshr y1 y2) 1 = 0) → (y3 = -1 ∨ (0 ≤ y3 ∧ y3 < a 146 58 ∧ jxand (a 184 y3.toNat) y1 = a 184 y3.toNat)) → 1 ≤ a0 146 56 → jt (jxX E d 272 95 [some (.inr (.inr (.inl 146))), some (.inl y1), some (.inl y2), some (.inl y3), none, none] [] (jxSH, a, b0)) (jQ_X12_finds a0 b0) := fun y1 y2 y3 a hlt i0 i1 i2 i3 i4 i5 i6 i7 i8 i9 i10 i11 i12 i13 i14 i15 i16 i17 i18 => (ih _ hlt).2.2.2.2.2.2.1 y1 y2 y3 a (Nat.le_refl _) i0 i1 i2 i3 i4 i5 i6 i7 i8 i9 i10 i11 i12 i13 i14 i15 i16 i17 i18
  have ih33 : ∀ (y1 y2 y3 y4 : Int) (a : Nat → Nat → Int), (((((pc y1) * 27010) + 7) + ((27000 - y4) * 1)) + 0).toNat < n → iv a → jfr jW_X12_finds a0 a → 1 ≤ y1 → y1 ≤ 4095 → 0 ≤ y2 → y2 ≤ 11 → 0 - 1 ≤ y3 → y3 ≤ 26999 → 0 ≤ y4 → y4 ≤ 27000 → 0 ≤ y1 → y1 ≤ 4095 → (2 * (a 146 64)) + (pc y1) ≤ 12 → y1 < jxshl 1 (a 146 56) → 1 ≤ y1 → 0 ≤ y2 → y2 < a 146 56 → (FO a) → (¬ jxand (jxshr y1 y2) 1 = 0) → (y3 = -1 ∨ (0 ≤ y3 ∧ y3 < a 146 58 ∧ jxand (a 184 y3.toNat) y1 = a 184 y3.toNat)) → 0 ≤ y4 → 1 ≤ a0 146 56 → jt (jxX E d 272 33 [some (.inr (.inr (.inl 146))), some (.inl y1), some (.inl y2), some (.inl y3), some (.inl y4), none] [] (jxSH, a, b0)) (jQ_X12_finds a0 b0) := fun y1 y2 y3 y4 a hlt i0 i1 i2 i3 i4 i5 i6 i7 i8 i9 i10 i11 i12 i13 i14 i15 i16 i17 i18 i19 i20 i21 => (ih _ hlt).2.2.2.2.2.2.2.1 y1 y2 y3 y4 a (Nat.le_refl _) i0 i1 i2 i3 i4 i5 i6 i7 i8 i9 i10 i11 i12 i13 i14 i15 i16 i17 i18 i19 i20 i21
  have ih14 : ∀ (y1 : Int) (a : Nat → Nat → Int), (((pc y1) * 27010) + 27009).toNat < n → iv a → jfr jW_X12_finds a0 a → 0 ≤ y1 → y1 ≤ 4095 → 0 ≤ y1 → y1 ≤ 4095 → (2 * (a 146 64)) + (pc y1) ≤ 12 → y1 < jxshl 1 (a 146 56) → (FO a) → (a0 146 56 = 0 → (y1 = 0 ∧ a 146 64 = 0)) → jt (jxX E d 272 14 [some (.inr (.inr (.inl 146))), some (.inl y1), none, none, none, none] [] (jxSH, a, b0)) (jQ_X12_finds a0 b0) := fun y1 a hlt i0 i1 i2 i3 i4 i5 i6 i7 i8 i9 => (ih _ hlt).2.2.2.2.2.2.2.2 y1 a (Nat.le_refl _) i0 i1 i2 i3 i4 i5 i6 i7 i8 i9
  have hc89 : ∀ (y1 y2 y3 y4 : Int) (a : Nat → Nat → Int), (((((pc y1) * 27010) + 7) + ((27000 - y4) * 1)) + 0).toNat ≤ n → iv a → jfr jW_X12_finds a0 a → 1 ≤ y1 → y1 ≤ 4095 → 0 ≤ y2 → y2 ≤ 11 → 0 - 1 ≤ y3 → y3 ≤ 26999 → 0 ≤ y4 → y4 ≤ 26999 → 0 ≤ y1 → y1 ≤ 4095 → (2 * (a 146 64)) + (pc y1) ≤ 12 → y1 < jxshl 1 (a 146 56) → 1 ≤ y1 → 0 ≤ y2 → y2 < a 146 56 → (FO a) → (¬ jxand (jxshr y1 y2) 1 = 0) → (y3 = -1 ∨ (0 ≤ y3 ∧ y3 < a 146 58 ∧ jxand (a 184 y3.toNat) y1 = a 184 y3.toNat)) → 0 ≤ y4 → y4 ≤ 26999 → 1 ≤ a0 146 56 → jt (jxX E d 272 89 [some (.inr (.inr (.inl 146))), some (.inl y1), some (.inl y2), some (.inl y3), some (.inl y4), none] [] (jxSH, a, b0)) (jQ_X12_finds a0 b0) := by
    intro y1 y2 y3 y4 a hm hv hf hi0 hi1 hi2 hi3 hi4 hi5 hi6 hi7 hi8 hi9 hi10 hi11 hi12 hi13 hi14 hi15 hbit hring hi18 hi19 hi20
    refine jt_eq (bq_X12_finds_89 E d y1 y2 y3 y4 a b0) ?_
    have h1_ := iv_get hv (k := 146) (j := 64) (l := 0) (u := 6) rfl
    have h2_ := pc_bd y1
    have h3_ := iv_get hv (k := 146) (j := 56) (l := 0) (u := 12) rfl
    have h4_ : a 146 56 = a0 146 56 := hf 146 56 rfl
    have h5_ := iv_get hv0 (k := 146) (j := 56) (l := 0) (u := 12) rfl
    have h6_ := jxshl1_b (a 146 56)
    have h7_ : jxw (y4 + 1) = y4 + 1 := jxw_id (by omega) (by omega)
    exact ih33 y1 y2 y3 (jxw (y4 + 1)) a (show (((((pc y1) * 27010) + 7) + ((27000 - (jxw (y4 + 1))) * 1)) + 0).toNat < n from by omega) hv hf (show 1 ≤ y1 from by omega) (show y1 ≤ 4095 from by omega) (show 0 ≤ y2 from by omega) (show y2 ≤ 11 from by omega) (show 0 - 1 ≤ y3 from by omega) (show y3 ≤ 26999 from by omega) (show 0 ≤ jxw (y4 + 1) from by omega) (show jxw (y4 + 1) ≤ 27000 from by omega) (show 0 ≤ y1 from by omega) (show y1 ≤ 4095 from by omega) (show (2 * (a 146 64)) + (pc y1) ≤ 12 from by omega) (show y1 < jxshl 1 (a 146 56) from by omega) (show 1 ≤ y1 from by omega) (show 0 ≤ y2 from by omega) (show y2 < a 146 56 from by omega) hi15 (by first | assumption | exact hq0_2) (by first | exact Or.inl rfl | assumption | (exact Or.inr ⟨by omega, by omega, hsub⟩)) (show 0 ≤ jxw (y4 + 1) from by omega) (show 1 ≤ a0 146 56 from by omega)
  have hc70 : ∀ (y1 y2 y3 y4 : Int) (a : Nat → Nat → Int), (((((pc y1) * 27010) + 7) + ((27000 - y4) * 1)) + 0).toNat ≤ n → iv a → jfr jW_X12_finds a0 a → 1 ≤ y1 → y1 ≤ 4095 → 0 ≤ y2 → y2 ≤ 11 → 0 - 1 ≤ y3 → y3 ≤ 0 - 1 → 0 ≤ y4 → y4 ≤ 26999 → 0 ≤ y1 → y1 ≤ 4095 → (2 * (a 146 64)) + (pc y1) ≤ 12 → y1 < jxshl 1 (a 146 56) → 1 ≤ y1 → 0 ≤ y2 → y2 < a 146 56 → (FO a) → (¬ jxand (jxshr y1 y2) 1 = 0) → (y3 = -1 ∨ (0 ≤ y3 ∧ y3 < a 146 58 ∧ jxand (a 184 y3.toNat) y1 = a 184 y3.toNat)) → 0 ≤ y4 → y4 < a 146 58 → (jxand (a 184 y4.toNat) y1 = a 184 y4.toNat) → 1 ≤ a0 146 56 → jt (jxX E d 272 70 [some (.inr (.inr (.inl 146))), some (.inl y1), some (.inl y2), some (.inl y3), some (.inl y4), none] [] (jxSH, a, b0)) (jQ_X12_finds a0 b0) := by
    intro y1 y2 y3 y4 a hm hv hf hi0 hi1 hi2 hi3 hi4 hi5 hi6 hi7 hi8 hi9 hi10 hi11 hi12 hi13 hi14 hi15 hbit hring hi18 hi19 hsub hi21
    refine jt_eq (bq_X12_finds_70 E d y1 y2 y3 y4 a b0) ?_
    have h8_ := iv_get hv (k := 146) (j := 64) (l := 0) (u := 6) rfl
    have h9_ := pc_bd y1
    have h10_ := iv_get hv (k := 146) (j := 56) (l := 0) (u := 12) rfl
    have h11_ : a 146 56 = a0 146 56 := hf 146 56 rfl
    have h12_ := iv_get hv0 (k := 146) (j := 56) (l := 0) (u := 12) rfl
    have h13_ := jxshl1_b (a 146 56)
    have h14_ := iv_get hv (k := 146) (j := 58) (l := 0) (u := 27000) rfl
    have h15_ : a 146 58 = a0 146 58 := hf 146 58 rfl
    have h16_ := iv_get hv0 (k := 146) (j := 58) (l := 0) (u := 27000) rfl
    refine jt_bI (sp_X12_withRing E d (jd_le hd rfl) y1 y4 a b0 hv (show (0 ≤ y1 ∧ y1 ≤ 4095) from by omega) (show (0 ≤ y4 ∧ y4 ≤ 26999) from by omega)) (fun r17_ a17_ b17_ h17_ => ?_)
    obtain ⟨rfl, rfl⟩ := h17_
    refine jt_grd (by omega) ?_
    have h18_ : a 191 (y1.toNat) = a0 191 (y1.toNat) := hf 191 (y1.toNat) rfl
    refine jt_ite (fun c19_ => ?_) (fun c19_ => ?_)
    ·
      exact hc89 y1 y2 y4 y4 a (show (((((pc y1) * 27010) + 7) + ((27000 - y4) * 1)) + 0).toNat ≤ n from by omega) hv hf (show 1 ≤ y1 from by omega) (show y1 ≤ 4095 from by omega) (show 0 ≤ y2 from by omega) (show y2 ≤ 11 from by omega) (show 0 - 1 ≤ y4 from by omega) (show y4 ≤ 26999 from by omega) (show 0 ≤ y4 from by omega) (show y4 ≤ 26999 from by omega) (show 0 ≤ y1 from by omega) (show y1 ≤ 4095 from by omega) (show (2 * (a 146 64)) + (pc y1) ≤ 12 from by omega) (show y1 < jxshl 1 (a 146 56) from by omega) (show 1 ≤ y1 from by omega) (show 0 ≤ y2 from by omega) (show y2 < a 146 56 from by omega) hi15 (by first | assumption | exact hq17_2) (by first | exact Or.inl rfl | assumption | (exact Or.inr ⟨by omega, by omega, hsub⟩)) (show 0 ≤ y4 from by omega) (show y4 ≤ 26999 from by omega) (show 1 ≤ a0 146 56 from by omega)
    ·
      exact hc89 y1 y2 y3 y4 a (show (((((pc y1) * 27010) + 7) + ((27000 - y4) * 1)) + 0).toNat ≤ n from by omega) hv hf (show 1 ≤ y1 from by omega) (show y1 ≤ 4095 from by omega) (show 0 ≤ y2 from by omega) (show y2 ≤ 11 from by omega) (show 0 - 1 ≤ y3 from by omega) (show y3 ≤ 26999 from by omega) (show 0 ≤ y4 from by omega) (show y4 ≤ 26999 from by omega) (show 0 ≤ y1 from by omega) (show y1 ≤ 4095 from by omega) (show (2 * (a 146 64)) + (pc y1) ≤ 12 from by omega) (show y1 < jxshl 1 (a 146 56) from by omega) (show 1 ≤ y1 from by omega) (show 0 ≤ y2 from by omega) (show y2 < a 146 56 from by omega) hi15 (by first | assumption | exact hq17_2) (by first | exact Or.inl rfl | assumption | (exact Or.inr ⟨by omega, by omega, hsub⟩)) (show 0 ≤ y4 from by omega) (show y4 ≤ 26999 from by omega) (show 1 ≤ a0 146 56 from by omega)
  have hc174 : ∀ (y1 y3 y4 y5 : Int) (a : Nat → Nat → Int), (((((pc y1) * 27010) + 0) + ((5 - y5) * 1)) + 0).toNat ≤ n → iv a → jfr jW_X12_finds a0 a → 1 ≤ y1 → y1 ≤ 4095 → 0 ≤ y3 → y3 ≤ 26999 → 1 ≤ y4 → y4 ≤ 12 → 0 ≤ y5 → y5 ≤ 5 → 0 ≤ y1 → y1 ≤ 4095 → (2 * (a 146 64)) + (pc y1) ≤ 12 → y1 < jxshl 1 (a 146 56) → 1 ≤ y1 → (FO a) → (0 ≤ y3 ∧ y3 < a 146 58 ∧ jxand (a 184 y3.toNat) y1 = a 184 y3.toNat) → a 146 64 ≤ 5 → 2 ≤ y4 → y4 ≤ 5 → (y4 = pc (a 184 y3.toNat)) → 0 ≤ y5 → y5 < y4 → 1 ≤ a0 146 56 → jt (jxX E d 272 174 [some (.inr (.inr (.inl 146))), some (.inl y1), none, some (.inl y3), some (.inl y4), some (.inl y5)] [] (jxSH, a, b0)) (jQ_X12_finds a0 b0) := by
    intro y1 y3 y4 y5 a hm hv hf hi0 hi1 hi2 hi3 hi4 hi5 hi6 hi7 hi8 hi9 hi10 hi11 hi12 hi13 hring hi15 hi16 hi17 hy4 hi19 hi20 hi21
    refine jt_eq (bq_X12_finds_174 E d y1 y3 y4 y5 a b0) ?_
    have h20_ := iv_get hv (k := 146) (j := 64) (l := 0) (u := 6) rfl
    have h21_ := pc_bd y1
    have h22_ := iv_get hv (k := 146) (j := 56) (l := 0) (u := 12) rfl
    have h23_ : a 146 56 = a0 146 56 := hf 146 56 rfl
    have h24_ := iv_get hv0 (k := 146) (j := 56) (l := 0) (u := 12) rfl
    have h25_ := jxshl1_b (a 146 56)
    have h26_ : jxw (y5 + 1) = y5 + 1 := jxw_id (by omega) (by omega)
    exact ih134 y1 y3 y4 (jxw (y5 + 1)) a (show (((((pc y1) * 27010) + 0) + ((5 - (jxw (y5 + 1))) * 1)) + 0).toNat < n from by omega) hv hf (show 1 ≤ y1 from by omega) (show y1 ≤ 4095 from by omega) (show 0 ≤ y3 from by omega) (show y3 ≤ 26999 from by omega) (show 0 ≤ y4 from by omega) (show y4 ≤ 12 from by omega) (show 0 ≤ jxw (y5 + 1) from by omega) (show jxw (y5 + 1) ≤ 5 from by omega) (show 0 ≤ y1 from by omega) (show y1 ≤ 4095 from by omega) (show (2 * (a 146 64)) + (pc y1) ≤ 12 from by omega) (show y1 < jxshl 1 (a 146 56) from by omega) (show 1 ≤ y1 from by omega) hi13 (by first | assumption | (rcases hring with h | h <;> first | exact absurd h (by assumption) | exact h)) (show a 146 64 ≤ 5 from by omega) (show 2 ≤ y4 from by omega) (show y4 ≤ 5 from by omega) (by first | assumption | omega) (show 0 ≤ jxw (y5 + 1) from by omega) (show jxw (y5 + 1) ≤ y4 from by omega) (show 1 ≤ a0 146 56 from by omega)
  have hc199 : ∀ (y1 : Int) (a : Nat → Nat → Int), (((pc y1) * 27010) + 27010).toNat ≤ n → iv a → jfr jW_X12_finds a0 a → 0 ≤ y1 → y1 ≤ 4095 → 0 ≤ y1 → y1 ≤ 4095 → (2 * (a 146 64)) + (pc y1) ≤ 12 → y1 < jxshl 1 (a 146 56) → (FO a) → (a0 146 56 = 0 → (y1 = 0 ∧ a 146 64 = 0)) → jt (jxX E d 272 199 [some (.inr (.inr (.inl 146))), some (.inl y1), none, none, none, none] [] (jxSH, a, b0)) (jQ_X12_finds a0 b0) := by
    intro y1 a hm hv hf hi0 hi1 hi2 hi3 hi4 hi5 hi6 hi7
    refine jt_eq (bq_X12_finds_199 E d y1 a b0) ?_
    have h27_ := iv_get hv (k := 146) (j := 64) (l := 0) (u := 6) rfl
    have h28_ := pc_bd y1
    have h29_ := iv_get hv (k := 146) (j := 56) (l := 0) (u := 12) rfl
    have h30_ : a 146 56 = a0 146 56 := hf 146 56 rfl
    have h31_ := iv_get hv0 (k := 146) (j := 56) (l := 0) (u := 12) rfl
    have h32_ := jxshl1_b (a 146 56)
    exact ih14 y1 a (show (((pc y1) * 27010) + 27009).toNat < n from by omega) hv hf (show 0 ≤ y1 from by omega) (show y1 ≤ 4095 from by omega) (show 0 ≤ y1 from by omega) (show y1 ≤ 4095 from by omega) (show (2 * (a 146 64)) + (pc y1) ≤ 12 from by omega) (show y1 < jxshl 1 (a 146 56) from by omega) hi6 (show (a0 146 56 = 0 → (y1 = 0 ∧ a 146 64 = 0)) from by omega)
  have hc134 : ∀ (y1 y3 y4 y5 : Int) (a : Nat → Nat → Int), (((((pc y1) * 27010) + 0) + ((5 - y5) * 1)) + 0).toNat ≤ n → iv a → jfr jW_X12_finds a0 a → 1 ≤ y1 → y1 ≤ 4095 → 0 ≤ y3 → y3 ≤ 26999 → 0 ≤ y4 → y4 ≤ 12 → 0 ≤ y5 → y5 ≤ 5 → 0 ≤ y1 → y1 ≤ 4095 → (2 * (a 146 64)) + (pc y1) ≤ 12 → y1 < jxshl 1 (a 146 56) → 1 ≤ y1 → (FO a) → (0 ≤ y3 ∧ y3 < a 146 58 ∧ jxand (a 184 y3.toNat) y1 = a 184 y3.toNat) → a 146 64 ≤ 5 → 2 ≤ y4 → y4 ≤ 5 → (y4 = pc (a 184 y3.toNat)) → 0 ≤ y5 → y5 ≤ y4 → 1 ≤ a0 146 56 → jt (jxX E d 272 134 [some (.inr (.inr (.inl 146))), some (.inl y1), none, some (.inl y3), some (.inl y4), some (.inl y5)] [] (jxSH, a, b0)) (jQ_X12_finds a0 b0) := by
    intro y1 y3 y4 y5 a hm hv hf hi0 hi1 hi2 hi3 hi4 hi5 hi6 hi7 hi8 hi9 hi10 hi11 hi12 hi13 hring hi15 hi16 hi17 hy4 hi19 hi20 hi21
    refine jt_eq (bq_X12_finds_134 E d y1 y3 y4 y5 a b0) ?_
    have h33_ := iv_get hv (k := 146) (j := 64) (l := 0) (u := 6) rfl
    have h34_ := pc_bd y1
    have h35_ := iv_get hv (k := 146) (j := 56) (l := 0) (u := 12) rfl
    have h36_ : a 146 56 = a0 146 56 := hf 146 56 rfl
    have h37_ := iv_get hv0 (k := 146) (j := 56) (l := 0) (u := 12) rfl
    have h38_ := jxshl1_b (a 146 56)
    have hrs := (RS_fr hp0 hf rfl (fun _ => rfl) (fun _ => rfl)) y3.toNat (by omega)
    have i58 := iv_get hv (k := 146) (j := 58) (l := 0) (u := 27000) rfl
    have i184 := iv_get hv (k := 184) (j := y3.toNat) (l := 0) (u := 4095) rfl
    have hnib : y5 < y4 → jxand (jxshr (a 185 (y3.toNat)) (jxw (4 * y5))) 15 < 12 := fun h => by have h1 := hrs.2.2 y5.toNat (by omega); rw [Int.toNat_of_nonneg (by omega)] at h1; rw [jxw_id (by omega) (by omega)]; exact h1
    have hnib0 := jxand_r (jxshr (a 185 (y3.toNat)) (jxw (4 * y5))) 15 (by decide) (by decide)
    have hx1 := xor_sub (x := y1) (s := a 184 (y3.toNat)) (by omega) (by omega) (by omega) (by omega) hring.2.2
    have hx4 := xor_le (x := y1) (s := a 184 (y3.toNat)) (by omega) (by omega) (by omega) (by omega) hring.2.2
    have hfw := (FW_fr hp1 hf rfl (fun _ => rfl)) ((jxand (jxshr (a 185 (y3.toNat)) (jxw (4 * y5))) 15).toNat)
    have i56 := iv_get hv (k := 146) (j := 56) (l := 0) (u := 12) rfl
    have hs0 := jxshl1_b (a 146 56)
    have hs00 : a 146 56 = 0 → jxshl 1 (a 146 56) = 1 := fun h => by rw [h]; decide +kernel
    refine jt_ite (fun c39_ => ?_) (fun c39_ => ?_)
    ·
      refine jt_grd (by omega) ?_
      have h40_ : a 185 (y3.toNat) = a0 185 (y3.toNat) := hf 185 (y3.toNat) rfl
      have h41_ : jxw (4 * y5) = 4 * y5 := jxw_id (by omega) (by omega)
      have h42_ := jxshr_b (a 185 (y3.toNat)) (jxw (4 * y5))
      have h43_ := jxand_r (jxshr (a 185 (y3.toNat)) (jxw (4 * y5))) 15 (by decide) (by decide)
      refine jt_grd (by omega) ?_
      have h44_ : jxw (5 * (a 146 64)) = 5 * (a 146 64) := jxw_id (by omega) (by omega)
      have h45_ : jxw ((jxw (5 * (a 146 64))) + y5) = (jxw (5 * (a 146 64))) + y5 := jxw_id (by omega) (by omega)
      refine jt_grd (by omega) ?_
      have h47_ := iv_get hv (k := 183) (j := (jxand (jxshr (a 185 (y3.toNat)) (jxw (4 * y5))) 15).toNat) (l := 0) (u := 19) rfl
      have h48_ : a 183 ((jxand (jxshr (a 185 (y3.toNat)) (jxw (4 * y5))) 15).toNat) = a0 183 ((jxand (jxshr (a 185 (y3.toNat)) (jxw (4 * y5))) 15).toNat) := hf 183 ((jxand (jxshr (a 185 (y3.toNat)) (jxw (4 * y5))) 15).toNat) rfl
      have h49_ := iv_get hv0 (k := 183) (j := (jxand (jxshr (a 185 (y3.toNat)) (jxw (4 * y5))) 15).toNat) (l := 0) (u := 19) rfl
      have hv46_ : iv (jxu a 189 ((jxw ((jxw (5 * (a 146 64))) + y5)).toNat) (a 183 ((jxand (jxshr (a 185 (y3.toNat)) (jxw (4 * y5))) 15).toNat))) := iv_put hv (l := 0) (u := 19) rfl (by omega) (by omega)
      have hf50_ : jfr jW_X12_finds a0 (jxu a 189 ((jxw ((jxw (5 * (a 146 64))) + y5)).toNat) (a 183 ((jxand (jxshr (a 185 (y3.toNat)) (jxw (4 * y5))) 15).toNat))) := jfr_put hf rfl
      have h51_ := iv_get hv (k := 146) (j := 49) (l := 0) (u := 20) rfl
      have h52_ : a 146 49 = a0 146 49 := hf 146 49 rfl
      have h53_ := iv_get hv0 (k := 146) (j := 49) (l := 0) (u := 20) rfl
      have hg54_ : FO (jxu a 189 ((jxw ((jxw (5 * (a 146 64))) + y5)).toNat) (a 183 ((jxand (jxshr (a 185 (y3.toNat)) (jxw (4 * y5))) 15).toNat))) := (FO_put189 hi13 (show a 183 ((jxand (jxshr (a 185 (y3.toNat)) (jxw (4 * y5))) 15).toNat) = 0 ∨ a 183 ((jxand (jxshr (a 185 (y3.toNat)) (jxw (4 * y5))) 15).toNat) < a 146 49 from by omega))
      exact hc174 y1 y3 y4 y5 (jxu a 189 ((jxw ((jxw (5 * (a 146 64))) + y5)).toNat) (a 183 ((jxand (jxshr (a 185 (y3.toNat)) (jxw (4 * y5))) 15).toNat))) (show (((((pc y1) * 27010) + 0) + ((5 - y5) * 1)) + 0).toNat ≤ n from by omega) hv46_ hf50_ (show 1 ≤ y1 from by omega) (show y1 ≤ 4095 from by omega) (show 0 ≤ y3 from by omega) (show y3 ≤ 26999 from by omega) (show 1 ≤ y4 from by omega) (show y4 ≤ 12 from by omega) (show 0 ≤ y5 from by omega) (show y5 ≤ 5 from by omega) (show 0 ≤ y1 from by omega) (show y1 ≤ 4095 from by omega) (show (2 * (a 146 64)) + (pc y1) ≤ 12 from by omega) (show y1 < jxshl 1 (a 146 56) from by omega) (show 1 ≤ y1 from by omega) hg54_ (by first | assumption | (rcases hring with h | h <;> first | exact absurd h (by assumption) | exact h)) (show a 146 64 ≤ 5 from by omega) (show 2 ≤ y4 from by omega) (show y4 ≤ 5 from by omega) (by first | assumption | omega) (show 0 ≤ y5 from by omega) (show y5 < y4 from by omega) (show 1 ≤ a0 146 56 from by omega)
    ·
      refine jt_grd (by omega) ?_
      have h56_ : jxw ((a 146 64) + 1) = (a 146 64) + 1 := jxw_id (by omega) (by omega)
      have hv55_ : iv (jxu a 146 64 (jxw ((a 146 64) + 1))) := iv_put hv (l := 0) (u := 6) rfl (by omega) (by omega)
      have hf57_ : jfr jW_X12_finds a0 (jxu a 146 64 (jxw ((a 146 64) + 1))) := jfr_put hf rfl
      have h58_ := iv_get hv (k := 184) (j := y3.toNat) (l := 0) (u := 4095) rfl
      have h59_ : a 184 (y3.toNat) = a0 184 (y3.toNat) := hf 184 (y3.toNat) rfl
      have h60_ := iv_get hv0 (k := 184) (j := y3.toNat) (l := 0) (u := 4095) rfl
      have h61_ := jxxor_b y1 (a 184 (y3.toNat))
      have h62_ := pc_bd (jxxor y1 (a 184 (y3.toNat)))
      have h63_ := iv_get hv (k := 146) (j := 49) (l := 0) (u := 20) rfl
      have h64_ : a 146 49 = a0 146 49 := hf 146 49 rfl
      have h65_ := iv_get hv0 (k := 146) (j := 49) (l := 0) (u := 20) rfl
      have hg66_ : FO (jxu a 146 64 (jxw ((a 146 64) + 1))) := (FO_put64 hi13 (show jxw ((a 146 64) + 1) = 0 ∨ 1 ≤ a 146 49 from by omega))
      exact hc199 (jxxor y1 (a 184 (y3.toNat))) (jxu a 146 64 (jxw ((a 146 64) + 1))) (show (((pc (jxxor y1 (a 184 (y3.toNat)))) * 27010) + 27010).toNat ≤ n from by omega) hv55_ hf57_ (show 0 ≤ jxxor y1 (a 184 (y3.toNat)) from by omega) (show jxxor y1 (a 184 (y3.toNat)) ≤ 4095 from by omega) (show 0 ≤ jxxor y1 (a 184 (y3.toNat)) from by omega) (show jxxor y1 (a 184 (y3.toNat)) ≤ 4095 from by omega) (show (2 * (jxw ((a 146 64) + 1))) + (pc (jxxor y1 (a 184 (y3.toNat)))) ≤ 12 from by omega) (show jxxor y1 (a 184 (y3.toNat)) < jxshl 1 (a 146 56) from by omega) hg66_ (show (a0 146 56 = 0 → (jxxor y1 (a 184 (y3.toNat)) = 0 ∧ jxw ((a 146 64) + 1) = 0)) from by omega)
  have hc131 : ∀ (y1 y3 y4 : Int) (a : Nat → Nat → Int), (((pc y1) * 27010) + 7).toNat ≤ n → iv a → jfr jW_X12_finds a0 a → 1 ≤ y1 → y1 ≤ 4095 → 0 ≤ y3 → y3 ≤ 26999 → 0 ≤ y4 → y4 ≤ 12 → 0 ≤ y1 → y1 ≤ 4095 → (2 * (a 146 64)) + (pc y1) ≤ 12 → y1 < jxshl 1 (a 146 56) → 1 ≤ y1 → (FO a) → (0 ≤ y3 ∧ y3 < a 146 58 ∧ jxand (a 184 y3.toNat) y1 = a 184 y3.toNat) → a 146 64 ≤ 5 → 2 ≤ y4 → y4 ≤ 5 → (y4 = pc (a 184 y3.toNat)) → 1 ≤ a0 146 56 → jt (jxX E d 272 131 [some (.inr (.inr (.inl 146))), some (.inl y1), none, some (.inl y3), some (.inl y4), none] [] (jxSH, a, b0)) (jQ_X12_finds a0 b0) := by
    intro y1 y3 y4 a hm hv hf hi0 hi1 hi2 hi3 hi4 hi5 hi6 hi7 hi8 hi9 hi10 hi11 hring hi13 hi14 hi15 hy4 hi17
    refine jt_eq (bq_X12_finds_131 E d y1 y3 y4 a b0) ?_
    have h67_ := iv_get hv (k := 146) (j := 64) (l := 0) (u := 6) rfl
    have h68_ := pc_bd y1
    have h69_ := iv_get hv (k := 146) (j := 56) (l := 0) (u := 12) rfl
    have h70_ : a 146 56 = a0 146 56 := hf 146 56 rfl
    have h71_ := iv_get hv0 (k := 146) (j := 56) (l := 0) (u := 12) rfl
    have h72_ := jxshl1_b (a 146 56)
    exact hc134 y1 y3 y4 0 a (show (((((pc y1) * 27010) + 0) + ((5 - 0) * 1)) + 0).toNat ≤ n from by omega) hv hf (show 1 ≤ y1 from by omega) (show y1 ≤ 4095 from by omega) (show 0 ≤ y3 from by omega) (show y3 ≤ 26999 from by omega) (show 0 ≤ y4 from by omega) (show y4 ≤ 12 from by omega) (show 0 ≤ 0 from by omega) (show 0 ≤ 5 from by omega) (show 0 ≤ y1 from by omega) (show y1 ≤ 4095 from by omega) (show (2 * (a 146 64)) + (pc y1) ≤ 12 from by omega) (show y1 < jxshl 1 (a 146 56) from by omega) (show 1 ≤ y1 from by omega) hi11 (by first | assumption | (rcases hring with h | h <;> first | exact absurd h (by assumption) | exact h)) (show a 146 64 ≤ 5 from by omega) (show 2 ≤ y4 from by omega) (show y4 ≤ 5 from by omega) (by first | assumption | omega) (show 0 ≤ 0 from by omega) (show 0 ≤ y4 from by omega) (show 1 ≤ a0 146 56 from by omega)
  have hc95 : ∀ (y1 y2 y3 : Int) (a : Nat → Nat → Int), (((pc y1) * 27010) + 7).toNat ≤ n → iv a → jfr jW_X12_finds a0 a → 1 ≤ y1 → y1 ≤ 4095 → 0 ≤ y2 → y2 ≤ 11 → 0 - 1 ≤ y3 → y3 ≤ 26999 → 0 ≤ y1 → y1 ≤ 4095 → (2 * (a 146 64)) + (pc y1) ≤ 12 → y1 < jxshl 1 (a 146 56) → 1 ≤ y1 → 0 ≤ y2 → y2 < a 146 56 → (FO a) → (¬ jxand (jxshr y1 y2) 1 = 0) → (y3 = -1 ∨ (0 ≤ y3 ∧ y3 < a 146 58 ∧ jxand (a 184 y3.toNat) y1 = a 184 y3.toNat)) → 1 ≤ a0 146 56 → jt (jxX E d 272 95 [some (.inr (.inr (.inl 146))), some (.inl y1), some (.inl y2), some (.inl y3), none, none] [] (jxSH, a, b0)) (jQ_X12_finds a0 b0) := by
    intro y1 y2 y3 a hm hv hf hi0 hi1 hi2 hi3 hi4 hi5 hi6 hi7 hi8 hi9 hi10 hi11 hi12 hi13 hbit hring hi16
    refine jt_eq (bq_X12_finds_95 E d y1 y2 y3 a b0) ?_
    have h73_ := iv_get hv (k := 146) (j := 64) (l := 0) (u := 6) rfl
    have h74_ := pc_bd y1
    have h75_ := iv_get hv (k := 146) (j := 56) (l := 0) (u := 12) rfl
    have h76_ : a 146 56 = a0 146 56 := hf 146 56 rfl
    have h77_ := iv_get hv0 (k := 146) (j := 56) (l := 0) (u := 12) rfl
    have h78_ := jxshl1_b (a 146 56)
    have hx1 := xor_shl (x := y1) (k := y2) (by omega) (by omega) (by omega) (by have := iv_get hv (k := 146) (j := 56) (l := 0) (u := 12) rfl; omega) hbit
    have hx2 := and_shl (x := y1) (k := y2) (by omega) (by omega) (by omega) (by have := iv_get hv (k := 146) (j := 56) (l := 0) (u := 12) rfl; omega) hbit
    have hx3 := jxshl1_b y2
    have hx4 := xor_le (x := y1) (s := jxshl 1 y2) (by omega) (by omega) (by have := iv_get hv (k := 146) (j := 56) (l := 0) (u := 12) rfl; omega) (by have := iv_get hv (k := 146) (j := 56) (l := 0) (u := 12) rfl; omega) hx2.1
    have i58 := iv_get hv (k := 146) (j := 58) (l := 0) (u := 27000) rfl
    have i184 := iv_get hv (k := 184) (j := y3.toNat) (l := 0) (u := 4095) rfl
    have hrs : y3 = -1 ∨ _ := (Classical.em (y3 = -1)).imp id (fun h => (RS_fr hp0 hf rfl (fun _ => rfl) (fun _ => rfl)) y3.toNat (by omega))
    have hps : y3 = -1 ∨ pc (a 184 (y3.toNat)) ≤ pc y1 := hring.imp id (fun h => pc_sub (by omega) (by omega) (by omega) (by omega) h.2.2)
    refine jt_ite (fun c79_ => ?_) (fun c79_ => ?_)
    ·
      have h80_ := jxshl1_b y2
      have h81_ := jxxor_b y1 (jxshl 1 y2)
      have h82_ := pc_bd (jxxor y1 (jxshl 1 y2))
      exact ih14 (jxxor y1 (jxshl 1 y2)) a (show (((pc (jxxor y1 (jxshl 1 y2))) * 27010) + 27009).toNat < n from by omega) hv hf (show 0 ≤ jxxor y1 (jxshl 1 y2) from by omega) (show jxxor y1 (jxshl 1 y2) ≤ 4095 from by omega) (show 0 ≤ jxxor y1 (jxshl 1 y2) from by omega) (show jxxor y1 (jxshl 1 y2) ≤ 4095 from by omega) (show (2 * (a 146 64)) + (pc (jxxor y1 (jxshl 1 y2))) ≤ 12 from by omega) (show jxxor y1 (jxshl 1 y2) < jxshl 1 (a 146 56) from by omega) hi13 (show (a0 146 56 = 0 → (jxxor y1 (jxshl 1 y2) = 0 ∧ a 146 64 = 0)) from by omega)
    ·
      refine jt_grd (by omega) ?_
      refine jt_bI (sp_X12_sizeOf E d (jd_le hd rfl) (a 184 (y3.toNat)) a b0 hv) (fun r83_ a83_ b83_ h83_ => ?_)
      obtain ⟨rfl, rfl, hq83_0, hq83_1⟩ := h83_
      have h84_ := iv_get hv (k := 184) (j := y3.toNat) (l := 0) (u := 4095) rfl
      have h85_ : a 184 (y3.toNat) = a0 184 (y3.toNat) := hf 184 (y3.toNat) rfl
      have h86_ := iv_get hv0 (k := 184) (j := y3.toNat) (l := 0) (u := 4095) rfl
      have h87_ := pc_bd (a 184 (y3.toNat))
      refine jt_grd (by omega) ?_
      have hv88_ : iv (jxu a 190 ((a 146 64).toNat) r83_) := iv_put hv (l := 0) (u := 5) rfl (by omega) (by omega)
      have hf89_ : jfr jW_X12_finds a0 (jxu a 190 ((a 146 64).toNat) r83_) := jfr_put hf rfl
      have hg90_ : FO (jxu a 190 ((a 146 64).toNat) r83_) := (FO_fr hi13 (jfr_1 a 190 ((a 146 64).toNat) r83_) rfl rfl (fun _ => rfl))
      exact hc131 y1 y3 r83_ (jxu a 190 ((a 146 64).toNat) r83_) (show (((pc y1) * 27010) + 7).toNat ≤ n from by omega) hv88_ hf89_ (show 1 ≤ y1 from by omega) (show y1 ≤ 4095 from by omega) (show 0 ≤ y3 from by omega) (show y3 ≤ 26999 from by omega) (show 0 ≤ r83_ from by omega) (show r83_ ≤ 12 from by omega) (show 0 ≤ y1 from by omega) (show y1 ≤ 4095 from by omega) (show (2 * (a 146 64)) + (pc y1) ≤ 12 from by omega) (show y1 < jxshl 1 (a 146 56) from by omega) (show 1 ≤ y1 from by omega) hg90_ (by first | assumption | (rcases hring with h | h <;> first | exact absurd h (by assumption) | exact h)) (show a 146 64 ≤ 5 from by omega) (show 2 ≤ r83_ from by omega) (show r83_ ≤ 5 from by omega) (by first | assumption | omega) (show 1 ≤ a0 146 56 from by omega)
  have hc33 : ∀ (y1 y2 y3 y4 : Int) (a : Nat → Nat → Int), (((((pc y1) * 27010) + 7) + ((27000 - y4) * 1)) + 0).toNat ≤ n → iv a → jfr jW_X12_finds a0 a → 1 ≤ y1 → y1 ≤ 4095 → 0 ≤ y2 → y2 ≤ 11 → 0 - 1 ≤ y3 → y3 ≤ 26999 → 0 ≤ y4 → y4 ≤ 27000 → 0 ≤ y1 → y1 ≤ 4095 → (2 * (a 146 64)) + (pc y1) ≤ 12 → y1 < jxshl 1 (a 146 56) → 1 ≤ y1 → 0 ≤ y2 → y2 < a 146 56 → (FO a) → (¬ jxand (jxshr y1 y2) 1 = 0) → (y3 = -1 ∨ (0 ≤ y3 ∧ y3 < a 146 58 ∧ jxand (a 184 y3.toNat) y1 = a 184 y3.toNat)) → 0 ≤ y4 → 1 ≤ a0 146 56 → jt (jxX E d 272 33 [some (.inr (.inr (.inl 146))), some (.inl y1), some (.inl y2), some (.inl y3), some (.inl y4), none] [] (jxSH, a, b0)) (jQ_X12_finds a0 b0) := by
    intro y1 y2 y3 y4 a hm hv hf hi0 hi1 hi2 hi3 hi4 hi5 hi6 hi7 hi8 hi9 hi10 hi11 hi12 hi13 hi14 hi15 hbit hring hi18 hi19
    refine jt_eq (bq_X12_finds_33 E d y1 y2 y3 y4 a b0) ?_
    have h91_ := iv_get hv (k := 146) (j := 64) (l := 0) (u := 6) rfl
    have h92_ := pc_bd y1
    have h93_ := iv_get hv (k := 146) (j := 56) (l := 0) (u := 12) rfl
    have h94_ : a 146 56 = a0 146 56 := hf 146 56 rfl
    have h95_ := iv_get hv0 (k := 146) (j := 56) (l := 0) (u := 12) rfl
    have h96_ := jxshl1_b (a 146 56)
    have hrf := RF_fr hp3 hf y2 (by have := hf 146 56 rfl; omega)
    have i58 := iv_get hv (k := 146) (j := 58) (l := 0) (u := 27000) rfl
    have h97_ : jxw (y2 + 1) = y2 + 1 := jxw_id (by omega) (by omega)
    refine jt_grd (by omega) ?_
    have h98_ := iv_get hv (k := 186) (j := (jxw (y2 + 1)).toNat) (l := 0) (u := 27000) rfl
    have h99_ : a 186 ((jxw (y2 + 1)).toNat) = a0 186 ((jxw (y2 + 1)).toNat) := hf 186 ((jxw (y2 + 1)).toNat) rfl
    have h100_ := iv_get hv0 (k := 186) (j := (jxw (y2 + 1)).toNat) (l := 0) (u := 27000) rfl
    refine jt_ite (fun c101_ => ?_) (fun c101_ => ?_)
    ·
      refine jt_ite (fun c102_ => ?_) (fun c102_ => ?_)
      ·
        refine jt_grd (by omega) ?_
        refine jt_grd (by omega) ?_
        have h103_ := iv_get hv (k := 184) (j := y4.toNat) (l := 0) (u := 4095) rfl
        have h104_ : a 184 (y4.toNat) = a0 184 (y4.toNat) := hf 184 (y4.toNat) rfl
        have h105_ := iv_get hv0 (k := 184) (j := y4.toNat) (l := 0) (u := 4095) rfl
        have h106_ := jxand_b (a 184 (y4.toNat)) y1
        refine jt_ite (fun c107_ => ?_) (fun c107_ => ?_)
        ·
          have h108_ := iv_get hv (k := 146) (j := 58) (l := 0) (u := 27000) rfl
          have h109_ : a 146 58 = a0 146 58 := hf 146 58 rfl
          have h110_ := iv_get hv0 (k := 146) (j := 58) (l := 0) (u := 27000) rfl
          exact hc70 y1 y2 y3 y4 a (show (((((pc y1) * 27010) + 7) + ((27000 - y4) * 1)) + 0).toNat ≤ n from by omega) hv hf (show 1 ≤ y1 from by omega) (show y1 ≤ 4095 from by omega) (show 0 ≤ y2 from by omega) (show y2 ≤ 11 from by omega) (show 0 - 1 ≤ y3 from by omega) (show y3 ≤ 0 - 1 from by omega) (show 0 ≤ y4 from by omega) (show y4 ≤ 26999 from by omega) (show 0 ≤ y1 from by omega) (show y1 ≤ 4095 from by omega) (show (2 * (a 146 64)) + (pc y1) ≤ 12 from by omega) (show y1 < jxshl 1 (a 146 56) from by omega) (show 1 ≤ y1 from by omega) (show 0 ≤ y2 from by omega) (show y2 < a 146 56 from by omega) hi15 (by first | assumption | exact hq0_2) (by first | exact Or.inl rfl | assumption | (exact Or.inr ⟨by omega, by omega, hsub⟩)) (show 0 ≤ y4 from by omega) (show y4 < a 146 58 from by omega) (by assumption) (show 1 ≤ a0 146 56 from by omega)
        ·
          exact hc89 y1 y2 y3 y4 a (show (((((pc y1) * 27010) + 7) + ((27000 - y4) * 1)) + 0).toNat ≤ n from by omega) hv hf (show 1 ≤ y1 from by omega) (show y1 ≤ 4095 from by omega) (show 0 ≤ y2 from by omega) (show y2 ≤ 11 from by omega) (show 0 - 1 ≤ y3 from by omega) (show y3 ≤ 26999 from by omega) (show 0 ≤ y4 from by omega) (show y4 ≤ 26999 from by omega) (show 0 ≤ y1 from by omega) (show y1 ≤ 4095 from by omega) (show (2 * (a 146 64)) + (pc y1) ≤ 12 from by omega) (show y1 < jxshl 1 (a 146 56) from by omega) (show 1 ≤ y1 from by omega) (show 0 ≤ y2 from by omega) (show y2 < a 146 56 from by omega) hi15 (by first | assumption | exact hq0_2) (by first | exact Or.inl rfl | assumption | (exact Or.inr ⟨by omega, by omega, hsub⟩)) (show 0 ≤ y4 from by omega) (show y4 ≤ 26999 from by omega) (show 1 ≤ a0 146 56 from by omega)
      ·
        exact hc95 y1 y2 y3 a (show (((pc y1) * 27010) + 7).toNat ≤ n from by omega) hv hf (show 1 ≤ y1 from by omega) (show y1 ≤ 4095 from by omega) (show 0 ≤ y2 from by omega) (show y2 ≤ 11 from by omega) (show 0 - 1 ≤ y3 from by omega) (show y3 ≤ 26999 from by omega) (show 0 ≤ y1 from by omega) (show y1 ≤ 4095 from by omega) (show (2 * (a 146 64)) + (pc y1) ≤ 12 from by omega) (show y1 < jxshl 1 (a 146 56) from by omega) (show 1 ≤ y1 from by omega) (show 0 ≤ y2 from by omega) (show y2 < a 146 56 from by omega) hi15 (by first | assumption | exact hq0_2) (by first | exact Or.inl rfl | assumption | (exact Or.inr ⟨by omega, by omega, hsub⟩)) (show 1 ≤ a0 146 56 from by omega)
    ·
      exact hc95 y1 y2 y3 a (show (((pc y1) * 27010) + 7).toNat ≤ n from by omega) hv hf (show 1 ≤ y1 from by omega) (show y1 ≤ 4095 from by omega) (show 0 ≤ y2 from by omega) (show y2 ≤ 11 from by omega) (show 0 - 1 ≤ y3 from by omega) (show y3 ≤ 26999 from by omega) (show 0 ≤ y1 from by omega) (show y1 ≤ 4095 from by omega) (show (2 * (a 146 64)) + (pc y1) ≤ 12 from by omega) (show y1 < jxshl 1 (a 146 56) from by omega) (show 1 ≤ y1 from by omega) (show 0 ≤ y2 from by omega) (show y2 < a 146 56 from by omega) hi15 (by first | assumption | exact hq0_2) (by first | exact Or.inl rfl | assumption | (exact Or.inr ⟨by omega, by omega, hsub⟩)) (show 1 ≤ a0 146 56 from by omega)
  have hc14 : ∀ (y1 : Int) (a : Nat → Nat → Int), (((pc y1) * 27010) + 27009).toNat ≤ n → iv a → jfr jW_X12_finds a0 a → 0 ≤ y1 → y1 ≤ 4095 → 0 ≤ y1 → y1 ≤ 4095 → (2 * (a 146 64)) + (pc y1) ≤ 12 → y1 < jxshl 1 (a 146 56) → (FO a) → (a0 146 56 = 0 → (y1 = 0 ∧ a 146 64 = 0)) → jt (jxX E d 272 14 [some (.inr (.inr (.inl 146))), some (.inl y1), none, none, none, none] [] (jxSH, a, b0)) (jQ_X12_finds a0 b0) := by
    intro y1 a hm hv hf hi0 hi1 hi2 hi3 hi4 hi5 hi6 hi7
    refine jt_eq (bq_X12_finds_14 E d y1 a b0) ?_
    have h111_ := iv_get hv (k := 146) (j := 64) (l := 0) (u := 6) rfl
    have h112_ := pc_bd y1
    have h113_ := iv_get hv (k := 146) (j := 56) (l := 0) (u := 12) rfl
    have h114_ : a 146 56 = a0 146 56 := hf 146 56 rfl
    have h115_ := iv_get hv0 (k := 146) (j := 56) (l := 0) (u := 12) rfl
    have h116_ := jxshl1_b (a 146 56)
    have hpb := pc_bd y1
    have i56 := iv_get hv (k := 146) (j := 56) (l := 0) (u := 12) rfl
    refine jt_ite (fun c117_ => ?_) (fun c117_ => ?_)
    ·
      exact jt_rV ⟨hv, hf, rfl, hi6, (show (a0 146 56 = 0 → a 146 64 = 0) from by omega)⟩
    ·
      refine jt_bI (sp_X12_leastOf E d (jd_le hd rfl) y1 a b0 hv (show 1 ≤ y1 from by omega) (show y1 ≤ 4095 from by omega)) (fun r118_ a118_ b118_ h118_ => ?_)
      obtain ⟨rfl, rfl, hq118_0, hq118_1, hq118_2⟩ := h118_
      have hb118 := bit_le (x := y1) (k := r118_) (by omega) (by omega) (by omega) (by omega) hq118_2
      have hm118 := fun h => shl_mono (j := r118_) (k := a 146 56) (by omega) (by omega) (by have := iv_get hv (k := 146) (j := 56) (l := 0) (u := 12) rfl; omega) (by have := iv_get hv (k := 146) (j := 56) (l := 0) (u := 12) rfl; omega) h
      have hpp118 := pc_pos (x := y1) (k := r118_) (by omega) (by omega) hq118_2
      refine jt_grd (by omega) ?_
      have h119_ := iv_get hv (k := 186) (j := r118_.toNat) (l := 0) (u := 27000) rfl
      have h120_ : a 186 (r118_.toNat) = a0 186 (r118_.toNat) := hf 186 (r118_.toNat) rfl
      have h121_ := iv_get hv0 (k := 186) (j := r118_.toNat) (l := 0) (u := 27000) rfl
      exact hc33 y1 r118_ (-1) (a 186 (r118_.toNat)) a (show (((((pc y1) * 27010) + 7) + ((27000 - (a 186 (r118_.toNat))) * 1)) + 0).toNat ≤ n from by omega) hv hf (show 1 ≤ y1 from by omega) (show y1 ≤ 4095 from by omega) (show 0 ≤ r118_ from by omega) (show r118_ ≤ 11 from by omega) (show 0 - 1 ≤ (-1) from by omega) (show (-1) ≤ 26999 from by omega) (show 0 ≤ a 186 (r118_.toNat) from by omega) (show a 186 (r118_.toNat) ≤ 27000 from by omega) (show 0 ≤ y1 from by omega) (show y1 ≤ 4095 from by omega) (show (2 * (a 146 64)) + (pc y1) ≤ 12 from by omega) (show y1 < jxshl 1 (a 146 56) from by omega) (show 1 ≤ y1 from by omega) (show 0 ≤ r118_ from by omega) (show r118_ < a 146 56 from by omega) hi6 (by first | assumption | exact hq118_2) (by first | exact Or.inl rfl | assumption | (exact Or.inr ⟨by omega, by omega, hsub⟩)) (show 0 ≤ a 186 (r118_.toNat) from by omega) (show 1 ≤ a0 146 56 from by omega)
  exact ⟨hc89, hc70, hc174, hc199, hc134, hc131, hc95, hc33, hc14⟩
theorem sp_X12_finds (E : jxE) (d : Nat) (hd : Nat.ble 3 d = true) (a0 b0 : Nat → Nat → Int) (hv0 : iv a0) (hp0 : RS a0) (hp1 : FW a0) (hp2 : FO a0) (hp3 : RF a0 (a0 146 56 + 1)) (hp4 : a0 146 56 ≤ a0 146 49) : jt (jxC E d 272 [.inr (.inr (.inl 146))] (jxSH, a0, b0)) (jQ_X12_finds a0 b0) := by
  obtain ⟨d, rfl⟩ := jd_succ hd
  refine jt_eq (bq_X12_finds E d a0 b0) ?_
  have h122_ := iv_get hv0 (k := 146) (j := 56) (l := 0) (u := 12) rfl
  have h123_ := iv_get hv0 (k := 146) (j := 49) (l := 0) (u := 20) rfl
  have hs1 := jxshl1_b (a0 146 56)
  have hpb := pc_bd (jxw ((jxshl 1 (a0 146 56)) - 1))
  have i56 := iv_get hv0 (k := 146) (j := 56) (l := 0) (u := 12) rfl
  have hz0 : a0 146 56 = 0 → jxshl 1 (a0 146 56) = 1 := fun h => by rw [h]; decide +kernel
  have hv124_ : iv (jxu a0 146 64 0) := iv_put hv0 (l := 0) (u := 6) rfl (by omega) (by omega)
  have hf125_ : jfr jW_X12_finds a0 (jxu a0 146 64 0) := jfr_put (jfr_rf _ _) rfl
  have h126_ := jxshl1_b (a0 146 56)
  have h127_ : jxw ((jxshl 1 (a0 146 56)) - 1) = (jxshl 1 (a0 146 56)) - 1 := jxw_id (by omega) (by omega)
  have h128_ := pc_bd (jxw ((jxshl 1 (a0 146 56)) - 1))
  have hg129_ : FO (jxu a0 146 64 0) := (FO_put64 hp2 (show 0 = 0 ∨ 1 ≤ a0 146 49 from by omega))
  exact (cp_X12_finds_14 E d hd a0 b0 hv0 hp0 hp1 hp2 hp3 hp4 _).2.2.2.2.2.2.2.2 (jxw ((jxshl 1 (a0 146 56)) - 1)) (jxu a0 146 64 0) (Nat.le_refl _) hv124_ hf125_ (show 0 ≤ jxw ((jxshl 1 (a0 146 56)) - 1) from by omega) (show jxw ((jxshl 1 (a0 146 56)) - 1) ≤ 4095 from by omega) (show 0 ≤ jxw ((jxshl 1 (a0 146 56)) - 1) from by omega) (show jxw ((jxshl 1 (a0 146 56)) - 1) ≤ 4095 from by omega) (show (2 * 0) + (pc (jxw ((jxshl 1 (a0 146 56)) - 1))) ≤ 12 from by omega) (show jxw ((jxshl 1 (a0 146 56)) - 1) < jxshl 1 (a0 146 56) from by omega) hg129_ (show (a0 146 56 = 0 → (jxw ((jxshl 1 (a0 146 56)) - 1) = 0 ∧ 0 = 0)) from by omega)
