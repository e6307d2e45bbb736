def jW_X12_rules : List (Nat × Nat) := [(146, 22), (146, 23), (146, 24), (146, 25), (146, 26), (146, 27), (171, 9999), (172, 9999)]
abbrev jQ_X12_rules (a0 b0 : Nat → Nat → Int) : List jxV → (Nat → Nat → Int) → (Nat → Nat → Int) → Prop := rI (fun r a b => (iv a) ∧ (jfr jW_X12_rules a0 a) ∧ (b0 = b) ∧ ((a0 146 22 = 0 → r = 0)) ∧ ((a0 146 22 ≤ 100 → a 146 22 = 0)) ∧ ((100 < a0 146 22 → a 146 22 = a0 146 22)))
theorem cp_X12_rules_301 (E : jxE) (d : Nat) (hd : Nat.ble 3 (d + 1) = true) (a0 b0 : Nat → Nat → Int) (hv0 : iv a0) : ∀ n : Nat, (∀ (y2 y5 : Int) (a : Nat → Nat → Int), (((5 - y5) * 1) + 0).toNat ≤ n → iv a → jfr jW_X12_rules a0 a → 0 ≤ y5 → y5 ≤ 5 → a 146 22 ≤ 0 → (a0 146 22 = 0 → y2 = 0) → a 146 22 = 0 → a0 146 22 ≤ 100 → jt (jxX E d 232 301 [some (.inr (.inr (.inl 146))), none, some (.inl y2), none, none, some (.inl y5)] [] (jxSH, a, b0)) (jQ_X12_rules a0 b0)) := by
  refine jx_ind fun n ih => ?_
  have ih301 : ∀ (y2 y5 : Int) (a : Nat → Nat → Int), (((5 - y5) * 1) + 0).toNat < n → iv a → jfr jW_X12_rules a0 a → 0 ≤ y5 → y5 ≤ 5 → a 146 22 ≤ 0 → (a0 146 22 = 0 → y2 = 0) → a 146 22 = 0 → a0 146 22 ≤ 100 → jt (jxX E d 232 301 [some (.inr (.inr (.inl 146))), none, some (.inl y2), none, none, some (.inl y5)] [] (jxSH, a, b0)) (jQ_X12_rules a0 b0) := fun y2 y5 a hlt i0 i1 i2 i3 i4 i5 i6 i7 => (ih _ hlt) y2 y5 a (Nat.le_refl _) i0 i1 i2 i3 i4 i5 i6 i7
  have hc301 : ∀ (y2 y5 : Int) (a : Nat → Nat → Int), (((5 - y5) * 1) + 0).toNat ≤ n → iv a → jfr jW_X12_rules a0 a → 0 ≤ y5 → y5 ≤ 5 → a 146 22 ≤ 0 → (a0 146 22 = 0 → y2 = 0) → a 146 22 = 0 → a0 146 22 ≤ 100 → jt (jxX E d 232 301 [some (.inr (.inr (.inl 146))), none, some (.inl y2), none, none, some (.inl y5)] [] (jxSH, a, b0)) (jQ_X12_rules a0 b0) := by
    intro y2 y5 a hm hv hf hi0 hi1 hi2 hi3 hi4 hi5
    refine jt_eq (bq_X12_rules_301 E d y2 y5 a b0) ?_
    have h1_ := iv_get hv (k := 146) (j := 22) (l := 0) (u := 200) rfl
    have h2_ := iv_get hv0 (k := 146) (j := 22) (l := 0) (u := 200) rfl
    refine jt_ite (fun c3_ => ?_) (fun c3_ => ?_)
    ·
      refine jt_grd (by omega) ?_
      refine jt_grd (by omega) ?_
      have hv4_ : iv (jxu a 171 (y5.toNat) (a 172 (y5.toNat))) := iv_putf hv rfl
      have hf5_ : jfr jW_X12_rules a0 (jxu a 171 (y5.toNat) (a 172 (y5.toNat))) := jfr_put hf rfl
      have h6_ : jxw (y5 + 1) = y5 + 1 := jxw_id (by omega) (by omega)
      exact ih301 y2 (jxw (y5 + 1)) (jxu a 171 (y5.toNat) (a 172 (y5.toNat))) (show (((5 - (jxw (y5 + 1))) * 1) + 0).toNat < n from by omega) hv4_ hf5_ (show 0 ≤ jxw (y5 + 1) from by omega) (show jxw (y5 + 1) ≤ 5 from by omega) (show a 146 22 ≤ 0 from by omega) (show (a0 146 22 = 0 → y2 = 0) from by omega) (show a 146 22 = 0 from by omega) (show a0 146 22 ≤ 100 from by omega)
    ·
      exact jt_rI ⟨hv, hf, rfl, (show (a0 146 22 = 0 → y2 = 0) from by omega), (show (a0 146 22 ≤ 100 → a 146 22 = 0) from by omega), (show (100 < a0 146 22 → a 146 22 = a0 146 22) from by omega)⟩
  exact hc301
theorem cp_X12_rules_281 (E : jxE) (d : Nat) (hd : Nat.ble 3 (d + 1) = true) (a0 b0 : Nat → Nat → Int) (hv0 : iv a0) : ∀ (y2 y3 : Int) (a : Nat → Nat → Int), iv a → jfr jW_X12_rules a0 a → 0 ≤ y3 → y3 ≤ 1 → a 146 22 ≤ 100 → 0 ≤ y3 → y3 ≤ 1 → a 146 22 = a0 146 22 → (a0 146 22 = 0 → (y2 = 0 ∧ ¬ y3 = 0)) → a0 146 22 ≤ 100 → jt (jxX E d 232 281 [some (.inr (.inr (.inl 146))), none, some (.inl y2), some (.inl y3), none, none] [] (jxSH, a, b0)) (jQ_X12_rules a0 b0) := by
  intro y2 y3 a hv hf hi0 hi1 hi2 hi3 hi4 hi5 hi6 hi7
  refine jt_eq (bq_X12_rules_281 E d y2 y3 a b0) ?_
  have h7_ := iv_get hv (k := 146) (j := 22) (l := 0) (u := 200) rfl
  have h8_ := iv_get hv0 (k := 146) (j := 22) (l := 0) (u := 200) rfl
  refine jt_ite (fun c9_ => ?_) (fun c9_ => ?_)
  ·
    have hv10_ : iv (jxu a 146 22 0) := iv_put hv (l := 0) (u := 200) rfl (by omega) (by omega)
    have hf11_ : jfr jW_X12_rules a0 (jxu a 146 22 0) := jfr_put hf rfl
    have h12_ := jxw_im ((-2) - (a 146 24))
    have h13_ := jxw_rg ((-2) - (a 146 24))
    exact jt_rI ⟨hv10_, hf11_, rfl, (show (a0 146 22 = 0 → jxw ((-2) - (a 146 24)) = 0) from by omega), (show (a0 146 22 ≤ 100 → 0 = 0) from by omega), (show (100 < a0 146 22 → 0 = a0 146 22) from by omega)⟩
  ·
    have hv14_ : iv (jxu a 146 22 0) := iv_put hv (l := 0) (u := 200) rfl (by omega) (by omega)
    have hf15_ : jfr jW_X12_rules a0 (jxu a 146 22 0) := jfr_put hf rfl
    exact (cp_X12_rules_301 E d hd a0 b0 hv0 _) y2 0 (jxu a 146 22 0) (Nat.le_refl _) hv14_ hf15_ (show 0 ≤ 0 from by omega) (show 0 ≤ 5 from by omega) (show 0 ≤ 0 from by omega) (show (a0 146 22 = 0 → y2 = 0) from by omega) (show 0 = 0 from by omega) (show a0 146 22 ≤ 100 from by omega)
theorem cp_X12_rules_65 (E : jxE) (d : Nat) (hd : Nat.ble 3 (d + 1) = true) (a0 b0 : Nat → Nat → Int) (hv0 : iv a0) : ∀ n : Nat, (∀ (y1 y2 y3 y4 : Int) (a : Nat → Nat → Int), (((((a 146 22) - (a 146 23)) + (2 * y3)) + y4) + 1).toNat ≤ n → iv a → jfr jW_X12_rules a0 a → 0 ≤ y3 → y3 ≤ 1 → 0 ≤ y4 → y4 ≤ 1 → a 146 22 ≤ 100 → a 146 23 ≤ a 146 22 → 0 ≤ y2 → y2 ≤ a 146 23 → 0 ≤ y3 → 0 ≤ y4 → y3 ≤ 1 → y4 ≤ 1 → a 146 22 = a0 146 22 → 1 ≤ a0 146 22 → a0 146 22 ≤ 100 → jt (jxX E d 232 278 [some (.inr (.inr (.inl 146))), some (.inl y1), some (.inl y2), some (.inl y3), some (.inl y4), none] [] (jxSH, a, b0)) (jQ_X12_rules a0 b0)) ∧ (∀ (y1 y2 y3 y4 : Int) (a : Nat → Nat → Int), (((((a 146 22) - (a 146 23)) + (2 * y3)) + y4) + 1).toNat ≤ n → iv a → jfr jW_X12_rules a0 a → 0 ≤ y3 → y3 ≤ 1 → 0 ≤ y4 → y4 ≤ 1 → a 146 22 ≤ 100 → a 146 23 ≤ a 146 22 → 0 ≤ y2 → y2 ≤ a 146 23 → 0 ≤ y3 → 0 ≤ y4 → y3 ≤ 1 → y4 ≤ 1 → a 146 22 = a0 146 22 → 1 ≤ a0 146 22 → a0 146 22 ≤ 100 → jt (jxX E d 232 251 [some (.inr (.inr (.inl 146))), some (.inl y1), some (.inl y2), some (.inl y3), some (.inl y4), none] [] (jxSH, a, b0)) (jQ_X12_rules a0 b0)) ∧ (∀ (y1 y2 y3 y4 : Int) (a : Nat → Nat → Int), (((((a 146 22) - (a 146 23)) + (2 * y3)) + y4) + 1).toNat ≤ n → iv a → jfr jW_X12_rules a0 a → 0 ≤ y3 → y3 ≤ 1 → 0 ≤ y4 → y4 ≤ 1 → a 146 22 ≤ 100 → a 146 23 ≤ a 146 22 → 0 ≤ y2 → y2 ≤ a 146 23 → 0 ≤ y3 → 0 ≤ y4 → y3 ≤ 1 → y4 ≤ 1 → (y4 = 1 → a 146 23 < a 146 22) → a 146 22 = a0 146 22 → 1 ≤ a0 146 22 → a0 146 22 ≤ 100 → jt (jxX E d 232 236 [some (.inr (.inr (.inl 146))), some (.inl y1), some (.inl y2), some (.inl y3), some (.inl y4), none] [] (jxSH, a, b0)) (jQ_X12_rules a0 b0)) ∧ (∀ (y1 y2 y3 s0 : Int) (a : Nat → Nat → Int), (((((a 146 22) - (a 146 23)) + (2 * y3)) + s0) + 1).toNat ≤ n → iv a → jfr jW_X12_rules a0 a → 0 ≤ y3 → y3 ≤ 1 → 0 ≤ s0 → s0 ≤ 1 → a 146 22 ≤ 100 → a 146 23 ≤ a 146 22 → 0 ≤ y2 → y2 ≤ a 146 23 → 0 ≤ y3 → 0 ≤ s0 → y3 ≤ 1 → s0 ≤ 1 → (s0 = 1 → (a 146 23 < a 146 22 ∧ ¬ a 164 ((a 146 23).toNat) = 32)) → a 146 22 = a0 146 22 → 1 ≤ a0 146 22 → a0 146 22 ≤ 100 → jt (jxX E d 232 210 [some (.inr (.inr (.inl 146))), some (.inl y1), some (.inl y2), some (.inl y3), none, none] [.inl s0] (jxSH, a, b0)) (jQ_X12_rules a0 b0)) ∧ (∀ (y1 y2 y3 : Int) (a : Nat → Nat → Int), ((((a 146 22) - (a 146 23)) + (2 * y3)) + 2).toNat ≤ n → iv a → jfr jW_X12_rules a0 a → 1 ≤ y3 → y3 ≤ 1 → a 146 22 ≤ 100 → a 146 23 ≤ a 146 22 → 0 ≤ y2 → y2 ≤ a 146 23 → 0 ≤ y3 → y3 ≤ 1 → a 146 23 < a 146 22 → ¬ a 164 ((a 146 23).toNat) = 32 → a 146 22 = a0 146 22 → 1 ≤ a0 146 22 → a0 146 22 ≤ 100 → jt (jxX E d 232 205 [some (.inr (.inr (.inl 146))), some (.inl y1), some (.inl y2), some (.inl y3), none, none] [] (jxSH, a, b0)) (jQ_X12_rules a0 b0)) ∧ (∀ (y1 y2 y3 : Int) (a : Nat → Nat → Int), ((((a 146 22) - (a 146 23)) + (2 * y3)) + 1).toNat ≤ n → iv a → jfr jW_X12_rules a0 a → 0 ≤ y3 → y3 ≤ 1 → a 146 22 ≤ 100 → a 146 23 ≤ a 146 22 → 0 ≤ y2 → y2 ≤ a 146 23 → 0 ≤ y3 → y3 ≤ 1 → a 146 22 = a0 146 22 → 1 ≤ a0 146 22 → a0 146 22 ≤ 100 → jt (jxX E d 232 209 [some (.inr (.inr (.inl 146))), some (.inl y1), some (.inl y2), some (.inl y3), none, none] [] (jxSH, a, b0)) (jQ_X12_rules a0 b0)) ∧ (∀ (y1 y2 y5 s1 : Int) (a : Nat → Nat → Int), (((a 146 22) - (a 146 23)) + 4).toNat ≤ n → iv a → jfr jW_X12_rules a0 a → 0 - 11 ≤ y5 → y5 ≤ 5 → 0 ≤ s1 → s1 ≤ 1 → a 146 22 ≤ 100 → a 146 23 ≤ a 146 22 → 0 ≤ y2 → y2 + 2 ≤ a 146 23 → 0 ≤ y5 → y5 ≤ 4 → a 146 22 = a0 146 22 → 1 ≤ a0 146 22 → a0 146 22 ≤ 100 → jt (jxX E d 232 170 [some (.inr (.inr (.inl 146))), some (.inl y1), some (.inl y2), none, none, some (.inl y5)] [.inl s1, .inr (.inr (.inl 146))] (jxSH, a, b0)) (jQ_X12_rules a0 b0)) ∧ (∀ (y1 y2 y5 : Int) (a : Nat → Nat → Int), (((a 146 22) - (a 146 23)) + 4).toNat ≤ n → iv a → jfr jW_X12_rules a0 a → 0 ≤ y5 → y5 ≤ 3 → a 146 22 ≤ 100 → a 146 23 ≤ a 146 22 → 0 ≤ y2 → y2 + 2 ≤ a 146 23 → 0 ≤ y5 → y5 ≤ 4 → a 146 22 = a0 146 22 → 1 ≤ a0 146 22 → a0 146 22 ≤ 100 → jt (jxX E d 232 165 [some (.inr (.inr (.inl 146))), some (.inl y1), some (.inl y2), none, none, some (.inl y5)] [.inr (.inr (.inl 146))] (jxSH, a, b0)) (jQ_X12_rules a0 b0)) ∧ (∀ (y1 y2 y5 : Int) (a : Nat → Nat → Int), (((a 146 22) - (a 146 23)) + 4).toNat ≤ n → iv a → jfr jW_X12_rules a0 a → 0 - 11 ≤ y5 → y5 ≤ 5 → a 146 22 ≤ 100 → a 146 23 ≤ a 146 22 → 0 ≤ y2 → y2 + 2 ≤ a 146 23 → 0 ≤ y5 → y5 ≤ 4 → a 146 22 = a0 146 22 → 1 ≤ a0 146 22 → a0 146 22 ≤ 100 → jt (jxX E d 232 153 [some (.inr (.inr (.inl 146))), some (.inl y1), some (.inl y2), none, none, some (.inl y5)] [] (jxSH, a, b0)) (jQ_X12_rules a0 b0)) ∧ (∀ (y1 y2 y3 y5 : Int) (a : Nat → Nat → Int), (((a 146 22) - (a 146 23)) + 2).toNat ≤ n → iv a → jfr jW_X12_rules a0 a → 0 ≤ y3 → y3 ≤ 1 → 0 - 11 ≤ y5 → y5 ≤ 5 → a 146 22 ≤ 100 → a 146 23 ≤ a 146 22 → 0 ≤ y2 → y2 ≤ a 146 23 → (a 146 23) + (a 146 25) ≤ a 146 22 → 0 ≤ y3 → y3 ≤ 1 → (y3 = 1 → ((0 ≤ y5 ∧ y5 ≤ 4) ∧ 2 ≤ a 146 25)) → a 146 22 = a0 146 22 → 1 ≤ a0 146 22 → a0 146 22 ≤ 100 → jt (jxX E d 232 126 [some (.inr (.inr (.inl 146))), some (.inl y1), some (.inl y2), some (.inl y3), none, some (.inl y5)] [] (jxSH, a, b0)) (jQ_X12_rules a0 b0)) ∧ (∀ (y1 y2 y5 : Int) (a : Nat → Nat → Int), (((a 146 22) - (a 146 23)) + 2).toNat ≤ n → iv a → jfr jW_X12_rules a0 a → 0 - 11 ≤ y5 → y5 ≤ 5 → a 146 22 ≤ 100 → a 146 23 ≤ a 146 22 → 0 ≤ y2 → y2 ≤ a 146 23 → (a 146 23) + (a 146 25) ≤ a 146 22 → a 146 22 = a0 146 22 → 1 ≤ a0 146 22 → a0 146 22 ≤ 100 → jt (jxX E d 232 93 [some (.inr (.inr (.inl 146))), some (.inl y1), some (.inl y2), none, none, some (.inl y5)] [] (jxSH, a, b0)) (jQ_X12_rules a0 b0)) ∧ (∀ (y1 y2 y3 y5 : Int) (a : Nat → Nat → Int), (((a 146 22) - (a 146 23)) + 2).toNat ≤ n → iv a → jfr jW_X12_rules a0 a → 1 ≤ y3 → y3 ≤ 1 → 0 ≤ y5 → y5 ≤ 4 → a 146 22 ≤ 100 → a 146 23 ≤ a 146 22 → 0 ≤ y2 → y2 ≤ a 146 23 → (a 146 23) + (a 146 25) ≤ a 146 22 → 0 ≤ y3 → y3 ≤ 1 → 0 ≤ y5 → y5 ≤ 4 → 2 ≤ a 146 25 → a 146 22 = a0 146 22 → 1 ≤ a0 146 22 → a0 146 22 ≤ 100 → jt (jxX E d 232 106 [some (.inr (.inr (.inl 146))), some (.inl y1), some (.inl y2), some (.inl y3), none, some (.inl y5)] [] (jxSH, a, b0)) (jQ_X12_rules a0 b0)) ∧ (∀ (y1 y2 y3 y4 : Int) (a : Nat → Nat → Int), ((((a 146 22) - (a 146 23)) + y3) + y4).toNat ≤ n → iv a → jfr jW_X12_rules a0 a → 0 ≤ y3 → y3 ≤ 1 → 0 ≤ y4 → y4 ≤ 1 → a 146 22 ≤ 100 → a 146 23 ≤ a 146 22 → 0 ≤ y2 → y2 ≤ a 146 23 → 0 ≤ y3 → 0 ≤ y4 → y3 ≤ 1 → y4 ≤ 1 → a 146 22 = a0 146 22 → (a0 146 22 = 0 → ((y2 = 0 ∧ ¬ y3 = 0) ∧ y4 = 0)) → a0 146 22 ≤ 100 → jt (jxX E d 232 65 [some (.inr (.inr (.inl 146))), some (.inl y1), some (.inl y2), some (.inl y3), some (.inl y4), none] [] (jxSH, a, b0)) (jQ_X12_rules a0 b0)) := by
  refine jx_ind fun n ih => ?_
  have ih278 : ∀ (y1 y2 y3 y4 : Int) (a : Nat → Nat → Int), (((((a 146 22) - (a 146 23)) + (2 * y3)) + y4) + 1).toNat < n → iv a → jfr jW_X12_rules a0 a → 0 ≤ y3 → y3 ≤ 1 → 0 ≤ y4 → y4 ≤ 1 → a 146 22 ≤ 100 → a 146 23 ≤ a 146 22 → 0 ≤ y2 → y2 ≤ a 146 23 → 0 ≤ y3 → 0 ≤ y4 → y3 ≤ 1 → y4 ≤ 1 → a 146 22 = a0 146 22 → 1 ≤ a0 146 22 → a0 146 22 ≤ 100 → jt (jxX E d 232 278 [some (.inr (.inr (.inl 146))), some (.inl y1), some (.inl y2), some (.inl y3), some (.inl y4), none] [] (jxSH, a, b0)) (jQ_X12_rules a0 b0) := fun y1 y2 y3 y4 a hlt i0 i1 i2 i3 i4 i5 i6 i7 i8 i9 i10 i11 i12 i13 i14 i15 i16 => (ih _ hlt).1 y1 y2 y3 y4 a (Nat.le_refl _) i0 i1 i2 i3 i4 i5 i6 i7 i8 i9 i10 i11 i12 i13 i14 i15 i16
  have ih251 : ∀ (y1 y2 y3 y4 : Int) (a : Nat → Nat → Int), (((((a 146 22) - (a 146 23)) + (2 * y3)) + y4) + 1).toNat < n → iv a → jfr jW_X12_rules a0 a → 0 ≤ y3 → y3 ≤ 1 → 0 ≤ y4 → y4 ≤ 1 → a 146 22 ≤ 100 → a 146 23 ≤ a 146 22 → 0 ≤ y2 → y2 ≤ a 146 23 → 0 ≤ y3 → 0 ≤ y4 → y3 ≤ 1 → y4 ≤ 1 → a 146 22 = a0 146 22 → 1 ≤ a0 146 22 → a0 146 22 ≤ 100 → jt (jxX E d 232 251 [some (.inr (.inr (.inl 146))), some (.inl y1), some (.inl y2), some (.inl y3), some (.inl y4), none] [] (jxSH, a, b0)) (jQ_X12_rules a0 b0) := fun y1 y2 y3 y4 a hlt i0 i1 i2 i3 i4 i5 i6 i7 i8 i9 i10 i11 i12 i13 i14 i15 i16 => (ih _ hlt).2.1 y1 y2 y3 y4 a (Nat.le_refl _) i0 i1 i2 i3 i4 i5 i6 i7 i8 i9 i10 i11 i12 i13 i14 i15 i16
  have ih236 : ∀ (y1 y2 y3 y4 : Int) (a : Nat → Nat → Int), (((((a 146 22) - (a 146 23)) + (2 * y3)) + y4) + 1).toNat < n → iv a → jfr jW_X12_rules a0 a → 0 ≤ y3 → y3 ≤ 1 → 0 ≤ y4 → y4 ≤ 1 → a 146 22 ≤ 100 → a 146 23 ≤ a 146 22 → 0 ≤ y2 → y2 ≤ a 146 23 → 0 ≤ y3 → 0 ≤ y4 → y3 ≤ 1 → y4 ≤ 1 → (y4 = 1 → a 146 23 < a 146 22) → a 146 22 = a0 146 22 → 1 ≤ a0 146 22 → a0 146 22 ≤ 100 → jt (jxX E d 232 236 [some (.inr (.inr (.inl 146))), some (.inl y1), some (.inl y2), some (.inl y3), some (.inl y4), none] [] (jxSH, a, b0)) (jQ_X12_rules a0 b0) := fun y1 y2 y3 y4 a hlt i0 i1 i2 i3 i4 i5 i6 i7 i8 i9 i10 i11 i12 i13 i14 i15 i16 i17 => (ih _ hlt).2.2.1 y1 y2 y3 y4 a (Nat.le_refl _) i0 i1 i2 i3 i4 i5 i6 i7 i8 i9 i10 i11 i12 i13 i14 i15 i16 i17
  have ih210 : ∀ (y1 y2 y3 s0 : Int) (a : Nat → Nat → Int), (((((a 146 22) - (a 146 23)) + (2 * y3)) + s0) + 1).toNat < n → iv a → jfr jW_X12_rules a0 a → 0 ≤ y3 → y3 ≤ 1 → 0 ≤ s0 → s0 ≤ 1 → a 146 22 ≤ 100 → a 146 23 ≤ a 146 22 → 0 ≤ y2 → y2 ≤ a 146 23 → 0 ≤ y3 → 0 ≤ s0 → y3 ≤ 1 → s0 ≤ 1 → (s0 = 1 → (a 146 23 < a 146 22 ∧ ¬ a 164 ((a 146 23).toNat) = 32)) → a 146 22 = a0 146 22 → 1 ≤ a0 146 22 → a0 146 22 ≤ 100 → jt (jxX E d 232 210 [some (.inr (.inr (.inl 146))), some (.inl y1), some (.inl y2), some (.inl y3), none, none] [.inl s0] (jxSH, a, b0)) (jQ_X12_rules a0 b0) := fun y1 y2 y3 s0 a hlt i0 i1 i2 i3 i4 i5 i6 i7 i8 i9 i10 i11 i12 i13 i14 i15 i16 i17 => (ih _ hlt).2.2.2.1 y1 y2 y3 s0 a (Nat.le_refl _) i0 i1 i2 i3 i4 i5 i6 i7 i8 i9 i10 i11 i12 i13 i14 i15 i16 i17
  have ih205 : ∀ (y1 y2 y3 : Int) (a : Nat → Nat → Int), ((((a 146 22) - (a 146 23)) + (2 * y3)) + 2).toNat < n → iv a → jfr jW_X12_rules a0 a → 1 ≤ y3 → y3 ≤ 1 → a 146 22 ≤ 100 → a 146 23 ≤ a 146 22 → 0 ≤ y2 → y2 ≤ a 146 23 → 0 ≤ y3 → y3 ≤ 1 → a 146 23 < a 146 22 → ¬ a 164 ((a 146 23).toNat) = 32 → a 146 22 = a0 146 22 → 1 ≤ a0 146 22 → a0 146 22 ≤ 100 → jt (jxX E d 232 205 [some (.inr (.inr (.inl 146))), some (.inl y1), some (.inl y2), some (.inl y3), none, none] [] (jxSH, a, b0)) (jQ_X12_rules a0 b0) := fun y1 y2 y3 a hlt i0 i1 i2 i3 i4 i5 i6 i7 i8 i9 i10 i11 i12 i13 i14 => (ih _ hlt).2.2.2.2.1 y1 y2 y3 a (Nat.le_refl _) i0 i1 i2 i3 i4 i5 i6 i7 i8 i9 i10 i11 i12 i13 i14
  have ih209 : ∀ (y1 y2 y3 : Int) (a : Nat → Nat → Int), ((((a 146 22) - (a 146 23)) + (2 * y3)) + 1).toNat < n → iv a → jfr jW_X12_rules a0 a → 0 ≤ y3 → y3 ≤ 1 → a 146 22 ≤ 100 → a 146 23 ≤ a 146 22 → 0 ≤ y2 → y2 ≤ a 146 23 → 0 ≤ y3 → y3 ≤ 1 → a 146 22 = a0 146 22 → 1 ≤ a0 146 22 → a0 146 22 ≤ 100 → jt (jxX E d 232 209 [some (.inr (.inr (.inl 146))), some (.inl y1), some (.inl y2), some (.inl y3), none, none] [] (jxSH, a, b0)) (jQ_X12_rules a0 b0) := fun y1 y2 y3 a hlt i0 i1 i2 i3 i4 i5 i6 i7 i8 i9 i10 i11 i12 => (ih _ hlt).2.2.2.2.2.1 y1 y2 y3 a (Nat.le_refl _) i0 i1 i2 i3 i4 i5 i6 i7 i8 i9 i10 i11 i12
  have ih170 : ∀ (y1 y2 y5 s1 : Int) (a : Nat → Nat → Int), (((a 146 22) - (a 146 23)) + 4).toNat < n → iv a → jfr jW_X12_rules a0 a → 0 - 11 ≤ y5 → y5 ≤ 5 → 0 ≤ s1 → s1 ≤ 1 → a 146 22 ≤ 100 → a 146 23 ≤ a 146 22 → 0 ≤ y2 → y2 + 2 ≤ a 146 23 → 0 ≤ y5 → y5 ≤ 4 → a 146 22 = a0 146 22 → 1 ≤ a0 146 22 → a0 146 22 ≤ 100 → jt (jxX E d 232 170 [some (.inr (.inr (.inl 146))), some (.inl y1), some (.inl y2), none, none, some (.inl y5)] [.inl s1, .inr (.inr (.inl 146))] (jxSH, a, b0)) (jQ_X12_rules a0 b0) := fun y1 y2 y5 s1 a hlt i0 i1 i2 i3 i4 i5 i6 i7 i8 i9 i10 i11 i12 i13 i14 => (ih _ hlt).2.2.2.2.2.2.1 y1 y2 y5 s1 a (Nat.le_refl _) i0 i1 i2 i3 i4 i5 i6 i7 i8 i9 i10 i11 i12 i13 i14
  have ih165 : ∀ (y1 y2 y5 : Int) (a : Nat → Nat → Int), (((a 146 22) - (a 146 23)) + 4).toNat < n → iv a → jfr jW_X12_rules a0 a → 0 ≤ y5 → y5 ≤ 3 → a 146 22 ≤ 100 → a 146 23 ≤ a 146 22 → 0 ≤ y2 → y2 + 2 ≤ a 146 23 → 0 ≤ y5 → y5 ≤ 4 → a 146 22 = a0 146 22 → 1 ≤ a0 146 22 → a0 146 22 ≤ 100 → jt (jxX E d 232 165 [some (.inr (.inr (.inl 146))), some (.inl y1), some (.inl y2), none, none, some (.inl y5)] [.inr (.inr (.inl 146))] (jxSH, a, b0)) (jQ_X12_rules a0 b0) := fun y1 y2 y5 a hlt i0 i1 i2 i3 i4 i5 i6 i7 i8 i9 i10 i11 i12 => (ih _ hlt).2.2.2.2.2.2.2.1 y1 y2 y5 a (Nat.le_refl _) i0 i1 i2 i3 i4 i5 i6 i7 i8 i9 i10 i11 i12
  have ih153 : ∀ (y1 y2 y5 : Int) (a : Nat → Nat → Int), (((a 146 22) - (a 146 23)) + 4).toNat < n → iv a → jfr jW_X12_rules a0 a → 0 - 11 ≤ y5 → y5 ≤ 5 → a 146 22 ≤ 100 → a 146 23 ≤ a 146 22 → 0 ≤ y2 → y2 + 2 ≤ a 146 23 → 0 ≤ y5 → y5 ≤ 4 → a 146 22 = a0 146 22 → 1 ≤ a0 146 22 → a0 146 22 ≤ 100 → jt (jxX E d 232 153 [some (.inr (.inr (.inl 146))), some (.inl y1), some (.inl y2), none, none, some (.inl y5)] [] (jxSH, a, b0)) (jQ_X12_rules a0 b0) := fun y1 y2 y5 a hlt i0 i1 i2 i3 i4 i5 i6 i7 i8 i9 i10 i11 i12 => (ih _ hlt).2.2.2.2.2.2.2.2.1 y1 y2 y5 a (Nat.le_refl _) i0 i1 i2 i3 i4 i5 i6 i7 i8 i9 i10 i11 i12
  have ih126 : ∀ (y1 y2 y3 y5 : Int) (a : Nat → Nat → Int), (((a 146 22) - (a 146 23)) + 2).toNat < n → iv a → jfr jW_X12_rules a0 a → 0 ≤ y3 → y3 ≤ 1 → 0 - 11 ≤ y5 → y5 ≤ 5 → a 146 22 ≤ 100 → a 146 23 ≤ a 146 22 → 0 ≤ y2 → y2 ≤ a 146 23 → (a 146 23) + (a 146 25) ≤ a 146 22 → 0 ≤ y3 → y3 ≤ 1 → (y3 = 1 → ((0 ≤ y5 ∧ y5 ≤ 4) ∧ 2 ≤ a 146 25)) → a 146 22 = a0 146 22 → 1 ≤ a0 146 22 → a0 146 22 ≤ 100 → jt (jxX E d 232 126 [some (.inr (.inr (.inl 146))), some (.inl y1), some (.inl y2), some (.inl y3), none, some (.inl y5)] [] (jxSH, a, b0)) (jQ_X12_rules a0 b0) := fun y1 y2 y3 y5 a hlt i0 i1 i2 i3 i4 i5 i6 i7 i8 i9 i10 i11 i12 i13 i14 i15 i16 => (ih _ hlt).2.2.2.2.2.2.2.2.2.1 y1 y2 y3 y5 a (Nat.le_refl _) i0 i1 i2 i3 i4 i5 i6 i7 i8 i9 i10 i11 i12 i13 i14 i15 i16
  have ih93 : ∀ (y1 y2 y5 : Int) (a : Nat → Nat → Int), (((a 146 22) - (a 146 23)) + 2).toNat < n → iv a → jfr jW_X12_rules a0 a → 0 - 11 ≤ y5 → y5 ≤ 5 → a 146 22 ≤ 100 → a 146 23 ≤ a 146 22 → 0 ≤ y2 → y2 ≤ a 146 23 → (a 146 23) + (a 146 25) ≤ a 146 22 → a 146 22 = a0 146 22 → 1 ≤ a0 146 22 → a0 146 22 ≤ 100 → jt (jxX E d 232 93 [some (.inr (.inr (.inl 146))), some (.inl y1), some (.inl y2), none, none, some (.inl y5)] [] (jxSH, a, b0)) (jQ_X12_rules a0 b0) := fun y1 y2 y5 a hlt i0 i1 i2 i3 i4 i5 i6 i7 i8 i9 i10 i11 => (ih _ hlt).2.2.2.2.2.2.2.2.2.2.1 y1 y2 y5 a (Nat.le_refl _) i0 i1 i2 i3 i4 i5 i6 i7 i8 i9 i10 i11
  have ih106 : ∀ (y1 y2 y3 y5 : Int) (a : Nat → Nat → Int), (((a 146 22) - (a 146 23)) + 2).toNat < n → iv a → jfr jW_X12_rules a0 a → 1 ≤ y3 → y3 ≤ 1 → 0 ≤ y5 → y5 ≤ 4 → a 146 22 ≤ 100 → a 146 23 ≤ a 146 22 → 0 ≤ y2 → y2 ≤ a 146 23 → (a 146 23) + (a 146 25) ≤ a 146 22 → 0 ≤ y3 → y3 ≤ 1 → 0 ≤ y5 → y5 ≤ 4 → 2 ≤ a 146 25 → a 146 22 = a0 146 22 → 1 ≤ a0 146 22 → a0 146 22 ≤ 100 → jt (jxX E d 232 106 [some (.inr (.inr (.inl 146))), some (.inl y1), some (.inl y2), some (.inl y3), none, some (.inl y5)] [] (jxSH, a, b0)) (jQ_X12_rules a0 b0) := fun y1 y2 y3 y5 a hlt i0 i1 i2 i3 i4 i5 i6 i7 i8 i9 i10 i11 i12 i13 i14 i15 i16 i17 i18 => (ih _ hlt).2.2.2.2.2.2.2.2.2.2.2.1 y1 y2 y3 y5 a (Nat.le_refl _) i0 i1 i2 i3 i4 i5 i6 i7 i8 i9 i10 i11 i12 i13 i14 i15 i16 i17 i18
  have ih65 : ∀ (y1 y2 y3 y4 : Int) (a : Nat → Nat → Int), ((((a 146 22) - (a 146 23)) + y3) + y4).toNat < n → iv a → jfr jW_X12_rules a0 a → 0 ≤ y3 → y3 ≤ 1 → 0 ≤ y4 → y4 ≤ 1 → a 146 22 ≤ 100 → a 146 23 ≤ a 146 22 → 0 ≤ y2 → y2 ≤ a 146 23 → 0 ≤ y3 → 0 ≤ y4 → y3 ≤ 1 → y4 ≤ 1 → a 146 22 = a0 146 22 → (a0 146 22 = 0 → ((y2 = 0 ∧ ¬ y3 = 0) ∧ y4 = 0)) → a0 146 22 ≤ 100 → jt (jxX E d 232 65 [some (.inr (.inr (.inl 146))), some (.inl y1), some (.inl y2), some (.inl y3), some (.inl y4), none] [] (jxSH, a, b0)) (jQ_X12_rules a0 b0) := fun y1 y2 y3 y4 a hlt i0 i1 i2 i3 i4 i5 i6 i7 i8 i9 i10 i11 i12 i13 i14 i15 i16 => (ih _ hlt).2.2.2.2.2.2.2.2.2.2.2.2 y1 y2 y3 y4 a (Nat.le_refl _) i0 i1 i2 i3 i4 i5 i6 i7 i8 i9 i10 i11 i12 i13 i14 i15 i16
  have hc278 : ∀ (y1 y2 y3 y4 : Int) (a : Nat → Nat → Int), (((((a 146 22) - (a 146 23)) + (2 * y3)) + y4) + 1).toNat ≤ n → iv a → jfr jW_X12_rules a0 a → 0 ≤ y3 → y3 ≤ 1 → 0 ≤ y4 → y4 ≤ 1 → a 146 22 ≤ 100 → a 146 23 ≤ a 146 22 → 0 ≤ y2 → y2 ≤ a 146 23 → 0 ≤ y3 → 0 ≤ y4 → y3 ≤ 1 → y4 ≤ 1 → a 146 22 = a0 146 22 → 1 ≤ a0 146 22 → a0 146 22 ≤ 100 → jt (jxX E d 232 278 [some (.inr (.inr (.inl 146))), some (.inl y1), some (.inl y2), some (.inl y3), some (.inl y4), none] [] (jxSH, a, b0)) (jQ_X12_rules a0 b0) := by
    intro y1 y2 y3 y4 a hm hv hf hi0 hi1 hi2 hi3 hi4 hi5 hi6 hi7 hi8 hi9 hi10 hi11 hi12 hi13 hi14
    refine jt_eq (bq_X12_rules_278 E d y1 y2 y3 y4 a b0) ?_
    have h16_ := iv_get hv (k := 146) (j := 22) (l := 0) (u := 200) rfl
    have h17_ := iv_get hv (k := 146) (j := 23) (l := 0) (u := 200) rfl
    have h18_ := iv_get hv0 (k := 146) (j := 22) (l := 0) (u := 200) rfl
    exact ih65 y1 y2 y3 y4 a (show ((((a 146 22) - (a 146 23)) + y3) + y4).toNat < n from by omega) hv hf (show 0 ≤ y3 from by omega) (show y3 ≤ 1 from by omega) (show 0 ≤ y4 from by omega) (show y4 ≤ 1 from by omega) (show a 146 22 ≤ 100 from by omega) (show a 146 23 ≤ a 146 22 from by omega) (show 0 ≤ y2 from by omega) (show y2 ≤ a 146 23 from by omega) (show 0 ≤ y3 from by omega) (show 0 ≤ y4 from by omega) (show y3 ≤ 1 from by omega) (show y4 ≤ 1 from by omega) (show a 146 22 = a0 146 22 from by omega) (show (a0 146 22 = 0 → ((y2 = 0 ∧ ¬ y3 = 0) ∧ y4 = 0)) from by omega) (show a0 146 22 ≤ 100 from by omega)
  have hc251 : ∀ (y1 y2 y3 y4 : Int) (a : Nat → Nat → Int), (((((a 146 22) - (a 146 23)) + (2 * y3)) + y4) + 1).toNat ≤ n → iv a → jfr jW_X12_rules a0 a → 0 ≤ y3 → y3 ≤ 1 → 0 ≤ y4 → y4 ≤ 1 → a 146 22 ≤ 100 → a 146 23 ≤ a 146 22 → 0 ≤ y2 → y2 ≤ a 146 23 → 0 ≤ y3 → 0 ≤ y4 → y3 ≤ 1 → y4 ≤ 1 → a 146 22 = a0 146 22 → 1 ≤ a0 146 22 → a0 146 22 ≤ 100 → jt (jxX E d 232 251 [some (.inr (.inr (.inl 146))), some (.inl y1), some (.inl y2), some (.inl y3), some (.inl y4), none] [] (jxSH, a, b0)) (jQ_X12_rules a0 b0) := by
    intro y1 y2 y3 y4 a hm hv hf hi0 hi1 hi2 hi3 hi4 hi5 hi6 hi7 hi8 hi9 hi10 hi11 hi12 hi13 hi14
    refine jt_eq (bq_X12_rules_251 E d y1 y2 y3 y4 a b0) ?_
    have h19_ := iv_get hv (k := 146) (j := 22) (l := 0) (u := 200) rfl
    have h20_ := iv_get hv (k := 146) (j := 23) (l := 0) (u := 200) rfl
    have h21_ := iv_get hv0 (k := 146) (j := 22) (l := 0) (u := 200) rfl
    refine jt_ite (fun c22_ => ?_) (fun c22_ => ?_)
    ·
      exact hc278 y1 y2 y3 y4 a (show (((((a 146 22) - (a 146 23)) + (2 * y3)) + y4) + 1).toNat ≤ n from by omega) hv hf (show 0 ≤ y3 from by omega) (show y3 ≤ 1 from by omega) (show 0 ≤ y4 from by omega) (show y4 ≤ 1 from by omega) (show a 146 22 ≤ 100 from by omega) (show a 146 23 ≤ a 146 22 from by omega) (show 0 ≤ y2 from by omega) (show y2 ≤ a 146 23 from by omega) (show 0 ≤ y3 from by omega) (show 0 ≤ y4 from by omega) (show y3 ≤ 1 from by omega) (show y4 ≤ 1 from by omega) (show a 146 22 = a0 146 22 from by omega) (show 1 ≤ a0 146 22 from by omega) (show a0 146 22 ≤ 100 from by omega)
    ·
      refine jt_ite (fun c23_ => ?_) (fun c23_ => ?_)
      ·
        exact hc278 y1 y2 y3 y4 a (show (((((a 146 22) - (a 146 23)) + (2 * y3)) + y4) + 1).toNat ≤ n from by omega) hv hf (show 0 ≤ y3 from by omega) (show y3 ≤ 1 from by omega) (show 0 ≤ y4 from by omega) (show y4 ≤ 1 from by omega) (show a 146 22 ≤ 100 from by omega) (show a 146 23 ≤ a 146 22 from by omega) (show 0 ≤ y2 from by omega) (show y2 ≤ a 146 23 from by omega) (show 0 ≤ y3 from by omega) (show 0 ≤ y4 from by omega) (show y3 ≤ 1 from by omega) (show y4 ≤ 1 from by omega) (show a 146 22 = a0 146 22 from by omega) (show 1 ≤ a0 146 22 from by omega) (show a0 146 22 ≤ 100 from by omega)
      ·
        refine jt_bI (sp_X12_see E d (jd_le hd rfl) a b0 hv (show a 146 23 ≤ a 146 22 from by omega)) (fun r24_ a24_ b24_ h24_ => ?_)
        obtain ⟨hv24_, hf24_, rfl, hq24_0, hq24_1, hq24_2, hq24_3, hq24_4, hq24_5⟩ := h24_
        have h25_ := iv_get hv24_ (k := 146) (j := 23) (l := 0) (u := 200) rfl
        have h26_ := iv_get hv24_ (k := 164) (j := (a24_ 146 23).toNat) (l := (-128)) (u := 127) rfl
        have h27_ : a24_ 164 ((a24_ 146 23).toNat) = a 164 ((a24_ 146 23).toNat) := hf24_ 164 ((a24_ 146 23).toNat) rfl
        have h28_ := iv_get hv (k := 164) (j := (a24_ 146 23).toNat) (l := (-128)) (u := 127) rfl
        have h29_ : a 164 ((a24_ 146 23).toNat) = a0 164 ((a24_ 146 23).toNat) := hf 164 ((a24_ 146 23).toNat) rfl
        have h30_ := iv_get hv0 (k := 164) (j := (a24_ 146 23).toNat) (l := (-128)) (u := 127) rfl
        have h31_ := iv_get hv (k := 164) (j := (a 146 23).toNat) (l := (-128)) (u := 127) rfl
        have h32_ : a 164 ((a 146 23).toNat) = a0 164 ((a 146 23).toNat) := hf 164 ((a 146 23).toNat) rfl
        have h33_ := iv_get hv0 (k := 164) (j := (a 146 23).toNat) (l := (-128)) (u := 127) rfl
        refine jt_ite (fun c34_ => ?_) (fun c34_ => ?_)
        ·
          refine jt_bI (sp_X12_fails E d (jd_le hd rfl) 0 (a24_ 146 23) a24_ b0 hv24_) (fun r35_ a35_ b35_ h35_ => ?_)
          obtain ⟨hv35_, hf35_, rfl, hq35_0, hq35_1, hq35_2, hq35_3⟩ := h35_
          have h36_ : a24_ 146 24 = a 146 24 := hf24_ 146 24 rfl
          have hf37_ : jfr jW_X12_rules a0 a24_ := jfr_tr hf hf24_ rfl
          have hf38_ : jfr jW_X12_rules a0 a35_ := jfr_tr hf37_ hf35_ rfl
          have h39_ := iv_get hv35_ (k := 146) (j := 22) (l := 0) (u := 200) rfl
          have h40_ : a35_ 146 22 = a24_ 146 22 := hf35_ 146 22 rfl
          have h41_ := iv_get hv24_ (k := 146) (j := 22) (l := 0) (u := 200) rfl
          have h42_ : a24_ 146 22 = a 146 22 := hf24_ 146 22 rfl
          have h43_ := iv_get hv35_ (k := 146) (j := 23) (l := 0) (u := 200) rfl
          have h44_ : a35_ 146 23 = a24_ 146 23 := hf35_ 146 23 rfl
          exact hc278 y1 y2 r35_ y4 a35_ (show (((((a35_ 146 22) - (a35_ 146 23)) + (2 * r35_)) + y4) + 1).toNat ≤ n from by omega) hv35_ hf38_ (show 0 ≤ r35_ from by omega) (show r35_ ≤ 1 from by omega) (show 0 ≤ y4 from by omega) (show y4 ≤ 1 from by omega) (show a35_ 146 22 ≤ 100 from by omega) (show a35_ 146 23 ≤ a35_ 146 22 from by omega) (show 0 ≤ y2 from by omega) (show y2 ≤ a35_ 146 23 from by omega) (show 0 ≤ r35_ from by omega) (show 0 ≤ y4 from by omega) (show r35_ ≤ 1 from by omega) (show y4 ≤ 1 from by omega) (show a35_ 146 22 = a0 146 22 from by omega) (show 1 ≤ a0 146 22 from by omega) (show a0 146 22 ≤ 100 from by omega)
        ·
          have hf45_ : jfr jW_X12_rules a0 a24_ := jfr_tr hf hf24_ rfl
          have h46_ := iv_get hv24_ (k := 146) (j := 22) (l := 0) (u := 200) rfl
          have h47_ : a24_ 146 22 = a 146 22 := hf24_ 146 22 rfl
          exact hc278 y1 y2 y3 y4 a24_ (show (((((a24_ 146 22) - (a24_ 146 23)) + (2 * y3)) + y4) + 1).toNat ≤ n from by omega) hv24_ hf45_ (show 0 ≤ y3 from by omega) (show y3 ≤ 1 from by omega) (show 0 ≤ y4 from by omega) (show y4 ≤ 1 from by omega) (show a24_ 146 22 ≤ 100 from by omega) (show a24_ 146 23 ≤ a24_ 146 22 from by omega) (show 0 ≤ y2 from by omega) (show y2 ≤ a24_ 146 23 from by omega) (show 0 ≤ y3 from by omega) (show 0 ≤ y4 from by omega) (show y3 ≤ 1 from by omega) (show y4 ≤ 1 from by omega) (show a24_ 146 22 = a0 146 22 from by omega) (show 1 ≤ a0 146 22 from by omega) (show a0 146 22 ≤ 100 from by omega)
  have hc236 : ∀ (y1 y2 y3 y4 : Int) (a : Nat → Nat → Int), (((((a 146 22) - (a 146 23)) + (2 * y3)) + y4) + 1).toNat ≤ n → iv a → jfr jW_X12_rules a0 a → 0 ≤ y3 → y3 ≤ 1 → 0 ≤ y4 → y4 ≤ 1 → a 146 22 ≤ 100 → a 146 23 ≤ a 146 22 → 0 ≤ y2 → y2 ≤ a 146 23 → 0 ≤ y3 → 0 ≤ y4 → y3 ≤ 1 → y4 ≤ 1 → (y4 = 1 → a 146 23 < a 146 22) → a 146 22 = a0 146 22 → 1 ≤ a0 146 22 → a0 146 22 ≤ 100 → jt (jxX E d 232 236 [some (.inr (.inr (.inl 146))), some (.inl y1), some (.inl y2), some (.inl y3), some (.inl y4), none] [] (jxSH, a, b0)) (jQ_X12_rules a0 b0) := by
    intro y1 y2 y3 y4 a hm hv hf hi0 hi1 hi2 hi3 hi4 hi5 hi6 hi7 hi8 hi9 hi10 hi11 hi12 hi13 hi14 hi15
    refine jt_eq (bq_X12_rules_236 E d y1 y2 y3 y4 a b0) ?_
    have h48_ := iv_get hv (k := 146) (j := 22) (l := 0) (u := 200) rfl
    have h49_ := iv_get hv (k := 146) (j := 23) (l := 0) (u := 200) rfl
    have h50_ := iv_get hv0 (k := 146) (j := 22) (l := 0) (u := 200) rfl
    refine jt_ite (fun c51_ => ?_) (fun c51_ => ?_)
    ·
      exact hc251 y1 y2 y3 y4 a (show (((((a 146 22) - (a 146 23)) + (2 * y3)) + y4) + 1).toNat ≤ n from by omega) hv hf (show 0 ≤ y3 from by omega) (show y3 ≤ 1 from by omega) (show 0 ≤ y4 from by omega) (show y4 ≤ 1 from by omega) (show a 146 22 ≤ 100 from by omega) (show a 146 23 ≤ a 146 22 from by omega) (show 0 ≤ y2 from by omega) (show y2 ≤ a 146 23 from by omega) (show 0 ≤ y3 from by omega) (show 0 ≤ y4 from by omega) (show y3 ≤ 1 from by omega) (show y4 ≤ 1 from by omega) (show a 146 22 = a0 146 22 from by omega) (show 1 ≤ a0 146 22 from by omega) (show a0 146 22 ≤ 100 from by omega)
    ·
      have h53_ : jxw ((a 146 23) + 1) = (a 146 23) + 1 := jxw_id (by omega) (by omega)
      have hv52_ : iv (jxu a 146 23 (jxw ((a 146 23) + 1))) := iv_put hv (l := 0) (u := 200) rfl (by omega) (by omega)
      have hf54_ : jfr jW_X12_rules a0 (jxu a 146 23 (jxw ((a 146 23) + 1))) := jfr_put hf rfl
      exact hc251 y1 y2 y3 y4 (jxu a 146 23 (jxw ((a 146 23) + 1))) (show (((((a 146 22) - (jxw ((a 146 23) + 1))) + (2 * y3)) + y4) + 1).toNat ≤ n from by omega) hv52_ hf54_ (show 0 ≤ y3 from by omega) (show y3 ≤ 1 from by omega) (show 0 ≤ y4 from by omega) (show y4 ≤ 1 from by omega) (show a 146 22 ≤ 100 from by omega) (show jxw ((a 146 23) + 1) ≤ a 146 22 from by omega) (show 0 ≤ y2 from by omega) (show y2 ≤ jxw ((a 146 23) + 1) from by omega) (show 0 ≤ y3 from by omega) (show 0 ≤ y4 from by omega) (show y3 ≤ 1 from by omega) (show y4 ≤ 1 from by omega) (show a 146 22 = a0 146 22 from by omega) (show 1 ≤ a0 146 22 from by omega) (show a0 146 22 ≤ 100 from by omega)
  have hc210 : ∀ (y1 y2 y3 s0 : Int) (a : Nat → Nat → Int), (((((a 146 22) - (a 146 23)) + (2 * y3)) + s0) + 1).toNat ≤ n → iv a → jfr jW_X12_rules a0 a → 0 ≤ y3 → y3 ≤ 1 → 0 ≤ s0 → s0 ≤ 1 → a 146 22 ≤ 100 → a 146 23 ≤ a 146 22 → 0 ≤ y2 → y2 ≤ a 146 23 → 0 ≤ y3 → 0 ≤ s0 → y3 ≤ 1 → s0 ≤ 1 → (s0 = 1 → (a 146 23 < a 146 22 ∧ ¬ a 164 ((a 146 23).toNat) = 32)) → a 146 22 = a0 146 22 → 1 ≤ a0 146 22 → a0 146 22 ≤ 100 → jt (jxX E d 232 210 [some (.inr (.inr (.inl 146))), some (.inl y1), some (.inl y2), some (.inl y3), none, none] [.inl s0] (jxSH, a, b0)) (jQ_X12_rules a0 b0) := by
    intro y1 y2 y3 s0 a hm hv hf hi0 hi1 hi2 hi3 hi4 hi5 hi6 hi7 hi8 hi9 hi10 hi11 hi12 hi13 hi14 hi15
    refine jt_eq (bq_X12_rules_210 E d y1 y2 y3 s0 a b0) ?_
    have h55_ := iv_get hv (k := 146) (j := 22) (l := 0) (u := 200) rfl
    have h56_ := iv_get hv (k := 146) (j := 23) (l := 0) (u := 200) rfl
    have h57_ := iv_get hv (k := 164) (j := (a 146 23).toNat) (l := (-128)) (u := 127) rfl
    have h58_ : a 164 ((a 146 23).toNat) = a0 164 ((a 146 23).toNat) := hf 164 ((a 146 23).toNat) rfl
    have h59_ := iv_get hv0 (k := 164) (j := (a 146 23).toNat) (l := (-128)) (u := 127) rfl
    have h60_ := iv_get hv0 (k := 146) (j := 22) (l := 0) (u := 200) rfl
    refine jt_ite (fun c61_ => ?_) (fun c61_ => ?_)
    ·
      exact hc236 y1 y2 y3 s0 a (show (((((a 146 22) - (a 146 23)) + (2 * y3)) + s0) + 1).toNat ≤ n from by omega) hv hf (show 0 ≤ y3 from by omega) (show y3 ≤ 1 from by omega) (show 0 ≤ s0 from by omega) (show s0 ≤ 1 from by omega) (show a 146 22 ≤ 100 from by omega) (show a 146 23 ≤ a 146 22 from by omega) (show 0 ≤ y2 from by omega) (show y2 ≤ a 146 23 from by omega) (show 0 ≤ y3 from by omega) (show 0 ≤ s0 from by omega) (show y3 ≤ 1 from by omega) (show s0 ≤ 1 from by omega) (show (s0 = 1 → a 146 23 < a 146 22) from by omega) (show a 146 22 = a0 146 22 from by omega) (show 1 ≤ a0 146 22 from by omega) (show a0 146 22 ≤ 100 from by omega)
    ·
      refine jt_bI (sp_X12_see E d (jd_le hd rfl) a b0 hv (show a 146 23 ≤ a 146 22 from by omega)) (fun r62_ a62_ b62_ h62_ => ?_)
      obtain ⟨hv62_, hf62_, rfl, hq62_0, hq62_1, hq62_2, hq62_3, hq62_4, hq62_5⟩ := h62_
      have h63_ := iv_get hv62_ (k := 146) (j := 23) (l := 0) (u := 200) rfl
      have h64_ := iv_get hv62_ (k := 164) (j := (a62_ 146 23).toNat) (l := (-128)) (u := 127) rfl
      have h65_ : a62_ 164 ((a62_ 146 23).toNat) = a 164 ((a62_ 146 23).toNat) := hf62_ 164 ((a62_ 146 23).toNat) rfl
      have h66_ := iv_get hv (k := 164) (j := (a62_ 146 23).toNat) (l := (-128)) (u := 127) rfl
      have h67_ : a 164 ((a62_ 146 23).toNat) = a0 164 ((a62_ 146 23).toNat) := hf 164 ((a62_ 146 23).toNat) rfl
      have h68_ := iv_get hv0 (k := 164) (j := (a62_ 146 23).toNat) (l := (-128)) (u := 127) rfl
      refine jt_ite (fun c69_ => ?_) (fun c69_ => ?_)
      ·
        have hf70_ : jfr jW_X12_rules a0 a62_ := jfr_tr hf hf62_ rfl
        have h71_ := iv_get hv62_ (k := 146) (j := 22) (l := 0) (u := 200) rfl
        have h72_ : a62_ 146 22 = a 146 22 := hf62_ 146 22 rfl
        exact hc236 y1 y2 y3 s0 a62_ (show (((((a62_ 146 22) - (a62_ 146 23)) + (2 * y3)) + s0) + 1).toNat ≤ n from by omega) hv62_ hf70_ (show 0 ≤ y3 from by omega) (show y3 ≤ 1 from by omega) (show 0 ≤ s0 from by omega) (show s0 ≤ 1 from by omega) (show a62_ 146 22 ≤ 100 from by omega) (show a62_ 146 23 ≤ a62_ 146 22 from by omega) (show 0 ≤ y2 from by omega) (show y2 ≤ a62_ 146 23 from by omega) (show 0 ≤ y3 from by omega) (show 0 ≤ s0 from by omega) (show y3 ≤ 1 from by omega) (show s0 ≤ 1 from by omega) (show (s0 = 1 → a62_ 146 23 < a62_ 146 22) from by omega) (show a62_ 146 22 = a0 146 22 from by omega) (show 1 ≤ a0 146 22 from by omega) (show a0 146 22 ≤ 100 from by omega)
      ·
        refine jt_bI (sp_X12_fails E d (jd_le hd rfl) 0 (a62_ 146 23) a62_ b0 hv62_) (fun r73_ a73_ b73_ h73_ => ?_)
        obtain ⟨hv73_, hf73_, rfl, hq73_0, hq73_1, hq73_2, hq73_3⟩ := h73_
        have h74_ : a62_ 146 24 = a 146 24 := hf62_ 146 24 rfl
        have hf75_ : jfr jW_X12_rules a0 a62_ := jfr_tr hf hf62_ rfl
        have hf76_ : jfr jW_X12_rules a0 a73_ := jfr_tr hf75_ hf73_ rfl
        have h77_ := iv_get hv73_ (k := 146) (j := 22) (l := 0) (u := 200) rfl
        have h78_ : a73_ 146 22 = a62_ 146 22 := hf73_ 146 22 rfl
        have h79_ := iv_get hv62_ (k := 146) (j := 22) (l := 0) (u := 200) rfl
        have h80_ : a62_ 146 22 = a 146 22 := hf62_ 146 22 rfl
        have h81_ := iv_get hv73_ (k := 146) (j := 23) (l := 0) (u := 200) rfl
        have h82_ : a73_ 146 23 = a62_ 146 23 := hf73_ 146 23 rfl
        exact hc236 y1 y2 r73_ s0 a73_ (show (((((a73_ 146 22) - (a73_ 146 23)) + (2 * r73_)) + s0) + 1).toNat ≤ n from by omega) hv73_ hf76_ (show 0 ≤ r73_ from by omega) (show r73_ ≤ 1 from by omega) (show 0 ≤ s0 from by omega) (show s0 ≤ 1 from by omega) (show a73_ 146 22 ≤ 100 from by omega) (show a73_ 146 23 ≤ a73_ 146 22 from by omega) (show 0 ≤ y2 from by omega) (show y2 ≤ a73_ 146 23 from by omega) (show 0 ≤ r73_ from by omega) (show 0 ≤ s0 from by omega) (show r73_ ≤ 1 from by omega) (show s0 ≤ 1 from by omega) (show (s0 = 1 → a73_ 146 23 < a73_ 146 22) from by omega) (show a73_ 146 22 = a0 146 22 from by omega) (show 1 ≤ a0 146 22 from by omega) (show a0 146 22 ≤ 100 from by omega)
  have hc205 : ∀ (y1 y2 y3 : Int) (a : Nat → Nat → Int), ((((a 146 22) - (a 146 23)) + (2 * y3)) + 2).toNat ≤ n → iv a → jfr jW_X12_rules a0 a → 1 ≤ y3 → y3 ≤ 1 → a 146 22 ≤ 100 → a 146 23 ≤ a 146 22 → 0 ≤ y2 → y2 ≤ a 146 23 → 0 ≤ y3 → y3 ≤ 1 → a 146 23 < a 146 22 → ¬ a 164 ((a 146 23).toNat) = 32 → a 146 22 = a0 146 22 → 1 ≤ a0 146 22 → a0 146 22 ≤ 100 → jt (jxX E d 232 205 [some (.inr (.inr (.inl 146))), some (.inl y1), some (.inl y2), some (.inl y3), none, none] [] (jxSH, a, b0)) (jQ_X12_rules a0 b0) := by
    intro y1 y2 y3 a hm hv hf hi0 hi1 hi2 hi3 hi4 hi5 hi6 hi7 hi8 hi9 hi10 hi11 hi12
    refine jt_eq (bq_X12_rules_205 E d y1 y2 y3 a b0) ?_
    have h83_ := iv_get hv (k := 146) (j := 22) (l := 0) (u := 200) rfl
    have h84_ := iv_get hv (k := 146) (j := 23) (l := 0) (u := 200) rfl
    have h85_ := iv_get hv (k := 164) (j := (a 146 23).toNat) (l := (-128)) (u := 127) rfl
    have h86_ : a 164 ((a 146 23).toNat) = a0 164 ((a 146 23).toNat) := hf 164 ((a 146 23).toNat) rfl
    have h87_ := iv_get hv0 (k := 164) (j := (a 146 23).toNat) (l := (-128)) (u := 127) rfl
    have h88_ := iv_get hv0 (k := 146) (j := 22) (l := 0) (u := 200) rfl
    exact hc210 y1 y2 y3 1 a (show (((((a 146 22) - (a 146 23)) + (2 * y3)) + 1) + 1).toNat ≤ n from by omega) hv hf (show 0 ≤ y3 from by omega) (show y3 ≤ 1 from by omega) (show 0 ≤ 1 from by omega) (show 1 ≤ 1 from by omega) (show a 146 22 ≤ 100 from by omega) (show a 146 23 ≤ a 146 22 from by omega) (show 0 ≤ y2 from by omega) (show y2 ≤ a 146 23 from by omega) (show 0 ≤ y3 from by omega) (show 0 ≤ 1 from by omega) (show y3 ≤ 1 from by omega) (show 1 ≤ 1 from by omega) (show (1 = 1 → (a 146 23 < a 146 22 ∧ ¬ a 164 ((a 146 23).toNat) = 32)) from by omega) (show a 146 22 = a0 146 22 from by omega) (show 1 ≤ a0 146 22 from by omega) (show a0 146 22 ≤ 100 from by omega)
  have hc209 : ∀ (y1 y2 y3 : Int) (a : Nat → Nat → Int), ((((a 146 22) - (a 146 23)) + (2 * y3)) + 1).toNat ≤ n → iv a → jfr jW_X12_rules a0 a → 0 ≤ y3 → y3 ≤ 1 → a 146 22 ≤ 100 → a 146 23 ≤ a 146 22 → 0 ≤ y2 → y2 ≤ a 146 23 → 0 ≤ y3 → y3 ≤ 1 → a 146 22 = a0 146 22 → 1 ≤ a0 146 22 → a0 146 22 ≤ 100 → jt (jxX E d 232 209 [some (.inr (.inr (.inl 146))), some (.inl y1), some (.inl y2), some (.inl y3), none, none] [] (jxSH, a, b0)) (jQ_X12_rules a0 b0) := by
    intro y1 y2 y3 a hm hv hf hi0 hi1 hi2 hi3 hi4 hi5 hi6 hi7 hi8 hi9 hi10
    refine jt_eq (bq_X12_rules_209 E d y1 y2 y3 a b0) ?_
    have h89_ := iv_get hv (k := 146) (j := 22) (l := 0) (u := 200) rfl
    have h90_ := iv_get hv (k := 146) (j := 23) (l := 0) (u := 200) rfl
    have h91_ := iv_get hv0 (k := 146) (j := 22) (l := 0) (u := 200) rfl
    have h92_ := iv_get hv (k := 164) (j := (a 146 23).toNat) (l := (-128)) (u := 127) rfl
    have h93_ : a 164 ((a 146 23).toNat) = a0 164 ((a 146 23).toNat) := hf 164 ((a 146 23).toNat) rfl
    have h94_ := iv_get hv0 (k := 164) (j := (a 146 23).toNat) (l := (-128)) (u := 127) rfl
    exact hc210 y1 y2 y3 0 a (show (((((a 146 22) - (a 146 23)) + (2 * y3)) + 0) + 1).toNat ≤ n from by omega) hv hf (show 0 ≤ y3 from by omega) (show y3 ≤ 1 from by omega) (show 0 ≤ 0 from by omega) (show 0 ≤ 1 from by omega) (show a 146 22 ≤ 100 from by omega) (show a 146 23 ≤ a 146 22 from by omega) (show 0 ≤ y2 from by omega) (show y2 ≤ a 146 23 from by omega) (show 0 ≤ y3 from by omega) (show 0 ≤ 0 from by omega) (show y3 ≤ 1 from by omega) (show 0 ≤ 1 from by omega) (show (0 = 1 → (a 146 23 < a 146 22 ∧ ¬ a 164 ((a 146 23).toNat) = 32)) from by omega) (show a 146 22 = a0 146 22 from by omega) (show 1 ≤ a0 146 22 from by omega) (show a0 146 22 ≤ 100 from by omega)
  have hc170 : ∀ (y1 y2 y5 s1 : Int) (a : Nat → Nat → Int), (((a 146 22) - (a 146 23)) + 4).toNat ≤ n → iv a → jfr jW_X12_rules a0 a → 0 - 11 ≤ y5 → y5 ≤ 5 → 0 ≤ s1 → s1 ≤ 1 → a 146 22 ≤ 100 → a 146 23 ≤ a 146 22 → 0 ≤ y2 → y2 + 2 ≤ a 146 23 → 0 ≤ y5 → y5 ≤ 4 → a 146 22 = a0 146 22 → 1 ≤ a0 146 22 → a0 146 22 ≤ 100 → jt (jxX E d 232 170 [some (.inr (.inr (.inl 146))), some (.inl y1), some (.inl y2), none, none, some (.inl y5)] [.inl s1, .inr (.inr (.inl 146))] (jxSH, a, b0)) (jQ_X12_rules a0 b0) := by
    intro y1 y2 y5 s1 a hm hv hf hi0 hi1 hi2 hi3 hi4 hi5 hi6 hi7 hi8 hi9 hi10 hi11 hi12
    refine jt_eq (bq_X12_rules_170 E d y1 y2 y5 s1 a b0) ?_
    have h95_ := iv_get hv (k := 146) (j := 22) (l := 0) (u := 200) rfl
    have h96_ := iv_get hv (k := 146) (j := 23) (l := 0) (u := 200) rfl
    have h97_ := iv_get hv0 (k := 146) (j := 22) (l := 0) (u := 200) rfl
    refine jt_eI (eq_X12_mostOf E d (jd_le hd rfl) y5 a b0) ?_
    refine jt_bI (sp_X12_number E d (jd_le hd rfl) s1 (f_X12_mostOf a b0 y5) a b0 hv (show a 146 23 ≤ a 146 22 from by omega)) (fun r98_ a98_ b98_ h98_ => ?_)
    obtain ⟨hv98_, hf98_, rfl, hq98_0, hq98_1, hq98_2, hq98_3, hq98_4, hq98_5⟩ := h98_
    have h99_ := iv_get hv98_ (k := 146) (j := 23) (l := 0) (u := 200) rfl
    have h100_ := iv_get hv98_ (k := 146) (j := 26) (l := 0) (u := 999) rfl
    have h101_ := f_X12_mostOf_eq a b0 y5
    refine jt_grd (by omega) ?_
    refine jt_ite (fun c102_ => ?_) (fun c102_ => ?_)
    ·
      have hv103_ : iv (jxu a98_ 172 (y5.toNat) (a98_ 146 26)) := iv_putf hv98_ rfl
      have hf104_ : jfr jW_X12_rules a0 a98_ := jfr_tr hf hf98_ rfl
      have hf105_ : jfr jW_X12_rules a0 (jxu a98_ 172 (y5.toNat) (a98_ 146 26)) := jfr_put hf104_ rfl
      have h106_ := iv_get hv98_ (k := 146) (j := 22) (l := 0) (u := 200) rfl
      have h107_ : a98_ 146 22 = a 146 22 := hf98_ 146 22 rfl
      have h108_ := jxw_im (y2 + 1)
      have h109_ := jxw_rg (y2 + 1)
      exact hc209 y1 (jxw (y2 + 1)) r98_ (jxu a98_ 172 (y5.toNat) (a98_ 146 26)) (show ((((a98_ 146 22) - (a98_ 146 23)) + (2 * r98_)) + 1).toNat ≤ n from by omega) hv103_ hf105_ (show 0 ≤ r98_ from by omega) (show r98_ ≤ 1 from by omega) (show a98_ 146 22 ≤ 100 from by omega) (show a98_ 146 23 ≤ a98_ 146 22 from by omega) (show 0 ≤ jxw (y2 + 1) from by omega) (show jxw (y2 + 1) ≤ a98_ 146 23 from by omega) (show 0 ≤ r98_ from by omega) (show r98_ ≤ 1 from by omega) (show a98_ 146 22 = a0 146 22 from by omega) (show 1 ≤ a0 146 22 from by omega) (show a0 146 22 ≤ 100 from by omega)
    ·
      have hv110_ : iv (jxu a98_ 172 (y5.toNat) (a98_ 146 26)) := iv_putf hv98_ rfl
      have h111_ := iv_get hv98_ (k := 146) (j := 22) (l := 0) (u := 200) rfl
      have h112_ : a98_ 146 22 = a 146 22 := hf98_ 146 22 rfl
      refine jt_bI (sp_X12_see E d (jd_le hd rfl) (jxu a98_ 172 (y5.toNat) (a98_ 146 26)) b0 hv110_ (show a98_ 146 23 ≤ a98_ 146 22 from by omega)) (fun r113_ a113_ b113_ h113_ => ?_)
      obtain ⟨hv113_, hf113_, rfl, hq113_0, hq113_1, hq113_2, hq113_3, hq113_4, hq113_5⟩ := h113_
      have h114_ := iv_get hv113_ (k := 146) (j := 23) (l := 0) (u := 200) rfl
      have h115_ : a98_ 146 23 ≤ a113_ 146 23 := hq113_0
      have h116_ : a113_ 146 23 ≤ a98_ 146 22 := hq113_1
      have h117_ := iv_get hv113_ (k := 164) (j := (a113_ 146 23).toNat) (l := (-128)) (u := 127) rfl
      have h118_ : a113_ 164 ((a113_ 146 23).toNat) = a98_ 164 ((a113_ 146 23).toNat) := hf113_ 164 ((a113_ 146 23).toNat) rfl
      have h119_ := iv_get hv98_ (k := 164) (j := (a113_ 146 23).toNat) (l := (-128)) (u := 127) rfl
      have h120_ : a98_ 164 ((a113_ 146 23).toNat) = a 164 ((a113_ 146 23).toNat) := hf98_ 164 ((a113_ 146 23).toNat) rfl
      have h121_ := iv_get hv (k := 164) (j := (a113_ 146 23).toNat) (l := (-128)) (u := 127) rfl
      have h122_ : a 164 ((a113_ 146 23).toNat) = a0 164 ((a113_ 146 23).toNat) := hf 164 ((a113_ 146 23).toNat) rfl
      have h123_ := iv_get hv0 (k := 164) (j := (a113_ 146 23).toNat) (l := (-128)) (u := 127) rfl
      have h124_ : ((r113_ = 0 - 1 ∧ a113_ 146 23 = a98_ 146 22) ∨ (((0 ≤ r113_ ∧ r113_ ≤ 255) ∧ a113_ 146 23 < a98_ 146 22) ∧ ¬ a113_ 164 ((a113_ 146 23).toNat) = 32)) := hq113_2
      have h125_ := iv_get hv98_ (k := 164) (j := (a98_ 146 23).toNat) (l := (-128)) (u := 127) rfl
      have h126_ : a98_ 164 ((a98_ 146 23).toNat) = a 164 ((a98_ 146 23).toNat) := hf98_ 164 ((a98_ 146 23).toNat) rfl
      have h127_ := iv_get hv (k := 164) (j := (a98_ 146 23).toNat) (l := (-128)) (u := 127) rfl
      have h128_ : a 164 ((a98_ 146 23).toNat) = a0 164 ((a98_ 146 23).toNat) := hf 164 ((a98_ 146 23).toNat) rfl
      have h129_ := iv_get hv0 (k := 164) (j := (a98_ 146 23).toNat) (l := (-128)) (u := 127) rfl
      have h130_ : ((a98_ 146 23 < a98_ 146 22 ∧ ¬ a98_ 164 ((a98_ 146 23).toNat) = 32) → a113_ 146 23 = a98_ 146 23) := hq113_3
      refine jt_ite (fun c131_ => ?_) (fun c131_ => ?_)
      ·
        have hf132_ : jfr jW_X12_rules a0 a98_ := jfr_tr hf hf98_ rfl
        have hf133_ : jfr jW_X12_rules a0 (jxu a98_ 172 (y5.toNat) (a98_ 146 26)) := jfr_put hf132_ rfl
        have hf134_ : jfr jW_X12_rules a0 a113_ := jfr_tr hf133_ hf113_ rfl
        have h135_ := iv_get hv113_ (k := 146) (j := 22) (l := 0) (u := 200) rfl
        have h136_ : a113_ 146 22 = a98_ 146 22 := hf113_ 146 22 rfl
        have h137_ := jxw_im (y2 + 1)
        have h138_ := jxw_rg (y2 + 1)
        exact hc209 y1 (jxw (y2 + 1)) r98_ a113_ (show ((((a113_ 146 22) - (a113_ 146 23)) + (2 * r98_)) + 1).toNat ≤ n from by omega) hv113_ hf134_ (show 0 ≤ r98_ from by omega) (show r98_ ≤ 1 from by omega) (show a113_ 146 22 ≤ 100 from by omega) (show a113_ 146 23 ≤ a113_ 146 22 from by omega) (show 0 ≤ jxw (y2 + 1) from by omega) (show jxw (y2 + 1) ≤ a113_ 146 23 from by omega) (show 0 ≤ r98_ from by omega) (show r98_ ≤ 1 from by omega) (show a113_ 146 22 = a0 146 22 from by omega) (show 1 ≤ a0 146 22 from by omega) (show a0 146 22 ≤ 100 from by omega)
      ·
        have hf139_ : jfr jW_X12_rules a0 a98_ := jfr_tr hf hf98_ rfl
        have hf140_ : jfr jW_X12_rules a0 (jxu a98_ 172 (y5.toNat) (a98_ 146 26)) := jfr_put hf139_ rfl
        have hf141_ : jfr jW_X12_rules a0 a113_ := jfr_tr hf140_ hf113_ rfl
        have h142_ := iv_get hv113_ (k := 146) (j := 22) (l := 0) (u := 200) rfl
        have h143_ : a113_ 146 22 = a98_ 146 22 := hf113_ 146 22 rfl
        have h144_ := jxw_im (y2 + 1)
        have h145_ := jxw_rg (y2 + 1)
        exact hc205 y1 (jxw (y2 + 1)) r98_ a113_ (show ((((a113_ 146 22) - (a113_ 146 23)) + (2 * r98_)) + 2).toNat ≤ n from by omega) hv113_ hf141_ (show 1 ≤ r98_ from by omega) (show r98_ ≤ 1 from by omega) (show a113_ 146 22 ≤ 100 from by omega) (show a113_ 146 23 ≤ a113_ 146 22 from by omega) (show 0 ≤ jxw (y2 + 1) from by omega) (show jxw (y2 + 1) ≤ a113_ 146 23 from by omega) (show 0 ≤ r98_ from by omega) (show r98_ ≤ 1 from by omega) (show a113_ 146 23 < a113_ 146 22 from by omega) (show ¬ a113_ 164 ((a113_ 146 23).toNat) = 32 from by omega) (show a113_ 146 22 = a0 146 22 from by omega) (show 1 ≤ a0 146 22 from by omega) (show a0 146 22 ≤ 100 from by omega)
  have hc165 : ∀ (y1 y2 y5 : Int) (a : Nat → Nat → Int), (((a 146 22) - (a 146 23)) + 4).toNat ≤ n → iv a → jfr jW_X12_rules a0 a → 0 ≤ y5 → y5 ≤ 3 → a 146 22 ≤ 100 → a 146 23 ≤ a 146 22 → 0 ≤ y2 → y2 + 2 ≤ a 146 23 → 0 ≤ y5 → y5 ≤ 4 → a 146 22 = a0 146 22 → 1 ≤ a0 146 22 → a0 146 22 ≤ 100 → jt (jxX E d 232 165 [some (.inr (.inr (.inl 146))), some (.inl y1), some (.inl y2), none, none, some (.inl y5)] [.inr (.inr (.inl 146))] (jxSH, a, b0)) (jQ_X12_rules a0 b0) := by
    intro y1 y2 y5 a hm hv hf hi0 hi1 hi2 hi3 hi4 hi5 hi6 hi7 hi8 hi9 hi10
    refine jt_eq (bq_X12_rules_165 E d y1 y2 y5 a b0) ?_
    have h146_ := iv_get hv (k := 146) (j := 22) (l := 0) (u := 200) rfl
    have h147_ := iv_get hv (k := 146) (j := 23) (l := 0) (u := 200) rfl
    have h148_ := iv_get hv0 (k := 146) (j := 22) (l := 0) (u := 200) rfl
    exact hc170 y1 y2 y5 1 a (show (((a 146 22) - (a 146 23)) + 4).toNat ≤ n from by omega) hv hf (show 0 - 11 ≤ y5 from by omega) (show y5 ≤ 5 from by omega) (show 0 ≤ 1 from by omega) (show 1 ≤ 1 from by omega) (show a 146 22 ≤ 100 from by omega) (show a 146 23 ≤ a 146 22 from by omega) (show 0 ≤ y2 from by omega) (show y2 + 2 ≤ a 146 23 from by omega) (show 0 ≤ y5 from by omega) (show y5 ≤ 4 from by omega) (show a 146 22 = a0 146 22 from by omega) (show 1 ≤ a0 146 22 from by omega) (show a0 146 22 ≤ 100 from by omega)
  have hc153 : ∀ (y1 y2 y5 : Int) (a : Nat → Nat → Int), (((a 146 22) - (a 146 23)) + 4).toNat ≤ n → iv a → jfr jW_X12_rules a0 a → 0 - 11 ≤ y5 → y5 ≤ 5 → a 146 22 ≤ 100 → a 146 23 ≤ a 146 22 → 0 ≤ y2 → y2 + 2 ≤ a 146 23 → 0 ≤ y5 → y5 ≤ 4 → a 146 22 = a0 146 22 → 1 ≤ a0 146 22 → a0 146 22 ≤ 100 → jt (jxX E d 232 153 [some (.inr (.inr (.inl 146))), some (.inl y1), some (.inl y2), none, none, some (.inl y5)] [] (jxSH, a, b0)) (jQ_X12_rules a0 b0) := by
    intro y1 y2 y5 a hm hv hf hi0 hi1 hi2 hi3 hi4 hi5 hi6 hi7 hi8 hi9 hi10
    refine jt_eq (bq_X12_rules_153 E d y1 y2 y5 a b0) ?_
    have h149_ := iv_get hv (k := 146) (j := 22) (l := 0) (u := 200) rfl
    have h150_ := iv_get hv (k := 146) (j := 23) (l := 0) (u := 200) rfl
    have h151_ := iv_get hv0 (k := 146) (j := 22) (l := 0) (u := 200) rfl
    refine jt_ite (fun c152_ => ?_) (fun c152_ => ?_)
    ·
      exact hc165 y1 y2 y5 a (show (((a 146 22) - (a 146 23)) + 4).toNat ≤ n from by omega) hv hf (show 0 ≤ y5 from by omega) (show y5 ≤ 3 from by omega) (show a 146 22 ≤ 100 from by omega) (show a 146 23 ≤ a 146 22 from by omega) (show 0 ≤ y2 from by omega) (show y2 + 2 ≤ a 146 23 from by omega) (show 0 ≤ y5 from by omega) (show y5 ≤ 4 from by omega) (show a 146 22 = a0 146 22 from by omega) (show 1 ≤ a0 146 22 from by omega) (show a0 146 22 ≤ 100 from by omega)
    ·
      refine jt_ite (fun c153_ => ?_) (fun c153_ => ?_)
      ·
        exact hc165 y1 y2 y5 a (show (((a 146 22) - (a 146 23)) + 4).toNat ≤ n from by omega) hv hf (show 0 ≤ y5 from by omega) (show y5 ≤ 3 from by omega) (show a 146 22 ≤ 100 from by omega) (show a 146 23 ≤ a 146 22 from by omega) (show 0 ≤ y2 from by omega) (show y2 + 2 ≤ a 146 23 from by omega) (show 0 ≤ y5 from by omega) (show y5 ≤ 4 from by omega) (show a 146 22 = a0 146 22 from by omega) (show 1 ≤ a0 146 22 from by omega) (show a0 146 22 ≤ 100 from by omega)
      ·
        exact hc170 y1 y2 y5 0 a (show (((a 146 22) - (a 146 23)) + 4).toNat ≤ n from by omega) hv hf (show 0 - 11 ≤ y5 from by omega) (show y5 ≤ 5 from by omega) (show 0 ≤ 0 from by omega) (show 0 ≤ 1 from by omega) (show a 146 22 ≤ 100 from by omega) (show a 146 23 ≤ a 146 22 from by omega) (show 0 ≤ y2 from by omega) (show y2 + 2 ≤ a 146 23 from by omega) (show 0 ≤ y5 from by omega) (show y5 ≤ 4 from by omega) (show a 146 22 = a0 146 22 from by omega) (show 1 ≤ a0 146 22 from by omega) (show a0 146 22 ≤ 100 from by omega)
  have hc126 : ∀ (y1 y2 y3 y5 : Int) (a : Nat → Nat → Int), (((a 146 22) - (a 146 23)) + 2).toNat ≤ n → iv a → jfr jW_X12_rules a0 a → 0 ≤ y3 → y3 ≤ 1 → 0 - 11 ≤ y5 → y5 ≤ 5 → a 146 22 ≤ 100 → a 146 23 ≤ a 146 22 → 0 ≤ y2 → y2 ≤ a 146 23 → (a 146 23) + (a 146 25) ≤ a 146 22 → 0 ≤ y3 → y3 ≤ 1 → (y3 = 1 → ((0 ≤ y5 ∧ y5 ≤ 4) ∧ 2 ≤ a 146 25)) → a 146 22 = a0 146 22 → 1 ≤ a0 146 22 → a0 146 22 ≤ 100 → jt (jxX E d 232 126 [some (.inr (.inr (.inl 146))), some (.inl y1), some (.inl y2), some (.inl y3), none, some (.inl y5)] [] (jxSH, a, b0)) (jQ_X12_rules a0 b0) := by
    intro y1 y2 y3 y5 a hm hv hf hi0 hi1 hi2 hi3 hi4 hi5 hi6 hi7 hi8 hi9 hi10 hi11 hi12 hi13 hi14
    refine jt_eq (bq_X12_rules_126 E d y1 y2 y3 y5 a b0) ?_
    have h154_ := iv_get hv (k := 146) (j := 22) (l := 0) (u := 200) rfl
    have h155_ := iv_get hv (k := 146) (j := 23) (l := 0) (u := 200) rfl
    have h156_ := iv_get hv (k := 146) (j := 25) (l := 0) (u := 200) rfl
    have h157_ := iv_get hv0 (k := 146) (j := 22) (l := 0) (u := 200) rfl
    refine jt_ite (fun c158_ => ?_) (fun c158_ => ?_)
    ·
      exact cp_X12_rules_281 E d hd a0 b0 hv0 y2 y3 a hv hf (show 0 ≤ y3 from by omega) (show y3 ≤ 1 from by omega) (show a 146 22 ≤ 100 from by omega) (show 0 ≤ y3 from by omega) (show y3 ≤ 1 from by omega) (show a 146 22 = a0 146 22 from by omega) (show (a0 146 22 = 0 → (y2 = 0 ∧ ¬ y3 = 0)) from by omega) (show a0 146 22 ≤ 100 from by omega)
    ·
      have h160_ : jxw ((a 146 23) + (a 146 25)) = (a 146 23) + (a 146 25) := jxw_id (by omega) (by omega)
      have hv159_ : iv (jxu a 146 23 (jxw ((a 146 23) + (a 146 25)))) := iv_put hv (l := 0) (u := 200) rfl (by omega) (by omega)
      have hf161_ : jfr jW_X12_rules a0 (jxu a 146 23 (jxw ((a 146 23) + (a 146 25)))) := jfr_put hf rfl
      exact hc153 (jxor y1 (jxshl 1 y5)) y2 y5 (jxu a 146 23 (jxw ((a 146 23) + (a 146 25)))) (show (((a 146 22) - (jxw ((a 146 23) + (a 146 25)))) + 4).toNat ≤ n from by omega) hv159_ hf161_ (show 0 - 11 ≤ y5 from by omega) (show y5 ≤ 5 from by omega) (show a 146 22 ≤ 100 from by omega) (show jxw ((a 146 23) + (a 146 25)) ≤ a 146 22 from by omega) (show 0 ≤ y2 from by omega) (show y2 + 2 ≤ jxw ((a 146 23) + (a 146 25)) from by omega) (show 0 ≤ y5 from by omega) (show y5 ≤ 4 from by omega) (show a 146 22 = a0 146 22 from by omega) (show 1 ≤ a0 146 22 from by omega) (show a0 146 22 ≤ 100 from by omega)
  have hc93 : ∀ (y1 y2 y5 : Int) (a : Nat → Nat → Int), (((a 146 22) - (a 146 23)) + 2).toNat ≤ n → iv a → jfr jW_X12_rules a0 a → 0 - 11 ≤ y5 → y5 ≤ 5 → a 146 22 ≤ 100 → a 146 23 ≤ a 146 22 → 0 ≤ y2 → y2 ≤ a 146 23 → (a 146 23) + (a 146 25) ≤ a 146 22 → a 146 22 = a0 146 22 → 1 ≤ a0 146 22 → a0 146 22 ≤ 100 → jt (jxX E d 232 93 [some (.inr (.inr (.inl 146))), some (.inl y1), some (.inl y2), none, none, some (.inl y5)] [] (jxSH, a, b0)) (jQ_X12_rules a0 b0) := by
    intro y1 y2 y5 a hm hv hf hi0 hi1 hi2 hi3 hi4 hi5 hi6 hi7 hi8 hi9
    refine jt_eq (bq_X12_rules_93 E d y1 y2 y5 a b0) ?_
    have h162_ := iv_get hv (k := 146) (j := 22) (l := 0) (u := 200) rfl
    have h163_ := iv_get hv (k := 146) (j := 23) (l := 0) (u := 200) rfl
    have h164_ := iv_get hv (k := 146) (j := 25) (l := 0) (u := 200) rfl
    have h165_ := iv_get hv0 (k := 146) (j := 22) (l := 0) (u := 200) rfl
    refine jt_bI (sp_X12_fails E d (jd_le hd rfl) 0 (a 146 23) a b0 hv) (fun r166_ a166_ b166_ h166_ => ?_)
    obtain ⟨hv166_, hf166_, rfl, hq166_0, hq166_1, hq166_2, hq166_3⟩ := h166_
    have hf167_ : jfr jW_X12_rules a0 a166_ := jfr_tr hf hf166_ rfl
    have h168_ := iv_get hv166_ (k := 146) (j := 22) (l := 0) (u := 200) rfl
    have h169_ : a166_ 146 22 = a 146 22 := hf166_ 146 22 rfl
    have h170_ := iv_get hv166_ (k := 146) (j := 23) (l := 0) (u := 200) rfl
    have h171_ : a166_ 146 23 = a 146 23 := hf166_ 146 23 rfl
    have h172_ := iv_get hv166_ (k := 146) (j := 25) (l := 0) (u := 200) rfl
    have h173_ : a166_ 146 25 = a 146 25 := hf166_ 146 25 rfl
    exact hc126 y1 y2 r166_ y5 a166_ (show (((a166_ 146 22) - (a166_ 146 23)) + 2).toNat ≤ n from by omega) hv166_ hf167_ (show 0 ≤ r166_ from by omega) (show r166_ ≤ 1 from by omega) (show 0 - 11 ≤ y5 from by omega) (show y5 ≤ 5 from by omega) (show a166_ 146 22 ≤ 100 from by omega) (show a166_ 146 23 ≤ a166_ 146 22 from by omega) (show 0 ≤ y2 from by omega) (show y2 ≤ a166_ 146 23 from by omega) (show (a166_ 146 23) + (a166_ 146 25) ≤ a166_ 146 22 from by omega) (show 0 ≤ r166_ from by omega) (show r166_ ≤ 1 from by omega) (show (r166_ = 1 → ((0 ≤ y5 ∧ y5 ≤ 4) ∧ 2 ≤ a166_ 146 25)) from by omega) (show a166_ 146 22 = a0 146 22 from by omega) (show 1 ≤ a0 146 22 from by omega) (show a0 146 22 ≤ 100 from by omega)
  have hc106 : ∀ (y1 y2 y3 y5 : Int) (a : Nat → Nat → Int), (((a 146 22) - (a 146 23)) + 2).toNat ≤ n → iv a → jfr jW_X12_rules a0 a → 1 ≤ y3 → y3 ≤ 1 → 0 ≤ y5 → y5 ≤ 4 → a 146 22 ≤ 100 → a 146 23 ≤ a 146 22 → 0 ≤ y2 → y2 ≤ a 146 23 → (a 146 23) + (a 146 25) ≤ a 146 22 → 0 ≤ y3 → y3 ≤ 1 → 0 ≤ y5 → y5 ≤ 4 → 2 ≤ a 146 25 → a 146 22 = a0 146 22 → 1 ≤ a0 146 22 → a0 146 22 ≤ 100 → jt (jxX E d 232 106 [some (.inr (.inr (.inl 146))), some (.inl y1), some (.inl y2), some (.inl y3), none, some (.inl y5)] [] (jxSH, a, b0)) (jQ_X12_rules a0 b0) := by
    intro y1 y2 y3 y5 a hm hv hf hi0 hi1 hi2 hi3 hi4 hi5 hi6 hi7 hi8 hi9 hi10 hi11 hi12 hi13 hi14 hi15 hi16
    refine jt_eq (bq_X12_rules_106 E d y1 y2 y3 y5 a b0) ?_
    have h174_ := iv_get hv (k := 146) (j := 22) (l := 0) (u := 200) rfl
    have h175_ := iv_get hv (k := 146) (j := 23) (l := 0) (u := 200) rfl
    have h176_ := iv_get hv (k := 146) (j := 25) (l := 0) (u := 200) rfl
    have h177_ := iv_get hv0 (k := 146) (j := 22) (l := 0) (u := 200) rfl
    have h178_ := jxshr_b y1 y5
    have h179_ := jxand_r (jxshr y1 y5) 1 (by decide) (by decide)
    refine jt_ite (fun c180_ => ?_) (fun c180_ => ?_)
    ·
      refine jt_bI (sp_X12_fails E d (jd_le hd rfl) 2 (a 146 23) a b0 hv) (fun r181_ a181_ b181_ h181_ => ?_)
      obtain ⟨hv181_, hf181_, rfl, hq181_0, hq181_1, hq181_2, hq181_3⟩ := h181_
      have hf182_ : jfr jW_X12_rules a0 a181_ := jfr_tr hf hf181_ rfl
      have h183_ := iv_get hv181_ (k := 146) (j := 22) (l := 0) (u := 200) rfl
      have h184_ : a181_ 146 22 = a 146 22 := hf181_ 146 22 rfl
      have h185_ := iv_get hv181_ (k := 146) (j := 23) (l := 0) (u := 200) rfl
      have h186_ : a181_ 146 23 = a 146 23 := hf181_ 146 23 rfl
      have h187_ := iv_get hv181_ (k := 146) (j := 25) (l := 0) (u := 200) rfl
      have h188_ : a181_ 146 25 = a 146 25 := hf181_ 146 25 rfl
      exact hc126 y1 y2 r181_ y5 a181_ (show (((a181_ 146 22) - (a181_ 146 23)) + 2).toNat ≤ n from by omega) hv181_ hf182_ (show 0 ≤ r181_ from by omega) (show r181_ ≤ 1 from by omega) (show 0 - 11 ≤ y5 from by omega) (show y5 ≤ 5 from by omega) (show a181_ 146 22 ≤ 100 from by omega) (show a181_ 146 23 ≤ a181_ 146 22 from by omega) (show 0 ≤ y2 from by omega) (show y2 ≤ a181_ 146 23 from by omega) (show (a181_ 146 23) + (a181_ 146 25) ≤ a181_ 146 22 from by omega) (show 0 ≤ r181_ from by omega) (show r181_ ≤ 1 from by omega) (show (r181_ = 1 → ((0 ≤ y5 ∧ y5 ≤ 4) ∧ 2 ≤ a181_ 146 25)) from by omega) (show a181_ 146 22 = a0 146 22 from by omega) (show 1 ≤ a0 146 22 from by omega) (show a0 146 22 ≤ 100 from by omega)
    ·
      exact hc126 y1 y2 y3 y5 a (show (((a 146 22) - (a 146 23)) + 2).toNat ≤ n from by omega) hv hf (show 0 ≤ y3 from by omega) (show y3 ≤ 1 from by omega) (show 0 - 11 ≤ y5 from by omega) (show y5 ≤ 5 from by omega) (show a 146 22 ≤ 100 from by omega) (show a 146 23 ≤ a 146 22 from by omega) (show 0 ≤ y2 from by omega) (show y2 ≤ a 146 23 from by omega) (show (a 146 23) + (a 146 25) ≤ a 146 22 from by omega) (show 0 ≤ y3 from by omega) (show y3 ≤ 1 from by omega) (show (y3 = 1 → ((0 ≤ y5 ∧ y5 ≤ 4) ∧ 2 ≤ a 146 25)) from by omega) (show a 146 22 = a0 146 22 from by omega) (show 1 ≤ a0 146 22 from by omega) (show a0 146 22 ≤ 100 from by omega)
  have hc65 : ∀ (y1 y2 y3 y4 : Int) (a : Nat → Nat → Int), ((((a 146 22) - (a 146 23)) + y3) + y4).toNat ≤ n → iv a → jfr jW_X12_rules a0 a → 0 ≤ y3 → y3 ≤ 1 → 0 ≤ y4 → y4 ≤ 1 → a 146 22 ≤ 100 → a 146 23 ≤ a 146 22 → 0 ≤ y2 → y2 ≤ a 146 23 → 0 ≤ y3 → 0 ≤ y4 → y3 ≤ 1 → y4 ≤ 1 → a 146 22 = a0 146 22 → (a0 146 22 = 0 → ((y2 = 0 ∧ ¬ y3 = 0) ∧ y4 = 0)) → a0 146 22 ≤ 100 → jt (jxX E d 232 65 [some (.inr (.inr (.inl 146))), some (.inl y1), some (.inl y2), some (.inl y3), some (.inl y4), none] [] (jxSH, a, b0)) (jQ_X12_rules a0 b0) := by
    intro y1 y2 y3 y4 a hm hv hf hi0 hi1 hi2 hi3 hi4 hi5 hi6 hi7 hi8 hi9 hi10 hi11 hi12 hi13 hi14
    refine jt_eq (bq_X12_rules_65 E d y1 y2 y3 y4 a b0) ?_
    have h189_ := iv_get hv (k := 146) (j := 22) (l := 0) (u := 200) rfl
    have h190_ := iv_get hv (k := 146) (j := 23) (l := 0) (u := 200) rfl
    have h191_ := iv_get hv0 (k := 146) (j := 22) (l := 0) (u := 200) rfl
    refine jt_ite (fun c192_ => ?_) (fun c192_ => ?_)
    ·
      exact cp_X12_rules_281 E d hd a0 b0 hv0 y2 y3 a hv hf (show 0 ≤ y3 from by omega) (show y3 ≤ 1 from by omega) (show a 146 22 ≤ 100 from by omega) (show 0 ≤ y3 from by omega) (show y3 ≤ 1 from by omega) (show a 146 22 = a0 146 22 from by omega) (show (a0 146 22 = 0 → (y2 = 0 ∧ ¬ y3 = 0)) from by omega) (show a0 146 22 ≤ 100 from by omega)
    ·
      refine jt_ite (fun c193_ => ?_) (fun c193_ => ?_)
      ·
        exact cp_X12_rules_281 E d hd a0 b0 hv0 y2 y3 a hv hf (show 0 ≤ y3 from by omega) (show y3 ≤ 1 from by omega) (show a 146 22 ≤ 100 from by omega) (show 0 ≤ y3 from by omega) (show y3 ≤ 1 from by omega) (show a 146 22 = a0 146 22 from by omega) (show (a0 146 22 = 0 → (y2 = 0 ∧ ¬ y3 = 0)) from by omega) (show a0 146 22 ≤ 100 from by omega)
      ·
        refine jt_bI (sp_X12_wordHere E d (jd_le hd rfl) a b0 hv (show a 146 23 ≤ a 146 22 from by omega)) (fun r194_ a194_ b194_ h194_ => ?_)
        obtain ⟨hv194_, hf194_, rfl, hq194_0, hq194_1, hq194_2, hq194_3, hq194_4, hq194_5, hq194_6, hq194_7, hq194_8, hq194_9⟩ := h194_
        have h195_ := iv_get hv194_ (k := 146) (j := 23) (l := 0) (u := 200) rfl
        have h196_ := iv_get hv194_ (k := 146) (j := 25) (l := 0) (u := 200) rfl
        have h197_ := iv_get hv194_ (k := 146) (j := 22) (l := 0) (u := 200) rfl
        have h198_ : a194_ 146 22 = a 146 22 := hf194_ 146 22 rfl
        have h199_ := iv_get hv (k := 164) (j := (a 146 23).toNat) (l := (-128)) (u := 127) rfl
        have h200_ : a 164 ((a 146 23).toNat) = a0 164 ((a 146 23).toNat) := hf 164 ((a 146 23).toNat) rfl
        have h201_ := iv_get hv0 (k := 164) (j := (a 146 23).toNat) (l := (-128)) (u := 127) rfl
        refine jt_eI (eq_X12_in E d (jd_le hd rfl) (jxw (r194_ - 10)) 0 4 a194_ b0) ?_
        have h202_ : jxw (r194_ - 10) = r194_ - 10 := jxw_id (by omega) (by omega)
        have h203_ := f_X12_in_eq a194_ b0 (jxw (r194_ - 10)) 0 4
        refine jt_ite (fun c204_ => ?_) (fun c204_ => ?_)
        ·
          have hf205_ : jfr jW_X12_rules a0 a194_ := jfr_tr hf hf194_ rfl
          exact hc93 y1 y2 (jxw (r194_ - 10)) a194_ (show (((a194_ 146 22) - (a194_ 146 23)) + 2).toNat ≤ n from by omega) hv194_ hf205_ (show 0 - 11 ≤ jxw (r194_ - 10) from by omega) (show jxw (r194_ - 10) ≤ 5 from by omega) (show a194_ 146 22 ≤ 100 from by omega) (show a194_ 146 23 ≤ a194_ 146 22 from by omega) (show 0 ≤ y2 from by omega) (show y2 ≤ a194_ 146 23 from by omega) (show (a194_ 146 23) + (a194_ 146 25) ≤ a194_ 146 22 from by omega) (show a194_ 146 22 = a0 146 22 from by omega) (show 1 ≤ a0 146 22 from by omega) (show a0 146 22 ≤ 100 from by omega)
        ·
          have hf206_ : jfr jW_X12_rules a0 a194_ := jfr_tr hf hf194_ rfl
          exact hc106 y1 y2 y3 (jxw (r194_ - 10)) a194_ (show (((a194_ 146 22) - (a194_ 146 23)) + 2).toNat ≤ n from by omega) hv194_ hf206_ (show 1 ≤ y3 from by omega) (show y3 ≤ 1 from by omega) (show 0 ≤ jxw (r194_ - 10) from by omega) (show jxw (r194_ - 10) ≤ 4 from by omega) (show a194_ 146 22 ≤ 100 from by omega) (show a194_ 146 23 ≤ a194_ 146 22 from by omega) (show 0 ≤ y2 from by omega) (show y2 ≤ a194_ 146 23 from by omega) (show (a194_ 146 23) + (a194_ 146 25) ≤ a194_ 146 22 from by omega) (show 0 ≤ y3 from by omega) (show y3 ≤ 1 from by omega) (show 0 ≤ jxw (r194_ - 10) from by omega) (show jxw (r194_ - 10) ≤ 4 from by omega) (show 2 ≤ a194_ 146 25 from by omega) (show a194_ 146 22 = a0 146 22 from by omega) (show 1 ≤ a0 146 22 from by omega) (show a0 146 22 ≤ 100 from by omega)
  exact ⟨hc278, hc251, hc236, hc210, hc205, hc209, hc170, hc165, hc153, hc126, hc93, hc106, hc65⟩
theorem cp_X12_rules_27 (E : jxE) (d : Nat) (hd : Nat.ble 3 (d + 1) = true) (a0 b0 : Nat → Nat → Int) (hv0 : iv a0) : ∀ n : Nat, (∀ (y1 y2 y3 : Int) (a : Nat → Nat → Int), (((5 - y3) * 1) + 0).toNat ≤ n → iv a → jfr jW_X12_rules a0 a → 0 ≤ y1 → y1 ≤ 0 → 0 ≤ y2 → y2 ≤ 0 → 0 ≤ y3 → y3 ≤ 5 → a 146 22 ≤ 100 → a 146 23 ≤ a 146 22 → y2 = 0 → a 146 22 = a0 146 22 → a0 146 22 ≤ 100 → jt (jxX E d 232 27 [some (.inr (.inr (.inl 146))), some (.inl y1), some (.inl y2), some (.inl y3), none, none] [] (jxSH, a, b0)) (jQ_X12_rules a0 b0)) := by
  refine jx_ind fun n ih => ?_
  have ih27 : ∀ (y1 y2 y3 : Int) (a : Nat → Nat → Int), (((5 - y3) * 1) + 0).toNat < n → iv a → jfr jW_X12_rules a0 a → 0 ≤ y1 → y1 ≤ 0 → 0 ≤ y2 → y2 ≤ 0 → 0 ≤ y3 → y3 ≤ 5 → a 146 22 ≤ 100 → a 146 23 ≤ a 146 22 → y2 = 0 → a 146 22 = a0 146 22 → a0 146 22 ≤ 100 → jt (jxX E d 232 27 [some (.inr (.inr (.inl 146))), some (.inl y1), some (.inl y2), some (.inl y3), none, none] [] (jxSH, a, b0)) (jQ_X12_rules a0 b0) := fun y1 y2 y3 a hlt i0 i1 i2 i3 i4 i5 i6 i7 i8 i9 i10 i11 i12 => (ih _ hlt) y1 y2 y3 a (Nat.le_refl _) i0 i1 i2 i3 i4 i5 i6 i7 i8 i9 i10 i11 i12
  have hc27 : ∀ (y1 y2 y3 : Int) (a : Nat → Nat → Int), (((5 - y3) * 1) + 0).toNat ≤ n → iv a → jfr jW_X12_rules a0 a → 0 ≤ y1 → y1 ≤ 0 → 0 ≤ y2 → y2 ≤ 0 → 0 ≤ y3 → y3 ≤ 5 → a 146 22 ≤ 100 → a 146 23 ≤ a 146 22 → y2 = 0 → a 146 22 = a0 146 22 → a0 146 22 ≤ 100 → jt (jxX E d 232 27 [some (.inr (.inr (.inl 146))), some (.inl y1), some (.inl y2), some (.inl y3), none, none] [] (jxSH, a, b0)) (jQ_X12_rules a0 b0) := by
    intro y1 y2 y3 a hm hv hf hi0 hi1 hi2 hi3 hi4 hi5 hi6 hi7 hi8 hi9 hi10
    refine jt_eq (bq_X12_rules_27 E d y1 y2 y3 a b0) ?_
    have h207_ := iv_get hv (k := 146) (j := 22) (l := 0) (u := 200) rfl
    have h208_ := iv_get hv (k := 146) (j := 23) (l := 0) (u := 200) rfl
    have h209_ := iv_get hv0 (k := 146) (j := 22) (l := 0) (u := 200) rfl
    refine jt_ite (fun c210_ => ?_) (fun c210_ => ?_)
    ·
      refine jt_eI (eq_X12_without E d (jd_le hd rfl) y3 a b0) ?_
      refine jt_grd (by omega) ?_
      have hv211_ : iv (jxu a 172 (y3.toNat) (f_X12_without a b0 y3)) := iv_putf hv rfl
      have hf212_ : jfr jW_X12_rules a0 (jxu a 172 (y3.toNat) (f_X12_without a b0 y3)) := jfr_put hf rfl
      have h213_ : jxw (y3 + 1) = y3 + 1 := jxw_id (by omega) (by omega)
      exact ih27 y1 y2 (jxw (y3 + 1)) (jxu a 172 (y3.toNat) (f_X12_without a b0 y3)) (show (((5 - (jxw (y3 + 1))) * 1) + 0).toNat < n from by omega) hv211_ hf212_ (show 0 ≤ y1 from by omega) (show y1 ≤ 0 from by omega) (show 0 ≤ y2 from by omega) (show y2 ≤ 0 from by omega) (show 0 ≤ jxw (y3 + 1) from by omega) (show jxw (y3 + 1) ≤ 5 from by omega) (show a 146 22 ≤ 100 from by omega) (show a 146 23 ≤ a 146 22 from by omega) (show y2 = 0 from by omega) (show a 146 22 = a0 146 22 from by omega) (show a0 146 22 ≤ 100 from by omega)
    ·
      refine jt_bI (sp_X12_see E d (jd_le hd rfl) a b0 hv (show a 146 23 ≤ a 146 22 from by omega)) (fun r214_ a214_ b214_ h214_ => ?_)
      obtain ⟨hv214_, hf214_, rfl, hq214_0, hq214_1, hq214_2, hq214_3, hq214_4, hq214_5⟩ := h214_
      have h215_ := iv_get hv214_ (k := 146) (j := 23) (l := 0) (u := 200) rfl
      have h216_ := iv_get hv214_ (k := 164) (j := (a214_ 146 23).toNat) (l := (-128)) (u := 127) rfl
      have h217_ : a214_ 164 ((a214_ 146 23).toNat) = a 164 ((a214_ 146 23).toNat) := hf214_ 164 ((a214_ 146 23).toNat) rfl
      have h218_ := iv_get hv (k := 164) (j := (a214_ 146 23).toNat) (l := (-128)) (u := 127) rfl
      have h219_ : a 164 ((a214_ 146 23).toNat) = a0 164 ((a214_ 146 23).toNat) := hf 164 ((a214_ 146 23).toNat) rfl
      have h220_ := iv_get hv0 (k := 164) (j := (a214_ 146 23).toNat) (l := (-128)) (u := 127) rfl
      have h221_ := iv_get hv (k := 164) (j := (a 146 23).toNat) (l := (-128)) (u := 127) rfl
      have h222_ : a 164 ((a 146 23).toNat) = a0 164 ((a 146 23).toNat) := hf 164 ((a 146 23).toNat) rfl
      have h223_ := iv_get hv0 (k := 164) (j := (a 146 23).toNat) (l := (-128)) (u := 127) rfl
      refine jt_ite (fun c224_ => ?_) (fun c224_ => ?_)
      ·
        have hf225_ : jfr jW_X12_rules a0 a214_ := jfr_tr hf hf214_ rfl
        have h226_ := iv_get hv214_ (k := 146) (j := 22) (l := 0) (u := 200) rfl
        have h227_ : a214_ 146 22 = a 146 22 := hf214_ 146 22 rfl
        exact (cp_X12_rules_65 E d hd a0 b0 hv0 _).2.2.2.2.2.2.2.2.2.2.2.2 y1 y2 1 0 a214_ (Nat.le_refl _) hv214_ hf225_ (show 0 ≤ 1 from by omega) (show 1 ≤ 1 from by omega) (show 0 ≤ 0 from by omega) (show 0 ≤ 1 from by omega) (show a214_ 146 22 ≤ 100 from by omega) (show a214_ 146 23 ≤ a214_ 146 22 from by omega) (show 0 ≤ y2 from by omega) (show y2 ≤ a214_ 146 23 from by omega) (show 0 ≤ 1 from by omega) (show 0 ≤ 0 from by omega) (show 1 ≤ 1 from by omega) (show 0 ≤ 1 from by omega) (show a214_ 146 22 = a0 146 22 from by omega) (show (a0 146 22 = 0 → ((y2 = 0 ∧ ¬ 1 = 0) ∧ 0 = 0)) from by omega) (show a0 146 22 ≤ 100 from by omega)
      ·
        have hf228_ : jfr jW_X12_rules a0 a214_ := jfr_tr hf hf214_ rfl
        have h229_ := iv_get hv214_ (k := 146) (j := 22) (l := 0) (u := 200) rfl
        have h230_ : a214_ 146 22 = a 146 22 := hf214_ 146 22 rfl
        exact (cp_X12_rules_65 E d hd a0 b0 hv0 _).2.2.2.2.2.2.2.2.2.2.2.2 y1 y2 1 1 a214_ (Nat.le_refl _) hv214_ hf228_ (show 0 ≤ 1 from by omega) (show 1 ≤ 1 from by omega) (show 0 ≤ 1 from by omega) (show 1 ≤ 1 from by omega) (show a214_ 146 22 ≤ 100 from by omega) (show a214_ 146 23 ≤ a214_ 146 22 from by omega) (show 0 ≤ y2 from by omega) (show y2 ≤ a214_ 146 23 from by omega) (show 0 ≤ 1 from by omega) (show 0 ≤ 1 from by omega) (show 1 ≤ 1 from by omega) (show 1 ≤ 1 from by omega) (show a214_ 146 22 = a0 146 22 from by omega) (show (a0 146 22 = 0 → ((y2 = 0 ∧ ¬ 1 = 0) ∧ 1 = 0)) from by omega) (show a0 146 22 ≤ 100 from by omega)
  exact hc27
theorem cp_X12_rules_25 (E : jxE) (d : Nat) (hd : Nat.ble 3 (d + 1) = true) (a0 b0 : Nat → Nat → Int) (hv0 : iv a0) : ∀ (y1 y2 : Int) (a : Nat → Nat → Int), iv a → jfr jW_X12_rules a0 a → 0 ≤ y1 → y1 ≤ 0 → 0 ≤ y2 → y2 ≤ 0 → a 146 22 ≤ 100 → a 146 23 ≤ a 146 22 → y2 = 0 → a 146 22 = a0 146 22 → a0 146 22 ≤ 100 → jt (jxX E d 232 25 [some (.inr (.inr (.inl 146))), some (.inl y1), some (.inl y2), none, none, none] [] (jxSH, a, b0)) (jQ_X12_rules a0 b0) := by
  intro y1 y2 a hv hf hi0 hi1 hi2 hi3 hi4 hi5 hi6 hi7 hi8
  refine jt_eq (bq_X12_rules_25 E d y1 y2 a b0) ?_
  have h231_ := iv_get hv (k := 146) (j := 22) (l := 0) (u := 200) rfl
  have h232_ := iv_get hv (k := 146) (j := 23) (l := 0) (u := 200) rfl
  have h233_ := iv_get hv0 (k := 146) (j := 22) (l := 0) (u := 200) rfl
  exact (cp_X12_rules_27 E d hd a0 b0 hv0 _) y1 y2 0 a (Nat.le_refl _) hv hf (show 0 ≤ y1 from by omega) (show y1 ≤ 0 from by omega) (show 0 ≤ y2 from by omega) (show y2 ≤ 0 from by omega) (show 0 ≤ 0 from by omega) (show 0 ≤ 5 from by omega) (show a 146 22 ≤ 100 from by omega) (show a 146 23 ≤ a 146 22 from by omega) (show y2 = 0 from by omega) (show a 146 22 = a0 146 22 from by omega) (show a0 146 22 ≤ 100 from by omega)
theorem sp_X12_rules (E : jxE) (d : Nat) (hd : Nat.ble 3 d = true) (a0 b0 : Nat → Nat → Int) (hv0 : iv a0) : jt (jxC E d 232 [.inr (.inr (.inl 146))] (jxSH, a0, b0)) (jQ_X12_rules a0 b0) := by
  obtain ⟨d, rfl⟩ := jd_succ hd
  refine jt_eq (bq_X12_rules E d a0 b0) ?_
  have h234_ := iv_get hv0 (k := 146) (j := 22) (l := 0) (u := 200) rfl
  refine jt_ite (fun c235_ => ?_) (fun c235_ => ?_)
  ·
    exact jt_rI ⟨hv0, (jfr_rf _ _), rfl, (show (a0 146 22 = 0 → (-1) = 0) from by omega), (show (a0 146 22 ≤ 100 → a0 146 22 = 0) from by omega), (show (100 < a0 146 22 → a0 146 22 = a0 146 22) from by omega)⟩
  ·
    have hv236_ : iv (jxu a0 146 23 0) := iv_put hv0 (l := 0) (u := 200) rfl (by omega) (by omega)
    have hv237_ : iv (jxu (jxu a0 146 23 0) 146 24 0) := iv_putf hv236_ rfl
    have hf238_ : jfr jW_X12_rules a0 (jxu a0 146 23 0) := jfr_put (jfr_rf _ _) rfl
    have hf239_ : jfr jW_X12_rules a0 (jxu (jxu a0 146 23 0) 146 24 0) := jfr_put hf238_ rfl
    exact cp_X12_rules_25 E d hd a0 b0 hv0 0 0 (jxu (jxu a0 146 23 0) 146 24 0) hv237_ hf239_ (show 0 ≤ 0 from by omega) (show 0 ≤ 0 from by omega) (show 0 ≤ 0 from by omega) (show 0 ≤ 0 from by omega) (show a0 146 22 ≤ 100 from by omega) (show 0 ≤ a0 146 22 from by omega) (show 0 = 0 from by omega) (show a0 146 22 = a0 146 22 from by omega) (show a0 146 22 ≤ 100 from by omega)
