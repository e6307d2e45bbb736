def jW_X12_begins : List (Nat × Nat) := [(146, 23), (146, 24), (146, 25), (146, 26), (146, 27), (146, 32), (146, 33), (146, 35), (168, 9999), (169, 9999)]
abbrev jQ_X12_begins (a0 b0 : Nat → Nat → Int) : List jxV → (Nat → Nat → Int) → (Nat → Nat → Int) → Prop := rI (fun r a b => (iv a) ∧ (jfr jW_X12_begins a0 a) ∧ (b0 = b) ∧ ((0 ≤ r ∧ r ≤ 1)) ∧ (a0 146 23 ≤ a 146 23) ∧ (a 146 23 ≤ a 146 22) ∧ (r = 1 → PS a 1) ∧ ((r = 1 → (a0 146 23) + 2 ≤ a 146 23)) ∧ (QG a0 a r))
theorem cp_X12_begins_2 (E : jxE) (d : Nat) (hd : Nat.ble 4 (d + 1) = true) (a0 b0 : Nat → Nat → Int) (hv0 : iv a0) (hp0 : PS a0 0) (hp1 : a0 146 23 ≤ a0 146 22) (hp2 : a0 146 22 ≤ 100) : ∀ n : Nat, (∀ (y1 s1 s2 : Int) (a : Nat → Nat → Int), (((a 146 22) - (a 146 23)) + 1).toNat ≤ n → iv a → jfr jW_X12_begins a0 a → 1 ≤ y1 → y1 ≤ 1 → 0 ≤ s1 → s1 ≤ 64 → 2 ≤ s2 → s2 ≤ 100 → a 146 23 ≤ a 146 22 → (a0 146 23) + 1 ≤ a 146 23 → a 146 22 ≤ 100 → y1 = 1 → s1 = a 146 35 → a 146 35 ≤ 60 → (PSP a s2) → (QP a0 a s2) → jt (jxX E d 223 100 [some (.inr (.inr (.inl 146))), some (.inl y1), none, none] [.inl s2, .inl s1, .inr (.inr (.inl 169))] (jxSH, a, b0)) (jQ_X12_begins a0 b0)) ∧ (∀ (y1 y3 s1 s2 : Int) (a : Nat → Nat → Int), ((a 146 22) - (a 146 23)).toNat ≤ n → iv a → jfr jW_X12_begins a0 a → 1 ≤ y1 → y1 ≤ 1 → 0 - 1 ≤ y3 → y3 ≤ 15 → 0 ≤ s1 → s1 ≤ 200 → 1 ≤ s2 → s2 ≤ 3 → a 146 23 ≤ a 146 22 → a0 146 23 ≤ a 146 23 → a 146 22 ≤ 100 → (PS a 0) → y1 = 1 → s1 = a 146 23 → ((y3 = 2 ∧ s2 = 3) ∨ (¬ y3 = 2 ∧ s2 = 1)) → s1 + s2 ≤ a 146 22 → (¬ jdp (a 169) (a 146 35).toNat = 10) → (QW a0 a y3) → (y3 = 2 ∨ QO a0 a) → jt (jxX E d 223 77 [some (.inr (.inr (.inl 146))), some (.inl y1), none, some (.inl y3)] [.inl s2, .inl s1, .inr (.inr (.inl 146))] (jxSH, a, b0)) (jQ_X12_begins a0 b0)) ∧ (∀ (y3 s0 : Int) (a : Nat → Nat → Int), ((a 146 22) - (a 146 23)).toNat ≤ n → iv a → jfr jW_X12_begins a0 a → 0 - 1 ≤ y3 → y3 ≤ 15 → 0 ≤ s0 → s0 ≤ 1 → a 146 23 ≤ a 146 22 → a0 146 23 ≤ a 146 23 → a 146 22 ≤ 100 → 0 - 1 ≤ y3 → y3 ≤ 15 → (a 146 23) + (a 146 25) ≤ a 146 22 → (0 ≤ y3 → 2 ≤ a 146 25) → (y3 = 2 → a 146 25 = 3) → (PS a 0) → (s0 = 0 ∨ s0 = 1) → (s0 = 1 → a 146 23 < a 146 22) → (QW a0 a y3) → (s0 = 1 → y3 = 2 ∨ QO a0 a) → (s0 = 0 → ¬ y3 = 2 ∧ ¬ QO a0 a) → jt (jxX E d 223 32 [some (.inr (.inr (.inl 146))), none, none, some (.inl y3)] [.inl s0] (jxSH, a, b0)) (jQ_X12_begins a0 b0)) ∧ (∀ (y3 : Int) (a : Nat → Nat → Int), ((a 146 22) - (a 146 23)).toNat ≤ n → iv a → jfr jW_X12_begins a0 a → 0 - 1 ≤ y3 → y3 ≤ 15 → a 146 23 ≤ a 146 22 → a0 146 23 ≤ a 146 23 → a 146 22 ≤ 100 → 0 - 1 ≤ y3 → y3 ≤ 15 → (a 146 23) + (a 146 25) ≤ a 146 22 → (0 ≤ y3 → 2 ≤ a 146 25) → (y3 = 2 → a 146 25 = 3) → (PS a 0) → a 146 23 < a 146 22 → (QW a0 a y3) → (y3 = 2 ∨ QO a0 a) → jt (jxX E d 223 27 [some (.inr (.inr (.inl 146))), none, none, some (.inl y3)] [] (jxSH, a, b0)) (jQ_X12_begins a0 b0)) ∧ (∀ (y3 : Int) (a : Nat → Nat → Int), ((a 146 22) - (a 146 23)).toNat ≤ n → iv a → jfr jW_X12_begins a0 a → 0 - 1 ≤ y3 → y3 ≤ 15 → a 146 23 ≤ a 146 22 → a0 146 23 ≤ a 146 23 → a 146 22 ≤ 100 → 0 - 1 ≤ y3 → y3 ≤ 15 → (a 146 23) + (a 146 25) ≤ a 146 22 → (0 ≤ y3 → 2 ≤ a 146 25) → (y3 = 2 → a 146 25 = 3) → (PS a 0) → (QW a0 a y3) → (¬ y3 = 2 ∧ ¬ QO a0 a) → jt (jxX E d 223 31 [some (.inr (.inr (.inl 146))), none, none, some (.inl y3)] [] (jxSH, a, b0)) (jQ_X12_begins a0 b0)) ∧ (∀ (y1 : Int) (a : Nat → Nat → Int), ((a 146 22) - (a 146 23)).toNat ≤ n → iv a → jfr jW_X12_begins a0 a → 1 ≤ y1 → y1 ≤ 1 → a 146 23 ≤ a 146 22 → a0 146 23 ≤ a 146 23 → a 146 22 ≤ 100 → (PS a 0) → y1 = 1 → (QC a0 a0 0 → QC a0 a 0) → jt (jxX E d 223 2 [some (.inr (.inr (.inl 146))), some (.inl y1), none, none] [] (jxSH, a, b0)) (jQ_X12_begins a0 b0)) := by
  refine jx_ind fun n ih => ?_
  have ih100 : ∀ (y1 s1 s2 : Int) (a : Nat → Nat → Int), (((a 146 22) - (a 146 23)) + 1).toNat < n → iv a → jfr jW_X12_begins a0 a → 1 ≤ y1 → y1 ≤ 1 → 0 ≤ s1 → s1 ≤ 64 → 2 ≤ s2 → s2 ≤ 100 → a 146 23 ≤ a 146 22 → (a0 146 23) + 1 ≤ a 146 23 → a 146 22 ≤ 100 → y1 = 1 → s1 = a 146 35 → a 146 35 ≤ 60 → (PSP a s2) → (QP a0 a s2) → jt (jxX E d 223 100 [some (.inr (.inr (.inl 146))), some (.inl y1), none, none] [.inl s2, .inl s1, .inr (.inr (.inl 169))] (jxSH, a, b0)) (jQ_X12_begins a0 b0) := fun y1 s1 s2 a hlt i0 i1 i2 i3 i4 i5 i6 i7 i8 i9 i10 i11 i12 i13 i14 i15 => (ih _ hlt).1 y1 s1 s2 a (Nat.le_refl _) i0 i1 i2 i3 i4 i5 i6 i7 i8 i9 i10 i11 i12 i13 i14 i15
  have ih77 : ∀ (y1 y3 s1 s2 : Int) (a : Nat → Nat → Int), ((a 146 22) - (a 146 23)).toNat < n → iv a → jfr jW_X12_begins a0 a → 1 ≤ y1 → y1 ≤ 1 → 0 - 1 ≤ y3 → y3 ≤ 15 → 0 ≤ s1 → s1 ≤ 200 → 1 ≤ s2 → s2 ≤ 3 → a 146 23 ≤ a 146 22 → a0 146 23 ≤ a 146 23 → a 146 22 ≤ 100 → (PS a 0) → y1 = 1 → s1 = a 146 23 → ((y3 = 2 ∧ s2 = 3) ∨ (¬ y3 = 2 ∧ s2 = 1)) → s1 + s2 ≤ a 146 22 → (¬ jdp (a 169) (a 146 35).toNat = 10) → (QW a0 a y3) → (y3 = 2 ∨ QO a0 a) → jt (jxX E d 223 77 [some (.inr (.inr (.inl 146))), some (.inl y1), none, some (.inl y3)] [.inl s2, .inl s1, .inr (.inr (.inl 146))] (jxSH, a, b0)) (jQ_X12_begins a0 b0) := fun y1 y3 s1 s2 a hlt i0 i1 i2 i3 i4 i5 i6 i7 i8 i9 i10 i11 i12 i13 i14 i15 i16 i17 i18 i19 i20 => (ih _ hlt).2.1 y1 y3 s1 s2 a (Nat.le_refl _) i0 i1 i2 i3 i4 i5 i6 i7 i8 i9 i10 i11 i12 i13 i14 i15 i16 i17 i18 i19 i20
  have ih32 : ∀ (y3 s0 : Int) (a : Nat → Nat → Int), ((a 146 22) - (a 146 23)).toNat < n → iv a → jfr jW_X12_begins a0 a → 0 - 1 ≤ y3 → y3 ≤ 15 → 0 ≤ s0 → s0 ≤ 1 → a 146 23 ≤ a 146 22 → a0 146 23 ≤ a 146 23 → a 146 22 ≤ 100 → 0 - 1 ≤ y3 → y3 ≤ 15 → (a 146 23) + (a 146 25) ≤ a 146 22 → (0 ≤ y3 → 2 ≤ a 146 25) → (y3 = 2 → a 146 25 = 3) → (PS a 0) → (s0 = 0 ∨ s0 = 1) → (s0 = 1 → a 146 23 < a 146 22) → (QW a0 a y3) → (s0 = 1 → y3 = 2 ∨ QO a0 a) → (s0 = 0 → ¬ y3 = 2 ∧ ¬ QO a0 a) → jt (jxX E d 223 32 [some (.inr (.inr (.inl 146))), none, none, some (.inl y3)] [.inl s0] (jxSH, a, b0)) (jQ_X12_begins a0 b0) := fun y3 s0 a hlt i0 i1 i2 i3 i4 i5 i6 i7 i8 i9 i10 i11 i12 i13 i14 i15 i16 i17 i18 i19 => (ih _ hlt).2.2.1 y3 s0 a (Nat.le_refl _) i0 i1 i2 i3 i4 i5 i6 i7 i8 i9 i10 i11 i12 i13 i14 i15 i16 i17 i18 i19
  have ih27 : ∀ (y3 : Int) (a : Nat → Nat → Int), ((a 146 22) - (a 146 23)).toNat < n → iv a → jfr jW_X12_begins a0 a → 0 - 1 ≤ y3 → y3 ≤ 15 → a 146 23 ≤ a 146 22 → a0 146 23 ≤ a 146 23 → a 146 22 ≤ 100 → 0 - 1 ≤ y3 → y3 ≤ 15 → (a 146 23) + (a 146 25) ≤ a 146 22 → (0 ≤ y3 → 2 ≤ a 146 25) → (y3 = 2 → a 146 25 = 3) → (PS a 0) → a 146 23 < a 146 22 → (QW a0 a y3) → (y3 = 2 ∨ QO a0 a) → jt (jxX E d 223 27 [some (.inr (.inr (.inl 146))), none, none, some (.inl y3)] [] (jxSH, a, b0)) (jQ_X12_begins a0 b0) := fun y3 a hlt i0 i1 i2 i3 i4 i5 i6 i7 i8 i9 i10 i11 i12 i13 i14 i15 => (ih _ hlt).2.2.2.1 y3 a (Nat.le_refl _) i0 i1 i2 i3 i4 i5 i6 i7 i8 i9 i10 i11 i12 i13 i14 i15
  have ih31 : ∀ (y3 : Int) (a : Nat → Nat → Int), ((a 146 22) - (a 146 23)).toNat < n → iv a → jfr jW_X12_begins a0 a → 0 - 1 ≤ y3 → y3 ≤ 15 → a 146 23 ≤ a 146 22 → a0 146 23 ≤ a 146 23 → a 146 22 ≤ 100 → 0 - 1 ≤ y3 → y3 ≤ 15 → (a 146 23) + (a 146 25) ≤ a 146 22 → (0 ≤ y3 → 2 ≤ a 146 25) → (y3 = 2 → a 146 25 = 3) → (PS a 0) → (QW a0 a y3) → (¬ y3 = 2 ∧ ¬ QO a0 a) → jt (jxX E d 223 31 [some (.inr (.inr (.inl 146))), none, none, some (.inl y3)] [] (jxSH, a, b0)) (jQ_X12_begins a0 b0) := fun y3 a hlt i0 i1 i2 i3 i4 i5 i6 i7 i8 i9 i10 i11 i12 i13 i14 => (ih _ hlt).2.2.2.2.1 y3 a (Nat.le_refl _) i0 i1 i2 i3 i4 i5 i6 i7 i8 i9 i10 i11 i12 i13 i14
  have ih2 : ∀ (y1 : Int) (a : Nat → Nat → Int), ((a 146 22) - (a 146 23)).toNat < n → iv a → jfr jW_X12_begins a0 a → 1 ≤ y1 → y1 ≤ 1 → a 146 23 ≤ a 146 22 → a0 146 23 ≤ a 146 23 → a 146 22 ≤ 100 → (PS a 0) → y1 = 1 → (QC a0 a0 0 → QC a0 a 0) → jt (jxX E d 223 2 [some (.inr (.inr (.inl 146))), some (.inl y1), none, none] [] (jxSH, a, b0)) (jQ_X12_begins a0 b0) := fun y1 a hlt i0 i1 i2 i3 i4 i5 i6 i7 i8 i9 => (ih _ hlt).2.2.2.2.2 y1 a (Nat.le_refl _) i0 i1 i2 i3 i4 i5 i6 i7 i8 i9
  have hc100 : ∀ (y1 s1 s2 : Int) (a : Nat → Nat → Int), (((a 146 22) - (a 146 23)) + 1).toNat ≤ n → iv a → jfr jW_X12_begins a0 a → 1 ≤ y1 → y1 ≤ 1 → 0 ≤ s1 → s1 ≤ 64 → 2 ≤ s2 → s2 ≤ 100 → a 146 23 ≤ a 146 22 → (a0 146 23) + 1 ≤ a 146 23 → a 146 22 ≤ 100 → y1 = 1 → s1 = a 146 35 → a 146 35 ≤ 60 → (PSP a s2) → (QP a0 a s2) → jt (jxX E d 223 100 [some (.inr (.inr (.inl 146))), some (.inl y1), none, none] [.inl s2, .inl s1, .inr (.inr (.inl 169))] (jxSH, a, b0)) (jQ_X12_begins a0 b0) := by
    intro y1 s1 s2 a hm hv hf hi0 hi1 hi2 hi3 hi4 hi5 hi6 hi7 hi8 hi9 hi10 hi11 hpsp hqp
    refine jt_eq (bq_X12_begins_100 E d y1 s1 s2 a b0) ?_
    have h1_ := iv_get hv (k := 146) (j := 23) (l := 0) (u := 200) rfl
    have h2_ := iv_get hv (k := 146) (j := 22) (l := 0) (u := 200) rfl
    have h3_ : a 146 22 = a0 146 22 := hf 146 22 rfl
    have h4_ := iv_get hv0 (k := 146) (j := 22) (l := 0) (u := 200) rfl
    have h5_ := iv_get hv0 (k := 146) (j := 23) (l := 0) (u := 200) rfl
    have h6_ := iv_get hv (k := 146) (j := 35) (l := 0) (u := 64) rfl
    refine jt_grd (by omega) ?_
    have hv7_ : iv (jxu a 169 (s1.toNat) s2) := iv_put hv (l := 0) (u := 100) rfl (by omega) (by omega)
    have h9_ : jxw ((a 146 35) + 1) = (a 146 35) + 1 := jxw_id (by omega) (by omega)
    have hv8_ : iv (jxu (jxu a 169 (s1.toNat) s2) 146 35 (jxw ((a 146 35) + 1))) := iv_put hv7_ (l := 0) (u := 64) rfl (by omega) (by omega)
    have hf10_ : jfr jW_X12_begins a0 (jxu a 169 (s1.toNat) s2) := jfr_put hf rfl
    have hf11_ : jfr jW_X12_begins a0 (jxu (jxu a 169 (s1.toNat) s2) 146 35 (jxw ((a 146 35) + 1))) := jfr_put hf10_ rfl
    exact ih2 y1 (jxu (jxu a 169 (s1.toNat) s2) 146 35 (jxw ((a 146 35) + 1))) (show ((a 146 22) - (a 146 23)).toNat < n from by omega) hv8_ hf11_ (show 1 ≤ y1 from by omega) (show y1 ≤ 1 from by omega) (show a 146 23 ≤ a 146 22 from by omega) (show a0 146 23 ≤ a 146 23 from by omega) (show a 146 22 ≤ 100 from by omega) (PSP_push hpsp (by omega) (by omega)) (show y1 = 1 from by omega) (QP_end hqp (by omega) (by rw [show (a 146 35).toNat = s1.toNat from by omega]; exact UP_p2 (by decide)) (show jxw ((a 146 35) + 1) = _ from jxw_id (by omega) (by omega)) rfl rfl rfl rfl rfl)
  have hc77 : ∀ (y1 y3 s1 s2 : Int) (a : Nat → Nat → Int), ((a 146 22) - (a 146 23)).toNat ≤ n → iv a → jfr jW_X12_begins a0 a → 1 ≤ y1 → y1 ≤ 1 → 0 - 1 ≤ y3 → y3 ≤ 15 → 0 ≤ s1 → s1 ≤ 200 → 1 ≤ s2 → s2 ≤ 3 → a 146 23 ≤ a 146 22 → a0 146 23 ≤ a 146 23 → a 146 22 ≤ 100 → (PS a 0) → y1 = 1 → s1 = a 146 23 → ((y3 = 2 ∧ s2 = 3) ∨ (¬ y3 = 2 ∧ s2 = 1)) → s1 + s2 ≤ a 146 22 → (¬ jdp (a 169) (a 146 35).toNat = 10) → (QW a0 a y3) → (y3 = 2 ∨ QO a0 a) → jt (jxX E d 223 77 [some (.inr (.inr (.inl 146))), some (.inl y1), none, some (.inl y3)] [.inl s2, .inl s1, .inr (.inr (.inl 146))] (jxSH, a, b0)) (jQ_X12_begins a0 b0) := by
    intro y1 y3 s1 s2 a hm hv hf hi0 hi1 hi2 hi3 hi4 hi5 hi6 hi7 hi8 hi9 hi10 hps hi12 hi13 hi14 hi15 hjd hqw hqo
    refine jt_eq (bq_X12_begins_77 E d y1 y3 s1 s2 a b0) ?_
    have h12_ := iv_get hv (k := 146) (j := 23) (l := 0) (u := 200) rfl
    have h13_ := iv_get hv (k := 146) (j := 22) (l := 0) (u := 200) rfl
    have h14_ : a 146 22 = a0 146 22 := hf 146 22 rfl
    have h15_ := iv_get hv0 (k := 146) (j := 22) (l := 0) (u := 200) rfl
    have h16_ := iv_get hv0 (k := 146) (j := 23) (l := 0) (u := 200) rfl
    have i35 := iv_get hv (k := 146) (j := 35) (l := 0) (u := 64) rfl
    have i32 := iv_get hv (k := 146) (j := 32) (l := 0) (u := 64) rfl
    have i23 := iv_get hv (k := 146) (j := 23) (l := 0) (u := 200) rfl
    have hroom := PS_room hps (by omega)
    refine jt_ite (fun c17_ => ?_) (fun c17_ => ?_)
    ·
      have h19_ : jxw (s1 + s2) = s1 + s2 := jxw_id (by omega) (by omega)
      have hv18_ : iv (jxu a 146 23 (jxw (s1 + s2))) := iv_put hv (l := 0) (u := 200) rfl (by omega) (by omega)
      have hf20_ : jfr jW_X12_begins a0 (jxu a 146 23 (jxw (s1 + s2))) := jfr_put hf rfl
      have h21_ := iv_get hv (k := 146) (j := 35) (l := 0) (u := 64) rfl
      exact hc100 y1 (a 146 35) 2 (jxu a 146 23 (jxw (s1 + s2))) (show (((a 146 22) - (jxw (s1 + s2))) + 1).toNat ≤ n from by omega) hv18_ hf20_ (show 1 ≤ y1 from by omega) (show y1 ≤ 1 from by omega) (show 0 ≤ a 146 35 from by omega) (show a 146 35 ≤ 64 from by omega) (show 2 ≤ 2 from by omega) (show 2 ≤ 100 from by omega) (show jxw (s1 + s2) ≤ a 146 22 from by omega) (show (a0 146 23) + 1 ≤ jxw (s1 + s2) from by omega) (show a 146 22 ≤ 100 from by omega) (show y1 = 1 from by omega) (show a 146 35 = a 146 35 from by omega) (show a 146 35 ≤ 60 from by omega) (PSP_mk hps (by omega) hjd (c := s2) (by omega) (by omega)) (QP_mk (d := s2) hqw hqo (by rw [dep_OUL]; exact hjd) (by omega) (by omega) (show jxw (s1 + s2) = _ from (jxw_id (by omega) (by omega)).trans (by omega)) rfl rfl rfl rfl rfl rfl)
    ·
      have h23_ : jxw (s1 + s2) = s1 + s2 := jxw_id (by omega) (by omega)
      have hv22_ : iv (jxu a 146 23 (jxw (s1 + s2))) := iv_put hv (l := 0) (u := 200) rfl (by omega) (by omega)
      have hf24_ : jfr jW_X12_begins a0 (jxu a 146 23 (jxw (s1 + s2))) := jfr_put hf rfl
      have h25_ := iv_get hv (k := 146) (j := 35) (l := 0) (u := 64) rfl
      exact hc100 y1 (a 146 35) 100 (jxu a 146 23 (jxw (s1 + s2))) (show (((a 146 22) - (jxw (s1 + s2))) + 1).toNat ≤ n from by omega) hv22_ hf24_ (show 1 ≤ y1 from by omega) (show y1 ≤ 1 from by omega) (show 0 ≤ a 146 35 from by omega) (show a 146 35 ≤ 64 from by omega) (show 2 ≤ 100 from by omega) (show 100 ≤ 100 from by omega) (show jxw (s1 + s2) ≤ a 146 22 from by omega) (show (a0 146 23) + 1 ≤ jxw (s1 + s2) from by omega) (show a 146 22 ≤ 100 from by omega) (show y1 = 1 from by omega) (show a 146 35 = a 146 35 from by omega) (show a 146 35 ≤ 60 from by omega) (PSP_mk hps (by omega) hjd (c := s2) (by omega) (by omega)) (QP_mk (d := s2) hqw hqo (by rw [dep_OUL]; exact hjd) (by omega) (by omega) (show jxw (s1 + s2) = _ from (jxw_id (by omega) (by omega)).trans (by omega)) rfl rfl rfl rfl rfl rfl)
  have hc32 : ∀ (y3 s0 : Int) (a : Nat → Nat → Int), ((a 146 22) - (a 146 23)).toNat ≤ n → iv a → jfr jW_X12_begins a0 a → 0 - 1 ≤ y3 → y3 ≤ 15 → 0 ≤ s0 → s0 ≤ 1 → a 146 23 ≤ a 146 22 → a0 146 23 ≤ a 146 23 → a 146 22 ≤ 100 → 0 - 1 ≤ y3 → y3 ≤ 15 → (a 146 23) + (a 146 25) ≤ a 146 22 → (0 ≤ y3 → 2 ≤ a 146 25) → (y3 = 2 → a 146 25 = 3) → (PS a 0) → (s0 = 0 ∨ s0 = 1) → (s0 = 1 → a 146 23 < a 146 22) → (QW a0 a y3) → (s0 = 1 → y3 = 2 ∨ QO a0 a) → (s0 = 0 → ¬ y3 = 2 ∧ ¬ QO a0 a) → jt (jxX E d 223 32 [some (.inr (.inr (.inl 146))), none, none, some (.inl y3)] [.inl s0] (jxSH, a, b0)) (jQ_X12_begins a0 b0) := by
    intro y3 s0 a hm hv hf hi0 hi1 hi2 hi3 hi4 hi5 hi6 hi7 hi8 hi9 hi10 hi11 hps hi13 hi14 hqw hqo hnq
    refine jt_eq (bq_X12_begins_32 E d y3 s0 a b0) ?_
    have h26_ := iv_get hv (k := 146) (j := 23) (l := 0) (u := 200) rfl
    have h27_ := iv_get hv (k := 146) (j := 22) (l := 0) (u := 200) rfl
    have h28_ : a 146 22 = a0 146 22 := hf 146 22 rfl
    have h29_ := iv_get hv0 (k := 146) (j := 22) (l := 0) (u := 200) rfl
    have h30_ := iv_get hv0 (k := 146) (j := 23) (l := 0) (u := 200) rfl
    have h31_ := iv_get hv (k := 146) (j := 25) (l := 0) (u := 200) rfl
    have i35 := iv_get hv (k := 146) (j := 35) (l := 0) (u := 64) rfl
    have i32 := iv_get hv (k := 146) (j := 32) (l := 0) (u := 64) rfl
    have i23 := iv_get hv (k := 146) (j := 23) (l := 0) (u := 200) rfl
    have hroom := PS_room hps (by omega)
    have h4 : a 164 = a0 164 := funext fun j => hf 164 j rfl
    have h22 := hf 146 22 rfl
    refine jt_ite (fun c32_ => ?_) (fun c32_ => ?_)
    ·
      have h33_ := iv_get hv (k := 146) (j := 32) (l := 0) (u := 64) rfl
      refine jt_bI (sp_X12_atom E d (jd_le hd rfl) y3 a b0 hv (show (a 146 23) + (a 146 25) ≤ a 146 22 from by omega) (show (0 ≤ y3 → 2 ≤ a 146 25) from by omega) (show a 146 32 < 64 from by omega) (show y3 ≤ 15 from by omega) (show 0 - 1 ≤ y3 from by omega)) (fun r34_ a34_ b34_ h34_ => ?_)
      obtain ⟨hv34_, hf34_, rfl, hq34_0, hq34_1, hq34_2, hq34_3, hq34_4, hq34_5, hq34_6, hq34_7⟩ := h34_
      have h35_ := iv_get hv34_ (k := 146) (j := 23) (l := 0) (u := 200) rfl
      have h36_ := iv_get hv34_ (k := 146) (j := 22) (l := 0) (u := 200) rfl
      have h37_ : a34_ 146 22 = a 146 22 := hf34_ 146 22 rfl
      have h38_ := iv_get hv34_ (k := 146) (j := 32) (l := 0) (u := 64) rfl
      refine jt_grd (by omega) ?_
      have hf39_ : jfr jW_X12_begins a0 a34_ := jfr_tr hf hf34_ rfl
      exact jt_rI ⟨hv34_, hf39_, rfl, (show (0 ≤ r34_ ∧ r34_ ≤ 1) from by omega), (show a0 146 23 ≤ a34_ 146 23 from by omega), (show a34_ 146 23 ≤ a34_ 146 22 from by omega), (fun h => PS_atom hps (by omega) hq34_6 (fun k => hf34_ 169 k rfl) (by omega) (hf34_ 146 35 rfl) (hq34_5 h) (by omega)), (show (r34_ = 1 → (a0 146 23) + 2 ≤ a34_ 146 23) from by omega), (QG_at hqw h4 h22 (hnq (by omega)).1 (hnq (by omega)).2 hq34_7)⟩
    ·
      refine jt_bI (sp_X12_deep E d (jd_le hd rfl) a b0 hv) (fun r40_ a40_ b40_ h40_ => ?_)
      obtain ⟨rfl, rfl, hq40_0⟩ := h40_
      refine jt_ite (fun c41_ => ?_) (fun c41_ => ?_)
      ·
        refine jt_bI (sp_X12_fails E d (jd_le hd rfl) 3 (a 146 23) a b0 hv) (fun r42_ a42_ b42_ h42_ => ?_)
        obtain ⟨hv42_, hf42_, rfl, hq42_0, hq42_1, hq42_2, hq42_3⟩ := h42_
        refine jt_grd (by omega) ?_
        have hf43_ : jfr jW_X12_begins a0 a42_ := jfr_tr hf hf42_ rfl
        have h44_ := iv_get hv42_ (k := 146) (j := 23) (l := 0) (u := 200) rfl
        have h45_ : a42_ 146 23 = a 146 23 := hf42_ 146 23 rfl
        have h46_ := iv_get hv42_ (k := 146) (j := 22) (l := 0) (u := 200) rfl
        have h47_ : a42_ 146 22 = a 146 22 := hf42_ 146 22 rfl
        exact jt_rI ⟨hv42_, hf43_, rfl, (show (0 ≤ r42_ ∧ r42_ ≤ 1) from by omega), (show a0 146 23 ≤ a42_ 146 23 from by omega), (show a42_ 146 23 ≤ a42_ 146 22 from by omega), (fun h => by omega), (show (r42_ = 1 → (a0 146 23) + 2 ≤ a42_ 146 23) from by omega), (QG_deep hqw (hqo (by omega)) (by rw [dep_OUL, ← hq40_0]; omega) (by omega) (fun h => by have e := hq42_2; omega) hq42_1)⟩
      ·
        refine jt_ite (fun c48_ => ?_) (fun c48_ => ?_)
        ·
          exact hc77 s0 y3 (a 146 23) 3 a (show ((a 146 22) - (a 146 23)).toNat ≤ n from by omega) hv hf (show 1 ≤ s0 from by omega) (show s0 ≤ 1 from by omega) (show 0 - 1 ≤ y3 from by omega) (show y3 ≤ 15 from by omega) (show 0 ≤ a 146 23 from by omega) (show a 146 23 ≤ 200 from by omega) (show 1 ≤ 3 from by omega) (show 3 ≤ 3 from by omega) (show a 146 23 ≤ a 146 22 from by omega) (show a0 146 23 ≤ a 146 23 from by omega) (show a 146 22 ≤ 100 from by omega) hps (show s0 = 1 from by omega) (show a 146 23 = a 146 23 from by omega) (show ((y3 = 2 ∧ 3 = 3) ∨ (¬ y3 = 2 ∧ 3 = 1)) from by omega) (show (a 146 23) + 3 ≤ a 146 22 from by omega) (by rw [← hq40_0]; assumption) hqw (hqo (by omega))
        ·
          exact hc77 s0 y3 (a 146 23) 1 a (show ((a 146 22) - (a 146 23)).toNat ≤ n from by omega) hv hf (show 1 ≤ s0 from by omega) (show s0 ≤ 1 from by omega) (show 0 - 1 ≤ y3 from by omega) (show y3 ≤ 15 from by omega) (show 0 ≤ a 146 23 from by omega) (show a 146 23 ≤ 200 from by omega) (show 1 ≤ 1 from by omega) (show 1 ≤ 3 from by omega) (show a 146 23 ≤ a 146 22 from by omega) (show a0 146 23 ≤ a 146 23 from by omega) (show a 146 22 ≤ 100 from by omega) hps (show s0 = 1 from by omega) (show a 146 23 = a 146 23 from by omega) (show ((y3 = 2 ∧ 1 = 3) ∨ (¬ y3 = 2 ∧ 1 = 1)) from by omega) (show (a 146 23) + 1 ≤ a 146 22 from by omega) (by rw [← hq40_0]; assumption) hqw (hqo (by omega))
  have hc27 : ∀ (y3 : Int) (a : Nat → Nat → Int), ((a 146 22) - (a 146 23)).toNat ≤ n → iv a → jfr jW_X12_begins a0 a → 0 - 1 ≤ y3 → y3 ≤ 15 → a 146 23 ≤ a 146 22 → a0 146 23 ≤ a 146 23 → a 146 22 ≤ 100 → 0 - 1 ≤ y3 → y3 ≤ 15 → (a 146 23) + (a 146 25) ≤ a 146 22 → (0 ≤ y3 → 2 ≤ a 146 25) → (y3 = 2 → a 146 25 = 3) → (PS a 0) → a 146 23 < a 146 22 → (QW a0 a y3) → (y3 = 2 ∨ QO a0 a) → jt (jxX E d 223 27 [some (.inr (.inr (.inl 146))), none, none, some (.inl y3)] [] (jxSH, a, b0)) (jQ_X12_begins a0 b0) := by
    intro y3 a hm hv hf hi0 hi1 hi2 hi3 hi4 hi5 hi6 hi7 hi8 hi9 hps hi11 hqw hqo
    refine jt_eq (bq_X12_begins_27 E d y3 a b0) ?_
    have h49_ := iv_get hv (k := 146) (j := 23) (l := 0) (u := 200) rfl
    have h50_ := iv_get hv (k := 146) (j := 22) (l := 0) (u := 200) rfl
    have h51_ : a 146 22 = a0 146 22 := hf 146 22 rfl
    have h52_ := iv_get hv0 (k := 146) (j := 22) (l := 0) (u := 200) rfl
    have h53_ := iv_get hv0 (k := 146) (j := 23) (l := 0) (u := 200) rfl
    have h54_ := iv_get hv (k := 146) (j := 25) (l := 0) (u := 200) rfl
    exact hc32 y3 1 a (show ((a 146 22) - (a 146 23)).toNat ≤ n from by omega) hv hf (show 0 - 1 ≤ y3 from by omega) (show y3 ≤ 15 from by omega) (show 0 ≤ 1 from by omega) (show 1 ≤ 1 from by omega) (show a 146 23 ≤ a 146 22 from by omega) (show a0 146 23 ≤ a 146 23 from by omega) (show a 146 22 ≤ 100 from by omega) (show 0 - 1 ≤ y3 from by omega) (show y3 ≤ 15 from by omega) (show (a 146 23) + (a 146 25) ≤ a 146 22 from by omega) (show (0 ≤ y3 → 2 ≤ a 146 25) from by omega) (show (y3 = 2 → a 146 25 = 3) from by omega) hps (show (1 = 0 ∨ 1 = 1) from by omega) (show (1 = 1 → a 146 23 < a 146 22) from by omega) hqw (by first | exact (fun _ => hqo) | exact (fun h => absurd h (by decide))) (by first | exact (fun _ => hnq) | exact (fun h => absurd h (by decide)))
  have hc31 : ∀ (y3 : Int) (a : Nat → Nat → Int), ((a 146 22) - (a 146 23)).toNat ≤ n → iv a → jfr jW_X12_begins a0 a → 0 - 1 ≤ y3 → y3 ≤ 15 → a 146 23 ≤ a 146 22 → a0 146 23 ≤ a 146 23 → a 146 22 ≤ 100 → 0 - 1 ≤ y3 → y3 ≤ 15 → (a 146 23) + (a 146 25) ≤ a 146 22 → (0 ≤ y3 → 2 ≤ a 146 25) → (y3 = 2 → a 146 25 = 3) → (PS a 0) → (QW a0 a y3) → (¬ y3 = 2 ∧ ¬ QO a0 a) → jt (jxX E d 223 31 [some (.inr (.inr (.inl 146))), none, none, some (.inl y3)] [] (jxSH, a, b0)) (jQ_X12_begins a0 b0) := by
    intro y3 a hm hv hf hi0 hi1 hi2 hi3 hi4 hi5 hi6 hi7 hi8 hi9 hps hqw hnq
    refine jt_eq (bq_X12_begins_31 E d y3 a b0) ?_
    have h55_ := iv_get hv (k := 146) (j := 23) (l := 0) (u := 200) rfl
    have h56_ := iv_get hv (k := 146) (j := 22) (l := 0) (u := 200) rfl
    have h57_ : a 146 22 = a0 146 22 := hf 146 22 rfl
    have h58_ := iv_get hv0 (k := 146) (j := 22) (l := 0) (u := 200) rfl
    have h59_ := iv_get hv0 (k := 146) (j := 23) (l := 0) (u := 200) rfl
    have h60_ := iv_get hv (k := 146) (j := 25) (l := 0) (u := 200) rfl
    exact hc32 y3 0 a (show ((a 146 22) - (a 146 23)).toNat ≤ n from by omega) hv hf (show 0 - 1 ≤ y3 from by omega) (show y3 ≤ 15 from by omega) (show 0 ≤ 0 from by omega) (show 0 ≤ 1 from by omega) (show a 146 23 ≤ a 146 22 from by omega) (show a0 146 23 ≤ a 146 23 from by omega) (show a 146 22 ≤ 100 from by omega) (show 0 - 1 ≤ y3 from by omega) (show y3 ≤ 15 from by omega) (show (a 146 23) + (a 146 25) ≤ a 146 22 from by omega) (show (0 ≤ y3 → 2 ≤ a 146 25) from by omega) (show (y3 = 2 → a 146 25 = 3) from by omega) hps (show (0 = 0 ∨ 0 = 1) from by omega) (show (0 = 1 → a 146 23 < a 146 22) from by omega) hqw (by first | exact (fun _ => hqo) | exact (fun h => absurd h (by decide))) (by first | exact (fun _ => hnq) | exact (fun h => absurd h (by decide)))
  have hc2 : ∀ (y1 : Int) (a : Nat → Nat → Int), ((a 146 22) - (a 146 23)).toNat ≤ n → iv a → jfr jW_X12_begins a0 a → 1 ≤ y1 → y1 ≤ 1 → a 146 23 ≤ a 146 22 → a0 146 23 ≤ a 146 23 → a 146 22 ≤ 100 → (PS a 0) → y1 = 1 → (QC a0 a0 0 → QC a0 a 0) → jt (jxX E d 223 2 [some (.inr (.inr (.inl 146))), some (.inl y1), none, none] [] (jxSH, a, b0)) (jQ_X12_begins a0 b0) := by
    intro y1 a hm hv hf hi0 hi1 hi2 hi3 hi4 hps hi6 hqc
    refine jt_eq (bq_X12_begins_2 E d y1 a b0) ?_
    have h61_ := iv_get hv (k := 146) (j := 23) (l := 0) (u := 200) rfl
    have h62_ := iv_get hv (k := 146) (j := 22) (l := 0) (u := 200) rfl
    have h63_ : a 146 22 = a0 146 22 := hf 146 22 rfl
    have h64_ := iv_get hv0 (k := 146) (j := 22) (l := 0) (u := 200) rfl
    have h65_ := iv_get hv0 (k := 146) (j := 23) (l := 0) (u := 200) rfl
    have i35 := iv_get hv (k := 146) (j := 35) (l := 0) (u := 64) rfl
    have i32 := iv_get hv (k := 146) (j := 32) (l := 0) (u := 64) rfl
    have i23 := iv_get hv (k := 146) (j := 23) (l := 0) (u := 200) rfl
    have hroom := PS_room hps (by omega)
    have h4 : a 164 = a0 164 := funext fun j => hf 164 j rfl
    have h22 := hf 146 22 rfl
    refine jt_ite (fun c66_ => ?_) (fun c66_ => ?_)
    ·
      exact jt_rI ⟨hv, hf, rfl, (show (0 ≤ 0 ∧ 0 ≤ 1) from by omega), (show a0 146 23 ≤ a 146 23 from by omega), (show a 146 23 ≤ a 146 22 from by omega), (fun h => by omega), (show (0 = 1 → (a0 146 23) + 2 ≤ a 146 23) from by omega), (by omega)⟩
    ·
      refine jt_bI (sp_X12_see E d (jd_le hd rfl) a b0 hv (show a 146 23 ≤ a 146 22 from by omega)) (fun r67_ a67_ b67_ h67_ => ?_)
      obtain ⟨hv67_, hf67_, rfl, hq67_0, hq67_1, hq67_2, hq67_3, hq67_4, hq67_5⟩ := h67_
      have h68_ := iv_get hv67_ (k := 146) (j := 23) (l := 0) (u := 200) rfl
      have h69_ := iv_get hv67_ (k := 164) (j := (a67_ 146 23).toNat) (l := (-128)) (u := 127) rfl
      have h70_ : a67_ 164 ((a67_ 146 23).toNat) = a 164 ((a67_ 146 23).toNat) := hf67_ 164 ((a67_ 146 23).toNat) rfl
      have h71_ := iv_get hv (k := 164) (j := (a67_ 146 23).toNat) (l := (-128)) (u := 127) rfl
      have h72_ : a 164 ((a67_ 146 23).toNat) = a0 164 ((a67_ 146 23).toNat) := hf 164 ((a67_ 146 23).toNat) rfl
      have h73_ := iv_get hv0 (k := 164) (j := (a67_ 146 23).toNat) (l := (-128)) (u := 127) rfl
      have h74_ := iv_get hv (k := 164) (j := (a 146 23).toNat) (l := (-128)) (u := 127) rfl
      have h75_ : a 164 ((a 146 23).toNat) = a0 164 ((a 146 23).toNat) := hf 164 ((a 146 23).toNat) rfl
      have h76_ := iv_get hv0 (k := 164) (j := (a 146 23).toNat) (l := (-128)) (u := 127) rfl
      have h77_ := iv_get hv67_ (k := 146) (j := 22) (l := 0) (u := 200) rfl
      have h78_ : a67_ 146 22 = a 146 22 := hf67_ 146 22 rfl
      refine jt_bI (sp_X12_wordHere E d (jd_le hd rfl) a67_ b0 hv67_ (show a67_ 146 23 ≤ a67_ 146 22 from by omega)) (fun r79_ a79_ b79_ h79_ => ?_)
      obtain ⟨hv79_, hf79_, rfl, hq79_0, hq79_1, hq79_2, hq79_3, hq79_4, hq79_5, hq79_6, hq79_7, hq79_8, hq79_9⟩ := h79_
      have h80_ := iv_get hv79_ (k := 146) (j := 23) (l := 0) (u := 200) rfl
      have h81_ := iv_get hv79_ (k := 146) (j := 25) (l := 0) (u := 200) rfl
      have h82_ := iv_get hv79_ (k := 146) (j := 22) (l := 0) (u := 200) rfl
      have h83_ : a79_ 146 22 = a67_ 146 22 := hf79_ 146 22 rfl
      have hqv79 := QV_mk (a0 := a0) h4 h22 hq67_4 (funext fun j => hf67_ 164 j rfl) (hf67_ 146 22 rfl) hq79_7 hq79_8 hq79_9
      have hqo79 : r67_ = 40 ↔ QO a0 a79_ := QO_iff h4 h22 hqv79.2.1 (fun h => by omega) (fun h => by omega) hq67_5
      refine jt_ite (fun c84_ => ?_) (fun c84_ => ?_)
      ·
        have hf85_ : jfr jW_X12_begins a0 a67_ := jfr_tr hf hf67_ rfl
        have hf86_ : jfr jW_X12_begins a0 a79_ := jfr_tr hf85_ hf79_ rfl
        exact hc27 r79_ a79_ (show ((a79_ 146 22) - (a79_ 146 23)).toNat ≤ n from by omega) hv79_ hf86_ (show 0 - 1 ≤ r79_ from by omega) (show r79_ ≤ 15 from by omega) (show a79_ 146 23 ≤ a79_ 146 22 from by omega) (show a0 146 23 ≤ a79_ 146 23 from by omega) (show a79_ 146 22 ≤ 100 from by omega) (show 0 - 1 ≤ r79_ from by omega) (show r79_ ≤ 15 from by omega) (show (a79_ 146 23) + (a79_ 146 25) ≤ a79_ 146 22 from by omega) (show (0 ≤ r79_ → 2 ≤ a79_ 146 25) from by omega) (show (r79_ = 2 → a79_ 146 25 = 3) from by omega) (PS_next (PS_next hps (fun k => hf67_ 168 k rfl) (fun k => hf67_ 169 k rfl) (hf67_ 146 32 rfl) (hf67_ 146 35 rfl) (by omega)) (fun k => hf79_ 168 k rfl) (fun k => hf79_ 169 k rfl) (hf79_ 146 32 rfl) (hf79_ 146 35 rfl) (by omega)) (show a79_ 146 23 < a79_ 146 22 from by omega) ⟨fun q => QC_mv (hqc q) ⟨(hf79_ 146 24 rfl).trans (hf67_ 146 24 rfl), fun j => (hf79_ 169 j rfl).trans (hf67_ 169 j rfl), (hf79_ 146 35 rfl).trans (hf67_ 146 35 rfl), fun j => (hf79_ 168 j rfl).trans (hf67_ 168 j rfl), (hf79_ 146 32 rfl).trans (hf67_ 146 32 rfl), (hf79_ 146 33 rfl).trans (hf67_ 146 33 rfl)⟩ hqv79.2.2, hqv79.1⟩ (by first | exact Or.inl (by omega) | exact Or.inr (hqo79.1 (by omega)))
      ·
        refine jt_ite (fun c87_ => ?_) (fun c87_ => ?_)
        ·
          have hf88_ : jfr jW_X12_begins a0 a67_ := jfr_tr hf hf67_ rfl
          have hf89_ : jfr jW_X12_begins a0 a79_ := jfr_tr hf88_ hf79_ rfl
          exact hc27 r79_ a79_ (show ((a79_ 146 22) - (a79_ 146 23)).toNat ≤ n from by omega) hv79_ hf89_ (show 0 - 1 ≤ r79_ from by omega) (show r79_ ≤ 15 from by omega) (show a79_ 146 23 ≤ a79_ 146 22 from by omega) (show a0 146 23 ≤ a79_ 146 23 from by omega) (show a79_ 146 22 ≤ 100 from by omega) (show 0 - 1 ≤ r79_ from by omega) (show r79_ ≤ 15 from by omega) (show (a79_ 146 23) + (a79_ 146 25) ≤ a79_ 146 22 from by omega) (show (0 ≤ r79_ → 2 ≤ a79_ 146 25) from by omega) (show (r79_ = 2 → a79_ 146 25 = 3) from by omega) (PS_next (PS_next hps (fun k => hf67_ 168 k rfl) (fun k => hf67_ 169 k rfl) (hf67_ 146 32 rfl) (hf67_ 146 35 rfl) (by omega)) (fun k => hf79_ 168 k rfl) (fun k => hf79_ 169 k rfl) (hf79_ 146 32 rfl) (hf79_ 146 35 rfl) (by omega)) (show a79_ 146 23 < a79_ 146 22 from by omega) ⟨fun q => QC_mv (hqc q) ⟨(hf79_ 146 24 rfl).trans (hf67_ 146 24 rfl), fun j => (hf79_ 169 j rfl).trans (hf67_ 169 j rfl), (hf79_ 146 35 rfl).trans (hf67_ 146 35 rfl), fun j => (hf79_ 168 j rfl).trans (hf67_ 168 j rfl), (hf79_ 146 32 rfl).trans (hf67_ 146 32 rfl), (hf79_ 146 33 rfl).trans (hf67_ 146 33 rfl)⟩ hqv79.2.2, hqv79.1⟩ (by first | exact Or.inl (by omega) | exact Or.inr (hqo79.1 (by omega)))
        ·
          have hf90_ : jfr jW_X12_begins a0 a67_ := jfr_tr hf hf67_ rfl
          have hf91_ : jfr jW_X12_begins a0 a79_ := jfr_tr hf90_ hf79_ rfl
          exact hc31 r79_ a79_ (show ((a79_ 146 22) - (a79_ 146 23)).toNat ≤ n from by omega) hv79_ hf91_ (show 0 - 1 ≤ r79_ from by omega) (show r79_ ≤ 15 from by omega) (show a79_ 146 23 ≤ a79_ 146 22 from by omega) (show a0 146 23 ≤ a79_ 146 23 from by omega) (show a79_ 146 22 ≤ 100 from by omega) (show 0 - 1 ≤ r79_ from by omega) (show r79_ ≤ 15 from by omega) (show (a79_ 146 23) + (a79_ 146 25) ≤ a79_ 146 22 from by omega) (show (0 ≤ r79_ → 2 ≤ a79_ 146 25) from by omega) (show (r79_ = 2 → a79_ 146 25 = 3) from by omega) (PS_next (PS_next hps (fun k => hf67_ 168 k rfl) (fun k => hf67_ 169 k rfl) (hf67_ 146 32 rfl) (hf67_ 146 35 rfl) (by omega)) (fun k => hf79_ 168 k rfl) (fun k => hf79_ 169 k rfl) (hf79_ 146 32 rfl) (hf79_ 146 35 rfl) (by omega)) ⟨fun q => QC_mv (hqc q) ⟨(hf79_ 146 24 rfl).trans (hf67_ 146 24 rfl), fun j => (hf79_ 169 j rfl).trans (hf67_ 169 j rfl), (hf79_ 146 35 rfl).trans (hf67_ 146 35 rfl), fun j => (hf79_ 168 j rfl).trans (hf67_ 168 j rfl), (hf79_ 146 32 rfl).trans (hf67_ 146 32 rfl), (hf79_ 146 33 rfl).trans (hf67_ 146 33 rfl)⟩ hqv79.2.2, hqv79.1⟩ ⟨by omega, fun h => absurd (hqo79.2 h) (by omega)⟩
  exact ⟨hc100, hc77, hc32, hc27, hc31, hc2⟩
theorem sp_X12_begins (E : jxE) (d : Nat) (hd : Nat.ble 4 d = true) (a0 b0 : Nat → Nat → Int) (hv0 : iv a0) (hp0 : PS a0 0) (hp1 : a0 146 23 ≤ a0 146 22) (hp2 : a0 146 22 ≤ 100) : jt (jxC E d 223 [.inr (.inr (.inl 146))] (jxSH, a0, b0)) (jQ_X12_begins a0 b0) := by
  obtain ⟨d, rfl⟩ := jd_succ hd
  refine jt_eq (bq_X12_begins E d a0 b0) ?_
  have h92_ := iv_get hv0 (k := 146) (j := 23) (l := 0) (u := 200) rfl
  have h93_ := iv_get hv0 (k := 146) (j := 22) (l := 0) (u := 200) rfl
  exact (cp_X12_begins_2 E d hd a0 b0 hv0 hp0 hp1 hp2 _).2.2.2.2.2 1 a0 (Nat.le_refl _) hv0 (jfr_rf _ _) (show 1 ≤ 1 from by omega) (show 1 ≤ 1 from by omega) (show a0 146 23 ≤ a0 146 22 from by omega) (show a0 146 23 ≤ a0 146 23 from by omega) (show a0 146 22 ≤ 100 from by omega) hp0 (show 1 = 1 from by omega) (fun h => h)
def jW_X12_either : List (Nat × Nat) := [(146, 23), (146, 24), (146, 25), (146, 26), (146, 27), (146, 32), (146, 33), (146, 35), (168, 9999), (169, 9999)]
abbrev jQ_X12_either (a0 b0 : Nat → Nat → Int) : List jxV → (Nat → Nat → Int) → (Nat → Nat → Int) → Prop := rI (fun r a b => (iv a) ∧ (jfr jW_X12_either a0 a) ∧ (b0 = b) ∧ ((0 ≤ r ∧ r ≤ 1)) ∧ (a0 146 23 ≤ a 146 23) ∧ (a 146 23 ≤ a 146 22) ∧ (r = 1 → jwf (a 168) (a 146 32).toNat) ∧ (QE a0 a r) ∧ (QB a0 → r = 1 → QX a0 a))
theorem cp_X12_either_175 (E : jxE) (d : Nat) (hd : Nat.ble 5 (d + 1) = true) (a0 b0 : Nat → Nat → Int) (hv0 : iv a0) (hp0 : a0 146 23 ≤ a0 146 22) (hp1 : a0 146 22 ≤ 100) : ∀ (a : Nat → Nat → Int), iv a → jfr jW_X12_either a0 a → a 146 23 ≤ a 146 22 → a0 146 23 ≤ a 146 23 → a 146 22 ≤ 100 → (QB a0 → QK a0 a) → jt (jxX E d 224 175 [some (.inr (.inr (.inl 146))), none, none, none] [] (jxSH, a, b0)) (jQ_X12_either a0 b0) := by
  intro a hv hf hi0 hi1 hi2 hqk
  refine jt_eq (bq_X12_either_175 E d a b0) ?_
  have h94_ := iv_get hv (k := 146) (j := 23) (l := 0) (u := 200) rfl
  have h95_ := iv_get hv (k := 146) (j := 22) (l := 0) (u := 200) rfl
  have h96_ : a 146 22 = a0 146 22 := hf 146 22 rfl
  have h97_ := iv_get hv0 (k := 146) (j := 22) (l := 0) (u := 200) rfl
  have h98_ := iv_get hv0 (k := 146) (j := 23) (l := 0) (u := 200) rfl
  have i23 := iv_get hv (k := 146) (j := 23) (l := 0) (u := 200) rfl
  refine jt_bI (sp_X12_fails E d (jd_le hd rfl) 0 (a 146 23) a b0 hv) (fun r99_ a99_ b99_ h99_ => ?_)
  obtain ⟨hv99_, hf99_, rfl, hq99_0, hq99_1, hq99_2, hq99_3⟩ := h99_
  refine jt_ite (fun c100_ => ?_) (fun c100_ => ?_)
  ·
    have hf101_ : jfr jW_X12_either a0 a99_ := jfr_tr hf hf99_ rfl
    have h102_ := iv_get hv99_ (k := 146) (j := 23) (l := 0) (u := 200) rfl
    have h103_ : a99_ 146 23 = a 146 23 := hf99_ 146 23 rfl
    have h104_ := iv_get hv99_ (k := 146) (j := 22) (l := 0) (u := 200) rfl
    have h105_ : a99_ 146 22 = a 146 22 := hf99_ 146 22 rfl
    exact jt_rI ⟨hv99_, hf101_, rfl, (show (0 ≤ 0 ∧ 0 ≤ 1) from by omega), (show a0 146 23 ≤ a99_ 146 23 from by omega), (show a99_ 146 23 ≤ a99_ 146 22 from by omega), (fun h => by omega), (fun h => ⟨fun e => by omega, fun _ => QF_k (hqk h) (by omega) (fun e0 => by have e := hq99_2; omega)⟩), (fun _ e => absurd e (by omega))⟩
  ·
    have hf106_ : jfr jW_X12_either a0 a99_ := jfr_tr hf hf99_ rfl
    have h107_ := iv_get hv99_ (k := 146) (j := 23) (l := 0) (u := 200) rfl
    have h108_ : a99_ 146 23 = a 146 23 := hf99_ 146 23 rfl
    have h109_ := iv_get hv99_ (k := 146) (j := 22) (l := 0) (u := 200) rfl
    have h110_ : a99_ 146 22 = a 146 22 := hf99_ 146 22 rfl
    exact jt_rI ⟨hv99_, hf106_, rfl, (show (0 ≤ 1 ∧ 1 ≤ 1) from by omega), (show a0 146 23 ≤ a99_ 146 23 from by omega), (show a99_ 146 23 ≤ a99_ 146 22 from by omega), (fun h => by omega), (fun h => ⟨fun e => by omega, fun _ => QF_k (hqk h) (by omega) (fun e0 => by have e := hq99_2; omega)⟩), (fun _ e => absurd e (by omega))⟩
theorem cp_X12_either_17 (E : jxE) (d : Nat) (hd : Nat.ble 5 (d + 1) = true) (a0 b0 : Nat → Nat → Int) (hv0 : iv a0) (hp0 : a0 146 23 ≤ a0 146 22) (hp1 : a0 146 22 ≤ 100) : ∀ n : Nat, (∀ (a : Nat → Nat → Int), (((a 146 22) - (a 146 23)) + 1).toNat ≤ n → iv a → jfr jW_X12_either a0 a → 1 ≤ a 146 35 → a 146 23 ≤ a 146 22 → a0 146 23 ≤ a 146 23 → a 146 22 ≤ 100 → (PS a 0) → (QB a0 → QC a0 a 0) → jt (jxX E d 224 102 [some (.inr (.inr (.inl 146))), none, none, none] [] (jxSH, a, b0)) (jQ_X12_either a0 b0)) ∧ (∀ (y3 s1 : Int) (a : Nat → Nat → Int), ((a 146 22) - (a 146 23)).toNat ≤ n → iv a → jfr jW_X12_either a0 a → 0 ≤ y3 → y3 ≤ 1 → 0 ≤ s1 → s1 ≤ 1 → a 146 23 ≤ a 146 22 → a0 146 23 ≤ a 146 23 → a 146 22 ≤ 100 → (PS a 1) → (y3 = 0 ∨ y3 = 1) → (s1 = 0 ∨ s1 = 1) → (a 146 23) + (a 146 25) ≤ a 146 22 → 2 ≤ a 146 25 → (QB a0 → QC a0 a 1) → (QV a0 a y3) → ((y3 = 1 ∧ s1 = 1) ∨ (y3 = 0 ∧ s1 = 0)) → jt (jxX E d 224 66 [some (.inr (.inr (.inl 146))), none, none, some (.inl y3)] [.inl s1, .inr (.inr (.inl 146))] (jxSH, a, b0)) (jQ_X12_either a0 b0)) ∧ (∀ (y3 : Int) (a : Nat → Nat → Int), ((a 146 22) - (a 146 23)).toNat ≤ n → iv a → jfr jW_X12_either a0 a → 0 ≤ y3 → y3 ≤ 1 → a 146 23 ≤ a 146 22 → a0 146 23 ≤ a 146 23 → a 146 22 ≤ 100 → (PS a 1) → (y3 = 0 ∨ y3 = 1) → (a 146 23) + (a 146 25) ≤ a 146 22 → 2 ≤ a 146 25 → (QB a0 → QC a0 a 1) → (QV a0 a y3) → jt (jxX E d 224 55 [some (.inr (.inr (.inl 146))), none, none, some (.inl y3)] [] (jxSH, a, b0)) (jQ_X12_either a0 b0)) ∧ (∀ (y1 : Int) (a : Nat → Nat → Int), ((a 146 22) - (a 146 23)).toNat ≤ n → iv a → jfr jW_X12_either a0 a → 0 ≤ y1 → y1 ≤ 0 → a 146 35 ≤ 63 → a 146 23 ≤ a 146 22 → a0 146 23 ≤ a 146 23 → a 146 22 ≤ 100 → y1 = 0 → a 146 23 < a 146 22 → (PS a 1) → (QB a0 → QC a0 (jxu a 146 23 (jxw ((a 146 23) + 1))) 1) → jt (jxX E d 224 145 [some (.inr (.inr (.inl 146))), some (.inl y1), none, none] [] (jxSH, a, b0)) (jQ_X12_either a0 b0)) ∧ (∀ (y1 y2 : Int) (a : Nat → Nat → Int), ((a 146 22) - (a 146 23)).toNat ≤ n → iv a → jfr jW_X12_either a0 a → 0 ≤ y1 → y1 ≤ 0 → 0 - 1 ≤ y2 → y2 ≤ 255 → a 146 23 ≤ a 146 22 → a0 146 23 ≤ a 146 23 → a 146 22 ≤ 100 → (PS a 1) → y1 = 0 → 0 - 1 ≤ y2 → (0 ≤ y2 → a 146 23 < a 146 22) → (QB a0 → QC a0 a 1) → (QNW a0 a) → (0 ≤ y2 → y2 = UB (a0 164) (a 146 23).toNat) → 0 - 1 ≤ y2 → (y2 < 0 → a 146 22 ≤ a 146 23) → jt (jxX E d 224 107 [some (.inr (.inr (.inl 146))), some (.inl y1), some (.inl y2), none] [] (jxSH, a, b0)) (jQ_X12_either a0 b0)) ∧ (∀ (a : Nat → Nat → Int), ((a 146 22) - (a 146 23)).toNat ≤ n → iv a → jfr jW_X12_either a0 a → a 146 23 ≤ a 146 22 → a0 146 23 ≤ a 146 23 → a 146 22 ≤ 100 → (PS a 1) → (QB a0 → QC a0 a 1) → jt (jxX E d 224 30 [some (.inr (.inr (.inl 146))), none, none, none] [] (jxSH, a, b0)) (jQ_X12_either a0 b0)) ∧ (∀ (y1 : Int) (a : Nat → Nat → Int), ((a 146 22) - (a 146 23)).toNat ≤ n → iv a → jfr jW_X12_either a0 a → 0 ≤ y1 → y1 ≤ 1 → a 146 23 ≤ a 146 22 → a0 146 23 ≤ a 146 23 → a 146 22 ≤ 100 → (y1 = 0 ∨ y1 = 1) → ((y1 = 1 → PS a 0) ∧ (y1 = 0 → PS a 1)) → (QB a0 → (y1 = 1 → QC a0 a 0) ∧ (y1 = 0 → QC a0 a 1)) → jt (jxX E d 224 17 [some (.inr (.inr (.inl 146))), some (.inl y1), none, none] [] (jxSH, a, b0)) (jQ_X12_either a0 b0)) := by
  refine jx_ind fun n ih => ?_
  have ih102 : ∀ (a : Nat → Nat → Int), (((a 146 22) - (a 146 23)) + 1).toNat < n → iv a → jfr jW_X12_either a0 a → 1 ≤ a 146 35 → a 146 23 ≤ a 146 22 → a0 146 23 ≤ a 146 23 → a 146 22 ≤ 100 → (PS a 0) → (QB a0 → QC a0 a 0) → jt (jxX E d 224 102 [some (.inr (.inr (.inl 146))), none, none, none] [] (jxSH, a, b0)) (jQ_X12_either a0 b0) := fun a hlt i0 i1 i2 i3 i4 i5 i6 i7 => (ih _ hlt).1 a (Nat.le_refl _) i0 i1 i2 i3 i4 i5 i6 i7
  have ih66 : ∀ (y3 s1 : Int) (a : Nat → Nat → Int), ((a 146 22) - (a 146 23)).toNat < n → iv a → jfr jW_X12_either a0 a → 0 ≤ y3 → y3 ≤ 1 → 0 ≤ s1 → s1 ≤ 1 → a 146 23 ≤ a 146 22 → a0 146 23 ≤ a 146 23 → a 146 22 ≤ 100 → (PS a 1) → (y3 = 0 ∨ y3 = 1) → (s1 = 0 ∨ s1 = 1) → (a 146 23) + (a 146 25) ≤ a 146 22 → 2 ≤ a 146 25 → (QB a0 → QC a0 a 1) → (QV a0 a y3) → ((y3 = 1 ∧ s1 = 1) ∨ (y3 = 0 ∧ s1 = 0)) → jt (jxX E d 224 66 [some (.inr (.inr (.inl 146))), none, none, some (.inl y3)] [.inl s1, .inr (.inr (.inl 146))] (jxSH, a, b0)) (jQ_X12_either a0 b0) := fun y3 s1 a hlt i0 i1 i2 i3 i4 i5 i6 i7 i8 i9 i10 i11 i12 i13 i14 i15 i16 => (ih _ hlt).2.1 y3 s1 a (Nat.le_refl _) i0 i1 i2 i3 i4 i5 i6 i7 i8 i9 i10 i11 i12 i13 i14 i15 i16
  have ih55 : ∀ (y3 : Int) (a : Nat → Nat → Int), ((a 146 22) - (a 146 23)).toNat < n → iv a → jfr jW_X12_either a0 a → 0 ≤ y3 → y3 ≤ 1 → a 146 23 ≤ a 146 22 → a0 146 23 ≤ a 146 23 → a 146 22 ≤ 100 → (PS a 1) → (y3 = 0 ∨ y3 = 1) → (a 146 23) + (a 146 25) ≤ a 146 22 → 2 ≤ a 146 25 → (QB a0 → QC a0 a 1) → (QV a0 a y3) → jt (jxX E d 224 55 [some (.inr (.inr (.inl 146))), none, none, some (.inl y3)] [] (jxSH, a, b0)) (jQ_X12_either a0 b0) := fun y3 a hlt i0 i1 i2 i3 i4 i5 i6 i7 i8 i9 i10 i11 i12 => (ih _ hlt).2.2.1 y3 a (Nat.le_refl _) i0 i1 i2 i3 i4 i5 i6 i7 i8 i9 i10 i11 i12
  have ih145 : ∀ (y1 : Int) (a : Nat → Nat → Int), ((a 146 22) - (a 146 23)).toNat < n → iv a → jfr jW_X12_either a0 a → 0 ≤ y1 → y1 ≤ 0 → a 146 35 ≤ 63 → a 146 23 ≤ a 146 22 → a0 146 23 ≤ a 146 23 → a 146 22 ≤ 100 → y1 = 0 → a 146 23 < a 146 22 → (PS a 1) → (QB a0 → QC a0 (jxu a 146 23 (jxw ((a 146 23) + 1))) 1) → jt (jxX E d 224 145 [some (.inr (.inr (.inl 146))), some (.inl y1), none, none] [] (jxSH, a, b0)) (jQ_X12_either a0 b0) := fun y1 a hlt i0 i1 i2 i3 i4 i5 i6 i7 i8 i9 i10 i11 => (ih _ hlt).2.2.2.1 y1 a (Nat.le_refl _) i0 i1 i2 i3 i4 i5 i6 i7 i8 i9 i10 i11
  have ih107 : ∀ (y1 y2 : Int) (a : Nat → Nat → Int), ((a 146 22) - (a 146 23)).toNat < n → iv a → jfr jW_X12_either a0 a → 0 ≤ y1 → y1 ≤ 0 → 0 - 1 ≤ y2 → y2 ≤ 255 → a 146 23 ≤ a 146 22 → a0 146 23 ≤ a 146 23 → a 146 22 ≤ 100 → (PS a 1) → y1 = 0 → 0 - 1 ≤ y2 → (0 ≤ y2 → a 146 23 < a 146 22) → (QB a0 → QC a0 a 1) → (QNW a0 a) → (0 ≤ y2 → y2 = UB (a0 164) (a 146 23).toNat) → 0 - 1 ≤ y2 → (y2 < 0 → a 146 22 ≤ a 146 23) → jt (jxX E d 224 107 [some (.inr (.inr (.inl 146))), some (.inl y1), some (.inl y2), none] [] (jxSH, a, b0)) (jQ_X12_either a0 b0) := fun y1 y2 a hlt i0 i1 i2 i3 i4 i5 i6 i7 i8 i9 i10 i11 i12 i13 i14 i15 i16 i17 => (ih _ hlt).2.2.2.2.1 y1 y2 a (Nat.le_refl _) i0 i1 i2 i3 i4 i5 i6 i7 i8 i9 i10 i11 i12 i13 i14 i15 i16 i17
  have ih30 : ∀ (a : Nat → Nat → Int), ((a 146 22) - (a 146 23)).toNat < n → iv a → jfr jW_X12_either a0 a → a 146 23 ≤ a 146 22 → a0 146 23 ≤ a 146 23 → a 146 22 ≤ 100 → (PS a 1) → (QB a0 → QC a0 a 1) → jt (jxX E d 224 30 [some (.inr (.inr (.inl 146))), none, none, none] [] (jxSH, a, b0)) (jQ_X12_either a0 b0) := fun a hlt i0 i1 i2 i3 i4 i5 i6 => (ih _ hlt).2.2.2.2.2.1 a (Nat.le_refl _) i0 i1 i2 i3 i4 i5 i6
  have ih17 : ∀ (y1 : Int) (a : Nat → Nat → Int), ((a 146 22) - (a 146 23)).toNat < n → iv a → jfr jW_X12_either a0 a → 0 ≤ y1 → y1 ≤ 1 → a 146 23 ≤ a 146 22 → a0 146 23 ≤ a 146 23 → a 146 22 ≤ 100 → (y1 = 0 ∨ y1 = 1) → ((y1 = 1 → PS a 0) ∧ (y1 = 0 → PS a 1)) → (QB a0 → (y1 = 1 → QC a0 a 0) ∧ (y1 = 0 → QC a0 a 1)) → jt (jxX E d 224 17 [some (.inr (.inr (.inl 146))), some (.inl y1), none, none] [] (jxSH, a, b0)) (jQ_X12_either a0 b0) := fun y1 a hlt i0 i1 i2 i3 i4 i5 i6 i7 i8 i9 => (ih _ hlt).2.2.2.2.2.2 y1 a (Nat.le_refl _) i0 i1 i2 i3 i4 i5 i6 i7 i8 i9
  have hc102 : ∀ (a : Nat → Nat → Int), (((a 146 22) - (a 146 23)) + 1).toNat ≤ n → iv a → jfr jW_X12_either a0 a → 1 ≤ a 146 35 → a 146 23 ≤ a 146 22 → a0 146 23 ≤ a 146 23 → a 146 22 ≤ 100 → (PS a 0) → (QB a0 → QC a0 a 0) → jt (jxX E d 224 102 [some (.inr (.inr (.inl 146))), none, none, none] [] (jxSH, a, b0)) (jQ_X12_either a0 b0) := by
    intro a hm hv hf hi0 hi1 hi2 hi3 hps hqc
    refine jt_eq (bq_X12_either_102 E d a b0) ?_
    have h111_ := iv_get hv (k := 146) (j := 35) (l := 0) (u := 64) rfl
    have h112_ := iv_get hv (k := 146) (j := 23) (l := 0) (u := 200) rfl
    have h113_ := iv_get hv (k := 146) (j := 22) (l := 0) (u := 200) rfl
    have h114_ : a 146 22 = a0 146 22 := hf 146 22 rfl
    have h115_ := iv_get hv0 (k := 146) (j := 22) (l := 0) (u := 200) rfl
    have h116_ := iv_get hv0 (k := 146) (j := 23) (l := 0) (u := 200) rfl
    exact ih17 1 a (show ((a 146 22) - (a 146 23)).toNat < n from by omega) hv hf (show 0 ≤ 1 from by omega) (show 1 ≤ 1 from by omega) (show a 146 23 ≤ a 146 22 from by omega) (show a0 146 23 ≤ a 146 23 from by omega) (show a 146 22 ≤ 100 from by omega) (show (1 = 0 ∨ 1 = 1) from by omega) (by first | exact ⟨fun _ => PS_start rfl rfl (by first | (show 0 ≤ a0 146 23; omega) | omega), fun h => (by omega)⟩ | exact ⟨fun _ => hps, fun h => (by omega)⟩ | exact ⟨fun h => (by omega), fun _ => PS_next hps (fun _ => rfl) (fun _ => rfl) rfl rfl (by show a 146 23 ≤ jxw ((a 146 23) + 1); omega)⟩) (fun h => ⟨fun _ => hqc h, fun e => absurd e (by decide)⟩)
  have hc66 : ∀ (y3 s1 : Int) (a : Nat → Nat → Int), ((a 146 22) - (a 146 23)).toNat ≤ n → iv a → jfr jW_X12_either a0 a → 0 ≤ y3 → y3 ≤ 1 → 0 ≤ s1 → s1 ≤ 1 → a 146 23 ≤ a 146 22 → a0 146 23 ≤ a 146 23 → a 146 22 ≤ 100 → (PS a 1) → (y3 = 0 ∨ y3 = 1) → (s1 = 0 ∨ s1 = 1) → (a 146 23) + (a 146 25) ≤ a 146 22 → 2 ≤ a 146 25 → (QB a0 → QC a0 a 1) → (QV a0 a y3) → ((y3 = 1 ∧ s1 = 1) ∨ (y3 = 0 ∧ s1 = 0)) → jt (jxX E d 224 66 [some (.inr (.inr (.inl 146))), none, none, some (.inl y3)] [.inl s1, .inr (.inr (.inl 146))] (jxSH, a, b0)) (jQ_X12_either a0 b0) := by
    intro y3 s1 a hm hv hf hi0 hi1 hi2 hi3 hi4 hi5 hi6 hps hi8 hi9 hi10 hi11 hqc hqv hi14
    refine jt_eq (bq_X12_either_66 E d y3 s1 a b0) ?_
    have h117_ := iv_get hv (k := 146) (j := 23) (l := 0) (u := 200) rfl
    have h118_ := iv_get hv (k := 146) (j := 22) (l := 0) (u := 200) rfl
    have h119_ : a 146 22 = a0 146 22 := hf 146 22 rfl
    have h120_ := iv_get hv0 (k := 146) (j := 22) (l := 0) (u := 200) rfl
    have h121_ := iv_get hv0 (k := 146) (j := 23) (l := 0) (u := 200) rfl
    have h122_ := iv_get hv (k := 146) (j := 25) (l := 0) (u := 200) rfl
    have h4 : a 164 = a0 164 := funext fun j => hf 164 j rfl
    have h22 := hf 146 22 rfl
    have i23 := iv_get hv (k := 146) (j := 23) (l := 0) (u := 200) rfl
    refine jt_bV (sp_X12_closesDown E d (jd_le hd rfl) s1 a b0 hv hps (show a 146 23 ≤ 100 from by omega) (show 0 ≤ s1 from by omega)) (fun a123_ b123_ h123_ => ?_)
    obtain ⟨hv123_, hf123_, rfl, hq123_0, hq123_1, hq123_2⟩ := h123_
    have h23_123 := hf123_ 146 23 rfl
    have i32_123 := iv_get hv123_ (k := 146) (j := 32) (l := 0) (u := 64) rfl
    have hroom123 := PS_room hq123_0 (by omega)
    have i35_123 := iv_get hv123_ (k := 146) (j := 35) (l := 0) (u := 64) rfl
    have h124_ := iv_get hv123_ (k := 146) (j := 35) (l := 0) (u := 64) rfl
    refine jt_grd (by omega) ?_
    have hv125_ : iv (jxu a123_ 169 ((a123_ 146 35).toNat) y3) := iv_put hv123_ (l := 0) (u := 100) rfl (by omega) (by omega)
    have h127_ : jxw ((a123_ 146 35) + 1) = (a123_ 146 35) + 1 := jxw_id (by omega) (by omega)
    have hv126_ : iv (jxu (jxu a123_ 169 ((a123_ 146 35).toNat) y3) 146 35 (jxw ((a123_ 146 35) + 1))) := iv_put hv125_ (l := 0) (u := 64) rfl (by omega) (by omega)
    have h129_ := iv_get hv123_ (k := 146) (j := 23) (l := 0) (u := 200) rfl
    have h130_ : a123_ 146 23 = a 146 23 := hf123_ 146 23 rfl
    have h131_ := iv_get hv123_ (k := 146) (j := 25) (l := 0) (u := 200) rfl
    have h132_ : a123_ 146 25 = a 146 25 := hf123_ 146 25 rfl
    have h133_ : jxw ((a123_ 146 23) + (a123_ 146 25)) = (a123_ 146 23) + (a123_ 146 25) := jxw_id (by omega) (by omega)
    have hv128_ : iv (jxu (jxu (jxu a123_ 169 ((a123_ 146 35).toNat) y3) 146 35 (jxw ((a123_ 146 35) + 1))) 146 23 (jxw ((a123_ 146 23) + (a123_ 146 25)))) := iv_put hv126_ (l := 0) (u := 200) rfl (by omega) (by omega)
    have hf134_ : jfr jW_X12_either a0 a123_ := jfr_tr hf hf123_ rfl
    have hf135_ : jfr jW_X12_either a0 (jxu a123_ 169 ((a123_ 146 35).toNat) y3) := jfr_put hf134_ rfl
    have hf136_ : jfr jW_X12_either a0 (jxu (jxu a123_ 169 ((a123_ 146 35).toNat) y3) 146 35 (jxw ((a123_ 146 35) + 1))) := jfr_put hf135_ rfl
    have hf137_ : jfr jW_X12_either a0 (jxu (jxu (jxu a123_ 169 ((a123_ 146 35).toNat) y3) 146 35 (jxw ((a123_ 146 35) + 1))) 146 23 (jxw ((a123_ 146 23) + (a123_ 146 25)))) := jfr_put hf136_ rfl
    have h138_ := iv_get hv123_ (k := 146) (j := 22) (l := 0) (u := 200) rfl
    have h139_ : a123_ 146 22 = a 146 22 := hf123_ 146 22 rfl
    exact hc102 (jxu (jxu (jxu a123_ 169 ((a123_ 146 35).toNat) y3) 146 35 (jxw ((a123_ 146 35) + 1))) 146 23 (jxw ((a123_ 146 23) + (a123_ 146 25)))) (show (((a123_ 146 22) - (jxw ((a123_ 146 23) + (a123_ 146 25)))) + 1).toNat ≤ n from by omega) hv128_ hf137_ (show 1 ≤ jxw ((a123_ 146 35) + 1) from by omega) (show jxw ((a123_ 146 23) + (a123_ 146 25)) ≤ a123_ 146 22 from by omega) (show a0 146 23 ≤ jxw ((a123_ 146 23) + (a123_ 146 25)) from by omega) (show a123_ 146 22 ≤ 100 from by omega) (PS_bin hq123_0 (w := y3) (by omega) (fun _ => rfl) (fun k hk => by simp [jxu]; intro h; omega) rfl (show jxw ((a123_ 146 35) + 1) = a123_ 146 35 + 1 from (by omega)) (by simp [jxu]) (by omega) (show a123_ 146 23 + 2 ≤ jxw ((a123_ 146 23) + (a123_ 146 25)) from (by omega))) (fun h => QC_word (a1 := a123_) (y := y3) ((QC_base h4 h22).1 (hq123_2 ((QC_base h4 h22).2 (hqc h)) (by have q := hqv.2.1 1 (by decide); rw [show UB (a 164) = UB (a0 164) from by rw [h4], h22, ← hqv.1]; by_cases e : s1 = 1 <;> first | exact Or.inl e | exact Or.inr ⟨by omega, fun t => by have q2 := q.1 t; omega⟩))) hqv (by omega) (hf123_ 146 23 rfl) (hf123_ 146 25 rfl) (by have q := hq123_1; rw [show s1 = y3 from by omega] at q; exact q) i35_123.1 i35_123.2 (fun j => (iv_get hv123_ (k := 169) (j := j) (l := 0) (u := 100) rfl).1) i23.1 (UP_p3 (by decide) (by decide)) (show jxw ((a123_ 146 35) + 1) = _ from jxw_id (by omega) (by omega)) (show jxw ((a123_ 146 23) + (a123_ 146 25)) = _ from jxw_id (by omega) (by omega)) rfl (fun _ => rfl) rfl rfl)
  have hc55 : ∀ (y3 : Int) (a : Nat → Nat → Int), ((a 146 22) - (a 146 23)).toNat ≤ n → iv a → jfr jW_X12_either a0 a → 0 ≤ y3 → y3 ≤ 1 → a 146 23 ≤ a 146 22 → a0 146 23 ≤ a 146 23 → a 146 22 ≤ 100 → (PS a 1) → (y3 = 0 ∨ y3 = 1) → (a 146 23) + (a 146 25) ≤ a 146 22 → 2 ≤ a 146 25 → (QB a0 → QC a0 a 1) → (QV a0 a y3) → jt (jxX E d 224 55 [some (.inr (.inr (.inl 146))), none, none, some (.inl y3)] [] (jxSH, a, b0)) (jQ_X12_either a0 b0) := by
    intro y3 a hm hv hf hi0 hi1 hi2 hi3 hi4 hps hi6 hi7 hi8 hqc hqv
    refine jt_eq (bq_X12_either_55 E d y3 a b0) ?_
    have h140_ := iv_get hv (k := 146) (j := 23) (l := 0) (u := 200) rfl
    have h141_ := iv_get hv (k := 146) (j := 22) (l := 0) (u := 200) rfl
    have h142_ : a 146 22 = a0 146 22 := hf 146 22 rfl
    have h143_ := iv_get hv0 (k := 146) (j := 22) (l := 0) (u := 200) rfl
    have h144_ := iv_get hv0 (k := 146) (j := 23) (l := 0) (u := 200) rfl
    have h145_ := iv_get hv (k := 146) (j := 25) (l := 0) (u := 200) rfl
    refine jt_ite (fun c146_ => ?_) (fun c146_ => ?_)
    ·
      exact hc66 y3 1 a (show ((a 146 22) - (a 146 23)).toNat ≤ n from by omega) hv hf (show 0 ≤ y3 from by omega) (show y3 ≤ 1 from by omega) (show 0 ≤ 1 from by omega) (show 1 ≤ 1 from by omega) (show a 146 23 ≤ a 146 22 from by omega) (show a0 146 23 ≤ a 146 23 from by omega) (show a 146 22 ≤ 100 from by omega) hps (show (y3 = 0 ∨ y3 = 1) from by omega) (show (1 = 0 ∨ 1 = 1) from by omega) (show (a 146 23) + (a 146 25) ≤ a 146 22 from by omega) (show 2 ≤ a 146 25 from by omega) hqc hqv (show ((y3 = 1 ∧ 1 = 1) ∨ (y3 = 0 ∧ 1 = 0)) from by omega)
    ·
      exact hc66 y3 0 a (show ((a 146 22) - (a 146 23)).toNat ≤ n from by omega) hv hf (show 0 ≤ y3 from by omega) (show y3 ≤ 1 from by omega) (show 0 ≤ 0 from by omega) (show 0 ≤ 1 from by omega) (show a 146 23 ≤ a 146 22 from by omega) (show a0 146 23 ≤ a 146 23 from by omega) (show a 146 22 ≤ 100 from by omega) hps (show (y3 = 0 ∨ y3 = 1) from by omega) (show (0 = 0 ∨ 0 = 1) from by omega) (show (a 146 23) + (a 146 25) ≤ a 146 22 from by omega) (show 2 ≤ a 146 25 from by omega) hqc hqv (show ((y3 = 1 ∧ 0 = 1) ∨ (y3 = 0 ∧ 0 = 0)) from by omega)
  have hc145 : ∀ (y1 : Int) (a : Nat → Nat → Int), ((a 146 22) - (a 146 23)).toNat ≤ n → iv a → jfr jW_X12_either a0 a → 0 ≤ y1 → y1 ≤ 0 → a 146 35 ≤ 63 → a 146 23 ≤ a 146 22 → a0 146 23 ≤ a 146 23 → a 146 22 ≤ 100 → y1 = 0 → a 146 23 < a 146 22 → (PS a 1) → (QB a0 → QC a0 (jxu a 146 23 (jxw ((a 146 23) + 1))) 1) → jt (jxX E d 224 145 [some (.inr (.inr (.inl 146))), some (.inl y1), none, none] [] (jxSH, a, b0)) (jQ_X12_either a0 b0) := by
    intro y1 a hm hv hf hi0 hi1 hi2 hi3 hi4 hi5 hi6 hi7 hps hqc
    refine jt_eq (bq_X12_either_145 E d y1 a b0) ?_
    have h147_ := iv_get hv (k := 146) (j := 35) (l := 0) (u := 64) rfl
    have h148_ := iv_get hv (k := 146) (j := 23) (l := 0) (u := 200) rfl
    have h149_ := iv_get hv (k := 146) (j := 22) (l := 0) (u := 200) rfl
    have h150_ : a 146 22 = a0 146 22 := hf 146 22 rfl
    have h151_ := iv_get hv0 (k := 146) (j := 22) (l := 0) (u := 200) rfl
    have h152_ := iv_get hv0 (k := 146) (j := 23) (l := 0) (u := 200) rfl
    have h154_ : jxw ((a 146 23) + 1) = (a 146 23) + 1 := jxw_id (by omega) (by omega)
    have hv153_ : iv (jxu a 146 23 (jxw ((a 146 23) + 1))) := iv_put hv (l := 0) (u := 200) rfl (by omega) (by omega)
    have hf155_ : jfr jW_X12_either a0 (jxu a 146 23 (jxw ((a 146 23) + 1))) := jfr_put hf rfl
    exact ih17 y1 (jxu a 146 23 (jxw ((a 146 23) + 1))) (show ((a 146 22) - (jxw ((a 146 23) + 1))).toNat < n from by omega) hv153_ hf155_ (show 0 ≤ y1 from by omega) (show y1 ≤ 1 from by omega) (show jxw ((a 146 23) + 1) ≤ a 146 22 from by omega) (show a0 146 23 ≤ jxw ((a 146 23) + 1) from by omega) (show a 146 22 ≤ 100 from by omega) (show (y1 = 0 ∨ y1 = 1) from by omega) (by first | exact ⟨fun _ => PS_start rfl rfl (by first | (show 0 ≤ a0 146 23; omega) | omega), fun h => (by omega)⟩ | exact ⟨fun _ => hps, fun h => (by omega)⟩ | exact ⟨fun h => (by omega), fun _ => PS_next hps (fun _ => rfl) (fun _ => rfl) rfl rfl (by show a 146 23 ≤ jxw ((a 146 23) + 1); omega)⟩) (fun h => ⟨fun e => by omega, fun _ => hqc h⟩)
  have hc107 : ∀ (y1 y2 : Int) (a : Nat → Nat → Int), ((a 146 22) - (a 146 23)).toNat ≤ n → iv a → jfr jW_X12_either a0 a → 0 ≤ y1 → y1 ≤ 0 → 0 - 1 ≤ y2 → y2 ≤ 255 → a 146 23 ≤ a 146 22 → a0 146 23 ≤ a 146 23 → a 146 22 ≤ 100 → (PS a 1) → y1 = 0 → 0 - 1 ≤ y2 → (0 ≤ y2 → a 146 23 < a 146 22) → (QB a0 → QC a0 a 1) → (QNW a0 a) → (0 ≤ y2 → y2 = UB (a0 164) (a 146 23).toNat) → 0 - 1 ≤ y2 → (y2 < 0 → a 146 22 ≤ a 146 23) → jt (jxX E d 224 107 [some (.inr (.inr (.inl 146))), some (.inl y1), some (.inl y2), none] [] (jxSH, a, b0)) (jQ_X12_either a0 b0) := by
    intro y1 y2 a hm hv hf hi0 hi1 hi2 hi3 hi4 hi5 hi6 hps hi8 hi9 hi10 hqc hnw hby hi14 hi15
    refine jt_eq (bq_X12_either_107 E d y1 y2 a b0) ?_
    have h156_ := iv_get hv (k := 146) (j := 23) (l := 0) (u := 200) rfl
    have h157_ := iv_get hv (k := 146) (j := 22) (l := 0) (u := 200) rfl
    have h158_ : a 146 22 = a0 146 22 := hf 146 22 rfl
    have h159_ := iv_get hv0 (k := 146) (j := 22) (l := 0) (u := 200) rfl
    have h160_ := iv_get hv0 (k := 146) (j := 23) (l := 0) (u := 200) rfl
    have h4 : a 164 = a0 164 := funext fun j => hf 164 j rfl
    have h22 := hf 146 22 rfl
    have i23 := iv_get hv (k := 146) (j := 23) (l := 0) (u := 200) rfl
    refine jt_ite (fun c161_ => ?_) (fun c161_ => ?_)
    ·
      refine jt_bV (sp_X12_closesDown E d (jd_le hd rfl) 0 a b0 hv hps (show a 146 23 ≤ 100 from by omega) (show 0 ≤ 0 from by omega)) (fun a162_ b162_ h162_ => ?_)
      obtain ⟨hv162_, hf162_, rfl, hq162_0, hq162_1, hq162_2⟩ := h162_
      have h23_162 := hf162_ 146 23 rfl
      have i32_162 := iv_get hv162_ (k := 146) (j := 32) (l := 0) (u := 64) rfl
      have hroom162 := PS_room hq162_0 (by omega)
      have i35_162 := iv_get hv162_ (k := 146) (j := 35) (l := 0) (u := 64) rfl
      have h163_ := iv_get hv162_ (k := 146) (j := 35) (l := 0) (u := 64) rfl
      refine jt_ite (fun c164_ => ?_) (fun c164_ => ?_)
      ·
        refine jt_bI (sp_X12_fails E d (jd_le hd rfl) 0 (a162_ 146 23) a162_ b0 hv162_) (fun r165_ a165_ b165_ h165_ => ?_)
        obtain ⟨hv165_, hf165_, rfl, hq165_0, hq165_1, hq165_2, hq165_3⟩ := h165_
        have h166_ : a162_ 146 24 = a 146 24 := hf162_ 146 24 rfl
        have h167_ := iv_get hv162_ (k := 146) (j := 23) (l := 0) (u := 200) rfl
        have h168_ : a162_ 146 23 = a 146 23 := hf162_ 146 23 rfl
        refine jt_grd (by omega) ?_
        have hf169_ : jfr jW_X12_either a0 a162_ := jfr_tr hf hf162_ rfl
        have hf170_ : jfr jW_X12_either a0 a165_ := jfr_tr hf169_ hf165_ rfl
        have h171_ := iv_get hv165_ (k := 146) (j := 23) (l := 0) (u := 200) rfl
        have h172_ : a165_ 146 23 = a162_ 146 23 := hf165_ 146 23 rfl
        have h173_ := iv_get hv165_ (k := 146) (j := 22) (l := 0) (u := 200) rfl
        have h174_ : a165_ 146 22 = a162_ 146 22 := hf165_ 146 22 rfl
        have h175_ := iv_get hv162_ (k := 146) (j := 22) (l := 0) (u := 200) rfl
        have h176_ : a162_ 146 22 = a 146 22 := hf162_ 146 22 rfl
        exact jt_rI ⟨hv165_, hf170_, rfl, (show (0 ≤ r165_ ∧ r165_ ≤ 1) from by omega), (show a0 146 23 ≤ a165_ 146 23 from by omega), (show a165_ 146 23 ≤ a165_ 146 22 from by omega), (fun h => by omega), (fun h => ⟨fun e => by omega, fun _ => QF_k (QK_mk ((QC_base h4 h22).1 (hq162_2 ((QC_base h4 h22).2 (hqc h)) (by rw [show UB (a 164) = UB (a0 164) from by rw [h4], h22, ← hnw.1]; exact Or.inr ⟨rfl, hnw.2.1⟩))) hnw (hf162_ 146 23 rfl) hq162_1 i35_162.1 i35_162.2 (fun j => (iv_get hv162_ (k := 169) (j := j) (l := 0) (u := 100) rfl).1) (Or.inl ⟨by omega, by have q := hby (by omega); omega, by omega⟩)) (by omega) (fun e0 => by have e := hq165_2; omega)⟩), (fun _ e => absurd e (by omega))⟩
      ·
        have h178_ : jxw ((a162_ 146 35) - 1) = (a162_ 146 35) - 1 := jxw_id (by omega) (by omega)
        have hv177_ : iv (jxu a162_ 146 35 (jxw ((a162_ 146 35) - 1))) := iv_put hv162_ (l := 0) (u := 64) rfl (by omega) (by omega)
        have hf179_ : jfr jW_X12_either a0 a162_ := jfr_tr hf hf162_ rfl
        have hf180_ : jfr jW_X12_either a0 (jxu a162_ 146 35 (jxw ((a162_ 146 35) - 1))) := jfr_put hf179_ rfl
        have h181_ := iv_get hv162_ (k := 146) (j := 23) (l := 0) (u := 200) rfl
        have h182_ : a162_ 146 23 = a 146 23 := hf162_ 146 23 rfl
        have h183_ := iv_get hv162_ (k := 146) (j := 22) (l := 0) (u := 200) rfl
        have h184_ : a162_ 146 22 = a 146 22 := hf162_ 146 22 rfl
        exact hc145 y1 (jxu a162_ 146 35 (jxw ((a162_ 146 35) - 1))) (show ((a162_ 146 22) - (a162_ 146 23)).toNat ≤ n from by omega) hv177_ hf180_ (show 0 ≤ y1 from by omega) (show y1 ≤ 0 from by omega) (show jxw ((a162_ 146 35) - 1) ≤ 63 from by omega) (show a162_ 146 23 ≤ a162_ 146 22 from by omega) (show a0 146 23 ≤ a162_ 146 23 from by omega) (show a162_ 146 22 ≤ 100 from by omega) (show y1 = 0 from by omega) (show a162_ 146 23 < a162_ 146 22 from by omega) (PS_par hq162_0 (by omega) (TOP_100 hq162_1 (by omega) (by omega) (Int.le_refl _) (fun j => (iv_get hv162_ (k := 169) (j := j) (l := 0) (u := 100) rfl).1)) (fun _ => rfl) (fun _ => rfl) rfl (show jxw ((a162_ 146 35) - 1) = a162_ 146 35 - 1 from (by omega)) (Int.le_refl _)) (fun h => QC_close (a1 := a162_) ((QC_base h4 h22).1 (hq162_2 ((QC_base h4 h22).2 (hqc h)) (by rw [show UB (a 164) = UB (a0 164) from by rw [h4], h22, ← hnw.1]; exact Or.inr ⟨rfl, hnw.2.1⟩))) hnw (hf162_ 146 23 rfl) hq162_1 i35_162.1 i35_162.2 (fun j => (iv_get hv162_ (k := 169) (j := j) (l := 0) (u := 100) rfl).1) i23.1 (by omega) (by omega) (by have q := hby (by omega); omega) (show jxw ((a162_ 146 35) - 1) = _ from jxw_id (by omega) (by omega)) (show jxw ((a162_ 146 23) + 1) = _ from jxw_id (by omega) (by omega)) rfl (fun _ => rfl) (fun _ => rfl) rfl rfl)
    ·
      refine jt_bV (sp_X12_closesDown E d (jd_le hd rfl) 0 a b0 hv hps (show a 146 23 ≤ 100 from by omega) (show 0 ≤ 0 from by omega)) (fun a185_ b185_ h185_ => ?_)
      obtain ⟨hv185_, hf185_, rfl, hq185_0, hq185_1, hq185_2⟩ := h185_
      have h23_185 := hf185_ 146 23 rfl
      have i32_185 := iv_get hv185_ (k := 146) (j := 32) (l := 0) (u := 64) rfl
      have hroom185 := PS_room hq185_0 (by omega)
      have i35_185 := iv_get hv185_ (k := 146) (j := 35) (l := 0) (u := 64) rfl
      refine jt_ite (fun c186_ => ?_) (fun c186_ => ?_)
      ·
        have h187_ := iv_get hv185_ (k := 146) (j := 35) (l := 0) (u := 64) rfl
        refine jt_ite (fun c188_ => ?_) (fun c188_ => ?_)
        ·
          have hf189_ : jfr jW_X12_either a0 a185_ := jfr_tr hf hf185_ rfl
          have h190_ := iv_get hv185_ (k := 146) (j := 23) (l := 0) (u := 200) rfl
          have h191_ : a185_ 146 23 = a 146 23 := hf185_ 146 23 rfl
          have h192_ := iv_get hv185_ (k := 146) (j := 22) (l := 0) (u := 200) rfl
          have h193_ : a185_ 146 22 = a 146 22 := hf185_ 146 22 rfl
          exact jt_rI ⟨hv185_, hf189_, rfl, (show (0 ≤ 1 ∧ 1 ≤ 1) from by omega), (show a0 146 23 ≤ a185_ 146 23 from by omega), (show a185_ 146 23 ≤ a185_ 146 22 from by omega), (fun _ => hq185_0.1), (fun h => ⟨fun _ => QE_fin ((QC_base h4 h22).1 (hq185_2 ((QC_base h4 h22).2 (hqc h)) (by rw [show UB (a 164) = UB (a0 164) from by rw [h4], h22, ← hnw.1]; exact Or.inr ⟨rfl, hnw.2.1⟩))) hnw (hf185_ 146 23 rfl) (by omega) (by omega), fun e => absurd e (by decide)⟩), (fun h _ => QX_fin ((QC_base h4 h22).1 (hq185_2 ((QC_base h4 h22).2 (hqc h)) (by rw [show UB (a 164) = UB (a0 164) from by rw [h4], h22, ← hnw.1]; exact Or.inr ⟨rfl, hnw.2.1⟩))) hnw (hf185_ 146 23 rfl) (by omega) (by omega))⟩
        ·
          have hf194_ : jfr jW_X12_either a0 a185_ := jfr_tr hf hf185_ rfl
          have h195_ := iv_get hv185_ (k := 146) (j := 23) (l := 0) (u := 200) rfl
          have h196_ : a185_ 146 23 = a 146 23 := hf185_ 146 23 rfl
          have h197_ := iv_get hv185_ (k := 146) (j := 22) (l := 0) (u := 200) rfl
          have h198_ : a185_ 146 22 = a 146 22 := hf185_ 146 22 rfl
          exact cp_X12_either_175 E d hd a0 b0 hv0 hp0 hp1 a185_ hv185_ hf194_ (show a185_ 146 23 ≤ a185_ 146 22 from by omega) (show a0 146 23 ≤ a185_ 146 23 from by omega) (show a185_ 146 22 ≤ 100 from by omega) (fun h => (QK_mk ((QC_base h4 h22).1 (hq185_2 ((QC_base h4 h22).2 (hqc h)) (by rw [show UB (a 164) = UB (a0 164) from by rw [h4], h22, ← hnw.1]; exact Or.inr ⟨rfl, hnw.2.1⟩))) hnw (hf185_ 146 23 rfl) hq185_1 i35_185.1 i35_185.2 (fun j => (iv_get hv185_ (k := 169) (j := j) (l := 0) (u := 100) rfl).1) (Or.inr ⟨fun t => by first | omega | (have q := hby (by omega); omega), fun t => by omega⟩)))
      ·
        have hf199_ : jfr jW_X12_either a0 a185_ := jfr_tr hf hf185_ rfl
        have h200_ := iv_get hv185_ (k := 146) (j := 23) (l := 0) (u := 200) rfl
        have h201_ : a185_ 146 23 = a 146 23 := hf185_ 146 23 rfl
        have h202_ := iv_get hv185_ (k := 146) (j := 22) (l := 0) (u := 200) rfl
        have h203_ : a185_ 146 22 = a 146 22 := hf185_ 146 22 rfl
        exact cp_X12_either_175 E d hd a0 b0 hv0 hp0 hp1 a185_ hv185_ hf199_ (show a185_ 146 23 ≤ a185_ 146 22 from by omega) (show a0 146 23 ≤ a185_ 146 23 from by omega) (show a185_ 146 22 ≤ 100 from by omega) (fun h => (QK_mk ((QC_base h4 h22).1 (hq185_2 ((QC_base h4 h22).2 (hqc h)) (by rw [show UB (a 164) = UB (a0 164) from by rw [h4], h22, ← hnw.1]; exact Or.inr ⟨rfl, hnw.2.1⟩))) hnw (hf185_ 146 23 rfl) hq185_1 i35_185.1 i35_185.2 (fun j => (iv_get hv185_ (k := 169) (j := j) (l := 0) (u := 100) rfl).1) (Or.inr ⟨fun t => by first | omega | (have q := hby (by omega); omega), fun t => by omega⟩)))
  have hc30 : ∀ (a : Nat → Nat → Int), ((a 146 22) - (a 146 23)).toNat ≤ n → iv a → jfr jW_X12_either a0 a → a 146 23 ≤ a 146 22 → a0 146 23 ≤ a 146 23 → a 146 22 ≤ 100 → (PS a 1) → (QB a0 → QC a0 a 1) → jt (jxX E d 224 30 [some (.inr (.inr (.inl 146))), none, none, none] [] (jxSH, a, b0)) (jQ_X12_either a0 b0) := by
    intro a hm hv hf hi0 hi1 hi2 hps hqc
    refine jt_eq (bq_X12_either_30 E d a b0) ?_
    have h204_ := iv_get hv (k := 146) (j := 23) (l := 0) (u := 200) rfl
    have h205_ := iv_get hv (k := 146) (j := 22) (l := 0) (u := 200) rfl
    have h206_ : a 146 22 = a0 146 22 := hf 146 22 rfl
    have h207_ := iv_get hv0 (k := 146) (j := 22) (l := 0) (u := 200) rfl
    have h208_ := iv_get hv0 (k := 146) (j := 23) (l := 0) (u := 200) rfl
    have h4 : a 164 = a0 164 := funext fun j => hf 164 j rfl
    have h22 := hf 146 22 rfl
    refine jt_bV (sp_X12_closesNots E d (jd_le hd rfl) a b0 hv hps (show a 146 23 ≤ 100 from by omega)) (fun a209_ b209_ h209_ => ?_)
    obtain ⟨hv209_, hf209_, rfl, hq209_0, hq209_1⟩ := h209_
    have h210_ := iv_get hv209_ (k := 146) (j := 23) (l := 0) (u := 200) rfl
    have h211_ : a209_ 146 23 = a 146 23 := hf209_ 146 23 rfl
    have h212_ := iv_get hv209_ (k := 146) (j := 22) (l := 0) (u := 200) rfl
    have h213_ : a209_ 146 22 = a 146 22 := hf209_ 146 22 rfl
    refine jt_bI (sp_X12_see E d (jd_le hd rfl) a209_ b0 hv209_ (show a209_ 146 23 ≤ a209_ 146 22 from by omega)) (fun r214_ a214_ b214_ h214_ => ?_)
    obtain ⟨hv214_, hf214_, rfl, hq214_0, hq214_1, hq214_2, hq214_3, hq214_4, hq214_5⟩ := h214_
    have h215_ := iv_get hv214_ (k := 146) (j := 23) (l := 0) (u := 200) rfl
    have h216_ := iv_get hv214_ (k := 164) (j := (a214_ 146 23).toNat) (l := (-128)) (u := 127) rfl
    have h217_ : a214_ 164 ((a214_ 146 23).toNat) = a209_ 164 ((a214_ 146 23).toNat) := hf214_ 164 ((a214_ 146 23).toNat) rfl
    have h218_ := iv_get hv209_ (k := 164) (j := (a214_ 146 23).toNat) (l := (-128)) (u := 127) rfl
    have h219_ : a209_ 164 ((a214_ 146 23).toNat) = a 164 ((a214_ 146 23).toNat) := hf209_ 164 ((a214_ 146 23).toNat) rfl
    have h220_ := iv_get hv (k := 164) (j := (a214_ 146 23).toNat) (l := (-128)) (u := 127) rfl
    have h221_ : a 164 ((a214_ 146 23).toNat) = a0 164 ((a214_ 146 23).toNat) := hf 164 ((a214_ 146 23).toNat) rfl
    have h222_ := iv_get hv0 (k := 164) (j := (a214_ 146 23).toNat) (l := (-128)) (u := 127) rfl
    have h223_ : a209_ 164 ((a209_ 146 23).toNat) = a209_ 164 ((a 146 23).toNat) := by rw [show a209_ 146 23 = a 146 23 from by omega]
    have h224_ := iv_get hv209_ (k := 164) (j := (a 146 23).toNat) (l := (-128)) (u := 127) rfl
    have h225_ : a209_ 164 ((a 146 23).toNat) = a 164 ((a 146 23).toNat) := hf209_ 164 ((a 146 23).toNat) rfl
    have h226_ := iv_get hv (k := 164) (j := (a 146 23).toNat) (l := (-128)) (u := 127) rfl
    have h227_ : a 164 ((a 146 23).toNat) = a0 164 ((a 146 23).toNat) := hf 164 ((a 146 23).toNat) rfl
    have h228_ := iv_get hv0 (k := 164) (j := (a 146 23).toNat) (l := (-128)) (u := 127) rfl
    have h229_ := iv_get hv209_ (k := 164) (j := (a209_ 146 23).toNat) (l := (-128)) (u := 127) rfl
    have h230_ : a209_ 164 ((a209_ 146 23).toNat) = a 164 ((a209_ 146 23).toNat) := hf209_ 164 ((a209_ 146 23).toNat) rfl
    have h231_ : a 164 ((a209_ 146 23).toNat) = a 164 ((a 146 23).toNat) := by rw [show a209_ 146 23 = a 146 23 from by omega]
    have h232_ := iv_get hv (k := 164) (j := (a209_ 146 23).toNat) (l := (-128)) (u := 127) rfl
    have h233_ : a 164 ((a209_ 146 23).toNat) = a0 164 ((a209_ 146 23).toNat) := hf 164 ((a209_ 146 23).toNat) rfl
    have h234_ : a0 164 ((a209_ 146 23).toNat) = a0 164 ((a 146 23).toNat) := by rw [show a209_ 146 23 = a 146 23 from by omega]
    have h235_ := iv_get hv0 (k := 164) (j := (a209_ 146 23).toNat) (l := (-128)) (u := 127) rfl
    have h236_ := iv_get hv214_ (k := 146) (j := 22) (l := 0) (u := 200) rfl
    have h237_ : a214_ 146 22 = a209_ 146 22 := hf214_ 146 22 rfl
    refine jt_bI (sp_X12_wordHere E d (jd_le hd rfl) a214_ b0 hv214_ (show a214_ 146 23 ≤ a214_ 146 22 from by omega)) (fun r238_ a238_ b238_ h238_ => ?_)
    obtain ⟨hv238_, hf238_, rfl, hq238_0, hq238_1, hq238_2, hq238_3, hq238_4, hq238_5, hq238_6, hq238_7, hq238_8, hq238_9⟩ := h238_
    have h239_ := iv_get hv238_ (k := 146) (j := 23) (l := 0) (u := 200) rfl
    have h240_ := iv_get hv238_ (k := 146) (j := 25) (l := 0) (u := 200) rfl
    have h241_ := iv_get hv238_ (k := 146) (j := 22) (l := 0) (u := 200) rfl
    have h242_ : a238_ 146 22 = a214_ 146 22 := hf238_ 146 22 rfl
    refine jt_ite (fun c243_ => ?_) (fun c243_ => ?_)
    ·
      have hf244_ : jfr jW_X12_either a0 a209_ := jfr_tr hf hf209_ rfl
      have hf245_ : jfr jW_X12_either a0 a214_ := jfr_tr hf244_ hf214_ rfl
      have hf246_ : jfr jW_X12_either a0 a238_ := jfr_tr hf245_ hf238_ rfl
      exact hc55 r238_ a238_ (show ((a238_ 146 22) - (a238_ 146 23)).toNat ≤ n from by omega) hv238_ hf246_ (show 0 ≤ r238_ from by omega) (show r238_ ≤ 1 from by omega) (show a238_ 146 23 ≤ a238_ 146 22 from by omega) (show a0 146 23 ≤ a238_ 146 23 from by omega) (show a238_ 146 22 ≤ 100 from by omega) (PS_next (PS_next hq209_0 (fun k => hf214_ 168 k rfl) (fun k => hf214_ 169 k rfl) (hf214_ 146 32 rfl) (hf214_ 146 35 rfl) (by omega)) (fun k => hf238_ 168 k rfl) (fun k => hf238_ 169 k rfl) (hf238_ 146 32 rfl) (hf238_ 146 35 rfl) (by omega)) (show (r238_ = 0 ∨ r238_ = 1) from by omega) (show (a238_ 146 23) + (a238_ 146 25) ≤ a238_ 146 22 from by omega) (show 2 ≤ a238_ 146 25 from by omega) (fun h => QC_mv ((QC_base h4 h22).1 (hq209_1 ((QC_base h4 h22).2 (hqc h)))) ⟨(hf238_ 146 24 rfl).trans (hf214_ 146 24 rfl), fun j => (hf238_ 169 j rfl).trans (hf214_ 169 j rfl), (hf238_ 146 35 rfl).trans (hf214_ 146 35 rfl), fun j => (hf238_ 168 j rfl).trans (hf214_ 168 j rfl), (hf238_ 146 32 rfl).trans (hf214_ 146 32 rfl), (hf238_ 146 33 rfl).trans (hf214_ 146 33 rfl)⟩ (QV_mk (a0 := a0) ((funext fun j => hf209_ 164 j rfl : a209_ 164 = a 164).trans h4) ((hf209_ 146 22 rfl).trans h22) hq214_4 (funext fun j => hf214_ 164 j rfl) (hf214_ 146 22 rfl) hq238_7 hq238_8 hq238_9).2.2) (QV_mk (a0 := a0) ((funext fun j => hf209_ 164 j rfl : a209_ 164 = a 164).trans h4) ((hf209_ 146 22 rfl).trans h22) hq214_4 (funext fun j => hf214_ 164 j rfl) (hf214_ 146 22 rfl) hq238_7 hq238_8 hq238_9).1
    ·
      refine jt_ite (fun c247_ => ?_) (fun c247_ => ?_)
      ·
        have hf248_ : jfr jW_X12_either a0 a209_ := jfr_tr hf hf209_ rfl
        have hf249_ : jfr jW_X12_either a0 a214_ := jfr_tr hf248_ hf214_ rfl
        have hf250_ : jfr jW_X12_either a0 a238_ := jfr_tr hf249_ hf238_ rfl
        exact hc55 r238_ a238_ (show ((a238_ 146 22) - (a238_ 146 23)).toNat ≤ n from by omega) hv238_ hf250_ (show 0 ≤ r238_ from by omega) (show r238_ ≤ 1 from by omega) (show a238_ 146 23 ≤ a238_ 146 22 from by omega) (show a0 146 23 ≤ a238_ 146 23 from by omega) (show a238_ 146 22 ≤ 100 from by omega) (PS_next (PS_next hq209_0 (fun k => hf214_ 168 k rfl) (fun k => hf214_ 169 k rfl) (hf214_ 146 32 rfl) (hf214_ 146 35 rfl) (by omega)) (fun k => hf238_ 168 k rfl) (fun k => hf238_ 169 k rfl) (hf238_ 146 32 rfl) (hf238_ 146 35 rfl) (by omega)) (show (r238_ = 0 ∨ r238_ = 1) from by omega) (show (a238_ 146 23) + (a238_ 146 25) ≤ a238_ 146 22 from by omega) (show 2 ≤ a238_ 146 25 from by omega) (fun h => QC_mv ((QC_base h4 h22).1 (hq209_1 ((QC_base h4 h22).2 (hqc h)))) ⟨(hf238_ 146 24 rfl).trans (hf214_ 146 24 rfl), fun j => (hf238_ 169 j rfl).trans (hf214_ 169 j rfl), (hf238_ 146 35 rfl).trans (hf214_ 146 35 rfl), fun j => (hf238_ 168 j rfl).trans (hf214_ 168 j rfl), (hf238_ 146 32 rfl).trans (hf214_ 146 32 rfl), (hf238_ 146 33 rfl).trans (hf214_ 146 33 rfl)⟩ (QV_mk (a0 := a0) ((funext fun j => hf209_ 164 j rfl : a209_ 164 = a 164).trans h4) ((hf209_ 146 22 rfl).trans h22) hq214_4 (funext fun j => hf214_ 164 j rfl) (hf214_ 146 22 rfl) hq238_7 hq238_8 hq238_9).2.2) (QV_mk (a0 := a0) ((funext fun j => hf209_ 164 j rfl : a209_ 164 = a 164).trans h4) ((hf209_ 146 22 rfl).trans h22) hq214_4 (funext fun j => hf214_ 164 j rfl) (hf214_ 146 22 rfl) hq238_7 hq238_8 hq238_9).1
      ·
        have hf251_ : jfr jW_X12_either a0 a209_ := jfr_tr hf hf209_ rfl
        have hf252_ : jfr jW_X12_either a0 a214_ := jfr_tr hf251_ hf214_ rfl
        have hf253_ : jfr jW_X12_either a0 a238_ := jfr_tr hf252_ hf238_ rfl
        exact hc107 0 r214_ a238_ (show ((a238_ 146 22) - (a238_ 146 23)).toNat ≤ n from by omega) hv238_ hf253_ (show 0 ≤ 0 from by omega) (show 0 ≤ 0 from by omega) (show 0 - 1 ≤ r214_ from by omega) (show r214_ ≤ 255 from by omega) (show a238_ 146 23 ≤ a238_ 146 22 from by omega) (show a0 146 23 ≤ a238_ 146 23 from by omega) (show a238_ 146 22 ≤ 100 from by omega) (PS_next (PS_next hq209_0 (fun k => hf214_ 168 k rfl) (fun k => hf214_ 169 k rfl) (hf214_ 146 32 rfl) (hf214_ 146 35 rfl) (by omega)) (fun k => hf238_ 168 k rfl) (fun k => hf238_ 169 k rfl) (hf238_ 146 32 rfl) (hf238_ 146 35 rfl) (by omega)) (show 0 = 0 from by omega) (show 0 - 1 ≤ r214_ from by omega) (show (0 ≤ r214_ → a238_ 146 23 < a238_ 146 22) from by omega) (fun h => QC_mv ((QC_base h4 h22).1 (hq209_1 ((QC_base h4 h22).2 (hqc h)))) ⟨(hf238_ 146 24 rfl).trans (hf214_ 146 24 rfl), fun j => (hf238_ 169 j rfl).trans (hf214_ 169 j rfl), (hf238_ 146 35 rfl).trans (hf214_ 146 35 rfl), fun j => (hf238_ 168 j rfl).trans (hf214_ 168 j rfl), (hf238_ 146 32 rfl).trans (hf214_ 146 32 rfl), (hf238_ 146 33 rfl).trans (hf214_ 146 33 rfl)⟩ (QV_mk (a0 := a0) ((funext fun j => hf209_ 164 j rfl : a209_ 164 = a 164).trans h4) ((hf209_ 146 22 rfl).trans h22) hq214_4 (funext fun j => hf214_ 164 j rfl) (hf214_ 146 22 rfl) hq238_7 hq238_8 hq238_9).2.2) (QNW_mk (QV_mk (a0 := a0) ((funext fun j => hf209_ 164 j rfl : a209_ 164 = a 164).trans h4) ((hf209_ 146 22 rfl).trans h22) hq214_4 (funext fun j => hf214_ 164 j rfl) (hf214_ 146 22 rfl) hq238_7 hq238_8 hq238_9).1 (by omega) (by omega)) (fun h => by have q := hq214_5 h; rw [show a209_ 164 = a0 164 from (funext fun j => hf209_ 164 j rfl : a209_ 164 = a 164).trans h4] at q; rw [(QV_mk (a0 := a0) ((funext fun j => hf209_ 164 j rfl : a209_ 164 = a 164).trans h4) ((hf209_ 146 22 rfl).trans h22) hq214_4 (funext fun j => hf214_ 164 j rfl) (hf214_ 146 22 rfl) hq238_7 hq238_8 hq238_9).2.1]; exact q) (show 0 - 1 ≤ r214_ from by omega) (show (r214_ < 0 → a238_ 146 22 ≤ a238_ 146 23) from by omega)
  have hc17 : ∀ (y1 : Int) (a : Nat → Nat → Int), ((a 146 22) - (a 146 23)).toNat ≤ n → iv a → jfr jW_X12_either a0 a → 0 ≤ y1 → y1 ≤ 1 → a 146 23 ≤ a 146 22 → a0 146 23 ≤ a 146 23 → a 146 22 ≤ 100 → (y1 = 0 ∨ y1 = 1) → ((y1 = 1 → PS a 0) ∧ (y1 = 0 → PS a 1)) → (QB a0 → (y1 = 1 → QC a0 a 0) ∧ (y1 = 0 → QC a0 a 1)) → jt (jxX E d 224 17 [some (.inr (.inr (.inl 146))), some (.inl y1), none, none] [] (jxSH, a, b0)) (jQ_X12_either a0 b0) := by
    intro y1 a hm hv hf hi0 hi1 hi2 hi3 hi4 hi5 hpp hqs
    refine jt_eq (bq_X12_either_17 E d y1 a b0) ?_
    have h254_ := iv_get hv (k := 146) (j := 23) (l := 0) (u := 200) rfl
    have h255_ := iv_get hv (k := 146) (j := 22) (l := 0) (u := 200) rfl
    have h256_ : a 146 22 = a0 146 22 := hf 146 22 rfl
    have h257_ := iv_get hv0 (k := 146) (j := 22) (l := 0) (u := 200) rfl
    have h258_ := iv_get hv0 (k := 146) (j := 23) (l := 0) (u := 200) rfl
    have h4 : a 164 = a0 164 := funext fun j => hf 164 j rfl
    have h22 := hf 146 22 rfl
    refine jt_ite (fun c259_ => ?_) (fun c259_ => ?_)
    ·
      exact hc30 a (show ((a 146 22) - (a 146 23)).toNat ≤ n from by omega) hv hf (show a 146 23 ≤ a 146 22 from by omega) (show a0 146 23 ≤ a 146 23 from by omega) (show a 146 22 ≤ 100 from by omega) (hpp.2 (by omega)) (fun h => (hqs h).2 (by omega))
    ·
      refine jt_bI (sp_X12_begins E d (jd_le hd rfl) a b0 hv (hpp.1 (by omega)) (show a 146 23 ≤ a 146 22 from by omega) (show a 146 22 ≤ 100 from by omega)) (fun r260_ a260_ b260_ h260_ => ?_)
      obtain ⟨hv260_, hf260_, rfl, hq260_0, hq260_1, hq260_2, hq260_3, hq260_4, hq260_5⟩ := h260_
      have h261_ := iv_get hv260_ (k := 146) (j := 23) (l := 0) (u := 200) rfl
      have h262_ := iv_get hv260_ (k := 146) (j := 22) (l := 0) (u := 200) rfl
      have h263_ : a260_ 146 22 = a 146 22 := hf260_ 146 22 rfl
      refine jt_ite (fun c264_ => ?_) (fun c264_ => ?_)
      ·
        have hf265_ : jfr jW_X12_either a0 a260_ := jfr_tr hf hf260_ rfl
        exact jt_rI ⟨hv260_, hf265_, rfl, (show (0 ≤ 0 ∧ 0 ≤ 1) from by omega), (show a0 146 23 ≤ a260_ 146 23 from by omega), (show a260_ 146 23 ≤ a260_ 146 22 from by omega), (fun h => by omega), (fun h => ⟨fun e => absurd e (by decide), fun _ => (QF_base h4 h22).1 ((hq260_5 ((QC_base h4 h22).2 ((hqs h).1 (by omega)))).2 (by omega))⟩), (fun _ e => absurd e (by decide))⟩
      ·
        have hf266_ : jfr jW_X12_either a0 a260_ := jfr_tr hf hf260_ rfl
        exact hc30 a260_ (show ((a260_ 146 22) - (a260_ 146 23)).toNat ≤ n from by omega) hv260_ hf266_ (show a260_ 146 23 ≤ a260_ 146 22 from by omega) (show a0 146 23 ≤ a260_ 146 23 from by omega) (show a260_ 146 22 ≤ 100 from by omega) (hq260_3 (by omega)) (fun h => (QC_base h4 h22).1 ((hq260_5 ((QC_base h4 h22).2 ((hqs h).1 (by omega)))).1 (by omega)))
  exact ⟨hc102, hc66, hc55, hc145, hc107, hc30, hc17⟩
theorem sp_X12_either (E : jxE) (d : Nat) (hd : Nat.ble 5 d = true) (a0 b0 : Nat → Nat → Int) (hv0 : iv a0) (hp0 : a0 146 23 ≤ a0 146 22) (hp1 : a0 146 22 ≤ 100) : jt (jxC E d 224 [.inr (.inr (.inl 146))] (jxSH, a0, b0)) (jQ_X12_either a0 b0) := by
  obtain ⟨d, rfl⟩ := jd_succ hd
  refine jt_eq (bq_X12_either E d a0 b0) ?_
  have h267_ := iv_get hv0 (k := 146) (j := 23) (l := 0) (u := 200) rfl
  have h268_ := iv_get hv0 (k := 146) (j := 22) (l := 0) (u := 200) rfl
  have hv269_ : iv (jxu a0 146 32 0) := iv_put hv0 (l := 0) (u := 64) rfl (by omega) (by omega)
  have hv270_ : iv (jxu (jxu a0 146 32 0) 146 33 0) := iv_put hv269_ (l := 0) (u := 12) rfl (by omega) (by omega)
  have hv271_ : iv (jxu (jxu (jxu a0 146 32 0) 146 33 0) 146 35 0) := iv_put hv270_ (l := 0) (u := 64) rfl (by omega) (by omega)
  have hf272_ : jfr jW_X12_either a0 (jxu a0 146 32 0) := jfr_put (jfr_rf _ _) rfl
  have hf273_ : jfr jW_X12_either a0 (jxu (jxu a0 146 32 0) 146 33 0) := jfr_put hf272_ rfl
  have hf274_ : jfr jW_X12_either a0 (jxu (jxu (jxu a0 146 32 0) 146 33 0) 146 35 0) := jfr_put hf273_ rfl
  exact (cp_X12_either_17 E d hd a0 b0 hv0 hp0 hp1 _).2.2.2.2.2.2 1 (jxu (jxu (jxu a0 146 32 0) 146 33 0) 146 35 0) (Nat.le_refl _) hv271_ hf274_ (show 0 ≤ 1 from by omega) (show 1 ≤ 1 from by omega) (show a0 146 23 ≤ a0 146 22 from by omega) (show a0 146 23 ≤ a0 146 23 from by omega) (show a0 146 22 ≤ 100 from by omega) (show (1 = 0 ∨ 1 = 1) from by omega) (by first | exact ⟨fun _ => PS_start rfl rfl (by first | (show 0 ≤ a0 146 23; omega) | omega), fun h => (by omega)⟩ | exact ⟨fun _ => hps, fun h => (by omega)⟩ | exact ⟨fun h => (by omega), fun _ => PS_next hps (fun _ => rfl) (fun _ => rfl) rfl rfl (by show a 146 23 ≤ jxw ((a 146 23) + 1); omega)⟩) (fun h => ⟨fun _ => QC_start h rfl rfl rfl rfl rfl, fun e => absurd e (by decide)⟩)
def jW_X12_wish : List (Nat × Nat) := [(146, 22), (146, 23), (146, 24), (146, 25), (146, 26), (146, 27), (146, 32), (146, 33), (146, 35), (166, 9999), (167, 9999), (168, 9999), (169, 9999)]
abbrev jQ_X12_wish (x1 : Int) (a0 b0 : Nat → Nat → Int) : List jxV → (Nat → Nat → Int) → (Nat → Nat → Int) → Prop := rI (fun r a b => (iv a) ∧ (jfr jW_X12_wish a0 a) ∧ (b0 = b) ∧ (WFW a) ∧ ((a0 146 2 = 0 → r = 0 - 1)) ∧ ((((0 ≤ x1 ∧ x1 < a0 146 2) ∧ a0 146 22 ≤ 100) → a 146 22 = 0)) ∧ ((((x1 < 0 ∨ a0 146 2 ≤ x1) ∨ 100 < a0 146 22) → a 146 22 = a0 146 22)) ∧ (0 ≤ x1 → x1 < a0 146 2 → a0 146 22 ≤ 100 → WRR (UB (a0 164)) (a0 146 22).toNat r) ∧ ((((x1 < 0 ∨ a0 146 2 ≤ x1) ∨ 100 < a0 146 22) → r = 0 - 1)) ∧ (WRX a0 a x1))
theorem cp_X12_wish_89 (E : jxE) (d : Nat) (hd : Nat.ble 6 (d + 1) = true) (x1 : Int) (a0 b0 : Nat → Nat → Int) (hv0 : iv a0) (hp0 : WFW a0) : ∀ n : Nat, (∀ (y1 y3 : Int) (a : Nat → Nat → Int), (((64 - y3) * 1) + 0).toNat ≤ n → iv a → jfr jW_X12_wish a0 a → 0 ≤ y1 → y1 ≤ 39 → 0 ≤ y3 → y3 ≤ 63 → a 146 22 ≤ 0 → 1 ≤ a 146 32 → 0 ≤ y3 → y3 < a 146 32 → (WW a y1 (jxw (y3 + 1))) → a 146 22 = 0 → ((((a0 146 22).toNat ≤ SK (UB (a0 164)) (a0 146 22).toNat 0 ∧ a 146 33 = 0) ∨ (SK (UB (a0 164)) (a0 146 22).toNat 0 < (a0 146 22).toNat ∧ ∃ (p : Nat) (out : List Int), RCH (UB (a0 164)) (a0 146 22).toNat (3, p, [], out, a 146 33, 0)))) → y1 = x1 → (WOUT (UB (a0 164)) (a0 146 22).toNat (a 146 33) (OUL (fun i => DEC (a 168 i)) (a 146 32).toNat)) → (UP (a0 167) (a 167) x1.toNat (a 146 32)) → (∀ k : Nat, (k : Int) < y3 + 1 → a 166 (x1.toNat * 64 + k) = a 168 k) → (∀ j : Nat, (j < x1.toNat * 64 ∨ x1.toNat * 64 + 64 ≤ j) → a 166 j = a0 166 j) → 1 ≤ a0 146 2 → ((0 ≤ x1 ∧ x1 < a0 146 2) ∧ a0 146 22 ≤ 100) → jt (jxX E d 225 114 [some (.inr (.inr (.inl 146))), some (.inl y1), none, some (.inl y3)] [] (jxSH, a, b0)) (jQ_X12_wish x1 a0 b0)) ∧ (∀ (y1 y3 : Int) (a : Nat → Nat → Int), (((64 - y3) * 1) + 0).toNat ≤ n → iv a → jfr jW_X12_wish a0 a → 0 ≤ y1 → y1 ≤ 39 → 0 ≤ y3 → y3 ≤ 64 → a 146 22 ≤ 0 → 0 ≤ y3 → (WW a y1 y3) → a 146 22 = 0 → ((((a0 146 22).toNat ≤ SK (UB (a0 164)) (a0 146 22).toNat 0 ∧ a 146 33 = 0) ∨ (SK (UB (a0 164)) (a0 146 22).toNat 0 < (a0 146 22).toNat ∧ ∃ (p : Nat) (out : List Int), RCH (UB (a0 164)) (a0 146 22).toNat (3, p, [], out, a 146 33, 0)))) → y1 = x1 → (WOUT (UB (a0 164)) (a0 146 22).toNat (a 146 33) (OUL (fun i => DEC (a 168 i)) (a 146 32).toNat)) → (UP (a0 167) (a 167) x1.toNat (a 146 32)) → (∀ k : Nat, (k : Int) < y3 → a 166 (x1.toNat * 64 + k) = a 168 k) → (∀ j : Nat, (j < x1.toNat * 64 ∨ x1.toNat * 64 + 64 ≤ j) → a 166 j = a0 166 j) → 1 ≤ a0 146 2 → ((0 ≤ x1 ∧ x1 < a0 146 2) ∧ a0 146 22 ≤ 100) → jt (jxX E d 225 89 [some (.inr (.inr (.inl 146))), some (.inl y1), none, some (.inl y3)] [] (jxSH, a, b0)) (jQ_X12_wish x1 a0 b0)) := by
  refine jx_ind fun n ih => ?_
  have ih114 : ∀ (y1 y3 : Int) (a : Nat → Nat → Int), (((64 - y3) * 1) + 0).toNat < n → iv a → jfr jW_X12_wish a0 a → 0 ≤ y1 → y1 ≤ 39 → 0 ≤ y3 → y3 ≤ 63 → a 146 22 ≤ 0 → 1 ≤ a 146 32 → 0 ≤ y3 → y3 < a 146 32 → (WW a y1 (jxw (y3 + 1))) → a 146 22 = 0 → ((((a0 146 22).toNat ≤ SK (UB (a0 164)) (a0 146 22).toNat 0 ∧ a 146 33 = 0) ∨ (SK (UB (a0 164)) (a0 146 22).toNat 0 < (a0 146 22).toNat ∧ ∃ (p : Nat) (out : List Int), RCH (UB (a0 164)) (a0 146 22).toNat (3, p, [], out, a 146 33, 0)))) → y1 = x1 → (WOUT (UB (a0 164)) (a0 146 22).toNat (a 146 33) (OUL (fun i => DEC (a 168 i)) (a 146 32).toNat)) → (UP (a0 167) (a 167) x1.toNat (a 146 32)) → (∀ k : Nat, (k : Int) < y3 + 1 → a 166 (x1.toNat * 64 + k) = a 168 k) → (∀ j : Nat, (j < x1.toNat * 64 ∨ x1.toNat * 64 + 64 ≤ j) → a 166 j = a0 166 j) → 1 ≤ a0 146 2 → ((0 ≤ x1 ∧ x1 < a0 146 2) ∧ a0 146 22 ≤ 100) → jt (jxX E d 225 114 [some (.inr (.inr (.inl 146))), some (.inl y1), none, some (.inl y3)] [] (jxSH, a, b0)) (jQ_X12_wish x1 a0 b0) := fun y1 y3 a hlt i0 i1 i2 i3 i4 i5 i6 i7 i8 i9 i10 i11 i12 i13 i14 i15 i16 i17 i18 i19 => (ih _ hlt).1 y1 y3 a (Nat.le_refl _) i0 i1 i2 i3 i4 i5 i6 i7 i8 i9 i10 i11 i12 i13 i14 i15 i16 i17 i18 i19
  have ih89 : ∀ (y1 y3 : Int) (a : Nat → Nat → Int), (((64 - y3) * 1) + 0).toNat < n → iv a → jfr jW_X12_wish a0 a → 0 ≤ y1 → y1 ≤ 39 → 0 ≤ y3 → y3 ≤ 64 → a 146 22 ≤ 0 → 0 ≤ y3 → (WW a y1 y3) → a 146 22 = 0 → ((((a0 146 22).toNat ≤ SK (UB (a0 164)) (a0 146 22).toNat 0 ∧ a 146 33 = 0) ∨ (SK (UB (a0 164)) (a0 146 22).toNat 0 < (a0 146 22).toNat ∧ ∃ (p : Nat) (out : List Int), RCH (UB (a0 164)) (a0 146 22).toNat (3, p, [], out, a 146 33, 0)))) → y1 = x1 → (WOUT (UB (a0 164)) (a0 146 22).toNat (a 146 33) (OUL (fun i => DEC (a 168 i)) (a 146 32).toNat)) → (UP (a0 167) (a 167) x1.toNat (a 146 32)) → (∀ k : Nat, (k : Int) < y3 → a 166 (x1.toNat * 64 + k) = a 168 k) → (∀ j : Nat, (j < x1.toNat * 64 ∨ x1.toNat * 64 + 64 ≤ j) → a 166 j = a0 166 j) → 1 ≤ a0 146 2 → ((0 ≤ x1 ∧ x1 < a0 146 2) ∧ a0 146 22 ≤ 100) → jt (jxX E d 225 89 [some (.inr (.inr (.inl 146))), some (.inl y1), none, some (.inl y3)] [] (jxSH, a, b0)) (jQ_X12_wish x1 a0 b0) := fun y1 y3 a hlt i0 i1 i2 i3 i4 i5 i6 i7 i8 i9 i10 i11 i12 i13 i14 i15 i16 i17 => (ih _ hlt).2 y1 y3 a (Nat.le_refl _) i0 i1 i2 i3 i4 i5 i6 i7 i8 i9 i10 i11 i12 i13 i14 i15 i16 i17
  have hc114 : ∀ (y1 y3 : Int) (a : Nat → Nat → Int), (((64 - y3) * 1) + 0).toNat ≤ n → iv a → jfr jW_X12_wish a0 a → 0 ≤ y1 → y1 ≤ 39 → 0 ≤ y3 → y3 ≤ 63 → a 146 22 ≤ 0 → 1 ≤ a 146 32 → 0 ≤ y3 → y3 < a 146 32 → (WW a y1 (jxw (y3 + 1))) → a 146 22 = 0 → ((((a0 146 22).toNat ≤ SK (UB (a0 164)) (a0 146 22).toNat 0 ∧ a 146 33 = 0) ∨ (SK (UB (a0 164)) (a0 146 22).toNat 0 < (a0 146 22).toNat ∧ ∃ (p : Nat) (out : List Int), RCH (UB (a0 164)) (a0 146 22).toNat (3, p, [], out, a 146 33, 0)))) → y1 = x1 → (WOUT (UB (a0 164)) (a0 146 22).toNat (a 146 33) (OUL (fun i => DEC (a 168 i)) (a 146 32).toNat)) → (UP (a0 167) (a 167) x1.toNat (a 146 32)) → (∀ k : Nat, (k : Int) < y3 + 1 → a 166 (x1.toNat * 64 + k) = a 168 k) → (∀ j : Nat, (j < x1.toNat * 64 ∨ x1.toNat * 64 + 64 ≤ j) → a 166 j = a0 166 j) → 1 ≤ a0 146 2 → ((0 ≤ x1 ∧ x1 < a0 146 2) ∧ a0 146 22 ≤ 100) → jt (jxX E d 225 114 [some (.inr (.inr (.inl 146))), some (.inl y1), none, some (.inl y3)] [] (jxSH, a, b0)) (jQ_X12_wish x1 a0 b0) := by
    intro y1 y3 a hm hv hf hi0 hi1 hi2 hi3 hi4 hi5 hi6 hi7 hww hi9 hok hi11 hwo hu hk ho hi16 hi17
    refine jt_eq (bq_X12_wish_114 E d y1 y3 a b0) ?_
    have h275_ := iv_get hv (k := 146) (j := 22) (l := 0) (u := 200) rfl
    have h276_ := iv_get hv (k := 146) (j := 32) (l := 0) (u := 64) rfl
    have h277_ := iv_get hv0 (k := 146) (j := 2) (l := 0) (u := 40) rfl
    have h278_ := iv_get hv0 (k := 146) (j := 22) (l := 0) (u := 200) rfl
    have h279_ : jxw (y3 + 1) = y3 + 1 := jxw_id (by omega) (by omega)
    exact ih89 y1 (jxw (y3 + 1)) a (show (((64 - (jxw (y3 + 1))) * 1) + 0).toNat < n from by omega) hv hf (show 0 ≤ y1 from by omega) (show y1 ≤ 39 from by omega) (show 0 ≤ jxw (y3 + 1) from by omega) (show jxw (y3 + 1) ≤ 64 from by omega) (show a 146 22 ≤ 0 from by omega) (show 0 ≤ jxw (y3 + 1) from by omega) (by first | exact WW_start (by assumption) (hjw (by omega)) | assumption) (show a 146 22 = 0 from by omega) hok (show y1 = x1 from by omega) hwo hu (by first | exact (fun k h => absurd h (by omega)) | exact (fun k h => hk k (by omega))) (by first | exact ho | exact (fun j _ => hs166 j)) (show 1 ≤ a0 146 2 from by omega) (show ((0 ≤ x1 ∧ x1 < a0 146 2) ∧ a0 146 22 ≤ 100) from by omega)
  have hc89 : ∀ (y1 y3 : Int) (a : Nat → Nat → Int), (((64 - y3) * 1) + 0).toNat ≤ n → iv a → jfr jW_X12_wish a0 a → 0 ≤ y1 → y1 ≤ 39 → 0 ≤ y3 → y3 ≤ 64 → a 146 22 ≤ 0 → 0 ≤ y3 → (WW a y1 y3) → a 146 22 = 0 → ((((a0 146 22).toNat ≤ SK (UB (a0 164)) (a0 146 22).toNat 0 ∧ a 146 33 = 0) ∨ (SK (UB (a0 164)) (a0 146 22).toNat 0 < (a0 146 22).toNat ∧ ∃ (p : Nat) (out : List Int), RCH (UB (a0 164)) (a0 146 22).toNat (3, p, [], out, a 146 33, 0)))) → y1 = x1 → (WOUT (UB (a0 164)) (a0 146 22).toNat (a 146 33) (OUL (fun i => DEC (a 168 i)) (a 146 32).toNat)) → (UP (a0 167) (a 167) x1.toNat (a 146 32)) → (∀ k : Nat, (k : Int) < y3 → a 166 (x1.toNat * 64 + k) = a 168 k) → (∀ j : Nat, (j < x1.toNat * 64 ∨ x1.toNat * 64 + 64 ≤ j) → a 166 j = a0 166 j) → 1 ≤ a0 146 2 → ((0 ≤ x1 ∧ x1 < a0 146 2) ∧ a0 146 22 ≤ 100) → jt (jxX E d 225 89 [some (.inr (.inr (.inl 146))), some (.inl y1), none, some (.inl y3)] [] (jxSH, a, b0)) (jQ_X12_wish x1 a0 b0) := by
    intro y1 y3 a hm hv hf hi0 hi1 hi2 hi3 hi4 hi5 hww hi7 hok hi9 hwo hu hk ho hi14 hi15
    refine jt_eq (bq_X12_wish_89 E d y1 y3 a b0) ?_
    have h280_ := iv_get hv (k := 146) (j := 22) (l := 0) (u := 200) rfl
    have h281_ := iv_get hv0 (k := 146) (j := 2) (l := 0) (u := 40) rfl
    have h282_ := iv_get hv0 (k := 146) (j := 22) (l := 0) (u := 200) rfl
    have h4 : a 164 = a0 164 := funext fun j => hf 164 j rfl
    have h283_ := iv_get hv (k := 146) (j := 32) (l := 0) (u := 64) rfl
    refine jt_ite (fun c284_ => ?_) (fun c284_ => ?_)
    ·
      refine jt_grd (by omega) ?_
      have h285_ : jxw (64 * y1) = 64 * y1 := jxw_id (by omega) (by omega)
      have h286_ : jxw ((jxw (64 * y1)) + y3) = (jxw (64 * y1)) + y3 := jxw_id (by omega) (by omega)
      refine jt_grd (by omega) ?_
      have hv287_ : iv (jxu a 166 ((jxw ((jxw (64 * y1)) + y3)).toNat) (a 168 (y3.toNat))) := iv_putf hv rfl
      have hf288_ : jfr jW_X12_wish a0 (jxu a 166 ((jxw ((jxw (64 * y1)) + y3)).toNat) (a 168 (y3.toNat))) := jfr_put hf rfl
      exact hc114 y1 y3 (jxu a 166 ((jxw ((jxw (64 * y1)) + y3)).toNat) (a 168 (y3.toNat))) (show (((64 - y3) * 1) + 0).toNat ≤ n from by omega) hv287_ hf288_ (show 0 ≤ y1 from by omega) (show y1 ≤ 39 from by omega) (show 0 ≤ y3 from by omega) (show y3 ≤ 63 from by omega) (show a 146 22 ≤ 0 from by omega) (show 1 ≤ a 146 32 from by omega) (show 0 ≤ y3 from by omega) (show y3 < a 146 32 from by omega) (WW_step hww (fun q => (iv_get hv (k := 167) (j := q) (l := 0) (u := 64) rfl).2) (by omega) (by omega) (by omega) (by rw [jxw_id (x := 64 * y1) (by omega) (by omega), jxw_id (by omega) (by omega)]) (jxw_id (by omega) (by omega))) (show a 146 22 = 0 from by omega) hok (show y1 = x1 from by omega) hwo hu (by have i32 := iv_get hv (k := 146) (j := 32) (l := 0) (u := 64) rfl; have hix : (jxw ((jxw (64 * y1)) + y3)).toNat = x1.toNat * 64 + y3.toNat := (by rw [jxw_id (x := 64 * y1) (by omega) (by omega), jxw_id (by omega) (by omega)]; omega); intro k h; show (if x1.toNat * 64 + k = (jxw ((jxw (64 * y1)) + y3)).toNat then a 168 (y3.toNat) else a 166 (x1.toNat * 64 + k)) = a 168 k; by_cases e : k = y3.toNat <;> first | (rw [if_pos (by omega), e]) | (rw [if_neg (by omega)]; exact hk k (by omega))) (by have i32 := iv_get hv (k := 146) (j := 32) (l := 0) (u := 64) rfl; have hix : (jxw ((jxw (64 * y1)) + y3)).toNat = x1.toNat * 64 + y3.toNat := (by rw [jxw_id (x := 64 * y1) (by omega) (by omega), jxw_id (by omega) (by omega)]; omega); intro j h; show (if j = (jxw ((jxw (64 * y1)) + y3)).toNat then a 168 (y3.toNat) else a 166 j) = _; rw [if_neg (by omega)]; exact ho j h) (show 1 ≤ a0 146 2 from by omega) (show ((0 ≤ x1 ∧ x1 < a0 146 2) ∧ a0 146 22 ≤ 100) from by omega)
    ·
      have h289_ := iv_get hv (k := 146) (j := 33) (l := 0) (u := 12) rfl
      exact jt_rI ⟨hv, hf, rfl, (WW_done hww (by omega) (by omega)), (show (a0 146 2 = 0 → a 146 33 = 0 - 1) from by omega), (show (((0 ≤ x1 ∧ x1 < a0 146 2) ∧ a0 146 22 ≤ 100) → a 146 22 = 0) from by omega), (show (((x1 < 0 ∨ a0 146 2 ≤ x1) ∨ 100 < a0 146 22) → a 146 22 = a0 146 22) from by omega), (fun _ _ _ => WRR_k hok), (show (((x1 < 0 ∨ a0 146 2 ≤ x1) ∨ 100 < a0 146 22) → a 146 33 = 0 - 1) from by omega), ⟨fun _ _ _ => WCALL_k hwo (iv_get hv (k := 146) (j := 32) (l := 0) (u := 64) rfl).1 hu (fun k h => hk k (by omega)) ho, fun h => by omega⟩⟩
  exact ⟨hc114, hc89⟩
theorem cp_X12_wish_59 (E : jxE) (d : Nat) (hd : Nat.ble 6 (d + 1) = true) (x1 : Int) (a0 b0 : Nat → Nat → Int) (hv0 : iv a0) (hp0 : WFW a0) : ∀ (y1 s0 : Int) (a : Nat → Nat → Int), iv a → jfr jW_X12_wish a0 a → 0 ≤ y1 → y1 ≤ 39 → 0 ≤ s0 → s0 ≤ 1 → a 146 22 ≤ 100 → (s0 = 0 ∨ s0 = 1) → (s0 = 1 → jwf (a 168) (a 146 32).toNat) → (WFW a) → (s0 = 1 → (((a0 146 22).toNat ≤ SK (UB (a0 164)) (a0 146 22).toNat 0 ∧ a 146 33 = 0) ∨ (SK (UB (a0 164)) (a0 146 22).toNat 0 < (a0 146 22).toNat ∧ ∃ (p : Nat) (out : List Int), RCH (UB (a0 164)) (a0 146 22).toNat (3, p, [], out, a 146 33, 0)))) → (s0 = 0 → SK (UB (a0 164)) (a0 146 22).toNat 0 < (a0 146 22).toNat ∧ QF a0 a) → (s0 = 1 → WOUT (UB (a0 164)) (a0 146 22).toNat (a 146 33) (OUL (fun i => DEC (a 168 i)) (a 146 32).toNat)) → (∀ j, a 166 j = a0 166 j) → (∀ j, a 167 j = a0 167 j) → y1 = x1 → 1 ≤ a0 146 2 → ((0 ≤ x1 ∧ x1 < a0 146 2) ∧ a0 146 22 ≤ 100) → jt (jxX E d 225 59 [some (.inr (.inr (.inl 146))), some (.inl y1), none, none] [.inl s0] (jxSH, a, b0)) (jQ_X12_wish x1 a0 b0) := by
  intro y1 s0 a hv hf hi0 hi1 hi2 hi3 hi4 hi5 hjw hi7 hok hqf hwo hs166 hs167 hi13 hi14 hi15
  refine jt_eq (bq_X12_wish_59 E d y1 s0 a b0) ?_
  have h290_ := iv_get hv (k := 146) (j := 22) (l := 0) (u := 200) rfl
  have h291_ := iv_get hv0 (k := 146) (j := 2) (l := 0) (u := 40) rfl
  have h292_ := iv_get hv0 (k := 146) (j := 22) (l := 0) (u := 200) rfl
  have h4 : a 164 = a0 164 := funext fun j => hf 164 j rfl
  refine jt_ite (fun c293_ => ?_) (fun c293_ => ?_)
  ·
    have hv294_ : iv (jxu a 146 22 0) := iv_put hv (l := 0) (u := 200) rfl (by omega) (by omega)
    have hf295_ : jfr jW_X12_wish a0 (jxu a 146 22 0) := jfr_put hf rfl
    have hg296_ : WFW (jxu a 146 22 0) := (WFW_fr hi7 (jfr_1s a 146 22 0) (fun _ => rfl) (fun _ => rfl))
    have h297_ := jxw_im ((-2) - (a 146 24))
    have h298_ := jxw_rg ((-2) - (a 146 24))
    exact jt_rI ⟨hv294_, hf295_, rfl, hg296_, (show (a0 146 2 = 0 → jxw ((-2) - (a 146 24)) = 0 - 1) from by omega), (show (((0 ≤ x1 ∧ x1 < a0 146 2) ∧ a0 146 22 ≤ 100) → 0 = 0) from by omega), (show (((x1 < 0 ∨ a0 146 2 ≤ x1) ∨ 100 < a0 146 22) → 0 = a0 146 22) from by omega), (fun _ _ _ => WRR_q (hqf (by omega)).1 (hqf (by omega)).2 rfl), (show (((x1 < 0 ∨ a0 146 2 ≤ x1) ∨ 100 < a0 146 22) → jxw ((-2) - (a 146 24)) = 0 - 1) from by omega), ⟨fun _ _ _ => WCALL_q (hqf (by omega)).2 (hqf (by omega)).1 hs166 hs167, fun h => by omega⟩⟩
  ·
    refine jt_grd (by omega) ?_
    have hv299_ : iv (jxu a 146 22 0) := iv_put hv (l := 0) (u := 200) rfl (by omega) (by omega)
    have h301_ := iv_get hv (k := 146) (j := 32) (l := 0) (u := 64) rfl
    have hv300_ : iv (jxu (jxu a 146 22 0) 167 (y1.toNat) (a 146 32)) := iv_put hv299_ (l := 0) (u := 64) rfl (by omega) (by omega)
    have hf302_ : jfr jW_X12_wish a0 (jxu a 146 22 0) := jfr_put hf rfl
    have hf303_ : jfr jW_X12_wish a0 (jxu (jxu a 146 22 0) 167 (y1.toNat) (a 146 32)) := jfr_put hf302_ rfl
    exact (cp_X12_wish_89 E d hd x1 a0 b0 hv0 hp0 _).2 y1 0 (jxu (jxu a 146 22 0) 167 (y1.toNat) (a 146 32)) (Nat.le_refl _) hv300_ hf303_ (show 0 ≤ y1 from by omega) (show y1 ≤ 39 from by omega) (show 0 ≤ 0 from by omega) (show 0 ≤ 64 from by omega) (show 0 ≤ 0 from by omega) (show 0 ≤ 0 from by omega) (by first | exact WW_start (by assumption) (hjw (by omega)) | assumption) (show 0 = 0 from by omega) (hok (by omega)) (show y1 = x1 from by omega) (hwo (by omega)) (by rw [show x1.toNat = y1.toNat from by omega]; exact UP_put hs167) (by first | exact (fun k h => absurd h (by omega)) | exact (fun k h => hk k (by omega))) (by first | exact ho | exact (fun j _ => hs166 j)) (show 1 ≤ a0 146 2 from by omega) (show ((0 ≤ x1 ∧ x1 < a0 146 2) ∧ a0 146 22 ≤ 100) from by omega)
theorem cp_X12_wish_54 (E : jxE) (d : Nat) (hd : Nat.ble 6 (d + 1) = true) (x1 : Int) (a0 b0 : Nat → Nat → Int) (hv0 : iv a0) (hp0 : WFW a0) : ∀ (y1 : Int) (a : Nat → Nat → Int), iv a → jfr jW_X12_wish a0 a → 0 ≤ y1 → y1 ≤ 39 → a 146 22 ≤ 100 → 0 ≤ a 146 32 → (jwf (a 168) (a 146 32).toNat) → (WFW a) → ((((a0 146 22).toNat ≤ SK (UB (a0 164)) (a0 146 22).toNat 0 ∧ a 146 33 = 0) ∨ (SK (UB (a0 164)) (a0 146 22).toNat 0 < (a0 146 22).toNat ∧ ∃ (p : Nat) (out : List Int), RCH (UB (a0 164)) (a0 146 22).toNat (3, p, [], out, a 146 33, 0)))) → (WOUT (UB (a0 164)) (a0 146 22).toNat (a 146 33) (OUL (fun i => DEC (a 168 i)) (a 146 32).toNat)) → (∀ j, a 166 j = a0 166 j) → (∀ j, a 167 j = a0 167 j) → y1 = x1 → 1 ≤ a0 146 2 → ((0 ≤ x1 ∧ x1 < a0 146 2) ∧ a0 146 22 ≤ 100) → jt (jxX E d 225 54 [some (.inr (.inr (.inl 146))), some (.inl y1), none, none] [] (jxSH, a, b0)) (jQ_X12_wish x1 a0 b0) := by
  intro y1 a hv hf hi0 hi1 hi2 hi3 hjw hi5 hok hwo hs166 hs167 hi10 hi11 hi12
  refine jt_eq (bq_X12_wish_54 E d y1 a b0) ?_
  have h304_ := iv_get hv (k := 146) (j := 22) (l := 0) (u := 200) rfl
  have h305_ := iv_get hv (k := 146) (j := 32) (l := 0) (u := 64) rfl
  have h306_ := iv_get hv0 (k := 146) (j := 2) (l := 0) (u := 40) rfl
  have h307_ := iv_get hv0 (k := 146) (j := 22) (l := 0) (u := 200) rfl
  have h4 : a 164 = a0 164 := funext fun j => hf 164 j rfl
  exact cp_X12_wish_59 E d hd x1 a0 b0 hv0 hp0 y1 1 a hv hf (show 0 ≤ y1 from by omega) (show y1 ≤ 39 from by omega) (show 0 ≤ 1 from by omega) (show 1 ≤ 1 from by omega) (show a 146 22 ≤ 100 from by omega) (show (1 = 0 ∨ 1 = 1) from by omega) (by first | exact fun _ => hjw | exact fun h => (by omega)) hi5 (by first | exact (fun _ => hok) | exact (fun h => absurd h (by decide))) (fun h => absurd h (by decide)) (by first | exact (fun _ => hwo) | exact (fun h => absurd h (by decide))) (fun j => (rfl).trans (hs166 j)) (fun j => (rfl).trans (hs167 j)) (show y1 = x1 from by omega) (show 1 ≤ a0 146 2 from by omega) (show ((0 ≤ x1 ∧ x1 < a0 146 2) ∧ a0 146 22 ≤ 100) from by omega)
theorem cp_X12_wish_29 (E : jxE) (d : Nat) (hd : Nat.ble 6 (d + 1) = true) (x1 : Int) (a0 b0 : Nat → Nat → Int) (hv0 : iv a0) (hp0 : WFW a0) : ∀ (y1 : Int) (a : Nat → Nat → Int), iv a → jfr jW_X12_wish a0 a → 0 ≤ y1 → y1 ≤ 39 → a 146 22 ≤ 100 → a 146 23 ≤ a 146 22 → a 146 22 ≤ 100 → (WFW a) → a 146 23 = 0 → a 146 24 = 0 → a 146 22 = a0 146 22 → (∀ j, a 166 j = a0 166 j) → (∀ j, a 167 j = a0 167 j) → y1 = x1 → 1 ≤ a0 146 2 → ((0 ≤ x1 ∧ x1 < a0 146 2) ∧ a0 146 22 ≤ 100) → jt (jxX E d 225 29 [some (.inr (.inr (.inl 146))), some (.inl y1), none, none] [] (jxSH, a, b0)) (jQ_X12_wish x1 a0 b0) := by
  intro y1 a hv hf hi0 hi1 hi2 hi3 hi4 hi5 hi6 hi7 hi8 hs166 hs167 hi11 hi12 hi13
  refine jt_eq (bq_X12_wish_29 E d y1 a b0) ?_
  have h308_ := iv_get hv (k := 146) (j := 22) (l := 0) (u := 200) rfl
  have h309_ := iv_get hv (k := 146) (j := 23) (l := 0) (u := 200) rfl
  have h310_ := iv_get hv0 (k := 146) (j := 22) (l := 0) (u := 200) rfl
  have h311_ := iv_get hv0 (k := 146) (j := 2) (l := 0) (u := 40) rfl
  have h4 : a 164 = a0 164 := funext fun j => hf 164 j rfl
  have hv312_ : iv (jxu a 146 32 0) := iv_put hv (l := 0) (u := 64) rfl (by omega) (by omega)
  have hv313_ : iv (jxu (jxu a 146 32 0) 146 33 0) := iv_put hv312_ (l := 0) (u := 12) rfl (by omega) (by omega)
  refine jt_bI (sp_X12_see E d (jd_le hd rfl) (jxu (jxu a 146 32 0) 146 33 0) b0 hv313_ (show a 146 23 ≤ a 146 22 from by omega)) (fun r314_ a314_ b314_ h314_ => ?_)
  obtain ⟨hv314_, hf314_, rfl, hq314_0, hq314_1, hq314_2, hq314_3, hq314_4, hq314_5⟩ := h314_
  have h315_ := iv_get hv314_ (k := 146) (j := 23) (l := 0) (u := 200) rfl
  have h316_ : a 146 23 ≤ a314_ 146 23 := hq314_0
  have h317_ : a314_ 146 23 ≤ a 146 22 := hq314_1
  have h318_ := iv_get hv314_ (k := 164) (j := (a314_ 146 23).toNat) (l := (-128)) (u := 127) rfl
  have h319_ : a314_ 164 ((a314_ 146 23).toNat) = a 164 ((a314_ 146 23).toNat) := hf314_ 164 ((a314_ 146 23).toNat) rfl
  have h320_ := iv_get hv (k := 164) (j := (a314_ 146 23).toNat) (l := (-128)) (u := 127) rfl
  have h321_ : a 164 ((a314_ 146 23).toNat) = a0 164 ((a314_ 146 23).toNat) := hf 164 ((a314_ 146 23).toNat) rfl
  have h322_ := iv_get hv0 (k := 164) (j := (a314_ 146 23).toNat) (l := (-128)) (u := 127) rfl
  have h323_ : ((r314_ = 0 - 1 ∧ a314_ 146 23 = a 146 22) ∨ (((0 ≤ r314_ ∧ r314_ ≤ 255) ∧ a314_ 146 23 < a 146 22) ∧ ¬ a314_ 164 ((a314_ 146 23).toNat) = 32)) := hq314_2
  have h324_ := iv_get hv (k := 164) (j := (a 146 23).toNat) (l := (-128)) (u := 127) rfl
  have h325_ : a 164 ((a 146 23).toNat) = a0 164 ((a 146 23).toNat) := hf 164 ((a 146 23).toNat) rfl
  have h326_ := iv_get hv0 (k := 164) (j := (a 146 23).toNat) (l := (-128)) (u := 127) rfl
  have h327_ : ((a 146 23 < a 146 22 ∧ ¬ a 164 ((a 146 23).toNat) = 32) → a314_ 146 23 = a 146 23) := hq314_3
  have hse314 : a314_ 146 23 = (SK (UB (a0 164)) (a0 146 22).toNat 0 : Int) := by have e := hq314_4; rw [show UB (jxu (jxu a 146 32 0) 146 33 0 164) = UB (a0 164) from congrArg UB h4, show (jxu (jxu a 146 32 0) 146 33 0 146 22).toNat = (a0 146 22).toNat from (show (a 146 22).toNat = _ by omega), show (jxu (jxu a 146 32 0) 146 33 0 146 23).toNat = 0 from (show (a 146 23).toNat = 0 by omega)] at e; exact e
  have e4_314 : a314_ 164 = a0 164 := (show a314_ 164 = a 164 from funext fun j => hf314_ 164 j rfl).trans h4
  have e22_314 : a314_ 146 22 = a0 146 22 := (hf314_ 146 22 rfl).trans (show a 146 22 = _ by omega)
  refine jt_ite (fun c328_ => ?_) (fun c328_ => ?_)
  ·
    have hf329_ : jfr jW_X12_wish a0 (jxu a 146 32 0) := jfr_put hf rfl
    have hf330_ : jfr jW_X12_wish a0 (jxu (jxu a 146 32 0) 146 33 0) := jfr_put hf329_ rfl
    have hf331_ : jfr jW_X12_wish a0 a314_ := jfr_tr hf330_ hf314_ rfl
    have h332_ := iv_get hv314_ (k := 146) (j := 22) (l := 0) (u := 200) rfl
    have h333_ : a314_ 146 22 = a 146 22 := hf314_ 146 22 rfl
    have h334_ := iv_get hv314_ (k := 146) (j := 32) (l := 0) (u := 64) rfl
    have h335_ : a314_ 146 32 = 0 := hf314_ 146 32 rfl
    have hg336_ : WFW (jxu a 146 32 0) := (WFW_fr hi5 (jfr_1s a 146 32 0) (fun _ => rfl) (fun _ => rfl))
    have hg337_ : WFW (jxu (jxu a 146 32 0) 146 33 0) := (WFW_fr hg336_ (jfr_1s (jxu a 146 32 0) 146 33 0) (fun _ => rfl) (fun _ => rfl))
    exact cp_X12_wish_54 E d hd x1 a0 b0 hv0 hp0 y1 a314_ hv314_ hf331_ (show 0 ≤ y1 from by omega) (show y1 ≤ 39 from by omega) (show a314_ 146 22 ≤ 100 from by omega) (show 0 ≤ a314_ 146 32 from by omega) (fun k hk => absurd hk (by omega)) (WFW_fr hg337_ hf314_ (fun _ => rfl) (fun _ => rfl)) (Or.inl ⟨by have e := hse314; omega, hf314_ 146 33 rfl⟩) (Or.inl ⟨by have e := hse314; omega, by rw [show (a314_ 146 32).toNat = 0 from by rw [hf314_ 146 32 rfl]; rfl]; rfl, hf314_ 146 33 rfl⟩) (fun j => ((hf314_ 166 j rfl)).trans (hs166 j)) (fun j => ((hf314_ 167 j rfl)).trans (hs167 j)) (show y1 = x1 from by omega) (show 1 ≤ a0 146 2 from by omega) (show ((0 ≤ x1 ∧ x1 < a0 146 2) ∧ a0 146 22 ≤ 100) from by omega)
  ·
    have h338_ := iv_get hv314_ (k := 146) (j := 22) (l := 0) (u := 200) rfl
    have h339_ : a314_ 146 22 = a 146 22 := hf314_ 146 22 rfl
    refine jt_bI (sp_X12_either E d (jd_le hd rfl) a314_ b0 hv314_ (show a314_ 146 23 ≤ a314_ 146 22 from by omega) (show a314_ 146 22 ≤ 100 from by omega)) (fun r340_ a340_ b340_ h340_ => ?_)
    obtain ⟨hv340_, hf340_, rfl, hq340_0, hq340_1, hq340_2, hq340_3, hq340_4, hq340_5⟩ := h340_
    have h341_ := iv_get hv340_ (k := 146) (j := 23) (l := 0) (u := 200) rfl
    have h342_ := iv_get hv340_ (k := 146) (j := 22) (l := 0) (u := 200) rfl
    have h343_ : a340_ 146 22 = a314_ 146 22 := hf340_ 146 22 rfl
    refine jt_ite (fun c344_ => ?_) (fun c344_ => ?_)
    ·
      have hf345_ : jfr jW_X12_wish a0 (jxu a 146 32 0) := jfr_put hf rfl
      have hf346_ : jfr jW_X12_wish a0 (jxu (jxu a 146 32 0) 146 33 0) := jfr_put hf345_ rfl
      have hf347_ : jfr jW_X12_wish a0 a314_ := jfr_tr hf346_ hf314_ rfl
      have hf348_ : jfr jW_X12_wish a0 a340_ := jfr_tr hf347_ hf340_ rfl
      have hg349_ : WFW (jxu a 146 32 0) := (WFW_fr hi5 (jfr_1s a 146 32 0) (fun _ => rfl) (fun _ => rfl))
      have hg350_ : WFW (jxu (jxu a 146 32 0) 146 33 0) := (WFW_fr hg349_ (jfr_1s (jxu a 146 32 0) 146 33 0) (fun _ => rfl) (fun _ => rfl))
      exact cp_X12_wish_59 E d hd x1 a0 b0 hv0 hp0 y1 0 a340_ hv340_ hf348_ (show 0 ≤ y1 from by omega) (show y1 ≤ 39 from by omega) (show 0 ≤ 0 from by omega) (show 0 ≤ 1 from by omega) (show a340_ 146 22 ≤ 100 from by omega) (show (0 = 0 ∨ 0 = 1) from by omega) (by first | exact fun _ => hjw | exact fun h => (by omega)) (WFW_fr (WFW_fr hg350_ hf314_ (fun _ => rfl) (fun _ => rfl)) hf340_ (fun _ => rfl) (fun _ => rfl)) (by first | exact (fun _ => hok) | exact (fun h => absurd h (by decide))) (fun _ => ⟨by have e := hse314; omega, (QF_base e4_314 e22_314).1 ((hq340_4 ⟨(hf314_ 146 24 rfl).trans (show a 146 24 = 0 by omega), by rw [e4_314, e22_314, hse314]; exact Int.toNat_natCast _⟩).2 (by omega))⟩) (by first | exact (fun _ => hwo) | exact (fun h => absurd h (by decide))) (fun j => (((hf340_ 166 j rfl).trans (hf314_ 166 j rfl))).trans (hs166 j)) (fun j => (((hf340_ 167 j rfl).trans (hf314_ 167 j rfl))).trans (hs167 j)) (show y1 = x1 from by omega) (show 1 ≤ a0 146 2 from by omega) (show ((0 ≤ x1 ∧ x1 < a0 146 2) ∧ a0 146 22 ≤ 100) from by omega)
    ·
      have hf351_ : jfr jW_X12_wish a0 (jxu a 146 32 0) := jfr_put hf rfl
      have hf352_ : jfr jW_X12_wish a0 (jxu (jxu a 146 32 0) 146 33 0) := jfr_put hf351_ rfl
      have hf353_ : jfr jW_X12_wish a0 a314_ := jfr_tr hf352_ hf314_ rfl
      have hf354_ : jfr jW_X12_wish a0 a340_ := jfr_tr hf353_ hf340_ rfl
      have h355_ := iv_get hv340_ (k := 146) (j := 32) (l := 0) (u := 64) rfl
      have hg356_ : WFW (jxu a 146 32 0) := (WFW_fr hi5 (jfr_1s a 146 32 0) (fun _ => rfl) (fun _ => rfl))
      have hg357_ : WFW (jxu (jxu a 146 32 0) 146 33 0) := (WFW_fr hg356_ (jfr_1s (jxu a 146 32 0) 146 33 0) (fun _ => rfl) (fun _ => rfl))
      exact cp_X12_wish_54 E d hd x1 a0 b0 hv0 hp0 y1 a340_ hv340_ hf354_ (show 0 ≤ y1 from by omega) (show y1 ≤ 39 from by omega) (show a340_ 146 22 ≤ 100 from by omega) (show 0 ≤ a340_ 146 32 from by omega) (hq340_3 (by omega)) (WFW_fr (WFW_fr hg357_ hf314_ (fun _ => rfl) (fun _ => rfl)) hf340_ (fun _ => rfl) (fun _ => rfl)) (Or.inr ⟨by have e := hse314; omega, by have q := (hq340_4 ⟨(hf314_ 146 24 rfl).trans (show a 146 24 = 0 by omega), by rw [e4_314, e22_314, hse314]; exact Int.toNat_natCast _⟩).1 (by omega); rw [e4_314, e22_314] at q; exact q.2⟩) (Or.inr ⟨by have e := hse314; omega, (QX_base e4_314 e22_314).1 (hq340_5 ⟨(hf314_ 146 24 rfl).trans (show a 146 24 = 0 by omega), by rw [e4_314, e22_314, hse314]; exact Int.toNat_natCast _⟩ (by omega))⟩) (fun j => (((hf340_ 166 j rfl).trans (hf314_ 166 j rfl))).trans (hs166 j)) (fun j => (((hf340_ 167 j rfl).trans (hf314_ 167 j rfl))).trans (hs167 j)) (show y1 = x1 from by omega) (show 1 ≤ a0 146 2 from by omega) (show ((0 ≤ x1 ∧ x1 < a0 146 2) ∧ a0 146 22 ≤ 100) from by omega)
theorem sp_X12_wish (E : jxE) (d : Nat) (hd : Nat.ble 6 d = true) (x1 : Int) (a0 b0 : Nat → Nat → Int) (hv0 : iv a0) (hp0 : WFW a0) : jt (jxC E d 225 [.inr (.inr (.inl 146)), .inl x1] (jxSH, a0, b0)) (jQ_X12_wish x1 a0 b0) := by
  obtain ⟨d, rfl⟩ := jd_succ hd
  refine jt_eq (bq_X12_wish E d x1 a0 b0) ?_
  refine jt_eI (eq_X12_isMember E d (jd_le hd rfl) x1 a0 b0) ?_
  have h358_ := f_X12_isMember_eq a0 b0 x1
  have h359_ := iv_get hv0 (k := 146) (j := 2) (l := 0) (u := 40) rfl
  have h360_ : jxw ((a0 146 2) - 1) = (a0 146 2) - 1 := jxw_id (by omega) (by omega)
  have h361_ := f_X12_in_eq a0 b0 x1 0 (jxw ((a0 146 2) - 1))
  refine jt_ite (fun c362_ => ?_) (fun c362_ => ?_)
  ·
    have h363_ := iv_get hv0 (k := 146) (j := 22) (l := 0) (u := 200) rfl
    exact jt_rI ⟨hv0, (jfr_rf _ _), rfl, hp0, (show (a0 146 2 = 0 → (-1) = 0 - 1) from by omega), (show (((0 ≤ x1 ∧ x1 < a0 146 2) ∧ a0 146 22 ≤ 100) → a0 146 22 = 0) from by omega), (show (((x1 < 0 ∨ a0 146 2 ≤ x1) ∨ 100 < a0 146 22) → a0 146 22 = a0 146 22) from by omega), (fun h1 h2 h3 => by omega), (show (((x1 < 0 ∨ a0 146 2 ≤ x1) ∨ 100 < a0 146 22) → (-1) = 0 - 1) from by omega), ⟨fun h1 h2 h3 => by omega, fun _ => ⟨fun _ => rfl, fun _ => rfl⟩⟩⟩
  ·
    have h364_ := iv_get hv0 (k := 146) (j := 22) (l := 0) (u := 200) rfl
    refine jt_ite (fun c365_ => ?_) (fun c365_ => ?_)
    ·
      exact jt_rI ⟨hv0, (jfr_rf _ _), rfl, hp0, (show (a0 146 2 = 0 → (-1) = 0 - 1) from by omega), (show (((0 ≤ x1 ∧ x1 < a0 146 2) ∧ a0 146 22 ≤ 100) → a0 146 22 = 0) from by omega), (show (((x1 < 0 ∨ a0 146 2 ≤ x1) ∨ 100 < a0 146 22) → a0 146 22 = a0 146 22) from by omega), (fun h1 h2 h3 => by omega), (show (((x1 < 0 ∨ a0 146 2 ≤ x1) ∨ 100 < a0 146 22) → (-1) = 0 - 1) from by omega), ⟨fun h1 h2 h3 => by omega, fun _ => ⟨fun _ => rfl, fun _ => rfl⟩⟩⟩
    ·
      have hv366_ : iv (jxu a0 146 23 0) := iv_put hv0 (l := 0) (u := 200) rfl (by omega) (by omega)
      have hv367_ : iv (jxu (jxu a0 146 23 0) 146 24 0) := iv_putf hv366_ rfl
      have hf368_ : jfr jW_X12_wish a0 (jxu a0 146 23 0) := jfr_put (jfr_rf _ _) rfl
      have hf369_ : jfr jW_X12_wish a0 (jxu (jxu a0 146 23 0) 146 24 0) := jfr_put hf368_ rfl
      have hg370_ : WFW (jxu a0 146 23 0) := (WFW_fr hp0 (jfr_1s a0 146 23 0) (fun _ => rfl) (fun _ => rfl))
      have hg371_ : WFW (jxu (jxu a0 146 23 0) 146 24 0) := (WFW_fr hg370_ (jfr_1s (jxu a0 146 23 0) 146 24 0) (fun _ => rfl) (fun _ => rfl))
      exact cp_X12_wish_29 E d hd x1 a0 b0 hv0 hp0 x1 (jxu (jxu a0 146 23 0) 146 24 0) hv367_ hf369_ (show 0 ≤ x1 from by omega) (show x1 ≤ 39 from by omega) (show a0 146 22 ≤ 100 from by omega) (show 0 ≤ a0 146 22 from by omega) (show a0 146 22 ≤ 100 from by omega) hg371_ (show 0 = 0 from by omega) (show 0 = 0 from by omega) (show a0 146 22 = a0 146 22 from by omega) (fun j => rfl) (fun j => rfl) (show x1 = x1 from by omega) (show 1 ≤ a0 146 2 from by omega) (show ((0 ≤ x1 ∧ x1 < a0 146 2) ∧ a0 146 22 ≤ 100) from by omega)
