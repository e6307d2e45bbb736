def jW_X12_begins : List (Nat × Nat) := [(146, 23), (146, 24), (146, 25), (146, 26), (146, 27), (146, 32), (146, 33), (146, 35), (168, 9999), (169, 9999)]
abbrev jQ_X12_begins (a0 b0 : Nat → Nat → Int) : List jxV → (Nat → Nat → Int) → (Nat → Nat → Int) → Prop := rI (fun r a b => (iv a) ∧ (jfr jW_X12_begins a0 a) ∧ (b0 = b) ∧ ((0 ≤ r ∧ r ≤ 1)) ∧ (a0 146 23 ≤ a 146 23) ∧ (a 146 23 ≤ a 146 22) ∧ (r = 1 → PS a 1) ∧ ((r = 1 → (a0 146 23) + 2 ≤ a 146 23)))
theorem cp_X12_begins_2 (E : jxE) (d : Nat) (hd : Nat.ble 4 (d + 1) = true) (a0 b0 : Nat → Nat → Int) (hv0 : iv a0) (hp0 : PS a0 0) (hp1 : a0 146 23 ≤ a0 146 22) (hp2 : a0 146 22 ≤ 100) : ∀ n : Nat, (∀ (y1 s1 s2 : Int) (a : Nat → Nat → Int), (((a 146 22) - (a 146 23)) + 1).toNat ≤ n → iv a → jfr jW_X12_begins a0 a → 1 ≤ y1 → y1 ≤ 1 → 0 ≤ s1 → s1 ≤ 64 → 2 ≤ s2 → s2 ≤ 100 → a 146 23 ≤ a 146 22 → (a0 146 23) + 1 ≤ a 146 23 → a 146 22 ≤ 100 → y1 = 1 → s1 = a 146 35 → a 146 35 ≤ 60 → (PSP a s2) → jt (jxX E d 223 100 [some (.inr (.inr (.inl 146))), some (.inl y1), none, none] [.inl s2, .inl s1, .inr (.inr (.inl 169))] (jxSH, a, b0)) (jQ_X12_begins a0 b0)) ∧ (∀ (y1 y3 s1 s2 : Int) (a : Nat → Nat → Int), ((a 146 22) - (a 146 23)).toNat ≤ n → iv a → jfr jW_X12_begins a0 a → 1 ≤ y1 → y1 ≤ 1 → 0 - 1 ≤ y3 → y3 ≤ 15 → 0 ≤ s1 → s1 ≤ 200 → 1 ≤ s2 → s2 ≤ 3 → a 146 23 ≤ a 146 22 → a0 146 23 ≤ a 146 23 → a 146 22 ≤ 100 → (PS a 0) → y1 = 1 → s1 = a 146 23 → ((y3 = 2 ∧ s2 = 3) ∨ (¬ y3 = 2 ∧ s2 = 1)) → s1 + s2 ≤ a 146 22 → (¬ jdp (a 169) (a 146 35).toNat = 10) → jt (jxX E d 223 77 [some (.inr (.inr (.inl 146))), some (.inl y1), none, some (.inl y3)] [.inl s2, .inl s1, .inr (.inr (.inl 146))] (jxSH, a, b0)) (jQ_X12_begins a0 b0)) ∧ (∀ (y3 s0 : Int) (a : Nat → Nat → Int), ((a 146 22) - (a 146 23)).toNat ≤ n → iv a → jfr jW_X12_begins a0 a → 0 - 1 ≤ y3 → y3 ≤ 15 → 0 ≤ s0 → s0 ≤ 1 → a 146 23 ≤ a 146 22 → a0 146 23 ≤ a 146 23 → a 146 22 ≤ 100 → 0 - 1 ≤ y3 → y3 ≤ 15 → (a 146 23) + (a 146 25) ≤ a 146 22 → (0 ≤ y3 → 2 ≤ a 146 25) → (y3 = 2 → a 146 25 = 3) → (PS a 0) → (s0 = 0 ∨ s0 = 1) → (s0 = 1 → a 146 23 < a 146 22) → jt (jxX E d 223 32 [some (.inr (.inr (.inl 146))), none, none, some (.inl y3)] [.inl s0] (jxSH, a, b0)) (jQ_X12_begins a0 b0)) ∧ (∀ (y3 : Int) (a : Nat → Nat → Int), ((a 146 22) - (a 146 23)).toNat ≤ n → iv a → jfr jW_X12_begins a0 a → 0 - 1 ≤ y3 → y3 ≤ 15 → a 146 23 ≤ a 146 22 → a0 146 23 ≤ a 146 23 → a 146 22 ≤ 100 → 0 - 1 ≤ y3 → y3 ≤ 15 → (a 146 23) + (a 146 25) ≤ a 146 22 → (0 ≤ y3 → 2 ≤ a 146 25) → (y3 = 2 → a 146 25 = 3) → (PS a 0) → a 146 23 < a 146 22 → jt (jxX E d 223 27 [some (.inr (.inr (.inl 146))), none, none, some (.inl y3)] [] (jxSH, a, b0)) (jQ_X12_begins a0 b0)) ∧ (∀ (y3 : Int) (a : Nat → Nat → Int), ((a 146 22) - (a 146 23)).toNat ≤ n → iv a → jfr jW_X12_begins a0 a → 0 - 1 ≤ y3 → y3 ≤ 15 → a 146 23 ≤ a 146 22 → a0 146 23 ≤ a 146 23 → a 146 22 ≤ 100 → 0 - 1 ≤ y3 → y3 ≤ 15 → (a 146 23) + (a 146 25) ≤ a 146 22 → (0 ≤ y3 → 2 ≤ a 146 25) → (y3 = 2 → a 146 25 = 3) → (PS a 0) → jt (jxX E d 223 31 [some (.inr (.inr (.inl 146))), none, none, some (.inl y3)] [] (jxSH, a, b0)) (jQ_X12_begins a0 b0)) ∧ (∀ (y1 : Int) (a : Nat → Nat → Int), ((a 146 22) - (a 146 23)).toNat ≤ n → iv a → jfr jW_X12_begins a0 a → 1 ≤ y1 → y1 ≤ 1 → a 146 23 ≤ a 146 22 → a0 146 23 ≤ a 146 23 → a 146 22 ≤ 100 → (PS a 0) → y1 = 1 → jt (jxX E d 223 2 [some (.inr (.inr (.inl 146))), some (.inl y1), none, none] [] (jxSH, a, b0)) (jQ_X12_begins a0 b0)) := by
  refine jx_ind fun n ih => ?_
  have ih100 : ∀ (y1 s1 s2 : Int) (a : Nat → Nat → Int), (((a 146 22) - (a 146 23)) + 1).toNat < n → iv a → jfr jW_X12_begins a0 a → 1 ≤ y1 → y1 ≤ 1 → 0 ≤ s1 → s1 ≤ 64 → 2 ≤ s2 → s2 ≤ 100 → a 146 23 ≤ a 146 22 → (a0 146 23) + 1 ≤ a 146 23 → a 146 22 ≤ 100 → y1 = 1 → s1 = a 146 35 → a 146 35 ≤ 60 → (PSP a s2) → jt (jxX E d 223 100 [some (.inr (.inr (.inl 146))), some (.inl y1), none, none] [.inl s2, .inl s1, .inr (.inr (.inl 169))] (jxSH, a, b0)) (jQ_X12_begins a0 b0) := fun y1 s1 s2 a hlt i0 i1 i2 i3 i4 i5 i6 i7 i8 i9 i10 i11 i12 i13 i14 => (ih _ hlt).1 y1 s1 s2 a (Nat.le_refl _) i0 i1 i2 i3 i4 i5 i6 i7 i8 i9 i10 i11 i12 i13 i14
  have ih77 : ∀ (y1 y3 s1 s2 : Int) (a : Nat → Nat → Int), ((a 146 22) - (a 146 23)).toNat < n → iv a → jfr jW_X12_begins a0 a → 1 ≤ y1 → y1 ≤ 1 → 0 - 1 ≤ y3 → y3 ≤ 15 → 0 ≤ s1 → s1 ≤ 200 → 1 ≤ s2 → s2 ≤ 3 → a 146 23 ≤ a 146 22 → a0 146 23 ≤ a 146 23 → a 146 22 ≤ 100 → (PS a 0) → y1 = 1 → s1 = a 146 23 → ((y3 = 2 ∧ s2 = 3) ∨ (¬ y3 = 2 ∧ s2 = 1)) → s1 + s2 ≤ a 146 22 → (¬ jdp (a 169) (a 146 35).toNat = 10) → jt (jxX E d 223 77 [some (.inr (.inr (.inl 146))), some (.inl y1), none, some (.inl y3)] [.inl s2, .inl s1, .inr (.inr (.inl 146))] (jxSH, a, b0)) (jQ_X12_begins a0 b0) := fun y1 y3 s1 s2 a hlt i0 i1 i2 i3 i4 i5 i6 i7 i8 i9 i10 i11 i12 i13 i14 i15 i16 i17 i18 => (ih _ hlt).2.1 y1 y3 s1 s2 a (Nat.le_refl _) i0 i1 i2 i3 i4 i5 i6 i7 i8 i9 i10 i11 i12 i13 i14 i15 i16 i17 i18
  have ih32 : ∀ (y3 s0 : Int) (a : Nat → Nat → Int), ((a 146 22) - (a 146 23)).toNat < n → iv a → jfr jW_X12_begins a0 a → 0 - 1 ≤ y3 → y3 ≤ 15 → 0 ≤ s0 → s0 ≤ 1 → a 146 23 ≤ a 146 22 → a0 146 23 ≤ a 146 23 → a 146 22 ≤ 100 → 0 - 1 ≤ y3 → y3 ≤ 15 → (a 146 23) + (a 146 25) ≤ a 146 22 → (0 ≤ y3 → 2 ≤ a 146 25) → (y3 = 2 → a 146 25 = 3) → (PS a 0) → (s0 = 0 ∨ s0 = 1) → (s0 = 1 → a 146 23 < a 146 22) → jt (jxX E d 223 32 [some (.inr (.inr (.inl 146))), none, none, some (.inl y3)] [.inl s0] (jxSH, a, b0)) (jQ_X12_begins a0 b0) := fun y3 s0 a hlt i0 i1 i2 i3 i4 i5 i6 i7 i8 i9 i10 i11 i12 i13 i14 i15 i16 => (ih _ hlt).2.2.1 y3 s0 a (Nat.le_refl _) i0 i1 i2 i3 i4 i5 i6 i7 i8 i9 i10 i11 i12 i13 i14 i15 i16
  have ih27 : ∀ (y3 : Int) (a : Nat → Nat → Int), ((a 146 22) - (a 146 23)).toNat < n → iv a → jfr jW_X12_begins a0 a → 0 - 1 ≤ y3 → y3 ≤ 15 → a 146 23 ≤ a 146 22 → a0 146 23 ≤ a 146 23 → a 146 22 ≤ 100 → 0 - 1 ≤ y3 → y3 ≤ 15 → (a 146 23) + (a 146 25) ≤ a 146 22 → (0 ≤ y3 → 2 ≤ a 146 25) → (y3 = 2 → a 146 25 = 3) → (PS a 0) → a 146 23 < a 146 22 → jt (jxX E d 223 27 [some (.inr (.inr (.inl 146))), none, none, some (.inl y3)] [] (jxSH, a, b0)) (jQ_X12_begins a0 b0) := fun y3 a hlt i0 i1 i2 i3 i4 i5 i6 i7 i8 i9 i10 i11 i12 i13 => (ih _ hlt).2.2.2.1 y3 a (Nat.le_refl _) i0 i1 i2 i3 i4 i5 i6 i7 i8 i9 i10 i11 i12 i13
  have ih31 : ∀ (y3 : Int) (a : Nat → Nat → Int), ((a 146 22) - (a 146 23)).toNat < n → iv a → jfr jW_X12_begins a0 a → 0 - 1 ≤ y3 → y3 ≤ 15 → a 146 23 ≤ a 146 22 → a0 146 23 ≤ a 146 23 → a 146 22 ≤ 100 → 0 - 1 ≤ y3 → y3 ≤ 15 → (a 146 23) + (a 146 25) ≤ a 146 22 → (0 ≤ y3 → 2 ≤ a 146 25) → (y3 = 2 → a 146 25 = 3) → (PS a 0) → jt (jxX E d 223 31 [some (.inr (.inr (.inl 146))), none, none, some (.inl y3)] [] (jxSH, a, b0)) (jQ_X12_begins a0 b0) := fun y3 a hlt i0 i1 i2 i3 i4 i5 i6 i7 i8 i9 i10 i11 i12 => (ih _ hlt).2.2.2.2.1 y3 a (Nat.le_refl _) i0 i1 i2 i3 i4 i5 i6 i7 i8 i9 i10 i11 i12
  have ih2 : ∀ (y1 : Int) (a : Nat → Nat → Int), ((a 146 22) - (a 146 23)).toNat < n → iv a → jfr jW_X12_begins a0 a → 1 ≤ y1 → y1 ≤ 1 → a 146 23 ≤ a 146 22 → a0 146 23 ≤ a 146 23 → a 146 22 ≤ 100 → (PS a 0) → y1 = 1 → jt (jxX E d 223 2 [some (.inr (.inr (.inl 146))), some (.inl y1), none, none] [] (jxSH, a, b0)) (jQ_X12_begins a0 b0) := fun y1 a hlt i0 i1 i2 i3 i4 i5 i6 i7 i8 => (ih _ hlt).2.2.2.2.2 y1 a (Nat.le_refl _) i0 i1 i2 i3 i4 i5 i6 i7 i8
  have hc100 : ∀ (y1 s1 s2 : Int) (a : Nat → Nat → Int), (((a 146 22) - (a 146 23)) + 1).toNat ≤ n → iv a → jfr jW_X12_begins a0 a → 1 ≤ y1 → y1 ≤ 1 → 0 ≤ s1 → s1 ≤ 64 → 2 ≤ s2 → s2 ≤ 100 → a 146 23 ≤ a 146 22 → (a0 146 23) + 1 ≤ a 146 23 → a 146 22 ≤ 100 → y1 = 1 → s1 = a 146 35 → a 146 35 ≤ 60 → (PSP a s2) → jt (jxX E d 223 100 [some (.inr (.inr (.inl 146))), some (.inl y1), none, none] [.inl s2, .inl s1, .inr (.inr (.inl 169))] (jxSH, a, b0)) (jQ_X12_begins a0 b0) := by
    intro y1 s1 s2 a hm hv hf hi0 hi1 hi2 hi3 hi4 hi5 hi6 hi7 hi8 hi9 hi10 hi11 hpsp
    refine jt_eq (bq_X12_begins_100 E d y1 s1 s2 a b0) ?_
    have h1_ := iv_get hv (k := 146) (j := 23) (l := 0) (u := 200) rfl
    have h2_ := iv_get hv (k := 146) (j := 22) (l := 0) (u := 200) rfl
    have h3_ : a 146 22 = a0 146 22 := hf 146 22 rfl
    have h4_ := iv_get hv0 (k := 146) (j := 22) (l := 0) (u := 200) rfl
    have h5_ := iv_get hv0 (k := 146) (j := 23) (l := 0) (u := 200) rfl
    have h6_ := iv_get hv (k := 146) (j := 35) (l := 0) (u := 64) rfl
    refine jt_grd (by omega) ?_
    have hv7_ : iv (jxu a 169 (s1.toNat) s2) := iv_put hv (l := 0) (u := 100) rfl (by omega) (by omega)
    have h9_ : jxw ((a 146 35) + 1) = (a 146 35) + 1 := jxw_id (by omega) (by omega)
    have hv8_ : iv (jxu (jxu a 169 (s1.toNat) s2) 146 35 (jxw ((a 146 35) + 1))) := iv_put hv7_ (l := 0) (u := 64) rfl (by omega) (by omega)
    have hf10_ : jfr jW_X12_begins a0 (jxu a 169 (s1.toNat) s2) := jfr_put hf rfl
    have hf11_ : jfr jW_X12_begins a0 (jxu (jxu a 169 (s1.toNat) s2) 146 35 (jxw ((a 146 35) + 1))) := jfr_put hf10_ rfl
    exact ih2 y1 (jxu (jxu a 169 (s1.toNat) s2) 146 35 (jxw ((a 146 35) + 1))) (show ((a 146 22) - (a 146 23)).toNat < n from by omega) hv8_ hf11_ (show 1 ≤ y1 from by omega) (show y1 ≤ 1 from by omega) (show a 146 23 ≤ a 146 22 from by omega) (show a0 146 23 ≤ a 146 23 from by omega) (show a 146 22 ≤ 100 from by omega) (PSP_push hpsp (by omega) (by omega)) (show y1 = 1 from by omega)
  have hc77 : ∀ (y1 y3 s1 s2 : Int) (a : Nat → Nat → Int), ((a 146 22) - (a 146 23)).toNat ≤ n → iv a → jfr jW_X12_begins a0 a → 1 ≤ y1 → y1 ≤ 1 → 0 - 1 ≤ y3 → y3 ≤ 15 → 0 ≤ s1 → s1 ≤ 200 → 1 ≤ s2 → s2 ≤ 3 → a 146 23 ≤ a 146 22 → a0 146 23 ≤ a 146 23 → a 146 22 ≤ 100 → (PS a 0) → y1 = 1 → s1 = a 146 23 → ((y3 = 2 ∧ s2 = 3) ∨ (¬ y3 = 2 ∧ s2 = 1)) → s1 + s2 ≤ a 146 22 → (¬ jdp (a 169) (a 146 35).toNat = 10) → jt (jxX E d 223 77 [some (.inr (.inr (.inl 146))), some (.inl y1), none, some (.inl y3)] [.inl s2, .inl s1, .inr (.inr (.inl 146))] (jxSH, a, b0)) (jQ_X12_begins a0 b0) := by
    intro y1 y3 s1 s2 a hm hv hf hi0 hi1 hi2 hi3 hi4 hi5 hi6 hi7 hi8 hi9 hi10 hps hi12 hi13 hi14 hi15 hjd
    refine jt_eq (bq_X12_begins_77 E d y1 y3 s1 s2 a b0) ?_
    have h12_ := iv_get hv (k := 146) (j := 23) (l := 0) (u := 200) rfl
    have h13_ := iv_get hv (k := 146) (j := 22) (l := 0) (u := 200) rfl
    have h14_ : a 146 22 = a0 146 22 := hf 146 22 rfl
    have h15_ := iv_get hv0 (k := 146) (j := 22) (l := 0) (u := 200) rfl
    have h16_ := iv_get hv0 (k := 146) (j := 23) (l := 0) (u := 200) rfl
    have i35 := iv_get hv (k := 146) (j := 35) (l := 0) (u := 64) rfl
    have i32 := iv_get hv (k := 146) (j := 32) (l := 0) (u := 64) rfl
    have i23 := iv_get hv (k := 146) (j := 23) (l := 0) (u := 200) rfl
    have hroom := PS_room hps (by omega)
    refine jt_ite (fun c17_ => ?_) (fun c17_ => ?_)
    ·
      have h19_ : jxw (s1 + s2) = s1 + s2 := jxw_id (by omega) (by omega)
      have hv18_ : iv (jxu a 146 23 (jxw (s1 + s2))) := iv_put hv (l := 0) (u := 200) rfl (by omega) (by omega)
      have hf20_ : jfr jW_X12_begins a0 (jxu a 146 23 (jxw (s1 + s2))) := jfr_put hf rfl
      have h21_ := iv_get hv (k := 146) (j := 35) (l := 0) (u := 64) rfl
      exact hc100 y1 (a 146 35) 2 (jxu a 146 23 (jxw (s1 + s2))) (show (((a 146 22) - (jxw (s1 + s2))) + 1).toNat ≤ n from by omega) hv18_ hf20_ (show 1 ≤ y1 from by omega) (show y1 ≤ 1 from by omega) (show 0 ≤ a 146 35 from by omega) (show a 146 35 ≤ 64 from by omega) (show 2 ≤ 2 from by omega) (show 2 ≤ 100 from by omega) (show jxw (s1 + s2) ≤ a 146 22 from by omega) (show (a0 146 23) + 1 ≤ jxw (s1 + s2) from by omega) (show a 146 22 ≤ 100 from by omega) (show y1 = 1 from by omega) (show a 146 35 = a 146 35 from by omega) (show a 146 35 ≤ 60 from by omega) (PSP_mk hps (by omega) hjd (c := s2) (by omega) (by omega))
    ·
      have h23_ : jxw (s1 + s2) = s1 + s2 := jxw_id (by omega) (by omega)
      have hv22_ : iv (jxu a 146 23 (jxw (s1 + s2))) := iv_put hv (l := 0) (u := 200) rfl (by omega) (by omega)
      have hf24_ : jfr jW_X12_begins a0 (jxu a 146 23 (jxw (s1 + s2))) := jfr_put hf rfl
      have h25_ := iv_get hv (k := 146) (j := 35) (l := 0) (u := 64) rfl
      exact hc100 y1 (a 146 35) 100 (jxu a 146 23 (jxw (s1 + s2))) (show (((a 146 22) - (jxw (s1 + s2))) + 1).toNat ≤ n from by omega) hv22_ hf24_ (show 1 ≤ y1 from by omega) (show y1 ≤ 1 from by omega) (show 0 ≤ a 146 35 from by omega) (show a 146 35 ≤ 64 from by omega) (show 2 ≤ 100 from by omega) (show 100 ≤ 100 from by omega) (show jxw (s1 + s2) ≤ a 146 22 from by omega) (show (a0 146 23) + 1 ≤ jxw (s1 + s2) from by omega) (show a 146 22 ≤ 100 from by omega) (show y1 = 1 from by omega) (show a 146 35 = a 146 35 from by omega) (show a 146 35 ≤ 60 from by omega) (PSP_mk hps (by omega) hjd (c := s2) (by omega) (by omega))
  have hc32 : ∀ (y3 s0 : Int) (a : Nat → Nat → Int), ((a 146 22) - (a 146 23)).toNat ≤ n → iv a → jfr jW_X12_begins a0 a → 0 - 1 ≤ y3 → y3 ≤ 15 → 0 ≤ s0 → s0 ≤ 1 → a 146 23 ≤ a 146 22 → a0 146 23 ≤ a 146 23 → a 146 22 ≤ 100 → 0 - 1 ≤ y3 → y3 ≤ 15 → (a 146 23) + (a 146 25) ≤ a 146 22 → (0 ≤ y3 → 2 ≤ a 146 25) → (y3 = 2 → a 146 25 = 3) → (PS a 0) → (s0 = 0 ∨ s0 = 1) → (s0 = 1 → a 146 23 < a 146 22) → jt (jxX E d 223 32 [some (.inr (.inr (.inl 146))), none, none, some (.inl y3)] [.inl s0] (jxSH, a, b0)) (jQ_X12_begins a0 b0) := by
    intro y3 s0 a hm hv hf hi0 hi1 hi2 hi3 hi4 hi5 hi6 hi7 hi8 hi9 hi10 hi11 hps hi13 hi14
    refine jt_eq (bq_X12_begins_32 E d y3 s0 a b0) ?_
    have h26_ := iv_get hv (k := 146) (j := 23) (l := 0) (u := 200) rfl
    have h27_ := iv_get hv (k := 146) (j := 22) (l := 0) (u := 200) rfl
    have h28_ : a 146 22 = a0 146 22 := hf 146 22 rfl
    have h29_ := iv_get hv0 (k := 146) (j := 22) (l := 0) (u := 200) rfl
    have h30_ := iv_get hv0 (k := 146) (j := 23) (l := 0) (u := 200) rfl
    have h31_ := iv_get hv (k := 146) (j := 25) (l := 0) (u := 200) rfl
    have i35 := iv_get hv (k := 146) (j := 35) (l := 0) (u := 64) rfl
    have i32 := iv_get hv (k := 146) (j := 32) (l := 0) (u := 64) rfl
    have i23 := iv_get hv (k := 146) (j := 23) (l := 0) (u := 200) rfl
    have hroom := PS_room hps (by omega)
    refine jt_ite (fun c32_ => ?_) (fun c32_ => ?_)
    ·
      have h33_ := iv_get hv (k := 146) (j := 32) (l := 0) (u := 64) rfl
      refine jt_bI (sp_X12_atom E d (jd_le hd rfl) y3 a b0 hv (show (a 146 23) + (a 146 25) ≤ a 146 22 from by omega) (show (0 ≤ y3 → 2 ≤ a 146 25) from by omega) (show a 146 32 < 64 from by omega) (show y3 ≤ 15 from by omega) (show 0 - 1 ≤ y3 from by omega)) (fun r34_ a34_ b34_ h34_ => ?_)
      obtain ⟨hv34_, hf34_, rfl, hq34_0, hq34_1, hq34_2, hq34_3, hq34_4, hq34_5, hq34_6⟩ := h34_
      have h35_ := iv_get hv34_ (k := 146) (j := 23) (l := 0) (u := 200) rfl
      have h36_ := iv_get hv34_ (k := 146) (j := 22) (l := 0) (u := 200) rfl
      have h37_ : a34_ 146 22 = a 146 22 := hf34_ 146 22 rfl
      have h38_ := iv_get hv34_ (k := 146) (j := 32) (l := 0) (u := 64) rfl
      refine jt_grd (by omega) ?_
      have hf39_ : jfr jW_X12_begins a0 a34_ := jfr_tr hf hf34_ rfl
      exact jt_rI ⟨hv34_, hf39_, rfl, (show (0 ≤ r34_ ∧ r34_ ≤ 1) from by omega), (show a0 146 23 ≤ a34_ 146 23 from by omega), (show a34_ 146 23 ≤ a34_ 146 22 from by omega), (fun h => PS_atom hps (by omega) hq34_6 (fun k => hf34_ 169 k rfl) (by omega) (hf34_ 146 35 rfl) (hq34_5 h) (by omega)), (show (r34_ = 1 → (a0 146 23) + 2 ≤ a34_ 146 23) from by omega)⟩
    ·
      refine jt_bI (sp_X12_deep E d (jd_le hd rfl) a b0 hv) (fun r40_ a40_ b40_ h40_ => ?_)
      obtain ⟨rfl, rfl, hq40_0⟩ := h40_
      refine jt_ite (fun c41_ => ?_) (fun c41_ => ?_)
      ·
        refine jt_bI (sp_X12_fails E d (jd_le hd rfl) 3 (a 146 23) a b0 hv) (fun r42_ a42_ b42_ h42_ => ?_)
        obtain ⟨hv42_, hf42_, rfl, hq42_0, hq42_1⟩ := h42_
        refine jt_grd (by omega) ?_
        have hf43_ : jfr jW_X12_begins a0 a42_ := jfr_tr hf hf42_ rfl
        have h44_ := iv_get hv42_ (k := 146) (j := 23) (l := 0) (u := 200) rfl
        have h45_ : a42_ 146 23 = a 146 23 := hf42_ 146 23 rfl
        have h46_ := iv_get hv42_ (k := 146) (j := 22) (l := 0) (u := 200) rfl
        have h47_ : a42_ 146 22 = a 146 22 := hf42_ 146 22 rfl
        exact jt_rI ⟨hv42_, hf43_, rfl, (show (0 ≤ r42_ ∧ r42_ ≤ 1) from by omega), (show a0 146 23 ≤ a42_ 146 23 from by omega), (show a42_ 146 23 ≤ a42_ 146 22 from by omega), (fun h => by omega), (show (r42_ = 1 → (a0 146 23) + 2 ≤ a42_ 146 23) from by omega)⟩
      ·
        refine jt_ite (fun c48_ => ?_) (fun c48_ => ?_)
        ·
          exact hc77 s0 y3 (a 146 23) 3 a (show ((a 146 22) - (a 146 23)).toNat ≤ n from by omega) hv hf (show 1 ≤ s0 from by omega) (show s0 ≤ 1 from by omega) (show 0 - 1 ≤ y3 from by omega) (show y3 ≤ 15 from by omega) (show 0 ≤ a 146 23 from by omega) (show a 146 23 ≤ 200 from by omega) (show 1 ≤ 3 from by omega) (show 3 ≤ 3 from by omega) (show a 146 23 ≤ a 146 22 from by omega) (show a0 146 23 ≤ a 146 23 from by omega) (show a 146 22 ≤ 100 from by omega) hps (show s0 = 1 from by omega) (show a 146 23 = a 146 23 from by omega) (show ((y3 = 2 ∧ 3 = 3) ∨ (¬ y3 = 2 ∧ 3 = 1)) from by omega) (show (a 146 23) + 3 ≤ a 146 22 from by omega) (by rw [← hq40_0]; assumption)
        ·
          exact hc77 s0 y3 (a 146 23) 1 a (show ((a 146 22) - (a 146 23)).toNat ≤ n from by omega) hv hf (show 1 ≤ s0 from by omega) (show s0 ≤ 1 from by omega) (show 0 - 1 ≤ y3 from by omega) (show y3 ≤ 15 from by omega) (show 0 ≤ a 146 23 from by omega) (show a 146 23 ≤ 200 from by omega) (show 1 ≤ 1 from by omega) (show 1 ≤ 3 from by omega) (show a 146 23 ≤ a 146 22 from by omega) (show a0 146 23 ≤ a 146 23 from by omega) (show a 146 22 ≤ 100 from by omega) hps (show s0 = 1 from by omega) (show a 146 23 = a 146 23 from by omega) (show ((y3 = 2 ∧ 1 = 3) ∨ (¬ y3 = 2 ∧ 1 = 1)) from by omega) (show (a 146 23) + 1 ≤ a 146 22 from by omega) (by rw [← hq40_0]; assumption)
  have hc27 : ∀ (y3 : Int) (a : Nat → Nat → Int), ((a 146 22) - (a 146 23)).toNat ≤ n → iv a → jfr jW_X12_begins a0 a → 0 - 1 ≤ y3 → y3 ≤ 15 → a 146 23 ≤ a 146 22 → a0 146 23 ≤ a 146 23 → a 146 22 ≤ 100 → 0 - 1 ≤ y3 → y3 ≤ 15 → (a 146 23) + (a 146 25) ≤ a 146 22 → (0 ≤ y3 → 2 ≤ a 146 25) → (y3 = 2 → a 146 25 = 3) → (PS a 0) → a 146 23 < a 146 22 → jt (jxX E d 223 27 [some (.inr (.inr (.inl 146))), none, none, some (.inl y3)] [] (jxSH, a, b0)) (jQ_X12_begins a0 b0) := by
    intro y3 a hm hv hf hi0 hi1 hi2 hi3 hi4 hi5 hi6 hi7 hi8 hi9 hps hi11
    refine jt_eq (bq_X12_begins_27 E d y3 a b0) ?_
    have h49_ := iv_get hv (k := 146) (j := 23) (l := 0) (u := 200) rfl
    have h50_ := iv_get hv (k := 146) (j := 22) (l := 0) (u := 200) rfl
    have h51_ : a 146 22 = a0 146 22 := hf 146 22 rfl
    have h52_ := iv_get hv0 (k := 146) (j := 22) (l := 0) (u := 200) rfl
    have h53_ := iv_get hv0 (k := 146) (j := 23) (l := 0) (u := 200) rfl
    have h54_ := iv_get hv (k := 146) (j := 25) (l := 0) (u := 200) rfl
    exact hc32 y3 1 a (show ((a 146 22) - (a 146 23)).toNat ≤ n from by omega) hv hf (show 0 - 1 ≤ y3 from by omega) (show y3 ≤ 15 from by omega) (show 0 ≤ 1 from by omega) (show 1 ≤ 1 from by omega) (show a 146 23 ≤ a 146 22 from by omega) (show a0 146 23 ≤ a 146 23 from by omega) (show a 146 22 ≤ 100 from by omega) (show 0 - 1 ≤ y3 from by omega) (show y3 ≤ 15 from by omega) (show (a 146 23) + (a 146 25) ≤ a 146 22 from by omega) (show (0 ≤ y3 → 2 ≤ a 146 25) from by omega) (show (y3 = 2 → a 146 25 = 3) from by omega) hps (show (1 = 0 ∨ 1 = 1) from by omega) (show (1 = 1 → a 146 23 < a 146 22) from by omega)
  have hc31 : ∀ (y3 : Int) (a : Nat → Nat → Int), ((a 146 22) - (a 146 23)).toNat ≤ n → iv a → jfr jW_X12_begins a0 a → 0 - 1 ≤ y3 → y3 ≤ 15 → a 146 23 ≤ a 146 22 → a0 146 23 ≤ a 146 23 → a 146 22 ≤ 100 → 0 - 1 ≤ y3 → y3 ≤ 15 → (a 146 23) + (a 146 25) ≤ a 146 22 → (0 ≤ y3 → 2 ≤ a 146 25) → (y3 = 2 → a 146 25 = 3) → (PS a 0) → jt (jxX E d 223 31 [some (.inr (.inr (.inl 146))), none, none, some (.inl y3)] [] (jxSH, a, b0)) (jQ_X12_begins a0 b0) := by
    intro y3 a hm hv hf hi0 hi1 hi2 hi3 hi4 hi5 hi6 hi7 hi8 hi9 hps
    refine jt_eq (bq_X12_begins_31 E d y3 a b0) ?_
    have h55_ := iv_get hv (k := 146) (j := 23) (l := 0) (u := 200) rfl
    have h56_ := iv_get hv (k := 146) (j := 22) (l := 0) (u := 200) rfl
    have h57_ : a 146 22 = a0 146 22 := hf 146 22 rfl
    have h58_ := iv_get hv0 (k := 146) (j := 22) (l := 0) (u := 200) rfl
    have h59_ := iv_get hv0 (k := 146) (j := 23) (l := 0) (u := 200) rfl
    have h60_ := iv_get hv (k := 146) (j := 25) (l := 0) (u := 200) rfl
    exact hc32 y3 0 a (show ((a 146 22) - (a 146 23)).toNat ≤ n from by omega) hv hf (show 0 - 1 ≤ y3 from by omega) (show y3 ≤ 15 from by omega) (show 0 ≤ 0 from by omega) (show 0 ≤ 1 from by omega) (show a 146 23 ≤ a 146 22 from by omega) (show a0 146 23 ≤ a 146 23 from by omega) (show a 146 22 ≤ 100 from by omega) (show 0 - 1 ≤ y3 from by omega) (show y3 ≤ 15 from by omega) (show (a 146 23) + (a 146 25) ≤ a 146 22 from by omega) (show (0 ≤ y3 → 2 ≤ a 146 25) from by omega) (show (y3 = 2 → a 146 25 = 3) from by omega) hps (show (0 = 0 ∨ 0 = 1) from by omega) (show (0 = 1 → a 146 23 < a 146 22) from by omega)
  have hc2 : ∀ (y1 : Int) (a : Nat → Nat → Int), ((a 146 22) - (a 146 23)).toNat ≤ n → iv a → jfr jW_X12_begins a0 a → 1 ≤ y1 → y1 ≤ 1 → a 146 23 ≤ a 146 22 → a0 146 23 ≤ a 146 23 → a 146 22 ≤ 100 → (PS a 0) → y1 = 1 → jt (jxX E d 223 2 [some (.inr (.inr (.inl 146))), some (.inl y1), none, none] [] (jxSH, a, b0)) (jQ_X12_begins a0 b0) := by
    intro y1 a hm hv hf hi0 hi1 hi2 hi3 hi4 hps hi6
    refine jt_eq (bq_X12_begins_2 E d y1 a b0) ?_
    have h61_ := iv_get hv (k := 146) (j := 23) (l := 0) (u := 200) rfl
    have h62_ := iv_get hv (k := 146) (j := 22) (l := 0) (u := 200) rfl
    have h63_ : a 146 22 = a0 146 22 := hf 146 22 rfl
    have h64_ := iv_get hv0 (k := 146) (j := 22) (l := 0) (u := 200) rfl
    have h65_ := iv_get hv0 (k := 146) (j := 23) (l := 0) (u := 200) rfl
    have i35 := iv_get hv (k := 146) (j := 35) (l := 0) (u := 64) rfl
    have i32 := iv_get hv (k := 146) (j := 32) (l := 0) (u := 64) rfl
    have i23 := iv_get hv (k := 146) (j := 23) (l := 0) (u := 200) rfl
    have hroom := PS_room hps (by omega)
    refine jt_ite (fun c66_ => ?_) (fun c66_ => ?_)
    ·
      exact jt_rI ⟨hv, hf, rfl, (show (0 ≤ 0 ∧ 0 ≤ 1) from by omega), (show a0 146 23 ≤ a 146 23 from by omega), (show a 146 23 ≤ a 146 22 from by omega), (fun h => by omega), (show (0 = 1 → (a0 146 23) + 2 ≤ a 146 23) from by omega)⟩
    ·
      refine jt_bI (sp_X12_see E d (jd_le hd rfl) a b0 hv (show a 146 23 ≤ a 146 22 from by omega)) (fun r67_ a67_ b67_ h67_ => ?_)
      obtain ⟨hv67_, hf67_, rfl, hq67_0, hq67_1, hq67_2, hq67_3⟩ := h67_
      have h68_ := iv_get hv67_ (k := 146) (j := 23) (l := 0) (u := 200) rfl
      have h69_ := iv_get hv67_ (k := 164) (j := (a67_ 146 23).toNat) (l := (-128)) (u := 127) rfl
      have h70_ : a67_ 164 ((a67_ 146 23).toNat) = a 164 ((a67_ 146 23).toNat) := hf67_ 164 ((a67_ 146 23).toNat) rfl
      have h71_ := iv_get hv (k := 164) (j := (a67_ 146 23).toNat) (l := (-128)) (u := 127) rfl
      have h72_ : a 164 ((a67_ 146 23).toNat) = a0 164 ((a67_ 146 23).toNat) := hf 164 ((a67_ 146 23).toNat) rfl
      have h73_ := iv_get hv0 (k := 164) (j := (a67_ 146 23).toNat) (l := (-128)) (u := 127) rfl
      have h74_ := iv_get hv (k := 164) (j := (a 146 23).toNat) (l := (-128)) (u := 127) rfl
      have h75_ : a 164 ((a 146 23).toNat) = a0 164 ((a 146 23).toNat) := hf 164 ((a 146 23).toNat) rfl
      have h76_ := iv_get hv0 (k := 164) (j := (a 146 23).toNat) (l := (-128)) (u := 127) rfl
      have h77_ := iv_get hv67_ (k := 146) (j := 22) (l := 0) (u := 200) rfl
      have h78_ : a67_ 146 22 = a 146 22 := hf67_ 146 22 rfl
      refine jt_bI (sp_X12_wordHere E d (jd_le hd rfl) a67_ b0 hv67_ (show a67_ 146 23 ≤ a67_ 146 22 from by omega)) (fun r79_ a79_ b79_ h79_ => ?_)
      obtain ⟨hv79_, hf79_, rfl, hq79_0, hq79_1, hq79_2, hq79_3, hq79_4, hq79_5, hq79_6⟩ := h79_
      have h80_ := iv_get hv79_ (k := 146) (j := 23) (l := 0) (u := 200) rfl
      have h81_ := iv_get hv79_ (k := 146) (j := 25) (l := 0) (u := 200) rfl
      have h82_ := iv_get hv79_ (k := 146) (j := 22) (l := 0) (u := 200) rfl
      have h83_ : a79_ 146 22 = a67_ 146 22 := hf79_ 146 22 rfl
      refine jt_ite (fun c84_ => ?_) (fun c84_ => ?_)
      ·
        have hf85_ : jfr jW_X12_begins a0 a67_ := jfr_tr hf hf67_ rfl
        have hf86_ : jfr jW_X12_begins a0 a79_ := jfr_tr hf85_ hf79_ rfl
        exact hc27 r79_ a79_ (show ((a79_ 146 22) - (a79_ 146 23)).toNat ≤ n from by omega) hv79_ hf86_ (show 0 - 1 ≤ r79_ from by omega) (show r79_ ≤ 15 from by omega) (show a79_ 146 23 ≤ a79_ 146 22 from by omega) (show a0 146 23 ≤ a79_ 146 23 from by omega) (show a79_ 146 22 ≤ 100 from by omega) (show 0 - 1 ≤ r79_ from by omega) (show r79_ ≤ 15 from by omega) (show (a79_ 146 23) + (a79_ 146 25) ≤ a79_ 146 22 from by omega) (show (0 ≤ r79_ → 2 ≤ a79_ 146 25) from by omega) (show (r79_ = 2 → a79_ 146 25 = 3) from by omega) (PS_next (PS_next hps (fun k => hf67_ 168 k rfl) (fun k => hf67_ 169 k rfl) (hf67_ 146 32 rfl) (hf67_ 146 35 rfl) (by omega)) (fun k => hf79_ 168 k rfl) (fun k => hf79_ 169 k rfl) (hf79_ 146 32 rfl) (hf79_ 146 35 rfl) (by omega)) (show a79_ 146 23 < a79_ 146 22 from by omega)
      ·
        refine jt_ite (fun c87_ => ?_) (fun c87_ => ?_)
        ·
          have hf88_ : jfr jW_X12_begins a0 a67_ := jfr_tr hf hf67_ rfl
          have hf89_ : jfr jW_X12_begins a0 a79_ := jfr_tr hf88_ hf79_ rfl
          exact hc27 r79_ a79_ (show ((a79_ 146 22) - (a79_ 146 23)).toNat ≤ n from by omega) hv79_ hf89_ (show 0 - 1 ≤ r79_ from by omega) (show r79_ ≤ 15 from by omega) (show a79_ 146 23 ≤ a79_ 146 22 from by omega) (show a0 146 23 ≤ a79_ 146 23 from by omega) (show a79_ 146 22 ≤ 100 from by omega) (show 0 - 1 ≤ r79_ from by omega) (show r79_ ≤ 15 from by omega) (show (a79_ 146 23) + (a79_ 146 25) ≤ a79_ 146 22 from by omega) (show (0 ≤ r79_ → 2 ≤ a79_ 146 25) from by omega) (show (r79_ = 2 → a79_ 146 25 = 3) from by omega) (PS_next (PS_next hps (fun k => hf67_ 168 k rfl) (fun k => hf67_ 169 k rfl) (hf67_ 146 32 rfl) (hf67_ 146 35 rfl) (by omega)) (fun k => hf79_ 168 k rfl) (fun k => hf79_ 169 k rfl) (hf79_ 146 32 rfl) (hf79_ 146 35 rfl) (by omega)) (show a79_ 146 23 < a79_ 146 22 from by omega)
        ·
          have hf90_ : jfr jW_X12_begins a0 a67_ := jfr_tr hf hf67_ rfl
          have hf91_ : jfr jW_X12_begins a0 a79_ := jfr_tr hf90_ hf79_ rfl
          exact hc31 r79_ a79_ (show ((a79_ 146 22) - (a79_ 146 23)).toNat ≤ n from by omega) hv79_ hf91_ (show 0 - 1 ≤ r79_ from by omega) (show r79_ ≤ 15 from by omega) (show a79_ 146 23 ≤ a79_ 146 22 from by omega) (show a0 146 23 ≤ a79_ 146 23 from by omega) (show a79_ 146 22 ≤ 100 from by omega) (show 0 - 1 ≤ r79_ from by omega) (show r79_ ≤ 15 from by omega) (show (a79_ 146 23) + (a79_ 146 25) ≤ a79_ 146 22 from by omega) (show (0 ≤ r79_ → 2 ≤ a79_ 146 25) from by omega) (show (r79_ = 2 → a79_ 146 25 = 3) from by omega) (PS_next (PS_next hps (fun k => hf67_ 168 k rfl) (fun k => hf67_ 169 k rfl) (hf67_ 146 32 rfl) (hf67_ 146 35 rfl) (by omega)) (fun k => hf79_ 168 k rfl) (fun k => hf79_ 169 k rfl) (hf79_ 146 32 rfl) (hf79_ 146 35 rfl) (by omega))
  exact ⟨hc100, hc77, hc32, hc27, hc31, hc2⟩
theorem sp_X12_begins (E : jxE) (d : Nat) (hd : Nat.ble 4 d = true) (a0 b0 : Nat → Nat → Int) (hv0 : iv a0) (hp0 : PS a0 0) (hp1 : a0 146 23 ≤ a0 146 22) (hp2 : a0 146 22 ≤ 100) : jt (jxC E d 223 [.inr (.inr (.inl 146))] (jxSH, a0, b0)) (jQ_X12_begins a0 b0) := by
  obtain ⟨d, rfl⟩ := jd_succ hd
  refine jt_eq (bq_X12_begins E d a0 b0) ?_
  have h92_ := iv_get hv0 (k := 146) (j := 23) (l := 0) (u := 200) rfl
  have h93_ := iv_get hv0 (k := 146) (j := 22) (l := 0) (u := 200) rfl
  exact (cp_X12_begins_2 E d hd a0 b0 hv0 hp0 hp1 hp2 _).2.2.2.2.2 1 a0 (Nat.le_refl _) hv0 (jfr_rf _ _) (show 1 ≤ 1 from by omega) (show 1 ≤ 1 from by omega) (show a0 146 23 ≤ a0 146 22 from by omega) (show a0 146 23 ≤ a0 146 23 from by omega) (show a0 146 22 ≤ 100 from by omega) hp0 (show 1 = 1 from by omega)
def jW_X12_either : List (Nat × Nat) := [(146, 23), (146, 24), (146, 25), (146, 26), (146, 27), (146, 32), (146, 33), (146, 35), (168, 9999), (169, 9999)]
abbrev jQ_X12_either (a0 b0 : Nat → Nat → Int) : List jxV → (Nat → Nat → Int) → (Nat → Nat → Int) → Prop := rI (fun r a b => (iv a) ∧ (jfr jW_X12_either a0 a) ∧ (b0 = b) ∧ ((0 ≤ r ∧ r ≤ 1)) ∧ (a0 146 23 ≤ a 146 23) ∧ (a 146 23 ≤ a 146 22) ∧ (r = 1 → jwf (a 168) (a 146 32).toNat))
theorem cp_X12_either_175 (E : jxE) (d : Nat) (hd : Nat.ble 5 (d + 1) = true) (a0 b0 : Nat → Nat → Int) (hv0 : iv a0) (hp0 : a0 146 23 ≤ a0 146 22) (hp1 : a0 146 22 ≤ 100) : ∀ (a : Nat → Nat → Int), iv a → jfr jW_X12_either a0 a → a 146 23 ≤ a 146 22 → a0 146 23 ≤ a 146 23 → a 146 22 ≤ 100 → jt (jxX E d 224 175 [some (.inr (.inr (.inl 146))), none, none, none] [] (jxSH, a, b0)) (jQ_X12_either a0 b0) := by
  intro a hv hf hi0 hi1 hi2
  refine jt_eq (bq_X12_either_175 E d a b0) ?_
  have h94_ := iv_get hv (k := 146) (j := 23) (l := 0) (u := 200) rfl
  have h95_ := iv_get hv (k := 146) (j := 22) (l := 0) (u := 200) rfl
  have h96_ : a 146 22 = a0 146 22 := hf 146 22 rfl
  have h97_ := iv_get hv0 (k := 146) (j := 22) (l := 0) (u := 200) rfl
  have h98_ := iv_get hv0 (k := 146) (j := 23) (l := 0) (u := 200) rfl
  refine jt_bI (sp_X12_fails E d (jd_le hd rfl) 0 (a 146 23) a b0 hv) (fun r99_ a99_ b99_ h99_ => ?_)
  obtain ⟨hv99_, hf99_, rfl, hq99_0, hq99_1⟩ := h99_
  refine jt_ite (fun c100_ => ?_) (fun c100_ => ?_)
  ·
    have hf101_ : jfr jW_X12_either a0 a99_ := jfr_tr hf hf99_ rfl
    have h102_ := iv_get hv99_ (k := 146) (j := 23) (l := 0) (u := 200) rfl
    have h103_ : a99_ 146 23 = a 146 23 := hf99_ 146 23 rfl
    have h104_ := iv_get hv99_ (k := 146) (j := 22) (l := 0) (u := 200) rfl
    have h105_ : a99_ 146 22 = a 146 22 := hf99_ 146 22 rfl
    exact jt_rI ⟨hv99_, hf101_, rfl, (show (0 ≤ 0 ∧ 0 ≤ 1) from by omega), (show a0 146 23 ≤ a99_ 146 23 from by omega), (show a99_ 146 23 ≤ a99_ 146 22 from by omega), (fun h => by omega)⟩
  ·
    have hf106_ : jfr jW_X12_either a0 a99_ := jfr_tr hf hf99_ rfl
    have h107_ := iv_get hv99_ (k := 146) (j := 23) (l := 0) (u := 200) rfl
    have h108_ : a99_ 146 23 = a 146 23 := hf99_ 146 23 rfl
    have h109_ := iv_get hv99_ (k := 146) (j := 22) (l := 0) (u := 200) rfl
    have h110_ : a99_ 146 22 = a 146 22 := hf99_ 146 22 rfl
    exact jt_rI ⟨hv99_, hf106_, rfl, (show (0 ≤ 1 ∧ 1 ≤ 1) from by omega), (show a0 146 23 ≤ a99_ 146 23 from by omega), (show a99_ 146 23 ≤ a99_ 146 22 from by omega), (fun h => by omega)⟩
theorem cp_X12_either_17 (E : jxE) (d : Nat) (hd : Nat.ble 5 (d + 1) = true) (a0 b0 : Nat → Nat → Int) (hv0 : iv a0) (hp0 : a0 146 23 ≤ a0 146 22) (hp1 : a0 146 22 ≤ 100) : ∀ n : Nat, (∀ (a : Nat → Nat → Int), (((a 146 22) - (a 146 23)) + 1).toNat ≤ n → iv a → jfr jW_X12_either a0 a → 1 ≤ a 146 35 → a 146 23 ≤ a 146 22 → a0 146 23 ≤ a 146 23 → a 146 22 ≤ 100 → (PS a 0) → jt (jxX E d 224 102 [some (.inr (.inr (.inl 146))), none, none, none] [] (jxSH, a, b0)) (jQ_X12_either a0 b0)) ∧ (∀ (y3 s1 : Int) (a : Nat → Nat → Int), ((a 146 22) - (a 146 23)).toNat ≤ n → iv a → jfr jW_X12_either a0 a → 0 ≤ y3 → y3 ≤ 1 → 0 ≤ s1 → s1 ≤ 1 → a 146 23 ≤ a 146 22 → a0 146 23 ≤ a 146 23 → a 146 22 ≤ 100 → (PS a 1) → (y3 = 0 ∨ y3 = 1) → (s1 = 0 ∨ s1 = 1) → (a 146 23) + (a 146 25) ≤ a 146 22 → 2 ≤ a 146 25 → jt (jxX E d 224 66 [some (.inr (.inr (.inl 146))), none, none, some (.inl y3)] [.inl s1, .inr (.inr (.inl 146))] (jxSH, a, b0)) (jQ_X12_either a0 b0)) ∧ (∀ (y3 : Int) (a : Nat → Nat → Int), ((a 146 22) - (a 146 23)).toNat ≤ n → iv a → jfr jW_X12_either a0 a → 0 ≤ y3 → y3 ≤ 1 → a 146 23 ≤ a 146 22 → a0 146 23 ≤ a 146 23 → a 146 22 ≤ 100 → (PS a 1) → (y3 = 0 ∨ y3 = 1) → (a 146 23) + (a 146 25) ≤ a 146 22 → 2 ≤ a 146 25 → jt (jxX E d 224 55 [some (.inr (.inr (.inl 146))), none, none, some (.inl y3)] [] (jxSH, a, b0)) (jQ_X12_either a0 b0)) ∧ (∀ (y1 : Int) (a : Nat → Nat → Int), ((a 146 22) - (a 146 23)).toNat ≤ n → iv a → jfr jW_X12_either a0 a → 0 ≤ y1 → y1 ≤ 0 → a 146 35 ≤ 63 → a 146 23 ≤ a 146 22 → a0 146 23 ≤ a 146 23 → a 146 22 ≤ 100 → y1 = 0 → a 146 23 < a 146 22 → (PS a 1) → jt (jxX E d 224 145 [some (.inr (.inr (.inl 146))), some (.inl y1), none, none] [] (jxSH, a, b0)) (jQ_X12_either a0 b0)) ∧ (∀ (y1 y2 : Int) (a : Nat → Nat → Int), ((a 146 22) - (a 146 23)).toNat ≤ n → iv a → jfr jW_X12_either a0 a → 0 ≤ y1 → y1 ≤ 0 → 0 - 1 ≤ y2 → y2 ≤ 255 → a 146 23 ≤ a 146 22 → a0 146 23 ≤ a 146 23 → a 146 22 ≤ 100 → (PS a 1) → y1 = 0 → 0 - 1 ≤ y2 → (0 ≤ y2 → a 146 23 < a 146 22) → jt (jxX E d 224 107 [some (.inr (.inr (.inl 146))), some (.inl y1), some (.inl y2), none] [] (jxSH, a, b0)) (jQ_X12_either a0 b0)) ∧ (∀ (a : Nat → Nat → Int), ((a 146 22) - (a 146 23)).toNat ≤ n → iv a → jfr jW_X12_either a0 a → a 146 23 ≤ a 146 22 → a0 146 23 ≤ a 146 23 → a 146 22 ≤ 100 → (PS a 1) → jt (jxX E d 224 30 [some (.inr (.inr (.inl 146))), none, none, none] [] (jxSH, a, b0)) (jQ_X12_either a0 b0)) ∧ (∀ (y1 : Int) (a : Nat → Nat → Int), ((a 146 22) - (a 146 23)).toNat ≤ n → iv a → jfr jW_X12_either a0 a → 0 ≤ y1 → y1 ≤ 1 → a 146 23 ≤ a 146 22 → a0 146 23 ≤ a 146 23 → a 146 22 ≤ 100 → (y1 = 0 ∨ y1 = 1) → ((y1 = 1 → PS a 0) ∧ (y1 = 0 → PS a 1)) → jt (jxX E d 224 17 [some (.inr (.inr (.inl 146))), some (.inl y1), none, none] [] (jxSH, a, b0)) (jQ_X12_either a0 b0)) := by
  refine jx_ind fun n ih => ?_
  have ih102 : ∀ (a : Nat → Nat → Int), (((a 146 22) - (a 146 23)) + 1).toNat < n → iv a → jfr jW_X12_either a0 a → 1 ≤ a 146 35 → a 146 23 ≤ a 146 22 → a0 146 23 ≤ a 146 23 → a 146 22 ≤ 100 → (PS a 0) → jt (jxX E d 224 102 [some (.inr (.inr (.inl 146))), none, none, none] [] (jxSH, a, b0)) (jQ_X12_either a0 b0) := fun a hlt i0 i1 i2 i3 i4 i5 i6 => (ih _ hlt).1 a (Nat.le_refl _) i0 i1 i2 i3 i4 i5 i6
  have ih66 : ∀ (y3 s1 : Int) (a : Nat → Nat → Int), ((a 146 22) - (a 146 23)).toNat < n → iv a → jfr jW_X12_either a0 a → 0 ≤ y3 → y3 ≤ 1 → 0 ≤ s1 → s1 ≤ 1 → a 146 23 ≤ a 146 22 → a0 146 23 ≤ a 146 23 → a 146 22 ≤ 100 → (PS a 1) → (y3 = 0 ∨ y3 = 1) → (s1 = 0 ∨ s1 = 1) → (a 146 23) + (a 146 25) ≤ a 146 22 → 2 ≤ a 146 25 → jt (jxX E d 224 66 [some (.inr (.inr (.inl 146))), none, none, some (.inl y3)] [.inl s1, .inr (.inr (.inl 146))] (jxSH, a, b0)) (jQ_X12_either a0 b0) := fun y3 s1 a hlt i0 i1 i2 i3 i4 i5 i6 i7 i8 i9 i10 i11 i12 i13 => (ih _ hlt).2.1 y3 s1 a (Nat.le_refl _) i0 i1 i2 i3 i4 i5 i6 i7 i8 i9 i10 i11 i12 i13
  have ih55 : ∀ (y3 : Int) (a : Nat → Nat → Int), ((a 146 22) - (a 146 23)).toNat < n → iv a → jfr jW_X12_either a0 a → 0 ≤ y3 → y3 ≤ 1 → a 146 23 ≤ a 146 22 → a0 146 23 ≤ a 146 23 → a 146 22 ≤ 100 → (PS a 1) → (y3 = 0 ∨ y3 = 1) → (a 146 23) + (a 146 25) ≤ a 146 22 → 2 ≤ a 146 25 → jt (jxX E d 224 55 [some (.inr (.inr (.inl 146))), none, none, some (.inl y3)] [] (jxSH, a, b0)) (jQ_X12_either a0 b0) := fun y3 a hlt i0 i1 i2 i3 i4 i5 i6 i7 i8 i9 i10 => (ih _ hlt).2.2.1 y3 a (Nat.le_refl _) i0 i1 i2 i3 i4 i5 i6 i7 i8 i9 i10
  have ih145 : ∀ (y1 : Int) (a : Nat → Nat → Int), ((a 146 22) - (a 146 23)).toNat < n → iv a → jfr jW_X12_either a0 a → 0 ≤ y1 → y1 ≤ 0 → a 146 35 ≤ 63 → a 146 23 ≤ a 146 22 → a0 146 23 ≤ a 146 23 → a 146 22 ≤ 100 → y1 = 0 → a 146 23 < a 146 22 → (PS a 1) → jt (jxX E d 224 145 [some (.inr (.inr (.inl 146))), some (.inl y1), none, none] [] (jxSH, a, b0)) (jQ_X12_either a0 b0) := fun y1 a hlt i0 i1 i2 i3 i4 i5 i6 i7 i8 i9 i10 => (ih _ hlt).2.2.2.1 y1 a (Nat.le_refl _) i0 i1 i2 i3 i4 i5 i6 i7 i8 i9 i10
  have ih107 : ∀ (y1 y2 : Int) (a : Nat → Nat → Int), ((a 146 22) - (a 146 23)).toNat < n → iv a → jfr jW_X12_either a0 a → 0 ≤ y1 → y1 ≤ 0 → 0 - 1 ≤ y2 → y2 ≤ 255 → a 146 23 ≤ a 146 22 → a0 146 23 ≤ a 146 23 → a 146 22 ≤ 100 → (PS a 1) → y1 = 0 → 0 - 1 ≤ y2 → (0 ≤ y2 → a 146 23 < a 146 22) → jt (jxX E d 224 107 [some (.inr (.inr (.inl 146))), some (.inl y1), some (.inl y2), none] [] (jxSH, a, b0)) (jQ_X12_either a0 b0) := fun y1 y2 a hlt i0 i1 i2 i3 i4 i5 i6 i7 i8 i9 i10 i11 i12 => (ih _ hlt).2.2.2.2.1 y1 y2 a (Nat.le_refl _) i0 i1 i2 i3 i4 i5 i6 i7 i8 i9 i10 i11 i12
  have ih30 : ∀ (a : Nat → Nat → Int), ((a 146 22) - (a 146 23)).toNat < n → iv a → jfr jW_X12_either a0 a → a 146 23 ≤ a 146 22 → a0 146 23 ≤ a 146 23 → a 146 22 ≤ 100 → (PS a 1) → jt (jxX E d 224 30 [some (.inr (.inr (.inl 146))), none, none, none] [] (jxSH, a, b0)) (jQ_X12_either a0 b0) := fun a hlt i0 i1 i2 i3 i4 i5 => (ih _ hlt).2.2.2.2.2.1 a (Nat.le_refl _) i0 i1 i2 i3 i4 i5
  have ih17 : ∀ (y1 : Int) (a : Nat → Nat → Int), ((a 146 22) - (a 146 23)).toNat < n → iv a → jfr jW_X12_either a0 a → 0 ≤ y1 → y1 ≤ 1 → a 146 23 ≤ a 146 22 → a0 146 23 ≤ a 146 23 → a 146 22 ≤ 100 → (y1 = 0 ∨ y1 = 1) → ((y1 = 1 → PS a 0) ∧ (y1 = 0 → PS a 1)) → jt (jxX E d 224 17 [some (.inr (.inr (.inl 146))), some (.inl y1), none, none] [] (jxSH, a, b0)) (jQ_X12_either a0 b0) := fun y1 a hlt i0 i1 i2 i3 i4 i5 i6 i7 i8 => (ih _ hlt).2.2.2.2.2.2 y1 a (Nat.le_refl _) i0 i1 i2 i3 i4 i5 i6 i7 i8
  have hc102 : ∀ (a : Nat → Nat → Int), (((a 146 22) - (a 146 23)) + 1).toNat ≤ n → iv a → jfr jW_X12_either a0 a → 1 ≤ a 146 35 → a 146 23 ≤ a 146 22 → a0 146 23 ≤ a 146 23 → a 146 22 ≤ 100 → (PS a 0) → jt (jxX E d 224 102 [some (.inr (.inr (.inl 146))), none, none, none] [] (jxSH, a, b0)) (jQ_X12_either a0 b0) := by
    intro a hm hv hf hi0 hi1 hi2 hi3 hps
    refine jt_eq (bq_X12_either_102 E d a b0) ?_
    have h111_ := iv_get hv (k := 146) (j := 35) (l := 0) (u := 64) rfl
    have h112_ := iv_get hv (k := 146) (j := 23) (l := 0) (u := 200) rfl
    have h113_ := iv_get hv (k := 146) (j := 22) (l := 0) (u := 200) rfl
    have h114_ : a 146 22 = a0 146 22 := hf 146 22 rfl
    have h115_ := iv_get hv0 (k := 146) (j := 22) (l := 0) (u := 200) rfl
    have h116_ := iv_get hv0 (k := 146) (j := 23) (l := 0) (u := 200) rfl
    exact ih17 1 a (show ((a 146 22) - (a 146 23)).toNat < n from by omega) hv hf (show 0 ≤ 1 from by omega) (show 1 ≤ 1 from by omega) (show a 146 23 ≤ a 146 22 from by omega) (show a0 146 23 ≤ a 146 23 from by omega) (show a 146 22 ≤ 100 from by omega) (show (1 = 0 ∨ 1 = 1) from by omega) (by first | exact ⟨fun _ => PS_start rfl rfl (by first | (show 0 ≤ a0 146 23; omega) | omega), fun h => (by omega)⟩ | exact ⟨fun _ => hps, fun h => (by omega)⟩ | exact ⟨fun h => (by omega), fun _ => PS_next hps (fun _ => rfl) (fun _ => rfl) rfl rfl (by show a 146 23 ≤ jxw ((a 146 23) + 1); omega)⟩)
  have hc66 : ∀ (y3 s1 : Int) (a : Nat → Nat → Int), ((a 146 22) - (a 146 23)).toNat ≤ n → iv a → jfr jW_X12_either a0 a → 0 ≤ y3 → y3 ≤ 1 → 0 ≤ s1 → s1 ≤ 1 → a 146 23 ≤ a 146 22 → a0 146 23 ≤ a 146 23 → a 146 22 ≤ 100 → (PS a 1) → (y3 = 0 ∨ y3 = 1) → (s1 = 0 ∨ s1 = 1) → (a 146 23) + (a 146 25) ≤ a 146 22 → 2 ≤ a 146 25 → jt (jxX E d 224 66 [some (.inr (.inr (.inl 146))), none, none, some (.inl y3)] [.inl s1, .inr (.inr (.inl 146))] (jxSH, a, b0)) (jQ_X12_either a0 b0) := by
    intro y3 s1 a hm hv hf hi0 hi1 hi2 hi3 hi4 hi5 hi6 hps hi8 hi9 hi10 hi11
    refine jt_eq (bq_X12_either_66 E d y3 s1 a b0) ?_
    have h117_ := iv_get hv (k := 146) (j := 23) (l := 0) (u := 200) rfl
    have h118_ := iv_get hv (k := 146) (j := 22) (l := 0) (u := 200) rfl
    have h119_ : a 146 22 = a0 146 22 := hf 146 22 rfl
    have h120_ := iv_get hv0 (k := 146) (j := 22) (l := 0) (u := 200) rfl
    have h121_ := iv_get hv0 (k := 146) (j := 23) (l := 0) (u := 200) rfl
    have h122_ := iv_get hv (k := 146) (j := 25) (l := 0) (u := 200) rfl
    refine jt_bV (sp_X12_closesDown E d (jd_le hd rfl) s1 a b0 hv hps (show a 146 23 ≤ 100 from by omega) (show 0 ≤ s1 from by omega)) (fun a123_ b123_ h123_ => ?_)
    obtain ⟨hv123_, hf123_, rfl, hq123_0, hq123_1⟩ := h123_
    have h23_123 := hf123_ 146 23 rfl
    have i32_123 := iv_get hv123_ (k := 146) (j := 32) (l := 0) (u := 64) rfl
    have hroom123 := PS_room hq123_0 (by omega)
    have h124_ := iv_get hv123_ (k := 146) (j := 35) (l := 0) (u := 64) rfl
    refine jt_grd (by omega) ?_
    have hv125_ : iv (jxu a123_ 169 ((a123_ 146 35).toNat) y3) := iv_put hv123_ (l := 0) (u := 100) rfl (by omega) (by omega)
    have h127_ : jxw ((a123_ 146 35) + 1) = (a123_ 146 35) + 1 := jxw_id (by omega) (by omega)
    have hv126_ : iv (jxu (jxu a123_ 169 ((a123_ 146 35).toNat) y3) 146 35 (jxw ((a123_ 146 35) + 1))) := iv_put hv125_ (l := 0) (u := 64) rfl (by omega) (by omega)
    have h129_ := iv_get hv123_ (k := 146) (j := 23) (l := 0) (u := 200) rfl
    have h130_ : a123_ 146 23 = a 146 23 := hf123_ 146 23 rfl
    have h131_ := iv_get hv123_ (k := 146) (j := 25) (l := 0) (u := 200) rfl
    have h132_ : a123_ 146 25 = a 146 25 := hf123_ 146 25 rfl
    have h133_ : jxw ((a123_ 146 23) + (a123_ 146 25)) = (a123_ 146 23) + (a123_ 146 25) := jxw_id (by omega) (by omega)
    have hv128_ : iv (jxu (jxu (jxu a123_ 169 ((a123_ 146 35).toNat) y3) 146 35 (jxw ((a123_ 146 35) + 1))) 146 23 (jxw ((a123_ 146 23) + (a123_ 146 25)))) := iv_put hv126_ (l := 0) (u := 200) rfl (by omega) (by omega)
    have hf134_ : jfr jW_X12_either a0 a123_ := jfr_tr hf hf123_ rfl
    have hf135_ : jfr jW_X12_either a0 (jxu a123_ 169 ((a123_ 146 35).toNat) y3) := jfr_put hf134_ rfl
    have hf136_ : jfr jW_X12_either a0 (jxu (jxu a123_ 169 ((a123_ 146 35).toNat) y3) 146 35 (jxw ((a123_ 146 35) + 1))) := jfr_put hf135_ rfl
    have hf137_ : jfr jW_X12_either a0 (jxu (jxu (jxu a123_ 169 ((a123_ 146 35).toNat) y3) 146 35 (jxw ((a123_ 146 35) + 1))) 146 23 (jxw ((a123_ 146 23) + (a123_ 146 25)))) := jfr_put hf136_ rfl
    have h138_ := iv_get hv123_ (k := 146) (j := 22) (l := 0) (u := 200) rfl
    have h139_ : a123_ 146 22 = a 146 22 := hf123_ 146 22 rfl
    exact hc102 (jxu (jxu (jxu a123_ 169 ((a123_ 146 35).toNat) y3) 146 35 (jxw ((a123_ 146 35) + 1))) 146 23 (jxw ((a123_ 146 23) + (a123_ 146 25)))) (show (((a123_ 146 22) - (jxw ((a123_ 146 23) + (a123_ 146 25)))) + 1).toNat ≤ n from by omega) hv128_ hf137_ (show 1 ≤ jxw ((a123_ 146 35) + 1) from by omega) (show jxw ((a123_ 146 23) + (a123_ 146 25)) ≤ a123_ 146 22 from by omega) (show a0 146 23 ≤ jxw ((a123_ 146 23) + (a123_ 146 25)) from by omega) (show a123_ 146 22 ≤ 100 from by omega) (PS_bin hq123_0 (w := y3) (by omega) (fun _ => rfl) (fun k hk => by simp [jxu]; intro h; omega) rfl (show jxw ((a123_ 146 35) + 1) = a123_ 146 35 + 1 from (by omega)) (by simp [jxu]) (by omega) (show a123_ 146 23 + 2 ≤ jxw ((a123_ 146 23) + (a123_ 146 25)) from (by omega)))
  have hc55 : ∀ (y3 : Int) (a : Nat → Nat → Int), ((a 146 22) - (a 146 23)).toNat ≤ n → iv a → jfr jW_X12_either a0 a → 0 ≤ y3 → y3 ≤ 1 → a 146 23 ≤ a 146 22 → a0 146 23 ≤ a 146 23 → a 146 22 ≤ 100 → (PS a 1) → (y3 = 0 ∨ y3 = 1) → (a 146 23) + (a 146 25) ≤ a 146 22 → 2 ≤ a 146 25 → jt (jxX E d 224 55 [some (.inr (.inr (.inl 146))), none, none, some (.inl y3)] [] (jxSH, a, b0)) (jQ_X12_either a0 b0) := by
    intro y3 a hm hv hf hi0 hi1 hi2 hi3 hi4 hps hi6 hi7 hi8
    refine jt_eq (bq_X12_either_55 E d y3 a b0) ?_
    have h140_ := iv_get hv (k := 146) (j := 23) (l := 0) (u := 200) rfl
    have h141_ := iv_get hv (k := 146) (j := 22) (l := 0) (u := 200) rfl
    have h142_ : a 146 22 = a0 146 22 := hf 146 22 rfl
    have h143_ := iv_get hv0 (k := 146) (j := 22) (l := 0) (u := 200) rfl
    have h144_ := iv_get hv0 (k := 146) (j := 23) (l := 0) (u := 200) rfl
    have h145_ := iv_get hv (k := 146) (j := 25) (l := 0) (u := 200) rfl
    refine jt_ite (fun c146_ => ?_) (fun c146_ => ?_)
    ·
      exact hc66 y3 1 a (show ((a 146 22) - (a 146 23)).toNat ≤ n from by omega) hv hf (show 0 ≤ y3 from by omega) (show y3 ≤ 1 from by omega) (show 0 ≤ 1 from by omega) (show 1 ≤ 1 from by omega) (show a 146 23 ≤ a 146 22 from by omega) (show a0 146 23 ≤ a 146 23 from by omega) (show a 146 22 ≤ 100 from by omega) hps (show (y3 = 0 ∨ y3 = 1) from by omega) (show (1 = 0 ∨ 1 = 1) from by omega) (show (a 146 23) + (a 146 25) ≤ a 146 22 from by omega) (show 2 ≤ a 146 25 from by omega)
    ·
      exact hc66 y3 0 a (show ((a 146 22) - (a 146 23)).toNat ≤ n from by omega) hv hf (show 0 ≤ y3 from by omega) (show y3 ≤ 1 from by omega) (show 0 ≤ 0 from by omega) (show 0 ≤ 1 from by omega) (show a 146 23 ≤ a 146 22 from by omega) (show a0 146 23 ≤ a 146 23 from by omega) (show a 146 22 ≤ 100 from by omega) hps (show (y3 = 0 ∨ y3 = 1) from by omega) (show (0 = 0 ∨ 0 = 1) from by omega) (show (a 146 23) + (a 146 25) ≤ a 146 22 from by omega) (show 2 ≤ a 146 25 from by omega)
  have hc145 : ∀ (y1 : Int) (a : Nat → Nat → Int), ((a 146 22) - (a 146 23)).toNat ≤ n → iv a → jfr jW_X12_either a0 a → 0 ≤ y1 → y1 ≤ 0 → a 146 35 ≤ 63 → a 146 23 ≤ a 146 22 → a0 146 23 ≤ a 146 23 → a 146 22 ≤ 100 → y1 = 0 → a 146 23 < a 146 22 → (PS a 1) → jt (jxX E d 224 145 [some (.inr (.inr (.inl 146))), some (.inl y1), none, none] [] (jxSH, a, b0)) (jQ_X12_either a0 b0) := by
    intro y1 a hm hv hf hi0 hi1 hi2 hi3 hi4 hi5 hi6 hi7 hps
    refine jt_eq (bq_X12_either_145 E d y1 a b0) ?_
    have h147_ := iv_get hv (k := 146) (j := 35) (l := 0) (u := 64) rfl
    have h148_ := iv_get hv (k := 146) (j := 23) (l := 0) (u := 200) rfl
    have h149_ := iv_get hv (k := 146) (j := 22) (l := 0) (u := 200) rfl
    have h150_ : a 146 22 = a0 146 22 := hf 146 22 rfl
    have h151_ := iv_get hv0 (k := 146) (j := 22) (l := 0) (u := 200) rfl
    have h152_ := iv_get hv0 (k := 146) (j := 23) (l := 0) (u := 200) rfl
    have h154_ : jxw ((a 146 23) + 1) = (a 146 23) + 1 := jxw_id (by omega) (by omega)
    have hv153_ : iv (jxu a 146 23 (jxw ((a 146 23) + 1))) := iv_put hv (l := 0) (u := 200) rfl (by omega) (by omega)
    have hf155_ : jfr jW_X12_either a0 (jxu a 146 23 (jxw ((a 146 23) + 1))) := jfr_put hf rfl
    exact ih17 y1 (jxu a 146 23 (jxw ((a 146 23) + 1))) (show ((a 146 22) - (jxw ((a 146 23) + 1))).toNat < n from by omega) hv153_ hf155_ (show 0 ≤ y1 from by omega) (show y1 ≤ 1 from by omega) (show jxw ((a 146 23) + 1) ≤ a 146 22 from by omega) (show a0 146 23 ≤ jxw ((a 146 23) + 1) from by omega) (show a 146 22 ≤ 100 from by omega) (show (y1 = 0 ∨ y1 = 1) from by omega) (by first | exact ⟨fun _ => PS_start rfl rfl (by first | (show 0 ≤ a0 146 23; omega) | omega), fun h => (by omega)⟩ | exact ⟨fun _ => hps, fun h => (by omega)⟩ | exact ⟨fun h => (by omega), fun _ => PS_next hps (fun _ => rfl) (fun _ => rfl) rfl rfl (by show a 146 23 ≤ jxw ((a 146 23) + 1); omega)⟩)
  have hc107 : ∀ (y1 y2 : Int) (a : Nat → Nat → Int), ((a 146 22) - (a 146 23)).toNat ≤ n → iv a → jfr jW_X12_either a0 a → 0 ≤ y1 → y1 ≤ 0 → 0 - 1 ≤ y2 → y2 ≤ 255 → a 146 23 ≤ a 146 22 → a0 146 23 ≤ a 146 23 → a 146 22 ≤ 100 → (PS a 1) → y1 = 0 → 0 - 1 ≤ y2 → (0 ≤ y2 → a 146 23 < a 146 22) → jt (jxX E d 224 107 [some (.inr (.inr (.inl 146))), some (.inl y1), some (.inl y2), none] [] (jxSH, a, b0)) (jQ_X12_either a0 b0) := by
    intro y1 y2 a hm hv hf hi0 hi1 hi2 hi3 hi4 hi5 hi6 hps hi8 hi9 hi10
    refine jt_eq (bq_X12_either_107 E d y1 y2 a b0) ?_
    have h156_ := iv_get hv (k := 146) (j := 23) (l := 0) (u := 200) rfl
    have h157_ := iv_get hv (k := 146) (j := 22) (l := 0) (u := 200) rfl
    have h158_ : a 146 22 = a0 146 22 := hf 146 22 rfl
    have h159_ := iv_get hv0 (k := 146) (j := 22) (l := 0) (u := 200) rfl
    have h160_ := iv_get hv0 (k := 146) (j := 23) (l := 0) (u := 200) rfl
    refine jt_ite (fun c161_ => ?_) (fun c161_ => ?_)
    ·
      refine jt_bV (sp_X12_closesDown E d (jd_le hd rfl) 0 a b0 hv hps (show a 146 23 ≤ 100 from by omega) (show 0 ≤ 0 from by omega)) (fun a162_ b162_ h162_ => ?_)
      obtain ⟨hv162_, hf162_, rfl, hq162_0, hq162_1⟩ := h162_
      have h23_162 := hf162_ 146 23 rfl
      have i32_162 := iv_get hv162_ (k := 146) (j := 32) (l := 0) (u := 64) rfl
      have hroom162 := PS_room hq162_0 (by omega)
      have h163_ := iv_get hv162_ (k := 146) (j := 35) (l := 0) (u := 64) rfl
      refine jt_ite (fun c164_ => ?_) (fun c164_ => ?_)
      ·
        refine jt_bI (sp_X12_fails E d (jd_le hd rfl) 0 (a162_ 146 23) a162_ b0 hv162_) (fun r165_ a165_ b165_ h165_ => ?_)
        obtain ⟨hv165_, hf165_, rfl, hq165_0, hq165_1⟩ := h165_
        refine jt_grd (by omega) ?_
        have hf166_ : jfr jW_X12_either a0 a162_ := jfr_tr hf hf162_ rfl
        have hf167_ : jfr jW_X12_either a0 a165_ := jfr_tr hf166_ hf165_ rfl
        have h168_ := iv_get hv165_ (k := 146) (j := 23) (l := 0) (u := 200) rfl
        have h169_ : a165_ 146 23 = a162_ 146 23 := hf165_ 146 23 rfl
        have h170_ := iv_get hv162_ (k := 146) (j := 23) (l := 0) (u := 200) rfl
        have h171_ : a162_ 146 23 = a 146 23 := hf162_ 146 23 rfl
        have h172_ := iv_get hv165_ (k := 146) (j := 22) (l := 0) (u := 200) rfl
        have h173_ : a165_ 146 22 = a162_ 146 22 := hf165_ 146 22 rfl
        have h174_ := iv_get hv162_ (k := 146) (j := 22) (l := 0) (u := 200) rfl
        have h175_ : a162_ 146 22 = a 146 22 := hf162_ 146 22 rfl
        exact jt_rI ⟨hv165_, hf167_, rfl, (show (0 ≤ r165_ ∧ r165_ ≤ 1) from by omega), (show a0 146 23 ≤ a165_ 146 23 from by omega), (show a165_ 146 23 ≤ a165_ 146 22 from by omega), (fun h => by omega)⟩
      ·
        have h177_ : jxw ((a162_ 146 35) - 1) = (a162_ 146 35) - 1 := jxw_id (by omega) (by omega)
        have hv176_ : iv (jxu a162_ 146 35 (jxw ((a162_ 146 35) - 1))) := iv_put hv162_ (l := 0) (u := 64) rfl (by omega) (by omega)
        have hf178_ : jfr jW_X12_either a0 a162_ := jfr_tr hf hf162_ rfl
        have hf179_ : jfr jW_X12_either a0 (jxu a162_ 146 35 (jxw ((a162_ 146 35) - 1))) := jfr_put hf178_ rfl
        have h180_ := iv_get hv162_ (k := 146) (j := 23) (l := 0) (u := 200) rfl
        have h181_ : a162_ 146 23 = a 146 23 := hf162_ 146 23 rfl
        have h182_ := iv_get hv162_ (k := 146) (j := 22) (l := 0) (u := 200) rfl
        have h183_ : a162_ 146 22 = a 146 22 := hf162_ 146 22 rfl
        exact hc145 y1 (jxu a162_ 146 35 (jxw ((a162_ 146 35) - 1))) (show ((a162_ 146 22) - (a162_ 146 23)).toNat ≤ n from by omega) hv176_ hf179_ (show 0 ≤ y1 from by omega) (show y1 ≤ 0 from by omega) (show jxw ((a162_ 146 35) - 1) ≤ 63 from by omega) (show a162_ 146 23 ≤ a162_ 146 22 from by omega) (show a0 146 23 ≤ a162_ 146 23 from by omega) (show a162_ 146 22 ≤ 100 from by omega) (show y1 = 0 from by omega) (show a162_ 146 23 < a162_ 146 22 from by omega) (PS_par hq162_0 (by omega) (TOP_100 hq162_1 (by omega) (by omega) (Int.le_refl _) (fun j => (iv_get hv162_ (k := 169) (j := j) (l := 0) (u := 100) rfl).1)) (fun _ => rfl) (fun _ => rfl) rfl (show jxw ((a162_ 146 35) - 1) = a162_ 146 35 - 1 from (by omega)) (Int.le_refl _))
    ·
      refine jt_bV (sp_X12_closesDown E d (jd_le hd rfl) 0 a b0 hv hps (show a 146 23 ≤ 100 from by omega) (show 0 ≤ 0 from by omega)) (fun a184_ b184_ h184_ => ?_)
      obtain ⟨hv184_, hf184_, rfl, hq184_0, hq184_1⟩ := h184_
      have h23_184 := hf184_ 146 23 rfl
      have i32_184 := iv_get hv184_ (k := 146) (j := 32) (l := 0) (u := 64) rfl
      have hroom184 := PS_room hq184_0 (by omega)
      refine jt_ite (fun c185_ => ?_) (fun c185_ => ?_)
      ·
        have h186_ := iv_get hv184_ (k := 146) (j := 35) (l := 0) (u := 64) rfl
        refine jt_ite (fun c187_ => ?_) (fun c187_ => ?_)
        ·
          have hf188_ : jfr jW_X12_either a0 a184_ := jfr_tr hf hf184_ rfl
          have h189_ := iv_get hv184_ (k := 146) (j := 23) (l := 0) (u := 200) rfl
          have h190_ : a184_ 146 23 = a 146 23 := hf184_ 146 23 rfl
          have h191_ := iv_get hv184_ (k := 146) (j := 22) (l := 0) (u := 200) rfl
          have h192_ : a184_ 146 22 = a 146 22 := hf184_ 146 22 rfl
          exact jt_rI ⟨hv184_, hf188_, rfl, (show (0 ≤ 1 ∧ 1 ≤ 1) from by omega), (show a0 146 23 ≤ a184_ 146 23 from by omega), (show a184_ 146 23 ≤ a184_ 146 22 from by omega), (fun _ => hq184_0.1)⟩
        ·
          have hf193_ : jfr jW_X12_either a0 a184_ := jfr_tr hf hf184_ rfl
          have h194_ := iv_get hv184_ (k := 146) (j := 23) (l := 0) (u := 200) rfl
          have h195_ : a184_ 146 23 = a 146 23 := hf184_ 146 23 rfl
          have h196_ := iv_get hv184_ (k := 146) (j := 22) (l := 0) (u := 200) rfl
          have h197_ : a184_ 146 22 = a 146 22 := hf184_ 146 22 rfl
          exact cp_X12_either_175 E d hd a0 b0 hv0 hp0 hp1 a184_ hv184_ hf193_ (show a184_ 146 23 ≤ a184_ 146 22 from by omega) (show a0 146 23 ≤ a184_ 146 23 from by omega) (show a184_ 146 22 ≤ 100 from by omega)
      ·
        have hf198_ : jfr jW_X12_either a0 a184_ := jfr_tr hf hf184_ rfl
        have h199_ := iv_get hv184_ (k := 146) (j := 23) (l := 0) (u := 200) rfl
        have h200_ : a184_ 146 23 = a 146 23 := hf184_ 146 23 rfl
        have h201_ := iv_get hv184_ (k := 146) (j := 22) (l := 0) (u := 200) rfl
        have h202_ : a184_ 146 22 = a 146 22 := hf184_ 146 22 rfl
        exact cp_X12_either_175 E d hd a0 b0 hv0 hp0 hp1 a184_ hv184_ hf198_ (show a184_ 146 23 ≤ a184_ 146 22 from by omega) (show a0 146 23 ≤ a184_ 146 23 from by omega) (show a184_ 146 22 ≤ 100 from by omega)
  have hc30 : ∀ (a : Nat → Nat → Int), ((a 146 22) - (a 146 23)).toNat ≤ n → iv a → jfr jW_X12_either a0 a → a 146 23 ≤ a 146 22 → a0 146 23 ≤ a 146 23 → a 146 22 ≤ 100 → (PS a 1) → jt (jxX E d 224 30 [some (.inr (.inr (.inl 146))), none, none, none] [] (jxSH, a, b0)) (jQ_X12_either a0 b0) := by
    intro a hm hv hf hi0 hi1 hi2 hps
    refine jt_eq (bq_X12_either_30 E d a b0) ?_
    have h203_ := iv_get hv (k := 146) (j := 23) (l := 0) (u := 200) rfl
    have h204_ := iv_get hv (k := 146) (j := 22) (l := 0) (u := 200) rfl
    have h205_ : a 146 22 = a0 146 22 := hf 146 22 rfl
    have h206_ := iv_get hv0 (k := 146) (j := 22) (l := 0) (u := 200) rfl
    have h207_ := iv_get hv0 (k := 146) (j := 23) (l := 0) (u := 200) rfl
    refine jt_bV (sp_X12_closesNots E d (jd_le hd rfl) a b0 hv hps (show a 146 23 ≤ 100 from by omega)) (fun a208_ b208_ h208_ => ?_)
    obtain ⟨hv208_, hf208_, rfl, hq208_0⟩ := h208_
    have h209_ := iv_get hv208_ (k := 146) (j := 23) (l := 0) (u := 200) rfl
    have h210_ : a208_ 146 23 = a 146 23 := hf208_ 146 23 rfl
    have h211_ := iv_get hv208_ (k := 146) (j := 22) (l := 0) (u := 200) rfl
    have h212_ : a208_ 146 22 = a 146 22 := hf208_ 146 22 rfl
    refine jt_bI (sp_X12_see E d (jd_le hd rfl) a208_ b0 hv208_ (show a208_ 146 23 ≤ a208_ 146 22 from by omega)) (fun r213_ a213_ b213_ h213_ => ?_)
    obtain ⟨hv213_, hf213_, rfl, hq213_0, hq213_1, hq213_2, hq213_3⟩ := h213_
    have h214_ := iv_get hv213_ (k := 146) (j := 23) (l := 0) (u := 200) rfl
    have h215_ := iv_get hv213_ (k := 164) (j := (a213_ 146 23).toNat) (l := (-128)) (u := 127) rfl
    have h216_ : a213_ 164 ((a213_ 146 23).toNat) = a208_ 164 ((a213_ 146 23).toNat) := hf213_ 164 ((a213_ 146 23).toNat) rfl
    have h217_ := iv_get hv208_ (k := 164) (j := (a213_ 146 23).toNat) (l := (-128)) (u := 127) rfl
    have h218_ : a208_ 164 ((a213_ 146 23).toNat) = a 164 ((a213_ 146 23).toNat) := hf208_ 164 ((a213_ 146 23).toNat) rfl
    have h219_ := iv_get hv (k := 164) (j := (a213_ 146 23).toNat) (l := (-128)) (u := 127) rfl
    have h220_ : a 164 ((a213_ 146 23).toNat) = a0 164 ((a213_ 146 23).toNat) := hf 164 ((a213_ 146 23).toNat) rfl
    have h221_ := iv_get hv0 (k := 164) (j := (a213_ 146 23).toNat) (l := (-128)) (u := 127) rfl
    have h222_ : a208_ 164 ((a208_ 146 23).toNat) = a208_ 164 ((a 146 23).toNat) := by rw [show a208_ 146 23 = a 146 23 from by omega]
    have h223_ := iv_get hv208_ (k := 164) (j := (a 146 23).toNat) (l := (-128)) (u := 127) rfl
    have h224_ : a208_ 164 ((a 146 23).toNat) = a 164 ((a 146 23).toNat) := hf208_ 164 ((a 146 23).toNat) rfl
    have h225_ := iv_get hv (k := 164) (j := (a 146 23).toNat) (l := (-128)) (u := 127) rfl
    have h226_ : a 164 ((a 146 23).toNat) = a0 164 ((a 146 23).toNat) := hf 164 ((a 146 23).toNat) rfl
    have h227_ := iv_get hv0 (k := 164) (j := (a 146 23).toNat) (l := (-128)) (u := 127) rfl
    have h228_ := iv_get hv208_ (k := 164) (j := (a208_ 146 23).toNat) (l := (-128)) (u := 127) rfl
    have h229_ : a208_ 164 ((a208_ 146 23).toNat) = a 164 ((a208_ 146 23).toNat) := hf208_ 164 ((a208_ 146 23).toNat) rfl
    have h230_ : a 164 ((a208_ 146 23).toNat) = a 164 ((a 146 23).toNat) := by rw [show a208_ 146 23 = a 146 23 from by omega]
    have h231_ := iv_get hv (k := 164) (j := (a208_ 146 23).toNat) (l := (-128)) (u := 127) rfl
    have h232_ : a 164 ((a208_ 146 23).toNat) = a0 164 ((a208_ 146 23).toNat) := hf 164 ((a208_ 146 23).toNat) rfl
    have h233_ : a0 164 ((a208_ 146 23).toNat) = a0 164 ((a 146 23).toNat) := by rw [show a208_ 146 23 = a 146 23 from by omega]
    have h234_ := iv_get hv0 (k := 164) (j := (a208_ 146 23).toNat) (l := (-128)) (u := 127) rfl
    have h235_ := iv_get hv213_ (k := 146) (j := 22) (l := 0) (u := 200) rfl
    have h236_ : a213_ 146 22 = a208_ 146 22 := hf213_ 146 22 rfl
    refine jt_bI (sp_X12_wordHere E d (jd_le hd rfl) a213_ b0 hv213_ (show a213_ 146 23 ≤ a213_ 146 22 from by omega)) (fun r237_ a237_ b237_ h237_ => ?_)
    obtain ⟨hv237_, hf237_, rfl, hq237_0, hq237_1, hq237_2, hq237_3, hq237_4, hq237_5, hq237_6⟩ := h237_
    have h238_ := iv_get hv237_ (k := 146) (j := 23) (l := 0) (u := 200) rfl
    have h239_ := iv_get hv237_ (k := 146) (j := 25) (l := 0) (u := 200) rfl
    have h240_ := iv_get hv237_ (k := 146) (j := 22) (l := 0) (u := 200) rfl
    have h241_ : a237_ 146 22 = a213_ 146 22 := hf237_ 146 22 rfl
    refine jt_ite (fun c242_ => ?_) (fun c242_ => ?_)
    ·
      have hf243_ : jfr jW_X12_either a0 a208_ := jfr_tr hf hf208_ rfl
      have hf244_ : jfr jW_X12_either a0 a213_ := jfr_tr hf243_ hf213_ rfl
      have hf245_ : jfr jW_X12_either a0 a237_ := jfr_tr hf244_ hf237_ rfl
      exact hc55 r237_ a237_ (show ((a237_ 146 22) - (a237_ 146 23)).toNat ≤ n from by omega) hv237_ hf245_ (show 0 ≤ r237_ from by omega) (show r237_ ≤ 1 from by omega) (show a237_ 146 23 ≤ a237_ 146 22 from by omega) (show a0 146 23 ≤ a237_ 146 23 from by omega) (show a237_ 146 22 ≤ 100 from by omega) (PS_next (PS_next hq208_0 (fun k => hf213_ 168 k rfl) (fun k => hf213_ 169 k rfl) (hf213_ 146 32 rfl) (hf213_ 146 35 rfl) (by omega)) (fun k => hf237_ 168 k rfl) (fun k => hf237_ 169 k rfl) (hf237_ 146 32 rfl) (hf237_ 146 35 rfl) (by omega)) (show (r237_ = 0 ∨ r237_ = 1) from by omega) (show (a237_ 146 23) + (a237_ 146 25) ≤ a237_ 146 22 from by omega) (show 2 ≤ a237_ 146 25 from by omega)
    ·
      refine jt_ite (fun c246_ => ?_) (fun c246_ => ?_)
      ·
        have hf247_ : jfr jW_X12_either a0 a208_ := jfr_tr hf hf208_ rfl
        have hf248_ : jfr jW_X12_either a0 a213_ := jfr_tr hf247_ hf213_ rfl
        have hf249_ : jfr jW_X12_either a0 a237_ := jfr_tr hf248_ hf237_ rfl
        exact hc55 r237_ a237_ (show ((a237_ 146 22) - (a237_ 146 23)).toNat ≤ n from by omega) hv237_ hf249_ (show 0 ≤ r237_ from by omega) (show r237_ ≤ 1 from by omega) (show a237_ 146 23 ≤ a237_ 146 22 from by omega) (show a0 146 23 ≤ a237_ 146 23 from by omega) (show a237_ 146 22 ≤ 100 from by omega) (PS_next (PS_next hq208_0 (fun k => hf213_ 168 k rfl) (fun k => hf213_ 169 k rfl) (hf213_ 146 32 rfl) (hf213_ 146 35 rfl) (by omega)) (fun k => hf237_ 168 k rfl) (fun k => hf237_ 169 k rfl) (hf237_ 146 32 rfl) (hf237_ 146 35 rfl) (by omega)) (show (r237_ = 0 ∨ r237_ = 1) from by omega) (show (a237_ 146 23) + (a237_ 146 25) ≤ a237_ 146 22 from by omega) (show 2 ≤ a237_ 146 25 from by omega)
      ·
        have hf250_ : jfr jW_X12_either a0 a208_ := jfr_tr hf hf208_ rfl
        have hf251_ : jfr jW_X12_either a0 a213_ := jfr_tr hf250_ hf213_ rfl
        have hf252_ : jfr jW_X12_either a0 a237_ := jfr_tr hf251_ hf237_ rfl
        exact hc107 0 r213_ a237_ (show ((a237_ 146 22) - (a237_ 146 23)).toNat ≤ n from by omega) hv237_ hf252_ (show 0 ≤ 0 from by omega) (show 0 ≤ 0 from by omega) (show 0 - 1 ≤ r213_ from by omega) (show r213_ ≤ 255 from by omega) (show a237_ 146 23 ≤ a237_ 146 22 from by omega) (show a0 146 23 ≤ a237_ 146 23 from by omega) (show a237_ 146 22 ≤ 100 from by omega) (PS_next (PS_next hq208_0 (fun k => hf213_ 168 k rfl) (fun k => hf213_ 169 k rfl) (hf213_ 146 32 rfl) (hf213_ 146 35 rfl) (by omega)) (fun k => hf237_ 168 k rfl) (fun k => hf237_ 169 k rfl) (hf237_ 146 32 rfl) (hf237_ 146 35 rfl) (by omega)) (show 0 = 0 from by omega) (show 0 - 1 ≤ r213_ from by omega) (show (0 ≤ r213_ → a237_ 146 23 < a237_ 146 22) from by omega)
  have hc17 : ∀ (y1 : Int) (a : Nat → Nat → Int), ((a 146 22) - (a 146 23)).toNat ≤ n → iv a → jfr jW_X12_either a0 a → 0 ≤ y1 → y1 ≤ 1 → a 146 23 ≤ a 146 22 → a0 146 23 ≤ a 146 23 → a 146 22 ≤ 100 → (y1 = 0 ∨ y1 = 1) → ((y1 = 1 → PS a 0) ∧ (y1 = 0 → PS a 1)) → jt (jxX E d 224 17 [some (.inr (.inr (.inl 146))), some (.inl y1), none, none] [] (jxSH, a, b0)) (jQ_X12_either a0 b0) := by
    intro y1 a hm hv hf hi0 hi1 hi2 hi3 hi4 hi5 hpp
    refine jt_eq (bq_X12_either_17 E d y1 a b0) ?_
    have h253_ := iv_get hv (k := 146) (j := 23) (l := 0) (u := 200) rfl
    have h254_ := iv_get hv (k := 146) (j := 22) (l := 0) (u := 200) rfl
    have h255_ : a 146 22 = a0 146 22 := hf 146 22 rfl
    have h256_ := iv_get hv0 (k := 146) (j := 22) (l := 0) (u := 200) rfl
    have h257_ := iv_get hv0 (k := 146) (j := 23) (l := 0) (u := 200) rfl
    refine jt_ite (fun c258_ => ?_) (fun c258_ => ?_)
    ·
      exact hc30 a (show ((a 146 22) - (a 146 23)).toNat ≤ n from by omega) hv hf (show a 146 23 ≤ a 146 22 from by omega) (show a0 146 23 ≤ a 146 23 from by omega) (show a 146 22 ≤ 100 from by omega) (hpp.2 (by omega))
    ·
      refine jt_bI (sp_X12_begins E d (jd_le hd rfl) a b0 hv (hpp.1 (by omega)) (show a 146 23 ≤ a 146 22 from by omega) (show a 146 22 ≤ 100 from by omega)) (fun r259_ a259_ b259_ h259_ => ?_)
      obtain ⟨hv259_, hf259_, rfl, hq259_0, hq259_1, hq259_2, hq259_3, hq259_4⟩ := h259_
      have h260_ := iv_get hv259_ (k := 146) (j := 23) (l := 0) (u := 200) rfl
      have h261_ := iv_get hv259_ (k := 146) (j := 22) (l := 0) (u := 200) rfl
      have h262_ : a259_ 146 22 = a 146 22 := hf259_ 146 22 rfl
      refine jt_ite (fun c263_ => ?_) (fun c263_ => ?_)
      ·
        have hf264_ : jfr jW_X12_either a0 a259_ := jfr_tr hf hf259_ rfl
        exact jt_rI ⟨hv259_, hf264_, rfl, (show (0 ≤ 0 ∧ 0 ≤ 1) from by omega), (show a0 146 23 ≤ a259_ 146 23 from by omega), (show a259_ 146 23 ≤ a259_ 146 22 from by omega), (fun h => by omega)⟩
      ·
        have hf265_ : jfr jW_X12_either a0 a259_ := jfr_tr hf hf259_ rfl
        exact hc30 a259_ (show ((a259_ 146 22) - (a259_ 146 23)).toNat ≤ n from by omega) hv259_ hf265_ (show a259_ 146 23 ≤ a259_ 146 22 from by omega) (show a0 146 23 ≤ a259_ 146 23 from by omega) (show a259_ 146 22 ≤ 100 from by omega) (hq259_3 (by omega))
  exact ⟨hc102, hc66, hc55, hc145, hc107, hc30, hc17⟩
theorem sp_X12_either (E : jxE) (d : Nat) (hd : Nat.ble 5 d = true) (a0 b0 : Nat → Nat → Int) (hv0 : iv a0) (hp0 : a0 146 23 ≤ a0 146 22) (hp1 : a0 146 22 ≤ 100) : jt (jxC E d 224 [.inr (.inr (.inl 146))] (jxSH, a0, b0)) (jQ_X12_either a0 b0) := by
  obtain ⟨d, rfl⟩ := jd_succ hd
  refine jt_eq (bq_X12_either E d a0 b0) ?_
  have h266_ := iv_get hv0 (k := 146) (j := 23) (l := 0) (u := 200) rfl
  have h267_ := iv_get hv0 (k := 146) (j := 22) (l := 0) (u := 200) rfl
  have hv268_ : iv (jxu a0 146 32 0) := iv_put hv0 (l := 0) (u := 64) rfl (by omega) (by omega)
  have hv269_ : iv (jxu (jxu a0 146 32 0) 146 33 0) := iv_put hv268_ (l := 0) (u := 12) rfl (by omega) (by omega)
  have hv270_ : iv (jxu (jxu (jxu a0 146 32 0) 146 33 0) 146 35 0) := iv_put hv269_ (l := 0) (u := 64) rfl (by omega) (by omega)
  have hf271_ : jfr jW_X12_either a0 (jxu a0 146 32 0) := jfr_put (jfr_rf _ _) rfl
  have hf272_ : jfr jW_X12_either a0 (jxu (jxu a0 146 32 0) 146 33 0) := jfr_put hf271_ rfl
  have hf273_ : jfr jW_X12_either a0 (jxu (jxu (jxu a0 146 32 0) 146 33 0) 146 35 0) := jfr_put hf272_ rfl
  exact (cp_X12_either_17 E d hd a0 b0 hv0 hp0 hp1 _).2.2.2.2.2.2 1 (jxu (jxu (jxu a0 146 32 0) 146 33 0) 146 35 0) (Nat.le_refl _) hv270_ hf273_ (show 0 ≤ 1 from by omega) (show 1 ≤ 1 from by omega) (show a0 146 23 ≤ a0 146 22 from by omega) (show a0 146 23 ≤ a0 146 23 from by omega) (show a0 146 22 ≤ 100 from by omega) (show (1 = 0 ∨ 1 = 1) from by omega) (by first | exact ⟨fun _ => PS_start rfl rfl (by first | (show 0 ≤ a0 146 23; omega) | omega), fun h => (by omega)⟩ | exact ⟨fun _ => hps, fun h => (by omega)⟩ | exact ⟨fun h => (by omega), fun _ => PS_next hps (fun _ => rfl) (fun _ => rfl) rfl rfl (by show a 146 23 ≤ jxw ((a 146 23) + 1); omega)⟩)
def jW_X12_wish : List (Nat × Nat) := [(146, 22), (146, 23), (146, 24), (146, 25), (146, 26), (146, 27), (146, 32), (146, 33), (146, 35), (166, 9999), (167, 9999), (168, 9999), (169, 9999)]
abbrev jQ_X12_wish (x1 : Int) (a0 b0 : Nat → Nat → Int) : List jxV → (Nat → Nat → Int) → (Nat → Nat → Int) → Prop := rI (fun r a b => (iv a) ∧ (jfr jW_X12_wish a0 a) ∧ (b0 = b) ∧ (WFW a))
theorem cp_X12_wish_89 (E : jxE) (d : Nat) (hd : Nat.ble 6 (d + 1) = true) (x1 : Int) (a0 b0 : Nat → Nat → Int) (hv0 : iv a0) (hp0 : WFW a0) : ∀ n : Nat, (∀ (y1 y3 : Int) (a : Nat → Nat → Int), (((64 - y3) * 1) + 0).toNat ≤ n → iv a → jfr jW_X12_wish a0 a → 0 ≤ y1 → y1 ≤ 39 → 0 ≤ y3 → y3 ≤ 63 → a 146 22 ≤ 0 → 1 ≤ a 146 32 → 0 ≤ y3 → y3 < a 146 32 → (WW a y1 (jxw (y3 + 1))) → jt (jxX E d 225 114 [some (.inr (.inr (.inl 146))), some (.inl y1), none, some (.inl y3)] [] (jxSH, a, b0)) (jQ_X12_wish x1 a0 b0)) ∧ (∀ (y1 y3 : Int) (a : Nat → Nat → Int), (((64 - y3) * 1) + 0).toNat ≤ n → iv a → jfr jW_X12_wish a0 a → 0 ≤ y1 → y1 ≤ 39 → 0 ≤ y3 → y3 ≤ 64 → a 146 22 ≤ 0 → 0 ≤ y3 → (WW a y1 y3) → jt (jxX E d 225 89 [some (.inr (.inr (.inl 146))), some (.inl y1), none, some (.inl y3)] [] (jxSH, a, b0)) (jQ_X12_wish x1 a0 b0)) := by
  refine jx_ind fun n ih => ?_
  have ih114 : ∀ (y1 y3 : Int) (a : Nat → Nat → Int), (((64 - y3) * 1) + 0).toNat < n → iv a → jfr jW_X12_wish a0 a → 0 ≤ y1 → y1 ≤ 39 → 0 ≤ y3 → y3 ≤ 63 → a 146 22 ≤ 0 → 1 ≤ a 146 32 → 0 ≤ y3 → y3 < a 146 32 → (WW a y1 (jxw (y3 + 1))) → jt (jxX E d 225 114 [some (.inr (.inr (.inl 146))), some (.inl y1), none, some (.inl y3)] [] (jxSH, a, b0)) (jQ_X12_wish x1 a0 b0) := fun y1 y3 a hlt i0 i1 i2 i3 i4 i5 i6 i7 i8 i9 i10 => (ih _ hlt).1 y1 y3 a (Nat.le_refl _) i0 i1 i2 i3 i4 i5 i6 i7 i8 i9 i10
  have ih89 : ∀ (y1 y3 : Int) (a : Nat → Nat → Int), (((64 - y3) * 1) + 0).toNat < n → iv a → jfr jW_X12_wish a0 a → 0 ≤ y1 → y1 ≤ 39 → 0 ≤ y3 → y3 ≤ 64 → a 146 22 ≤ 0 → 0 ≤ y3 → (WW a y1 y3) → jt (jxX E d 225 89 [some (.inr (.inr (.inl 146))), some (.inl y1), none, some (.inl y3)] [] (jxSH, a, b0)) (jQ_X12_wish x1 a0 b0) := fun y1 y3 a hlt i0 i1 i2 i3 i4 i5 i6 i7 i8 => (ih _ hlt).2 y1 y3 a (Nat.le_refl _) i0 i1 i2 i3 i4 i5 i6 i7 i8
  have hc114 : ∀ (y1 y3 : Int) (a : Nat → Nat → Int), (((64 - y3) * 1) + 0).toNat ≤ n → iv a → jfr jW_X12_wish a0 a → 0 ≤ y1 → y1 ≤ 39 → 0 ≤ y3 → y3 ≤ 63 → a 146 22 ≤ 0 → 1 ≤ a 146 32 → 0 ≤ y3 → y3 < a 146 32 → (WW a y1 (jxw (y3 + 1))) → jt (jxX E d 225 114 [some (.inr (.inr (.inl 146))), some (.inl y1), none, some (.inl y3)] [] (jxSH, a, b0)) (jQ_X12_wish x1 a0 b0) := by
    intro y1 y3 a hm hv hf hi0 hi1 hi2 hi3 hi4 hi5 hi6 hi7 hww
    refine jt_eq (bq_X12_wish_114 E d y1 y3 a b0) ?_
    have h274_ := iv_get hv (k := 146) (j := 22) (l := 0) (u := 200) rfl
    have h275_ := iv_get hv (k := 146) (j := 32) (l := 0) (u := 64) rfl
    have h276_ : jxw (y3 + 1) = y3 + 1 := jxw_id (by omega) (by omega)
    exact ih89 y1 (jxw (y3 + 1)) a (show (((64 - (jxw (y3 + 1))) * 1) + 0).toNat < n from by omega) hv hf (show 0 ≤ y1 from by omega) (show y1 ≤ 39 from by omega) (show 0 ≤ jxw (y3 + 1) from by omega) (show jxw (y3 + 1) ≤ 64 from by omega) (show a 146 22 ≤ 0 from by omega) (show 0 ≤ jxw (y3 + 1) from by omega) (by first | exact WW_start (by assumption) (hjw (by omega)) | assumption)
  have hc89 : ∀ (y1 y3 : Int) (a : Nat → Nat → Int), (((64 - y3) * 1) + 0).toNat ≤ n → iv a → jfr jW_X12_wish a0 a → 0 ≤ y1 → y1 ≤ 39 → 0 ≤ y3 → y3 ≤ 64 → a 146 22 ≤ 0 → 0 ≤ y3 → (WW a y1 y3) → jt (jxX E d 225 89 [some (.inr (.inr (.inl 146))), some (.inl y1), none, some (.inl y3)] [] (jxSH, a, b0)) (jQ_X12_wish x1 a0 b0) := by
    intro y1 y3 a hm hv hf hi0 hi1 hi2 hi3 hi4 hi5 hww
    refine jt_eq (bq_X12_wish_89 E d y1 y3 a b0) ?_
    have h277_ := iv_get hv (k := 146) (j := 22) (l := 0) (u := 200) rfl
    have h278_ := iv_get hv (k := 146) (j := 32) (l := 0) (u := 64) rfl
    refine jt_ite (fun c279_ => ?_) (fun c279_ => ?_)
    ·
      refine jt_grd (by omega) ?_
      have h280_ : jxw (64 * y1) = 64 * y1 := jxw_id (by omega) (by omega)
      have h281_ : jxw ((jxw (64 * y1)) + y3) = (jxw (64 * y1)) + y3 := jxw_id (by omega) (by omega)
      refine jt_grd (by omega) ?_
      have hv282_ : iv (jxu a 166 ((jxw ((jxw (64 * y1)) + y3)).toNat) (a 168 (y3.toNat))) := iv_putf hv rfl
      have hf283_ : jfr jW_X12_wish a0 (jxu a 166 ((jxw ((jxw (64 * y1)) + y3)).toNat) (a 168 (y3.toNat))) := jfr_put hf rfl
      exact hc114 y1 y3 (jxu a 166 ((jxw ((jxw (64 * y1)) + y3)).toNat) (a 168 (y3.toNat))) (show (((64 - y3) * 1) + 0).toNat ≤ n from by omega) hv282_ hf283_ (show 0 ≤ y1 from by omega) (show y1 ≤ 39 from by omega) (show 0 ≤ y3 from by omega) (show y3 ≤ 63 from by omega) (show a 146 22 ≤ 0 from by omega) (show 1 ≤ a 146 32 from by omega) (show 0 ≤ y3 from by omega) (show y3 < a 146 32 from by omega) (WW_step hww (fun q => (iv_get hv (k := 167) (j := q) (l := 0) (u := 64) rfl).2) (by omega) (by omega) (by omega) (by rw [jxw_id (x := 64 * y1) (by omega) (by omega), jxw_id (by omega) (by omega)]) (jxw_id (by omega) (by omega)))
    ·
      exact jt_rI ⟨hv, hf, rfl, (WW_done hww (by omega) (by omega))⟩
  exact ⟨hc114, hc89⟩
theorem cp_X12_wish_59 (E : jxE) (d : Nat) (hd : Nat.ble 6 (d + 1) = true) (x1 : Int) (a0 b0 : Nat → Nat → Int) (hv0 : iv a0) (hp0 : WFW a0) : ∀ (y1 s0 : Int) (a : Nat → Nat → Int), iv a → jfr jW_X12_wish a0 a → 0 ≤ y1 → y1 ≤ 39 → 0 ≤ s0 → s0 ≤ 1 → a 146 22 ≤ 100 → (s0 = 0 ∨ s0 = 1) → (s0 = 1 → jwf (a 168) (a 146 32).toNat) → (WFW a) → jt (jxX E d 225 59 [some (.inr (.inr (.inl 146))), some (.inl y1), none, none] [.inl s0] (jxSH, a, b0)) (jQ_X12_wish x1 a0 b0) := by
  intro y1 s0 a hv hf hi0 hi1 hi2 hi3 hi4 hi5 hjw hi7
  refine jt_eq (bq_X12_wish_59 E d y1 s0 a b0) ?_
  have h284_ := iv_get hv (k := 146) (j := 22) (l := 0) (u := 200) rfl
  refine jt_ite (fun c285_ => ?_) (fun c285_ => ?_)
  ·
    have hv286_ : iv (jxu a 146 22 0) := iv_put hv (l := 0) (u := 200) rfl (by omega) (by omega)
    have hf287_ : jfr jW_X12_wish a0 (jxu a 146 22 0) := jfr_put hf rfl
    have hg288_ : WFW (jxu a 146 22 0) := (WFW_fr hi7 (jfr_1s a 146 22 0) (fun _ => rfl) (fun _ => rfl))
    exact jt_rI ⟨hv286_, hf287_, rfl, hg288_⟩
  ·
    refine jt_grd (by omega) ?_
    have hv289_ : iv (jxu a 146 22 0) := iv_put hv (l := 0) (u := 200) rfl (by omega) (by omega)
    have h291_ := iv_get hv (k := 146) (j := 32) (l := 0) (u := 64) rfl
    have hv290_ : iv (jxu (jxu a 146 22 0) 167 (y1.toNat) (a 146 32)) := iv_put hv289_ (l := 0) (u := 64) rfl (by omega) (by omega)
    have hf292_ : jfr jW_X12_wish a0 (jxu a 146 22 0) := jfr_put hf rfl
    have hf293_ : jfr jW_X12_wish a0 (jxu (jxu a 146 22 0) 167 (y1.toNat) (a 146 32)) := jfr_put hf292_ rfl
    exact (cp_X12_wish_89 E d hd x1 a0 b0 hv0 hp0 _).2 y1 0 (jxu (jxu a 146 22 0) 167 (y1.toNat) (a 146 32)) (Nat.le_refl _) hv290_ hf293_ (show 0 ≤ y1 from by omega) (show y1 ≤ 39 from by omega) (show 0 ≤ 0 from by omega) (show 0 ≤ 64 from by omega) (show 0 ≤ 0 from by omega) (show 0 ≤ 0 from by omega) (by first | exact WW_start (by assumption) (hjw (by omega)) | assumption)
theorem cp_X12_wish_54 (E : jxE) (d : Nat) (hd : Nat.ble 6 (d + 1) = true) (x1 : Int) (a0 b0 : Nat → Nat → Int) (hv0 : iv a0) (hp0 : WFW a0) : ∀ (y1 : Int) (a : Nat → Nat → Int), iv a → jfr jW_X12_wish a0 a → 0 ≤ y1 → y1 ≤ 39 → a 146 22 ≤ 100 → 0 ≤ a 146 32 → (jwf (a 168) (a 146 32).toNat) → (WFW a) → jt (jxX E d 225 54 [some (.inr (.inr (.inl 146))), some (.inl y1), none, none] [] (jxSH, a, b0)) (jQ_X12_wish x1 a0 b0) := by
  intro y1 a hv hf hi0 hi1 hi2 hi3 hjw hi5
  refine jt_eq (bq_X12_wish_54 E d y1 a b0) ?_
  have h294_ := iv_get hv (k := 146) (j := 22) (l := 0) (u := 200) rfl
  have h295_ := iv_get hv (k := 146) (j := 32) (l := 0) (u := 64) rfl
  exact cp_X12_wish_59 E d hd x1 a0 b0 hv0 hp0 y1 1 a hv hf (show 0 ≤ y1 from by omega) (show y1 ≤ 39 from by omega) (show 0 ≤ 1 from by omega) (show 1 ≤ 1 from by omega) (show a 146 22 ≤ 100 from by omega) (show (1 = 0 ∨ 1 = 1) from by omega) (by first | exact fun _ => hjw | exact fun h => (by omega)) hi5
theorem cp_X12_wish_29 (E : jxE) (d : Nat) (hd : Nat.ble 6 (d + 1) = true) (x1 : Int) (a0 b0 : Nat → Nat → Int) (hv0 : iv a0) (hp0 : WFW a0) : ∀ (y1 : Int) (a : Nat → Nat → Int), iv a → jfr jW_X12_wish a0 a → 0 ≤ y1 → y1 ≤ 39 → a 146 22 ≤ 100 → a 146 23 ≤ a 146 22 → a 146 22 ≤ 100 → (WFW a) → jt (jxX E d 225 29 [some (.inr (.inr (.inl 146))), some (.inl y1), none, none] [] (jxSH, a, b0)) (jQ_X12_wish x1 a0 b0) := by
  intro y1 a hv hf hi0 hi1 hi2 hi3 hi4 hi5
  refine jt_eq (bq_X12_wish_29 E d y1 a b0) ?_
  have h296_ := iv_get hv (k := 146) (j := 22) (l := 0) (u := 200) rfl
  have h297_ := iv_get hv (k := 146) (j := 23) (l := 0) (u := 200) rfl
  have hv298_ : iv (jxu a 146 32 0) := iv_put hv (l := 0) (u := 64) rfl (by omega) (by omega)
  have hv299_ : iv (jxu (jxu a 146 32 0) 146 33 0) := iv_put hv298_ (l := 0) (u := 12) rfl (by omega) (by omega)
  refine jt_bI (sp_X12_see E d (jd_le hd rfl) (jxu (jxu a 146 32 0) 146 33 0) b0 hv299_ (show a 146 23 ≤ a 146 22 from by omega)) (fun r300_ a300_ b300_ h300_ => ?_)
  obtain ⟨hv300_, hf300_, rfl, hq300_0, hq300_1, hq300_2, hq300_3⟩ := h300_
  have h301_ := iv_get hv300_ (k := 146) (j := 23) (l := 0) (u := 200) rfl
  have h302_ : a 146 23 ≤ a300_ 146 23 := hq300_0
  have h303_ : a300_ 146 23 ≤ a 146 22 := hq300_1
  have h304_ := iv_get hv300_ (k := 164) (j := (a300_ 146 23).toNat) (l := (-128)) (u := 127) rfl
  have h305_ : a300_ 164 ((a300_ 146 23).toNat) = a 164 ((a300_ 146 23).toNat) := hf300_ 164 ((a300_ 146 23).toNat) rfl
  have h306_ := iv_get hv (k := 164) (j := (a300_ 146 23).toNat) (l := (-128)) (u := 127) rfl
  have h307_ : a 164 ((a300_ 146 23).toNat) = a0 164 ((a300_ 146 23).toNat) := hf 164 ((a300_ 146 23).toNat) rfl
  have h308_ := iv_get hv0 (k := 164) (j := (a300_ 146 23).toNat) (l := (-128)) (u := 127) rfl
  have h309_ : ((r300_ = 0 - 1 ∧ a300_ 146 23 = a 146 22) ∨ (((0 ≤ r300_ ∧ r300_ ≤ 255) ∧ a300_ 146 23 < a 146 22) ∧ ¬ a300_ 164 ((a300_ 146 23).toNat) = 32)) := hq300_2
  have h310_ := iv_get hv (k := 164) (j := (a 146 23).toNat) (l := (-128)) (u := 127) rfl
  have h311_ : a 164 ((a 146 23).toNat) = a0 164 ((a 146 23).toNat) := hf 164 ((a 146 23).toNat) rfl
  have h312_ := iv_get hv0 (k := 164) (j := (a 146 23).toNat) (l := (-128)) (u := 127) rfl
  have h313_ : ((a 146 23 < a 146 22 ∧ ¬ a 164 ((a 146 23).toNat) = 32) → a300_ 146 23 = a 146 23) := hq300_3
  refine jt_ite (fun c314_ => ?_) (fun c314_ => ?_)
  ·
    have hf315_ : jfr jW_X12_wish a0 (jxu a 146 32 0) := jfr_put hf rfl
    have hf316_ : jfr jW_X12_wish a0 (jxu (jxu a 146 32 0) 146 33 0) := jfr_put hf315_ rfl
    have hf317_ : jfr jW_X12_wish a0 a300_ := jfr_tr hf316_ hf300_ rfl
    have h318_ := iv_get hv300_ (k := 146) (j := 22) (l := 0) (u := 200) rfl
    have h319_ : a300_ 146 22 = a 146 22 := hf300_ 146 22 rfl
    have h320_ := iv_get hv300_ (k := 146) (j := 32) (l := 0) (u := 64) rfl
    have h321_ : a300_ 146 32 = 0 := hf300_ 146 32 rfl
    have hg322_ : WFW (jxu a 146 32 0) := (WFW_fr hi5 (jfr_1s a 146 32 0) (fun _ => rfl) (fun _ => rfl))
    have hg323_ : WFW (jxu (jxu a 146 32 0) 146 33 0) := (WFW_fr hg322_ (jfr_1s (jxu a 146 32 0) 146 33 0) (fun _ => rfl) (fun _ => rfl))
    exact cp_X12_wish_54 E d hd x1 a0 b0 hv0 hp0 y1 a300_ hv300_ hf317_ (show 0 ≤ y1 from by omega) (show y1 ≤ 39 from by omega) (show a300_ 146 22 ≤ 100 from by omega) (show 0 ≤ a300_ 146 32 from by omega) (fun k hk => absurd hk (by omega)) (WFW_fr hg323_ hf300_ (fun _ => rfl) (fun _ => rfl))
  ·
    have h324_ := iv_get hv300_ (k := 146) (j := 22) (l := 0) (u := 200) rfl
    have h325_ : a300_ 146 22 = a 146 22 := hf300_ 146 22 rfl
    refine jt_bI (sp_X12_either E d (jd_le hd rfl) a300_ b0 hv300_ (show a300_ 146 23 ≤ a300_ 146 22 from by omega) (show a300_ 146 22 ≤ 100 from by omega)) (fun r326_ a326_ b326_ h326_ => ?_)
    obtain ⟨hv326_, hf326_, rfl, hq326_0, hq326_1, hq326_2, hq326_3⟩ := h326_
    have h327_ := iv_get hv326_ (k := 146) (j := 23) (l := 0) (u := 200) rfl
    have h328_ := iv_get hv326_ (k := 146) (j := 22) (l := 0) (u := 200) rfl
    have h329_ : a326_ 146 22 = a300_ 146 22 := hf326_ 146 22 rfl
    refine jt_ite (fun c330_ => ?_) (fun c330_ => ?_)
    ·
      have hf331_ : jfr jW_X12_wish a0 (jxu a 146 32 0) := jfr_put hf rfl
      have hf332_ : jfr jW_X12_wish a0 (jxu (jxu a 146 32 0) 146 33 0) := jfr_put hf331_ rfl
      have hf333_ : jfr jW_X12_wish a0 a300_ := jfr_tr hf332_ hf300_ rfl
      have hf334_ : jfr jW_X12_wish a0 a326_ := jfr_tr hf333_ hf326_ rfl
      have hg335_ : WFW (jxu a 146 32 0) := (WFW_fr hi5 (jfr_1s a 146 32 0) (fun _ => rfl) (fun _ => rfl))
      have hg336_ : WFW (jxu (jxu a 146 32 0) 146 33 0) := (WFW_fr hg335_ (jfr_1s (jxu a 146 32 0) 146 33 0) (fun _ => rfl) (fun _ => rfl))
      exact cp_X12_wish_59 E d hd x1 a0 b0 hv0 hp0 y1 0 a326_ hv326_ hf334_ (show 0 ≤ y1 from by omega) (show y1 ≤ 39 from by omega) (show 0 ≤ 0 from by omega) (show 0 ≤ 1 from by omega) (show a326_ 146 22 ≤ 100 from by omega) (show (0 = 0 ∨ 0 = 1) from by omega) (by first | exact fun _ => hjw | exact fun h => (by omega)) (WFW_fr (WFW_fr hg336_ hf300_ (fun _ => rfl) (fun _ => rfl)) hf326_ (fun _ => rfl) (fun _ => rfl))
    ·
      have hf337_ : jfr jW_X12_wish a0 (jxu a 146 32 0) := jfr_put hf rfl
      have hf338_ : jfr jW_X12_wish a0 (jxu (jxu a 146 32 0) 146 33 0) := jfr_put hf337_ rfl
      have hf339_ : jfr jW_X12_wish a0 a300_ := jfr_tr hf338_ hf300_ rfl
      have hf340_ : jfr jW_X12_wish a0 a326_ := jfr_tr hf339_ hf326_ rfl
      have h341_ := iv_get hv326_ (k := 146) (j := 32) (l := 0) (u := 64) rfl
      have hg342_ : WFW (jxu a 146 32 0) := (WFW_fr hi5 (jfr_1s a 146 32 0) (fun _ => rfl) (fun _ => rfl))
      have hg343_ : WFW (jxu (jxu a 146 32 0) 146 33 0) := (WFW_fr hg342_ (jfr_1s (jxu a 146 32 0) 146 33 0) (fun _ => rfl) (fun _ => rfl))
      exact cp_X12_wish_54 E d hd x1 a0 b0 hv0 hp0 y1 a326_ hv326_ hf340_ (show 0 ≤ y1 from by omega) (show y1 ≤ 39 from by omega) (show a326_ 146 22 ≤ 100 from by omega) (show 0 ≤ a326_ 146 32 from by omega) (hq326_3 (by omega)) (WFW_fr (WFW_fr hg343_ hf300_ (fun _ => rfl) (fun _ => rfl)) hf326_ (fun _ => rfl) (fun _ => rfl))
theorem sp_X12_wish (E : jxE) (d : Nat) (hd : Nat.ble 6 d = true) (x1 : Int) (a0 b0 : Nat → Nat → Int) (hv0 : iv a0) (hp0 : WFW a0) : jt (jxC E d 225 [.inr (.inr (.inl 146)), .inl x1] (jxSH, a0, b0)) (jQ_X12_wish x1 a0 b0) := by
  obtain ⟨d, rfl⟩ := jd_succ hd
  refine jt_eq (bq_X12_wish E d x1 a0 b0) ?_
  refine jt_eI (eq_X12_isMember E d (jd_le hd rfl) x1 a0 b0) ?_
  have h344_ := f_X12_isMember_eq a0 b0 x1
  have h345_ := iv_get hv0 (k := 146) (j := 2) (l := 0) (u := 40) rfl
  have h346_ : jxw ((a0 146 2) - 1) = (a0 146 2) - 1 := jxw_id (by omega) (by omega)
  have h347_ := f_X12_in_eq a0 b0 x1 0 (jxw ((a0 146 2) - 1))
  refine jt_ite (fun c348_ => ?_) (fun c348_ => ?_)
  ·
    exact jt_rI ⟨hv0, (jfr_rf _ _), rfl, hp0⟩
  ·
    have h349_ := iv_get hv0 (k := 146) (j := 22) (l := 0) (u := 200) rfl
    refine jt_ite (fun c350_ => ?_) (fun c350_ => ?_)
    ·
      exact jt_rI ⟨hv0, (jfr_rf _ _), rfl, hp0⟩
    ·
      have hv351_ : iv (jxu a0 146 23 0) := iv_put hv0 (l := 0) (u := 200) rfl (by omega) (by omega)
      have hv352_ : iv (jxu (jxu a0 146 23 0) 146 24 0) := iv_putf hv351_ rfl
      have hf353_ : jfr jW_X12_wish a0 (jxu a0 146 23 0) := jfr_put (jfr_rf _ _) rfl
      have hf354_ : jfr jW_X12_wish a0 (jxu (jxu a0 146 23 0) 146 24 0) := jfr_put hf353_ rfl
      have hg355_ : WFW (jxu a0 146 23 0) := (WFW_fr hp0 (jfr_1s a0 146 23 0) (fun _ => rfl) (fun _ => rfl))
      have hg356_ : WFW (jxu (jxu a0 146 23 0) 146 24 0) := (WFW_fr hg355_ (jfr_1s (jxu a0 146 23 0) 146 24 0) (fun _ => rfl) (fun _ => rfl))
      exact cp_X12_wish_29 E d hd x1 a0 b0 hv0 hp0 x1 (jxu (jxu a0 146 23 0) 146 24 0) hv352_ hf354_ (show 0 ≤ x1 from by omega) (show x1 ≤ 39 from by omega) (show a0 146 22 ≤ 100 from by omega) (show 0 ≤ a0 146 22 from by omega) (show a0 146 22 ≤ 100 from by omega) hg356_
