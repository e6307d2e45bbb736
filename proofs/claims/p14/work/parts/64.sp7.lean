def jW_X12_rings : List (Nat × Nat) := [(146, 56), (146, 58), (146, 64), (183, 9999), (184, 9999), (185, 9999), (186, 9999), (187, 9999), (189, 9999), (190, 9999), (191, 9999)]
abbrev jQ_X12_rings (a0 b0 : Nat → Nat → Int) : List jxV → (Nat → Nat → Int) → (Nat → Nat → Int) → Prop := rI (fun r a b => (iv a) ∧ (jfr jW_X12_rings a0 a) ∧ (b0 = b) ∧ (FO a) ∧ (FW a) ∧ ((a0 146 49 = 0 → r = 0)))
theorem cp_X12_rings_120 (E : jxE) (d : Nat) (hd : Nat.ble 4 (d + 1) = true) (a0 b0 : Nat → Nat → Int) (hv0 : iv a0) (hp0 : FO a0) (hp1 : FW a0) : ∀ n : Nat, (∀ (y1 y2 y3 y4 : Int) (a : Nat → Nat → Int), (((((4096 - y1) * 54006) + 0) + ((27000 - y4) * 1)) + 0).toNat ≤ n → iv a → jfr jW_X12_rings a0 a → 1 ≤ y1 → y1 ≤ 4095 → 0 ≤ y2 → y2 ≤ 11 → 0 ≤ y4 → y4 ≤ 26999 → (RS a) → (RF a (a 146 56 + 1)) → a 146 56 ≤ a 146 49 → 1 ≤ y1 → y1 ≤ 4095 → 0 ≤ y2 → y2 < a 146 56 → 0 ≤ y4 → y4 ≤ 26999 → (FO a) → (FW a) → jt (jxX E d 271 186 [some (.inr (.inr (.inl 146))), some (.inl y1), some (.inl y2), some (.inl y3), some (.inl y4), none] [] (jxSH, a, b0)) (jQ_X12_rings a0 b0)) ∧ (∀ (y1 y2 y3 y4 : Int) (a : Nat → Nat → Int), (((((4096 - y1) * 54006) + 0) + ((27000 - y4) * 1)) + 0).toNat ≤ n → iv a → jfr jW_X12_rings a0 a → 1 ≤ y1 → y1 ≤ 4095 → 0 ≤ y2 → y2 ≤ 11 → 0 ≤ y4 → y4 ≤ 26999 → (RS a) → (RF a (a 146 56 + 1)) → a 146 56 ≤ a 146 49 → 1 ≤ y1 → y1 ≤ 4095 → 0 ≤ y2 → y2 < a 146 56 → 0 ≤ y4 → y4 ≤ 26999 → (FO a) → (FW a) → jt (jxX E d 271 189 [some (.inr (.inr (.inl 146))), some (.inl y1), some (.inl y2), some (.inl y3), some (.inl y4), none] [] (jxSH, a, b0)) (jQ_X12_rings a0 b0)) ∧ (∀ (y1 : Int) (a : Nat → Nat → Int), (((4096 - y1) * 54006) + 27003).toNat ≤ n → iv a → jfr jW_X12_rings a0 a → 2 ≤ y1 → y1 ≤ 4096 → (RS a) → (RF a (a 146 56 + 1)) → a 146 56 ≤ a 146 49 → 1 ≤ y1 → (FO a) → (FW a) → jt (jxX E d 271 227 [some (.inr (.inr (.inl 146))), some (.inl y1), none, none, none, none] [] (jxSH, a, b0)) (jQ_X12_rings a0 b0)) ∧ (∀ (y1 y2 y3 y4 : Int) (a : Nat → Nat → Int), (((((4096 - y1) * 54006) + 0) + ((27000 - y4) * 1)) + 0).toNat ≤ n → iv a → jfr jW_X12_rings a0 a → 1 ≤ y1 → y1 ≤ 4095 → 0 ≤ y2 → y2 ≤ 11 → 0 ≤ y4 → y4 ≤ 27000 → (RS a) → (RF a (a 146 56 + 1)) → a 146 56 ≤ a 146 49 → 1 ≤ y1 → y1 ≤ 4095 → 0 ≤ y2 → y2 < a 146 56 → 0 ≤ y4 → (FO a) → (FW a) → jt (jxX E d 271 154 [some (.inr (.inr (.inl 146))), some (.inl y1), some (.inl y2), some (.inl y3), some (.inl y4), none] [] (jxSH, a, b0)) (jQ_X12_rings a0 b0)) ∧ (∀ (y1 y2 y3 : Int) (a : Nat → Nat → Int), (((4096 - y1) * 54006) + 27002).toNat ≤ n → iv a → jfr jW_X12_rings a0 a → 1 ≤ y1 → y1 ≤ 4095 → 0 ≤ y2 → y2 ≤ 11 → (RS a) → (RF a (a 146 56 + 1)) → a 146 56 ≤ a 146 49 → 1 ≤ y1 → y1 ≤ 4095 → 0 ≤ y2 → y2 < a 146 56 → (FO a) → (FW a) → jt (jxX E d 271 146 [some (.inr (.inr (.inl 146))), some (.inl y1), some (.inl y2), some (.inl y3), none, none] [] (jxSH, a, b0)) (jQ_X12_rings a0 b0)) ∧ (∀ (y1 : Int) (a : Nat → Nat → Int), (((4096 - y1) * 54006) + 27002).toNat ≤ n → iv a → jfr jW_X12_rings a0 a → 1 ≤ y1 → y1 ≤ 4096 → (RS a) → (RF a (a 146 56 + 1)) → a 146 56 ≤ a 146 49 → 1 ≤ y1 → (FO a) → (FW a) → jt (jxX E d 271 120 [some (.inr (.inr (.inl 146))), some (.inl y1), none, none, none, none] [] (jxSH, a, b0)) (jQ_X12_rings a0 b0)) := by
  refine jx_ind fun n ih => ?_
  have ih186 : ∀ (y1 y2 y3 y4 : Int) (a : Nat → Nat → Int), (((((4096 - y1) * 54006) + 0) + ((27000 - y4) * 1)) + 0).toNat < n → iv a → jfr jW_X12_rings a0 a → 1 ≤ y1 → y1 ≤ 4095 → 0 ≤ y2 → y2 ≤ 11 → 0 ≤ y4 → y4 ≤ 26999 → (RS a) → (RF a (a 146 56 + 1)) → a 146 56 ≤ a 146 49 → 1 ≤ y1 → y1 ≤ 4095 → 0 ≤ y2 → y2 < a 146 56 → 0 ≤ y4 → y4 ≤ 26999 → (FO a) → (FW a) → jt (jxX E d 271 186 [some (.inr (.inr (.inl 146))), some (.inl y1), some (.inl y2), some (.inl y3), some (.inl y4), none] [] (jxSH, a, b0)) (jQ_X12_rings a0 b0) := fun y1 y2 y3 y4 a hlt i0 i1 i2 i3 i4 i5 i6 i7 i8 i9 i10 i11 i12 i13 i14 i15 i16 i17 i18 => (ih _ hlt).1 y1 y2 y3 y4 a (Nat.le_refl _) i0 i1 i2 i3 i4 i5 i6 i7 i8 i9 i10 i11 i12 i13 i14 i15 i16 i17 i18
  have ih189 : ∀ (y1 y2 y3 y4 : Int) (a : Nat → Nat → Int), (((((4096 - y1) * 54006) + 0) + ((27000 - y4) * 1)) + 0).toNat < n → iv a → jfr jW_X12_rings a0 a → 1 ≤ y1 → y1 ≤ 4095 → 0 ≤ y2 → y2 ≤ 11 → 0 ≤ y4 → y4 ≤ 26999 → (RS a) → (RF a (a 146 56 + 1)) → a 146 56 ≤ a 146 49 → 1 ≤ y1 → y1 ≤ 4095 → 0 ≤ y2 → y2 < a 146 56 → 0 ≤ y4 → y4 ≤ 26999 → (FO a) → (FW a) → jt (jxX E d 271 189 [some (.inr (.inr (.inl 146))), some (.inl y1), some (.inl y2), some (.inl y3), some (.inl y4), none] [] (jxSH, a, b0)) (jQ_X12_rings a0 b0) := fun y1 y2 y3 y4 a hlt i0 i1 i2 i3 i4 i5 i6 i7 i8 i9 i10 i11 i12 i13 i14 i15 i16 i17 i18 => (ih _ hlt).2.1 y1 y2 y3 y4 a (Nat.le_refl _) i0 i1 i2 i3 i4 i5 i6 i7 i8 i9 i10 i11 i12 i13 i14 i15 i16 i17 i18
  have ih227 : ∀ (y1 : Int) (a : Nat → Nat → Int), (((4096 - y1) * 54006) + 27003).toNat < n → iv a → jfr jW_X12_rings a0 a → 2 ≤ y1 → y1 ≤ 4096 → (RS a) → (RF a (a 146 56 + 1)) → a 146 56 ≤ a 146 49 → 1 ≤ y1 → (FO a) → (FW a) → jt (jxX E d 271 227 [some (.inr (.inr (.inl 146))), some (.inl y1), none, none, none, none] [] (jxSH, a, b0)) (jQ_X12_rings a0 b0) := fun y1 a hlt i0 i1 i2 i3 i4 i5 i6 i7 i8 i9 => (ih _ hlt).2.2.1 y1 a (Nat.le_refl _) i0 i1 i2 i3 i4 i5 i6 i7 i8 i9
  have ih154 : ∀ (y1 y2 y3 y4 : Int) (a : Nat → Nat → Int), (((((4096 - y1) * 54006) + 0) + ((27000 - y4) * 1)) + 0).toNat < n → iv a → jfr jW_X12_rings a0 a → 1 ≤ y1 → y1 ≤ 4095 → 0 ≤ y2 → y2 ≤ 11 → 0 ≤ y4 → y4 ≤ 27000 → (RS a) → (RF a (a 146 56 + 1)) → a 146 56 ≤ a 146 49 → 1 ≤ y1 → y1 ≤ 4095 → 0 ≤ y2 → y2 < a 146 56 → 0 ≤ y4 → (FO a) → (FW a) → jt (jxX E d 271 154 [some (.inr (.inr (.inl 146))), some (.inl y1), some (.inl y2), some (.inl y3), some (.inl y4), none] [] (jxSH, a, b0)) (jQ_X12_rings a0 b0) := fun y1 y2 y3 y4 a hlt i0 i1 i2 i3 i4 i5 i6 i7 i8 i9 i10 i11 i12 i13 i14 i15 i16 i17 => (ih _ hlt).2.2.2.1 y1 y2 y3 y4 a (Nat.le_refl _) i0 i1 i2 i3 i4 i5 i6 i7 i8 i9 i10 i11 i12 i13 i14 i15 i16 i17
  have ih146 : ∀ (y1 y2 y3 : Int) (a : Nat → Nat → Int), (((4096 - y1) * 54006) + 27002).toNat < n → iv a → jfr jW_X12_rings a0 a → 1 ≤ y1 → y1 ≤ 4095 → 0 ≤ y2 → y2 ≤ 11 → (RS a) → (RF a (a 146 56 + 1)) → a 146 56 ≤ a 146 49 → 1 ≤ y1 → y1 ≤ 4095 → 0 ≤ y2 → y2 < a 146 56 → (FO a) → (FW a) → jt (jxX E d 271 146 [some (.inr (.inr (.inl 146))), some (.inl y1), some (.inl y2), some (.inl y3), none, none] [] (jxSH, a, b0)) (jQ_X12_rings a0 b0) := fun y1 y2 y3 a hlt i0 i1 i2 i3 i4 i5 i6 i7 i8 i9 i10 i11 i12 i13 i14 => (ih _ hlt).2.2.2.2.1 y1 y2 y3 a (Nat.le_refl _) i0 i1 i2 i3 i4 i5 i6 i7 i8 i9 i10 i11 i12 i13 i14
  have ih120 : ∀ (y1 : Int) (a : Nat → Nat → Int), (((4096 - y1) * 54006) + 27002).toNat < n → iv a → jfr jW_X12_rings a0 a → 1 ≤ y1 → y1 ≤ 4096 → (RS a) → (RF a (a 146 56 + 1)) → a 146 56 ≤ a 146 49 → 1 ≤ y1 → (FO a) → (FW a) → jt (jxX E d 271 120 [some (.inr (.inr (.inl 146))), some (.inl y1), none, none, none, none] [] (jxSH, a, b0)) (jQ_X12_rings a0 b0) := fun y1 a hlt i0 i1 i2 i3 i4 i5 i6 i7 i8 i9 => (ih _ hlt).2.2.2.2.2 y1 a (Nat.le_refl _) i0 i1 i2 i3 i4 i5 i6 i7 i8 i9
  have hc186 : ∀ (y1 y2 y3 y4 : Int) (a : Nat → Nat → Int), (((((4096 - y1) * 54006) + 0) + ((27000 - y4) * 1)) + 0).toNat ≤ n → iv a → jfr jW_X12_rings a0 a → 1 ≤ y1 → y1 ≤ 4095 → 0 ≤ y2 → y2 ≤ 11 → 0 ≤ y4 → y4 ≤ 26999 → (RS a) → (RF a (a 146 56 + 1)) → a 146 56 ≤ a 146 49 → 1 ≤ y1 → y1 ≤ 4095 → 0 ≤ y2 → y2 < a 146 56 → 0 ≤ y4 → y4 ≤ 26999 → (FO a) → (FW a) → jt (jxX E d 271 186 [some (.inr (.inr (.inl 146))), some (.inl y1), some (.inl y2), some (.inl y3), some (.inl y4), none] [] (jxSH, a, b0)) (jQ_X12_rings a0 b0) := by
    intro y1 y2 y3 y4 a hm hv hf hi0 hi1 hi2 hi3 hi4 hi5 hi6 hrf hi8 hi9 hi10 hi11 hi12 hi13 hi14 hi15 hi16
    refine jt_eq (bq_X12_rings_186 E d y1 y2 y3 y4 a b0) ?_
    have h1_ := iv_get hv (k := 146) (j := 56) (l := 0) (u := 12) rfl
    have h2_ := iv_get hv (k := 146) (j := 49) (l := 0) (u := 20) rfl
    have h3_ : a 146 49 = a0 146 49 := hf 146 49 rfl
    have h4_ := iv_get hv0 (k := 146) (j := 49) (l := 0) (u := 20) rfl
    have h5_ : jxw (y4 + 1) = y4 + 1 := jxw_id (by omega) (by omega)
    exact ih154 y1 y2 y3 (jxw (y4 + 1)) a (show (((((4096 - y1) * 54006) + 0) + ((27000 - (jxw (y4 + 1))) * 1)) + 0).toNat < n from by omega) hv hf (show 1 ≤ y1 from by omega) (show y1 ≤ 4095 from by omega) (show 0 ≤ y2 from by omega) (show y2 ≤ 11 from by omega) (show 0 ≤ jxw (y4 + 1) from by omega) (show jxw (y4 + 1) ≤ 27000 from by omega) hi6 (by first | assumption | exact fun k hk => hrf k hk | exact RF_last (hrfe (by omega)) (by omega) rfl) (show a 146 56 ≤ a 146 49 from by omega) (show 1 ≤ y1 from by omega) (show y1 ≤ 4095 from by omega) (show 0 ≤ y2 from by omega) (show y2 < a 146 56 from by omega) (show 0 ≤ jxw (y4 + 1) from by omega) hi15 hi16
  have hc189 : ∀ (y1 y2 y3 y4 : Int) (a : Nat → Nat → Int), (((((4096 - y1) * 54006) + 0) + ((27000 - y4) * 1)) + 0).toNat ≤ n → iv a → jfr jW_X12_rings a0 a → 1 ≤ y1 → y1 ≤ 4095 → 0 ≤ y2 → y2 ≤ 11 → 0 ≤ y4 → y4 ≤ 26999 → (RS a) → (RF a (a 146 56 + 1)) → a 146 56 ≤ a 146 49 → 1 ≤ y1 → y1 ≤ 4095 → 0 ≤ y2 → y2 < a 146 56 → 0 ≤ y4 → y4 ≤ 26999 → (FO a) → (FW a) → jt (jxX E d 271 189 [some (.inr (.inr (.inl 146))), some (.inl y1), some (.inl y2), some (.inl y3), some (.inl y4), none] [] (jxSH, a, b0)) (jQ_X12_rings a0 b0) := by
    intro y1 y2 y3 y4 a hm hv hf hi0 hi1 hi2 hi3 hi4 hi5 hi6 hrf hi8 hi9 hi10 hi11 hi12 hi13 hi14 hi15 hi16
    refine jt_eq (bq_X12_rings_189 E d y1 y2 y3 y4 a b0) ?_
    have h6_ := iv_get hv (k := 146) (j := 56) (l := 0) (u := 12) rfl
    have h7_ := iv_get hv (k := 146) (j := 49) (l := 0) (u := 20) rfl
    have h8_ : a 146 49 = a0 146 49 := hf 146 49 rfl
    have h9_ := iv_get hv0 (k := 146) (j := 49) (l := 0) (u := 20) rfl
    refine jt_bI (sp_X12_withRing E d (jd_le hd rfl) y1 y4 a b0 hv (show (0 ≤ y1 ∧ y1 ≤ 4095) from by omega) (show (0 ≤ y4 ∧ y4 ≤ 26999) from by omega)) (fun r10_ a10_ b10_ h10_ => ?_)
    obtain ⟨rfl, rfl⟩ := h10_
    refine jt_ite (fun c11_ => ?_) (fun c11_ => ?_)
    ·
      have h12_ : jxw (y4 + 1) = y4 + 1 := jxw_id (by omega) (by omega)
      exact ih154 y1 y2 r10_ (jxw (y4 + 1)) a (show (((((4096 - y1) * 54006) + 0) + ((27000 - (jxw (y4 + 1))) * 1)) + 0).toNat < n from by omega) hv hf (show 1 ≤ y1 from by omega) (show y1 ≤ 4095 from by omega) (show 0 ≤ y2 from by omega) (show y2 ≤ 11 from by omega) (show 0 ≤ jxw (y4 + 1) from by omega) (show jxw (y4 + 1) ≤ 27000 from by omega) hi6 (by first | assumption | exact fun k hk => hrf k hk | exact RF_last (hrfe (by omega)) (by omega) rfl) (show a 146 56 ≤ a 146 49 from by omega) (show 1 ≤ y1 from by omega) (show y1 ≤ 4095 from by omega) (show 0 ≤ y2 from by omega) (show y2 < a 146 56 from by omega) (show 0 ≤ jxw (y4 + 1) from by omega) hi15 hi16
    ·
      have h13_ : jxw (y4 + 1) = y4 + 1 := jxw_id (by omega) (by omega)
      exact ih154 y1 y2 y3 (jxw (y4 + 1)) a (show (((((4096 - y1) * 54006) + 0) + ((27000 - (jxw (y4 + 1))) * 1)) + 0).toNat < n from by omega) hv hf (show 1 ≤ y1 from by omega) (show y1 ≤ 4095 from by omega) (show 0 ≤ y2 from by omega) (show y2 ≤ 11 from by omega) (show 0 ≤ jxw (y4 + 1) from by omega) (show jxw (y4 + 1) ≤ 27000 from by omega) hi6 (by first | assumption | exact fun k hk => hrf k hk | exact RF_last (hrfe (by omega)) (by omega) rfl) (show a 146 56 ≤ a 146 49 from by omega) (show 1 ≤ y1 from by omega) (show y1 ≤ 4095 from by omega) (show 0 ≤ y2 from by omega) (show y2 < a 146 56 from by omega) (show 0 ≤ jxw (y4 + 1) from by omega) hi15 hi16
  have hc227 : ∀ (y1 : Int) (a : Nat → Nat → Int), (((4096 - y1) * 54006) + 27003).toNat ≤ n → iv a → jfr jW_X12_rings a0 a → 2 ≤ y1 → y1 ≤ 4096 → (RS a) → (RF a (a 146 56 + 1)) → a 146 56 ≤ a 146 49 → 1 ≤ y1 → (FO a) → (FW a) → jt (jxX E d 271 227 [some (.inr (.inr (.inl 146))), some (.inl y1), none, none, none, none] [] (jxSH, a, b0)) (jQ_X12_rings a0 b0) := by
    intro y1 a hm hv hf hi0 hi1 hi2 hrf hi4 hi5 hi6 hi7
    refine jt_eq (bq_X12_rings_227 E d y1 a b0) ?_
    have h14_ := iv_get hv (k := 146) (j := 56) (l := 0) (u := 12) rfl
    have h15_ := iv_get hv (k := 146) (j := 49) (l := 0) (u := 20) rfl
    have h16_ : a 146 49 = a0 146 49 := hf 146 49 rfl
    have h17_ := iv_get hv0 (k := 146) (j := 49) (l := 0) (u := 20) rfl
    exact ih120 y1 a (show (((4096 - y1) * 54006) + 27002).toNat < n from by omega) hv hf (show 1 ≤ y1 from by omega) (show y1 ≤ 4096 from by omega) hi2 (by first | assumption | exact fun k hk => hrf k hk | exact RF_last (hrfe (by omega)) (by omega) rfl) (show a 146 56 ≤ a 146 49 from by omega) (show 1 ≤ y1 from by omega) hi6 hi7
  have hc154 : ∀ (y1 y2 y3 y4 : Int) (a : Nat → Nat → Int), (((((4096 - y1) * 54006) + 0) + ((27000 - y4) * 1)) + 0).toNat ≤ n → iv a → jfr jW_X12_rings a0 a → 1 ≤ y1 → y1 ≤ 4095 → 0 ≤ y2 → y2 ≤ 11 → 0 ≤ y4 → y4 ≤ 27000 → (RS a) → (RF a (a 146 56 + 1)) → a 146 56 ≤ a 146 49 → 1 ≤ y1 → y1 ≤ 4095 → 0 ≤ y2 → y2 < a 146 56 → 0 ≤ y4 → (FO a) → (FW a) → jt (jxX E d 271 154 [some (.inr (.inr (.inl 146))), some (.inl y1), some (.inl y2), some (.inl y3), some (.inl y4), none] [] (jxSH, a, b0)) (jQ_X12_rings a0 b0) := by
    intro y1 y2 y3 y4 a hm hv hf hi0 hi1 hi2 hi3 hi4 hi5 hi6 hrf hi8 hi9 hi10 hi11 hi12 hi13 hi14 hi15
    refine jt_eq (bq_X12_rings_154 E d y1 y2 y3 y4 a b0) ?_
    have h18_ := iv_get hv (k := 146) (j := 56) (l := 0) (u := 12) rfl
    have h19_ := iv_get hv (k := 146) (j := 49) (l := 0) (u := 20) rfl
    have h20_ : a 146 49 = a0 146 49 := hf 146 49 rfl
    have h21_ := iv_get hv0 (k := 146) (j := 49) (l := 0) (u := 20) rfl
    have i58 := iv_get hv (k := 146) (j := 58) (l := 0) (u := 27000) rfl
    have i56 := iv_get hv (k := 146) (j := 56) (l := 0) (u := 12) rfl
    have hyy : jxw (y2 + 1) = y2 + 1 := jxw_id (by omega) (by omega)
    have hr1 := hrf ((jxw (y2 + 1)).toNat) (by omega)
    have h22_ : jxw (y2 + 1) = y2 + 1 := jxw_id (by omega) (by omega)
    refine jt_grd (by omega) ?_
    have h23_ := iv_get hv (k := 186) (j := (jxw (y2 + 1)).toNat) (l := 0) (u := 27000) rfl
    refine jt_ite (fun c24_ => ?_) (fun c24_ => ?_)
    ·
      refine jt_grd (by omega) ?_
      refine jt_grd (by omega) ?_
      have h25_ := iv_get hv (k := 184) (j := y4.toNat) (l := 0) (u := 4095) rfl
      have h26_ := jxand_b (a 184 (y4.toNat)) y1
      refine jt_ite (fun c27_ => ?_) (fun c27_ => ?_)
      ·
        exact hc189 y1 y2 y3 y4 a (show (((((4096 - y1) * 54006) + 0) + ((27000 - y4) * 1)) + 0).toNat ≤ n from by omega) hv hf (show 1 ≤ y1 from by omega) (show y1 ≤ 4095 from by omega) (show 0 ≤ y2 from by omega) (show y2 ≤ 11 from by omega) (show 0 ≤ y4 from by omega) (show y4 ≤ 26999 from by omega) hi6 (by first | assumption | exact fun k hk => hrf k hk | exact RF_last (hrfe (by omega)) (by omega) rfl) (show a 146 56 ≤ a 146 49 from by omega) (show 1 ≤ y1 from by omega) (show y1 ≤ 4095 from by omega) (show 0 ≤ y2 from by omega) (show y2 < a 146 56 from by omega) (show 0 ≤ y4 from by omega) (show y4 ≤ 26999 from by omega) hi14 hi15
      ·
        exact hc186 y1 y2 y3 y4 a (show (((((4096 - y1) * 54006) + 0) + ((27000 - y4) * 1)) + 0).toNat ≤ n from by omega) hv hf (show 1 ≤ y1 from by omega) (show y1 ≤ 4095 from by omega) (show 0 ≤ y2 from by omega) (show y2 ≤ 11 from by omega) (show 0 ≤ y4 from by omega) (show y4 ≤ 26999 from by omega) hi6 (by first | assumption | exact fun k hk => hrf k hk | exact RF_last (hrfe (by omega)) (by omega) rfl) (show a 146 56 ≤ a 146 49 from by omega) (show 1 ≤ y1 from by omega) (show y1 ≤ 4095 from by omega) (show 0 ≤ y2 from by omega) (show y2 < a 146 56 from by omega) (show 0 ≤ y4 from by omega) (show y4 ≤ 26999 from by omega) hi14 hi15
    ·
      refine jt_grd (by omega) ?_
      have hv28_ : iv (jxu a 191 (y1.toNat) y3) := iv_putf hv rfl
      have hf29_ : jfr jW_X12_rings a0 (jxu a 191 (y1.toNat) y3) := jfr_put hf rfl
      have h30_ : jxw (y1 + 1) = y1 + 1 := jxw_id (by omega) (by omega)
      have hg31_ : RS (jxu a 191 (y1.toNat) y3) := (RS_fr hi6 (jfr_1 a 191 (y1.toNat) y3) rfl (fun _ => rfl) (fun _ => rfl))
      have hg32_ : FO (jxu a 191 (y1.toNat) y3) := (FO_fr hi14 (jfr_1 a 191 (y1.toNat) y3) rfl rfl (fun _ => rfl))
      have hg33_ : FW (jxu a 191 (y1.toNat) y3) := (FW_fr hi15 (jfr_1 a 191 (y1.toNat) y3) rfl (fun _ => rfl))
      exact hc227 (jxw (y1 + 1)) (jxu a 191 (y1.toNat) y3) (show (((4096 - (jxw (y1 + 1))) * 54006) + 27003).toNat ≤ n from by omega) hv28_ hf29_ (show 2 ≤ jxw (y1 + 1) from by omega) (show jxw (y1 + 1) ≤ 4096 from by omega) hg31_ (by first | assumption | exact fun k hk => hrf k hk | exact RF_last (hrfe (by omega)) (by omega) rfl) (show a 146 56 ≤ a 146 49 from by omega) (show 1 ≤ jxw (y1 + 1) from by omega) hg32_ hg33_
  have hc146 : ∀ (y1 y2 y3 : Int) (a : Nat → Nat → Int), (((4096 - y1) * 54006) + 27002).toNat ≤ n → iv a → jfr jW_X12_rings a0 a → 1 ≤ y1 → y1 ≤ 4095 → 0 ≤ y2 → y2 ≤ 11 → (RS a) → (RF a (a 146 56 + 1)) → a 146 56 ≤ a 146 49 → 1 ≤ y1 → y1 ≤ 4095 → 0 ≤ y2 → y2 < a 146 56 → (FO a) → (FW a) → jt (jxX E d 271 146 [some (.inr (.inr (.inl 146))), some (.inl y1), some (.inl y2), some (.inl y3), none, none] [] (jxSH, a, b0)) (jQ_X12_rings a0 b0) := by
    intro y1 y2 y3 a hm hv hf hi0 hi1 hi2 hi3 hi4 hrf hi6 hi7 hi8 hi9 hi10 hi11 hi12
    refine jt_eq (bq_X12_rings_146 E d y1 y2 y3 a b0) ?_
    have h34_ := iv_get hv (k := 146) (j := 56) (l := 0) (u := 12) rfl
    have h35_ := iv_get hv (k := 146) (j := 49) (l := 0) (u := 20) rfl
    have h36_ : a 146 49 = a0 146 49 := hf 146 49 rfl
    have h37_ := iv_get hv0 (k := 146) (j := 49) (l := 0) (u := 20) rfl
    refine jt_grd (by omega) ?_
    have h38_ := iv_get hv (k := 186) (j := y2.toNat) (l := 0) (u := 27000) rfl
    exact hc154 y1 y2 y3 (a 186 (y2.toNat)) a (show (((((4096 - y1) * 54006) + 0) + ((27000 - (a 186 (y2.toNat))) * 1)) + 0).toNat ≤ n from by omega) hv hf (show 1 ≤ y1 from by omega) (show y1 ≤ 4095 from by omega) (show 0 ≤ y2 from by omega) (show y2 ≤ 11 from by omega) (show 0 ≤ a 186 (y2.toNat) from by omega) (show a 186 (y2.toNat) ≤ 27000 from by omega) hi4 (by first | assumption | exact fun k hk => hrf k hk | exact RF_last (hrfe (by omega)) (by omega) rfl) (show a 146 56 ≤ a 146 49 from by omega) (show 1 ≤ y1 from by omega) (show y1 ≤ 4095 from by omega) (show 0 ≤ y2 from by omega) (show y2 < a 146 56 from by omega) (show 0 ≤ a 186 (y2.toNat) from by omega) hi11 hi12
  have hc120 : ∀ (y1 : Int) (a : Nat → Nat → Int), (((4096 - y1) * 54006) + 27002).toNat ≤ n → iv a → jfr jW_X12_rings a0 a → 1 ≤ y1 → y1 ≤ 4096 → (RS a) → (RF a (a 146 56 + 1)) → a 146 56 ≤ a 146 49 → 1 ≤ y1 → (FO a) → (FW a) → jt (jxX E d 271 120 [some (.inr (.inr (.inl 146))), some (.inl y1), none, none, none, none] [] (jxSH, a, b0)) (jQ_X12_rings a0 b0) := by
    intro y1 a hm hv hf hi0 hi1 hi2 hrf hi4 hi5 hi6 hi7
    refine jt_eq (bq_X12_rings_120 E d y1 a b0) ?_
    have h39_ := iv_get hv (k := 146) (j := 56) (l := 0) (u := 12) rfl
    have h40_ := iv_get hv (k := 146) (j := 49) (l := 0) (u := 20) rfl
    have h41_ : a 146 49 = a0 146 49 := hf 146 49 rfl
    have h42_ := iv_get hv0 (k := 146) (j := 49) (l := 0) (u := 20) rfl
    have i56 := iv_get hv (k := 146) (j := 56) (l := 0) (u := 12) rfl
    have hs1 := jxshl1_b (a 146 56)
    have h43_ := jxshl1_b (a 146 56)
    refine jt_ite (fun c44_ => ?_) (fun c44_ => ?_)
    ·
      refine jt_bI (sp_X12_leastOf E d (jd_le hd rfl) y1 a b0 hv (show 1 ≤ y1 from by omega) (show y1 ≤ 4095 from by omega)) (fun r45_ a45_ b45_ h45_ => ?_)
      obtain ⟨rfl, rfl, hq45_0, hq45_1, hq45_2⟩ := h45_
      have hb45 := bit_le (x := y1) (k := r45_) (by omega) (by omega) (by omega) (by omega) hq45_2
      have hm45 := fun h => shl_mono (j := r45_) (k := a 146 56) (by omega) (by omega) (by omega) (by omega) h
      have h46_ := jxshl1_b r45_
      have h47_ := jxxor_b y1 (jxshl 1 r45_)
      refine jt_grd (by omega) ?_
      exact hc146 y1 r45_ (a 191 ((jxxor y1 (jxshl 1 r45_)).toNat)) a (show (((4096 - y1) * 54006) + 27002).toNat ≤ n from by omega) hv hf (show 1 ≤ y1 from by omega) (show y1 ≤ 4095 from by omega) (show 0 ≤ r45_ from by omega) (show r45_ ≤ 11 from by omega) hi2 (by first | assumption | exact fun k hk => hrf k hk | exact RF_last (hrfe (by omega)) (by omega) rfl) (show a 146 56 ≤ a 146 49 from by omega) (show 1 ≤ y1 from by omega) (show y1 ≤ 4095 from by omega) (show 0 ≤ r45_ from by omega) (show r45_ < a 146 56 from by omega) hi6 hi7
    ·
      refine jt_bV (sp_X12_finds E d (jd_le hd rfl) a b0 hv hi2 hi7 hi6 (by first | assumption | exact fun k hk => hrf k hk | exact RF_last (hrfe (by omega)) (by omega) rfl) (show a 146 56 ≤ a 146 49 from by omega)) (fun a48_ b48_ h48_ => ?_)
      obtain ⟨hv48_, hf48_, rfl, hq48_0, hq48_1⟩ := h48_
      have h49_ := iv_get hv48_ (k := 146) (j := 64) (l := 0) (u := 6) rfl
      have hf50_ : jfr jW_X12_rings a0 a48_ := jfr_tr hf hf48_ rfl
      exact jt_rI ⟨hv48_, hf50_, rfl, hq48_0, (FW_fr hi7 hf48_ rfl (fun _ => rfl)), (show (a0 146 49 = 0 → a48_ 146 64 = 0) from by omega)⟩
  exact ⟨hc186, hc189, hc227, hc154, hc146, hc120⟩
theorem cp_X12_rings_118 (E : jxE) (d : Nat) (hd : Nat.ble 4 (d + 1) = true) (a0 b0 : Nat → Nat → Int) (hv0 : iv a0) (hp0 : FO a0) (hp1 : FW a0) : ∀ (a : Nat → Nat → Int), iv a → jfr jW_X12_rings a0 a → (RS a) → (RF a (a 146 56 + 1)) → a 146 56 ≤ a 146 49 → (FO a) → (FW a) → jt (jxX E d 271 118 [some (.inr (.inr (.inl 146))), none, none, none, none, none] [] (jxSH, a, b0)) (jQ_X12_rings a0 b0) := by
  intro a hv hf hi0 hrf hi2 hi3 hi4
  refine jt_eq (bq_X12_rings_118 E d a b0) ?_
  have h51_ := iv_get hv (k := 146) (j := 56) (l := 0) (u := 12) rfl
  have h52_ := iv_get hv (k := 146) (j := 49) (l := 0) (u := 20) rfl
  have h53_ : a 146 49 = a0 146 49 := hf 146 49 rfl
  have h54_ := iv_get hv0 (k := 146) (j := 49) (l := 0) (u := 20) rfl
  exact (cp_X12_rings_120 E d hd a0 b0 hv0 hp0 hp1 _).2.2.2.2.2 1 a (Nat.le_refl _) hv hf (show 1 ≤ 1 from by omega) (show 1 ≤ 4096 from by omega) hi0 (by first | assumption | exact fun k hk => hrf k hk | exact RF_last (hrfe (by omega)) (by omega) rfl) (show a 146 56 ≤ a 146 49 from by omega) (show 1 ≤ 1 from by omega) hi3 hi4
theorem cp_X12_rings_69 (E : jxE) (d : Nat) (hd : Nat.ble 4 (d + 1) = true) (a0 b0 : Nat → Nat → Int) (hv0 : iv a0) (hp0 : FO a0) (hp1 : FW a0) : ∀ n : Nat, (∀ (y1 : Int) (a : Nat → Nat → Int), (((12 - y1) * 2) + 1).toNat ≤ n → iv a → jfr jW_X12_rings a0 a → 1 ≤ y1 → y1 ≤ 12 → 1 ≤ a 146 56 → (a 146 58) + (st ((a 146 56) - y1)) ≤ 22484 → y1 ≤ a 146 56 → (RS a) → (RF a y1) → a 146 56 ≤ a 146 49 → (FO a) → (FW a) → jt (jxX E d 271 95 [some (.inr (.inr (.inl 146))), some (.inl y1), none, none, none, none] [] (jxSH, a, b0)) (jQ_X12_rings a0 b0)) ∧ (∀ (y1 : Int) (a : Nat → Nat → Int), (((12 - y1) * 2) + 0).toNat ≤ n → iv a → jfr jW_X12_rings a0 a → 0 ≤ y1 → y1 ≤ 12 → (a 146 58) + (st ((a 146 56) - y1)) ≤ 22484 → y1 ≤ a 146 56 → (RS a) → (RF a y1) → a 146 56 ≤ a 146 49 → (FO a) → (FW a) → jt (jxX E d 271 69 [some (.inr (.inr (.inl 146))), some (.inl y1), none, none, none, none] [] (jxSH, a, b0)) (jQ_X12_rings a0 b0)) := by
  refine jx_ind fun n ih => ?_
  have ih95 : ∀ (y1 : Int) (a : Nat → Nat → Int), (((12 - y1) * 2) + 1).toNat < n → iv a → jfr jW_X12_rings a0 a → 1 ≤ y1 → y1 ≤ 12 → 1 ≤ a 146 56 → (a 146 58) + (st ((a 146 56) - y1)) ≤ 22484 → y1 ≤ a 146 56 → (RS a) → (RF a y1) → a 146 56 ≤ a 146 49 → (FO a) → (FW a) → jt (jxX E d 271 95 [some (.inr (.inr (.inl 146))), some (.inl y1), none, none, none, none] [] (jxSH, a, b0)) (jQ_X12_rings a0 b0) := fun y1 a hlt i0 i1 i2 i3 i4 i5 i6 i7 i8 i9 i10 i11 => (ih _ hlt).1 y1 a (Nat.le_refl _) i0 i1 i2 i3 i4 i5 i6 i7 i8 i9 i10 i11
  have ih69 : ∀ (y1 : Int) (a : Nat → Nat → Int), (((12 - y1) * 2) + 0).toNat < n → iv a → jfr jW_X12_rings a0 a → 0 ≤ y1 → y1 ≤ 12 → (a 146 58) + (st ((a 146 56) - y1)) ≤ 22484 → y1 ≤ a 146 56 → (RS a) → (RF a y1) → a 146 56 ≤ a 146 49 → (FO a) → (FW a) → jt (jxX E d 271 69 [some (.inr (.inr (.inl 146))), some (.inl y1), none, none, none, none] [] (jxSH, a, b0)) (jQ_X12_rings a0 b0) := fun y1 a hlt i0 i1 i2 i3 i4 i5 i6 i7 i8 i9 i10 => (ih _ hlt).2 y1 a (Nat.le_refl _) i0 i1 i2 i3 i4 i5 i6 i7 i8 i9 i10
  have hc95 : ∀ (y1 : Int) (a : Nat → Nat → Int), (((12 - y1) * 2) + 1).toNat ≤ n → iv a → jfr jW_X12_rings a0 a → 1 ≤ y1 → y1 ≤ 12 → 1 ≤ a 146 56 → (a 146 58) + (st ((a 146 56) - y1)) ≤ 22484 → y1 ≤ a 146 56 → (RS a) → (RF a y1) → a 146 56 ≤ a 146 49 → (FO a) → (FW a) → jt (jxX E d 271 95 [some (.inr (.inr (.inl 146))), some (.inl y1), none, none, none, none] [] (jxSH, a, b0)) (jQ_X12_rings a0 b0) := by
    intro y1 a hm hv hf hi0 hi1 hi2 hi3 hi4 hi5 hrf hi7 hi8 hi9
    refine jt_eq (bq_X12_rings_95 E d y1 a b0) ?_
    have h55_ := iv_get hv (k := 146) (j := 56) (l := 0) (u := 12) rfl
    have h56_ := iv_get hv (k := 146) (j := 58) (l := 0) (u := 27000) rfl
    have h57_ := iv_get hv (k := 146) (j := 49) (l := 0) (u := 20) rfl
    have h58_ : a 146 49 = a0 146 49 := hf 146 49 rfl
    have h59_ := iv_get hv0 (k := 146) (j := 49) (l := 0) (u := 20) rfl
    exact ih69 y1 a (show (((12 - y1) * 2) + 0).toNat < n from by omega) hv hf (show 0 ≤ y1 from by omega) (show y1 ≤ 12 from by omega) (show (a 146 58) + (st ((a 146 56) - y1)) ≤ 22484 from by omega) (show y1 ≤ a 146 56 from by omega) hi5 (by first | (intro k hk; exact absurd hk (by omega)) | assumption) (show a 146 56 ≤ a 146 49 from by omega) hi8 hi9
  have hc69 : ∀ (y1 : Int) (a : Nat → Nat → Int), (((12 - y1) * 2) + 0).toNat ≤ n → iv a → jfr jW_X12_rings a0 a → 0 ≤ y1 → y1 ≤ 12 → (a 146 58) + (st ((a 146 56) - y1)) ≤ 22484 → y1 ≤ a 146 56 → (RS a) → (RF a y1) → a 146 56 ≤ a 146 49 → (FO a) → (FW a) → jt (jxX E d 271 69 [some (.inr (.inr (.inl 146))), some (.inl y1), none, none, none, none] [] (jxSH, a, b0)) (jQ_X12_rings a0 b0) := by
    intro y1 a hm hv hf hi0 hi1 hi2 hi3 hi4 hrf hi6 hi7 hi8
    refine jt_eq (bq_X12_rings_69 E d y1 a b0) ?_
    have h60_ := iv_get hv (k := 146) (j := 58) (l := 0) (u := 27000) rfl
    have h61_ := iv_get hv (k := 146) (j := 56) (l := 0) (u := 12) rfl
    have h62_ := iv_get hv (k := 146) (j := 49) (l := 0) (u := 20) rfl
    have h63_ : a 146 49 = a0 146 49 := hf 146 49 rfl
    have h64_ := iv_get hv0 (k := 146) (j := 49) (l := 0) (u := 20) rfl
    have i56 := iv_get hv (k := 146) (j := 56) (l := 0) (u := 12) rfl
    have hst : y1 < a 146 56 → st (a 146 56 - y1) = st (a 146 56 - 1 - y1) + tot (a 146 56 - 1 - y1) ∧ 0 ≤ st (a 146 56 - 1 - y1) ∧ 0 ≤ tot (a 146 56 - 1 - y1) := fun h => by
      have h1 := tt_at (m := a 146 56 - 1 - y1) (by omega) (by omega)
      have h2 := st_at (j := a 146 56 - 1 - y1) (by omega) (by omega)
      have e : a 146 56 - y1 = a 146 56 - 1 - y1 + 1 := by omega
      rw [e]
      exact ⟨h1.2.2.2.2.2.2.2.1, h2.1, h1.2.2.2.2.2.2.2.2.2⟩
    have hrfe : ¬ y1 < a 146 56 → RF a (a 146 56) := fun h => by rw [show a 146 56 = y1 from by omega]; exact hrf
    refine jt_ite (fun c65_ => ?_) (fun c65_ => ?_)
    ·
      refine jt_grd (by omega) ?_
      have hv66_ : iv (jxu a 186 (y1.toNat) (a 146 58)) := iv_put hv (l := 0) (u := 27000) rfl (by omega) (by omega)
      have hg67_ : RS (jxu a 186 (y1.toNat) (a 146 58)) := (RS_fr hi4 (jfr_1 a 186 (y1.toNat) (a 146 58)) rfl (fun _ => rfl) (fun _ => rfl))
      refine jt_bV (sp_X12_ringsOf E d (jd_le hd rfl) y1 (jxu a 186 (y1.toNat) (a 146 58)) b0 hv66_ (show 0 ≤ y1 from by omega) (show y1 < a 146 56 from by omega) (by unfold rbase; show a 146 58 + tot (a 146 56 - 1 - y1) ≤ 27000; omega) hg67_) (fun a68_ b68_ h68_ => ?_)
      obtain ⟨hv68_, hf68_, rfl, hq68_0, hq68_1, hq68_2⟩ := h68_
      have h69_ := iv_get hv68_ (k := 146) (j := 58) (l := 0) (u := 27000) rfl
      have h70_ : a 146 58 ≤ a68_ 146 58 := hq68_1
      have h71_ : a68_ 146 58 ≤ (a 146 58) + (tot (((a 146 56) - 1) - y1)) := hq68_2
      have he68 : a 146 56 - (jxw (y1 + 1)) = a 146 56 - 1 - y1 := by rw [jxw_id (by omega) (by omega)]; omega
      have hse68 : st (a68_ 146 56 - (jxw (y1 + 1))) = st (a 146 56 - 1 - y1) := by rw [show a68_ 146 56 - (jxw (y1 + 1)) = a 146 56 - 1 - y1 from by rw [hf68_ 146 56 rfl]; exact he68]
      have hf72_ : jfr jW_X12_rings a0 (jxu a 186 (y1.toNat) (a 146 58)) := jfr_put hf rfl
      have hf73_ : jfr jW_X12_rings a0 a68_ := jfr_tr hf72_ hf68_ rfl
      have h74_ : jxw (y1 + 1) = y1 + 1 := jxw_id (by omega) (by omega)
      have h75_ := iv_get hv68_ (k := 146) (j := 56) (l := 0) (u := 12) rfl
      have h76_ : a68_ 146 56 = a 146 56 := hf68_ 146 56 rfl
      have h77_ := iv_get hv68_ (k := 146) (j := 49) (l := 0) (u := 20) rfl
      have h78_ : a68_ 146 49 = a 146 49 := hf68_ 146 49 rfl
      have hg79_ : FO (jxu a 186 (y1.toNat) (a 146 58)) := (FO_fr hi7 (jfr_1 a 186 (y1.toNat) (a 146 58)) rfl rfl (fun _ => rfl))
      have hg80_ : FW (jxu a 186 (y1.toNat) (a 146 58)) := (FW_fr hi8 (jfr_1 a 186 (y1.toNat) (a 146 58)) rfl (fun _ => rfl))
      exact hc95 (jxw (y1 + 1)) a68_ (show (((12 - (jxw (y1 + 1))) * 2) + 1).toNat ≤ n from by omega) hv68_ hf73_ (show 1 ≤ jxw (y1 + 1) from by omega) (show jxw (y1 + 1) ≤ 12 from by omega) (show 1 ≤ a68_ 146 56 from by omega) (show (a68_ 146 58) + (st ((a68_ 146 56) - (jxw (y1 + 1)))) ≤ 22484 from by omega) (show jxw (y1 + 1) ≤ a68_ 146 56 from by omega) hq68_0 (RF_step hrf (by omega) (jxw_id (by omega) (by omega)) (fun k => hf68_ 186 k rfl) (by omega)) (show a68_ 146 56 ≤ a68_ 146 49 from by omega) (FO_fr hg79_ hf68_ rfl rfl (fun _ => rfl)) (FW_fr hg80_ hf68_ rfl (fun _ => rfl))
    ·
      refine jt_grd (by omega) ?_
      have hv81_ : iv (jxu a 186 ((a 146 56).toNat) (a 146 58)) := iv_put hv (l := 0) (u := 27000) rfl (by omega) (by omega)
      have hv82_ : iv (jxu (jxu a 186 ((a 146 56).toNat) (a 146 58)) 191 0 0) := iv_putf hv81_ rfl
      have hf83_ : jfr jW_X12_rings a0 (jxu a 186 ((a 146 56).toNat) (a 146 58)) := jfr_put hf rfl
      have hf84_ : jfr jW_X12_rings a0 (jxu (jxu a 186 ((a 146 56).toNat) (a 146 58)) 191 0 0) := jfr_put hf83_ rfl
      have hg85_ : RS (jxu a 186 ((a 146 56).toNat) (a 146 58)) := (RS_fr hi4 (jfr_1 a 186 ((a 146 56).toNat) (a 146 58)) rfl (fun _ => rfl) (fun _ => rfl))
      have hg86_ : RS (jxu (jxu a 186 ((a 146 56).toNat) (a 146 58)) 191 0 0) := (RS_fr hg85_ (jfr_1 (jxu a 186 ((a 146 56).toNat) (a 146 58)) 191 0 0) rfl (fun _ => rfl) (fun _ => rfl))
      have hg87_ : FO (jxu a 186 ((a 146 56).toNat) (a 146 58)) := (FO_fr hi7 (jfr_1 a 186 ((a 146 56).toNat) (a 146 58)) rfl rfl (fun _ => rfl))
      have hg88_ : FO (jxu (jxu a 186 ((a 146 56).toNat) (a 146 58)) 191 0 0) := (FO_fr hg87_ (jfr_1 (jxu a 186 ((a 146 56).toNat) (a 146 58)) 191 0 0) rfl rfl (fun _ => rfl))
      have hg89_ : FW (jxu a 186 ((a 146 56).toNat) (a 146 58)) := (FW_fr hi8 (jfr_1 a 186 ((a 146 56).toNat) (a 146 58)) rfl (fun _ => rfl))
      have hg90_ : FW (jxu (jxu a 186 ((a 146 56).toNat) (a 146 58)) 191 0 0) := (FW_fr hg89_ (jfr_1 (jxu a 186 ((a 146 56).toNat) (a 146 58)) 191 0 0) rfl (fun _ => rfl))
      exact cp_X12_rings_118 E d hd a0 b0 hv0 hp0 hp1 (jxu (jxu a 186 ((a 146 56).toNat) (a 146 58)) 191 0 0) hv82_ hf84_ hg86_ (by first | assumption | exact fun k hk => hrf k hk | exact RF_last (hrfe (by omega)) (by omega) rfl) (show a 146 56 ≤ a 146 49 from by omega) hg88_ hg90_
  exact ⟨hc95, hc69⟩
theorem cp_X12_rings_7 (E : jxE) (d : Nat) (hd : Nat.ble 4 (d + 1) = true) (a0 b0 : Nat → Nat → Int) (hv0 : iv a0) (hp0 : FO a0) (hp1 : FW a0) : ∀ n : Nat, (∀ (y1 : Int) (a : Nat → Nat → Int), (((20 - y1) * 1) + 0).toNat ≤ n → iv a → jfr jW_X12_rings a0 a → 0 ≤ y1 → y1 ≤ 19 → 1 ≤ a 146 49 → a 146 56 ≤ y1 + 1 → y1 < a 146 49 → (FO a) → (FW a) → jt (jxX E d 271 56 [some (.inr (.inr (.inl 146))), some (.inl y1), none, none, none, none] [] (jxSH, a, b0)) (jQ_X12_rings a0 b0)) ∧ (∀ (y1 : Int) (a : Nat → Nat → Int), (((20 - y1) * 1) + 0).toNat ≤ n → iv a → jfr jW_X12_rings a0 a → 0 ≤ y1 → y1 ≤ 19 → 1 ≤ a 146 49 → a 146 56 ≤ 11 → a 146 56 ≤ y1 → y1 < a 146 49 → a 146 56 ≤ 11 → (FO a) → (FW a) → jt (jxX E d 271 46 [some (.inr (.inr (.inl 146))), some (.inl y1), none, none, none, none] [] (jxSH, a, b0)) (jQ_X12_rings a0 b0)) ∧ (∀ (y1 : Int) (a : Nat → Nat → Int), (((20 - y1) * 1) + 0).toNat ≤ n → iv a → jfr jW_X12_rings a0 a → 0 ≤ y1 → y1 ≤ 20 → a 146 56 ≤ y1 → a 146 56 ≤ a 146 49 → (FO a) → (FW a) → jt (jxX E d 271 7 [some (.inr (.inr (.inl 146))), some (.inl y1), none, none, none, none] [] (jxSH, a, b0)) (jQ_X12_rings a0 b0)) := by
  refine jx_ind fun n ih => ?_
  have ih56 : ∀ (y1 : Int) (a : Nat → Nat → Int), (((20 - y1) * 1) + 0).toNat < n → iv a → jfr jW_X12_rings a0 a → 0 ≤ y1 → y1 ≤ 19 → 1 ≤ a 146 49 → a 146 56 ≤ y1 + 1 → y1 < a 146 49 → (FO a) → (FW a) → jt (jxX E d 271 56 [some (.inr (.inr (.inl 146))), some (.inl y1), none, none, none, none] [] (jxSH, a, b0)) (jQ_X12_rings a0 b0) := fun y1 a hlt i0 i1 i2 i3 i4 i5 i6 i7 i8 => (ih _ hlt).1 y1 a (Nat.le_refl _) i0 i1 i2 i3 i4 i5 i6 i7 i8
  have ih46 : ∀ (y1 : Int) (a : Nat → Nat → Int), (((20 - y1) * 1) + 0).toNat < n → iv a → jfr jW_X12_rings a0 a → 0 ≤ y1 → y1 ≤ 19 → 1 ≤ a 146 49 → a 146 56 ≤ 11 → a 146 56 ≤ y1 → y1 < a 146 49 → a 146 56 ≤ 11 → (FO a) → (FW a) → jt (jxX E d 271 46 [some (.inr (.inr (.inl 146))), some (.inl y1), none, none, none, none] [] (jxSH, a, b0)) (jQ_X12_rings a0 b0) := fun y1 a hlt i0 i1 i2 i3 i4 i5 i6 i7 i8 i9 i10 => (ih _ hlt).2.1 y1 a (Nat.le_refl _) i0 i1 i2 i3 i4 i5 i6 i7 i8 i9 i10
  have ih7 : ∀ (y1 : Int) (a : Nat → Nat → Int), (((20 - y1) * 1) + 0).toNat < n → iv a → jfr jW_X12_rings a0 a → 0 ≤ y1 → y1 ≤ 20 → a 146 56 ≤ y1 → a 146 56 ≤ a 146 49 → (FO a) → (FW a) → jt (jxX E d 271 7 [some (.inr (.inr (.inl 146))), some (.inl y1), none, none, none, none] [] (jxSH, a, b0)) (jQ_X12_rings a0 b0) := fun y1 a hlt i0 i1 i2 i3 i4 i5 i6 i7 => (ih _ hlt).2.2 y1 a (Nat.le_refl _) i0 i1 i2 i3 i4 i5 i6 i7
  have hc56 : ∀ (y1 : Int) (a : Nat → Nat → Int), (((20 - y1) * 1) + 0).toNat ≤ n → iv a → jfr jW_X12_rings a0 a → 0 ≤ y1 → y1 ≤ 19 → 1 ≤ a 146 49 → a 146 56 ≤ y1 + 1 → y1 < a 146 49 → (FO a) → (FW a) → jt (jxX E d 271 56 [some (.inr (.inr (.inl 146))), some (.inl y1), none, none, none, none] [] (jxSH, a, b0)) (jQ_X12_rings a0 b0) := by
    intro y1 a hm hv hf hi0 hi1 hi2 hi3 hi4 hi5 hi6
    refine jt_eq (bq_X12_rings_56 E d y1 a b0) ?_
    have h91_ := iv_get hv (k := 146) (j := 49) (l := 0) (u := 20) rfl
    have h92_ : a 146 49 = a0 146 49 := hf 146 49 rfl
    have h93_ := iv_get hv0 (k := 146) (j := 49) (l := 0) (u := 20) rfl
    have h94_ := iv_get hv (k := 146) (j := 56) (l := 0) (u := 12) rfl
    have h95_ : jxw (y1 + 1) = y1 + 1 := jxw_id (by omega) (by omega)
    exact ih7 (jxw (y1 + 1)) a (show (((20 - (jxw (y1 + 1))) * 1) + 0).toNat < n from by omega) hv hf (show 0 ≤ jxw (y1 + 1) from by omega) (show jxw (y1 + 1) ≤ 20 from by omega) (show a 146 56 ≤ jxw (y1 + 1) from by omega) (show a 146 56 ≤ a 146 49 from by omega) hi5 hi6
  have hc46 : ∀ (y1 : Int) (a : Nat → Nat → Int), (((20 - y1) * 1) + 0).toNat ≤ n → iv a → jfr jW_X12_rings a0 a → 0 ≤ y1 → y1 ≤ 19 → 1 ≤ a 146 49 → a 146 56 ≤ 11 → a 146 56 ≤ y1 → y1 < a 146 49 → a 146 56 ≤ 11 → (FO a) → (FW a) → jt (jxX E d 271 46 [some (.inr (.inr (.inl 146))), some (.inl y1), none, none, none, none] [] (jxSH, a, b0)) (jQ_X12_rings a0 b0) := by
    intro y1 a hm hv hf hi0 hi1 hi2 hi3 hi4 hi5 hi6 hi7 hi8
    refine jt_eq (bq_X12_rings_46 E d y1 a b0) ?_
    have h96_ := iv_get hv (k := 146) (j := 49) (l := 0) (u := 20) rfl
    have h97_ : a 146 49 = a0 146 49 := hf 146 49 rfl
    have h98_ := iv_get hv0 (k := 146) (j := 49) (l := 0) (u := 20) rfl
    have h99_ := iv_get hv (k := 146) (j := 56) (l := 0) (u := 12) rfl
    have h101_ : jxw ((a 146 56) + 1) = (a 146 56) + 1 := jxw_id (by omega) (by omega)
    have hv100_ : iv (jxu a 146 56 (jxw ((a 146 56) + 1))) := iv_put hv (l := 0) (u := 12) rfl (by omega) (by omega)
    have hf102_ : jfr jW_X12_rings a0 (jxu a 146 56 (jxw ((a 146 56) + 1))) := jfr_put hf rfl
    have hg103_ : FO (jxu a 146 56 (jxw ((a 146 56) + 1))) := (FO_fr hi7 (jfr_1s a 146 56 (jxw ((a 146 56) + 1))) rfl rfl (fun _ => rfl))
    have hg104_ : FW (jxu a 146 56 (jxw ((a 146 56) + 1))) := (FW_fr hi8 (jfr_1s a 146 56 (jxw ((a 146 56) + 1))) rfl (fun _ => rfl))
    exact hc56 y1 (jxu a 146 56 (jxw ((a 146 56) + 1))) (show (((20 - y1) * 1) + 0).toNat ≤ n from by omega) hv100_ hf102_ (show 0 ≤ y1 from by omega) (show y1 ≤ 19 from by omega) (show 1 ≤ a 146 49 from by omega) (show jxw ((a 146 56) + 1) ≤ y1 + 1 from by omega) (show y1 < a 146 49 from by omega) hg103_ hg104_
  have hc7 : ∀ (y1 : Int) (a : Nat → Nat → Int), (((20 - y1) * 1) + 0).toNat ≤ n → iv a → jfr jW_X12_rings a0 a → 0 ≤ y1 → y1 ≤ 20 → a 146 56 ≤ y1 → a 146 56 ≤ a 146 49 → (FO a) → (FW a) → jt (jxX E d 271 7 [some (.inr (.inr (.inl 146))), some (.inl y1), none, none, none, none] [] (jxSH, a, b0)) (jQ_X12_rings a0 b0) := by
    intro y1 a hm hv hf hi0 hi1 hi2 hi3 hi4 hi5
    refine jt_eq (bq_X12_rings_7 E d y1 a b0) ?_
    have h105_ := iv_get hv (k := 146) (j := 56) (l := 0) (u := 12) rfl
    have h106_ := iv_get hv (k := 146) (j := 49) (l := 0) (u := 20) rfl
    have h107_ : a 146 49 = a0 146 49 := hf 146 49 rfl
    have h108_ := iv_get hv0 (k := 146) (j := 49) (l := 0) (u := 20) rfl
    have i56 := iv_get hv (k := 146) (j := 56) (l := 0) (u := 12) rfl
    have hst0 := st_at (j := a 146 56 - 0) (by omega) (by omega)
    refine jt_ite (fun c109_ => ?_) (fun c109_ => ?_)
    ·
      refine jt_ite (fun c110_ => ?_) (fun c110_ => ?_)
      ·
        refine jt_grd (by omega) ?_
        have h111_ := iv_get hv (k := 181) (j := y1.toNat) (l := 0) (u := 2) rfl
        have h112_ : a 181 (y1.toNat) = a0 181 (y1.toNat) := hf 181 (y1.toNat) rfl
        have h113_ := iv_get hv0 (k := 181) (j := y1.toNat) (l := 0) (u := 2) rfl
        refine jt_ite (fun c114_ => ?_) (fun c114_ => ?_)
        ·
          refine jt_grd (by omega) ?_
          have hv115_ : iv (jxu a 183 ((a 146 56).toNat) y1) := iv_put hv (l := 0) (u := 19) rfl (by omega) (by omega)
          have hf116_ : jfr jW_X12_rings a0 (jxu a 183 ((a 146 56).toNat) y1) := jfr_put hf rfl
          have hg117_ : FO (jxu a 183 ((a 146 56).toNat) y1) := (FO_fr hi4 (jfr_1 a 183 ((a 146 56).toNat) y1) rfl rfl (fun _ => rfl))
          have hg118_ : FW (jxu a 183 ((a 146 56).toNat) y1) := (FW_put hi5 (show y1 = 0 ∨ y1 < a 146 49 from by omega))
          exact hc46 y1 (jxu a 183 ((a 146 56).toNat) y1) (show (((20 - y1) * 1) + 0).toNat ≤ n from by omega) hv115_ hf116_ (show 0 ≤ y1 from by omega) (show y1 ≤ 19 from by omega) (show 1 ≤ a 146 49 from by omega) (show a 146 56 ≤ 11 from by omega) (show a 146 56 ≤ y1 from by omega) (show y1 < a 146 49 from by omega) (show a 146 56 ≤ 11 from by omega) hg117_ hg118_
        ·
          exact hc56 y1 a (show (((20 - y1) * 1) + 0).toNat ≤ n from by omega) hv hf (show 0 ≤ y1 from by omega) (show y1 ≤ 19 from by omega) (show 1 ≤ a 146 49 from by omega) (show a 146 56 ≤ y1 + 1 from by omega) (show y1 < a 146 49 from by omega) hi4 hi5
      ·
        have hv119_ : iv (jxu a 146 58 0) := iv_put hv (l := 0) (u := 27000) rfl (by omega) (by omega)
        have hf120_ : jfr jW_X12_rings a0 (jxu a 146 58 0) := jfr_put hf rfl
        have hg121_ : FO (jxu a 146 58 0) := (FO_fr hi4 (jfr_1s a 146 58 0) rfl rfl (fun _ => rfl))
        have hg122_ : FW (jxu a 146 58 0) := (FW_fr hi5 (jfr_1s a 146 58 0) rfl (fun _ => rfl))
        exact (cp_X12_rings_69 E d hd a0 b0 hv0 hp0 hp1 _).2 0 (jxu a 146 58 0) (Nat.le_refl _) hv119_ hf120_ (show 0 ≤ 0 from by omega) (show 0 ≤ 12 from by omega) (show 0 + (st ((a 146 56) - 0)) ≤ 22484 from by omega) (show 0 ≤ a 146 56 from by omega) (RS_zero a) (by first | (intro k hk; exact absurd hk (by omega)) | assumption) (show a 146 56 ≤ a 146 49 from by omega) hg121_ hg122_
    ·
      have hv123_ : iv (jxu a 146 58 0) := iv_put hv (l := 0) (u := 27000) rfl (by omega) (by omega)
      have hf124_ : jfr jW_X12_rings a0 (jxu a 146 58 0) := jfr_put hf rfl
      have hg125_ : FO (jxu a 146 58 0) := (FO_fr hi4 (jfr_1s a 146 58 0) rfl rfl (fun _ => rfl))
      have hg126_ : FW (jxu a 146 58 0) := (FW_fr hi5 (jfr_1s a 146 58 0) rfl (fun _ => rfl))
      exact (cp_X12_rings_69 E d hd a0 b0 hv0 hp0 hp1 _).2 0 (jxu a 146 58 0) (Nat.le_refl _) hv123_ hf124_ (show 0 ≤ 0 from by omega) (show 0 ≤ 12 from by omega) (show 0 + (st ((a 146 56) - 0)) ≤ 22484 from by omega) (show 0 ≤ a 146 56 from by omega) (RS_zero a) (by first | (intro k hk; exact absurd hk (by omega)) | assumption) (show a 146 56 ≤ a 146 49 from by omega) hg125_ hg126_
  exact ⟨hc56, hc46, hc7⟩
theorem sp_X12_rings (E : jxE) (d : Nat) (hd : Nat.ble 4 d = true) (a0 b0 : Nat → Nat → Int) (hv0 : iv a0) (hp0 : FO a0) (hp1 : FW a0) : jt (jxC E d 271 [.inr (.inr (.inl 146))] (jxSH, a0, b0)) (jQ_X12_rings a0 b0) := by
  obtain ⟨d, rfl⟩ := jd_succ hd
  refine jt_eq (bq_X12_rings E d a0 b0) ?_
  have hv127_ : iv (jxu a0 146 56 0) := iv_put hv0 (l := 0) (u := 12) rfl (by omega) (by omega)
  have hf128_ : jfr jW_X12_rings a0 (jxu a0 146 56 0) := jfr_put (jfr_rf _ _) rfl
  have h129_ := iv_get hv0 (k := 146) (j := 49) (l := 0) (u := 20) rfl
  have hg130_ : FO (jxu a0 146 56 0) := (FO_fr hp0 (jfr_1s a0 146 56 0) rfl rfl (fun _ => rfl))
  have hg131_ : FW (jxu a0 146 56 0) := (FW_fr hp1 (jfr_1s a0 146 56 0) rfl (fun _ => rfl))
  exact (cp_X12_rings_7 E d hd a0 b0 hv0 hp0 hp1 _).2.2 0 (jxu a0 146 56 0) (Nat.le_refl _) hv127_ hf128_ (show 0 ≤ 0 from by omega) (show 0 ≤ 20 from by omega) (show 0 ≤ 0 from by omega) (show 0 ≤ a0 146 49 from by omega) hg130_ hg131_
