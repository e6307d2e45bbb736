def jW_X12_see : List (Nat × Nat) := [(146, 23)]
abbrev jQ_X12_see (a0 b0 : Nat → Nat → Int) : List jxV → (Nat → Nat → Int) → (Nat → Nat → Int) → Prop := rI (fun r a b => (iv a) ∧ (jfr jW_X12_see a0 a) ∧ (b0 = b) ∧ (a0 146 23 ≤ a 146 23) ∧ (a 146 23 ≤ a0 146 22) ∧ (((r = 0 - 1 ∧ a 146 23 = a0 146 22) ∨ (((0 ≤ r ∧ r ≤ 255) ∧ a 146 23 < a0 146 22) ∧ ¬ a 164 ((a 146 23).toNat) = 32))) ∧ (((a0 146 23 < a0 146 22 ∧ ¬ a0 164 ((a0 146 23).toNat) = 32) → a 146 23 = a0 146 23)) ∧ (a 146 23 = ((SK (UB (a0 164)) (a0 146 22).toNat (a0 146 23).toNat : Nat) : Int)) ∧ (0 ≤ r → r = UB (a0 164) (a 146 23).toNat))
theorem cp_X12_see_38 (E : jxE) (d : Nat) (hd : Nat.ble 1 (d + 1) = true) (a0 b0 : Nat → Nat → Int) (hv0 : iv a0) (hp0 : a0 146 23 ≤ a0 146 22) : ∀ (a : Nat → Nat → Int), iv a → jfr jW_X12_see a0 a → a 146 23 ≤ a 146 22 → a0 146 23 ≤ a 146 23 → ((a0 146 23 < a0 146 22 ∧ ¬ a0 164 ((a0 146 23).toNat) = 32) → a 146 23 = a0 146 23) → (a 146 23 < a 146 22 → ¬ a 164 ((a 146 23).toNat) = 32) → (SK (UB (a 164)) (a 146 22).toNat (a 146 23).toNat = SK (UB (a0 164)) (a0 146 22).toNat (a0 146 23).toNat) → (¬ ((a 146 23).toNat < (a 146 22).toNat ∧ UB (a 164) (a 146 23).toNat = 32)) → jt (jxX E d 215 38 [some (.inr (.inr (.inl 146)))] [] (jxSH, a, b0)) (jQ_X12_see a0 b0) := by
  intro a hv hf hi0 hi1 hi2 hi3 hk hst
  refine jt_eq (bq_X12_see_38 E d a b0) ?_
  have h1_ := iv_get hv (k := 146) (j := 23) (l := 0) (u := 200) rfl
  have h2_ := iv_get hv (k := 146) (j := 22) (l := 0) (u := 200) rfl
  have h3_ : a 146 22 = a0 146 22 := hf 146 22 rfl
  have h4_ := iv_get hv0 (k := 146) (j := 22) (l := 0) (u := 200) rfl
  have h5_ := iv_get hv0 (k := 146) (j := 23) (l := 0) (u := 200) rfl
  have h6_ := iv_get hv0 (k := 164) (j := (a0 146 23).toNat) (l := (-128)) (u := 127) rfl
  have h7_ := iv_get hv (k := 164) (j := (a 146 23).toNat) (l := (-128)) (u := 127) rfl
  have h8_ : a 164 ((a 146 23).toNat) = a0 164 ((a 146 23).toNat) := hf 164 ((a 146 23).toNat) rfl
  have h9_ := iv_get hv0 (k := 164) (j := (a 146 23).toNat) (l := (-128)) (u := 127) rfl
  have h4 : a 164 = a0 164 := funext fun j => hf 164 j rfl
  have h22 := hf 146 22 rfl
  have hub := UB_sp (g := a 164) (j := (a 146 23).toNat) (iv_get hv (k := 164) (j := (a 146 23).toNat) (l := -128) (u := 127) rfl).1 (iv_get hv (k := 164) (j := (a 146 23).toNat) (l := -128) (u := 127) rfl).2
  refine jt_ite (fun c10_ => ?_) (fun c10_ => ?_)
  ·
    refine jt_grd (by omega) ?_
    have h11_ := jxand_r (a 164 ((a 146 23).toNat)) 255 (by decide) (by decide)
    exact jt_rI ⟨hv, hf, rfl, (show a0 146 23 ≤ a 146 23 from by omega), (show a 146 23 ≤ a0 146 22 from by omega), (show ((jxand (a 164 ((a 146 23).toNat)) 255 = 0 - 1 ∧ a 146 23 = a0 146 22) ∨ (((0 ≤ jxand (a 164 ((a 146 23).toNat)) 255 ∧ jxand (a 164 ((a 146 23).toNat)) 255 ≤ 255) ∧ a 146 23 < a0 146 22) ∧ ¬ a 164 ((a 146 23).toNat) = 32)) from by omega), (show ((a0 146 23 < a0 146 22 ∧ ¬ a0 164 ((a0 146 23).toNat) = 32) → a 146 23 = a0 146 23) from by omega), (by rw [← hk]; by_cases hc : (a 146 23).toNat < (a 146 22).toNat <;> first | (rw [SK_stay (fun h => hst ⟨hc, h⟩)]; omega) | (rw [SK_end (by omega)]; omega)), (by first | (intro h; exact absurd h (by decide)) | (intro _; rw [← h4]; rfl))⟩
  ·
    exact jt_rI ⟨hv, hf, rfl, (show a0 146 23 ≤ a 146 23 from by omega), (show a 146 23 ≤ a0 146 22 from by omega), (show (((-1) = 0 - 1 ∧ a 146 23 = a0 146 22) ∨ (((0 ≤ (-1) ∧ (-1) ≤ 255) ∧ a 146 23 < a0 146 22) ∧ ¬ a 164 ((a 146 23).toNat) = 32)) from by omega), (show ((a0 146 23 < a0 146 22 ∧ ¬ a0 164 ((a0 146 23).toNat) = 32) → a 146 23 = a0 146 23) from by omega), (by rw [← hk]; by_cases hc : (a 146 23).toNat < (a 146 22).toNat <;> first | (rw [SK_stay (fun h => hst ⟨hc, h⟩)]; omega) | (rw [SK_end (by omega)]; omega)), (by first | (intro h; exact absurd h (by decide)) | (intro _; rw [← h4]; rfl))⟩
theorem cp_X12_see_0 (E : jxE) (d : Nat) (hd : Nat.ble 1 (d + 1) = true) (a0 b0 : Nat → Nat → Int) (hv0 : iv a0) (hp0 : a0 146 23 ≤ a0 146 22) : ∀ n : Nat, (∀ (a : Nat → Nat → Int), ((((a 146 22) - (a 146 23)) * 2) + 1).toNat ≤ n → iv a → jfr jW_X12_see a0 a → 1 ≤ a 146 22 → 1 ≤ a 146 23 → a 146 23 ≤ a 146 22 → a0 146 23 ≤ a 146 23 → ((a0 146 23 < a0 146 22 ∧ ¬ a0 164 ((a0 146 23).toNat) = 32) → a 146 23 = a0 146 23) → (SK (UB (a 164)) (a 146 22).toNat (a 146 23).toNat = SK (UB (a0 164)) (a0 146 22).toNat (a0 146 23).toNat) → jt (jxX E d 215 35 [some (.inr (.inr (.inl 146)))] [] (jxSH, a, b0)) (jQ_X12_see a0 b0)) ∧ (∀ (a : Nat → Nat → Int), ((((a 146 22) - (a 146 23)) * 2) + 0).toNat ≤ n → iv a → jfr jW_X12_see a0 a → 1 ≤ a 146 22 → 1 ≤ a 146 23 → a 146 23 ≤ a 146 22 → a0 146 23 ≤ a 146 23 → ((a0 146 23 < a0 146 22 ∧ ¬ a0 164 ((a0 146 23).toNat) = 32) → a 146 23 = a0 146 23) → (SK (UB (a 164)) (a 146 22).toNat (a 146 23).toNat = SK (UB (a0 164)) (a0 146 22).toNat (a0 146 23).toNat) → jt (jxX E d 215 0 [some (.inr (.inr (.inl 146)))] [] (jxSH, a, b0)) (jQ_X12_see a0 b0)) := by
  refine jx_ind fun n ih => ?_
  have ih35 : ∀ (a : Nat → Nat → Int), ((((a 146 22) - (a 146 23)) * 2) + 1).toNat < n → iv a → jfr jW_X12_see a0 a → 1 ≤ a 146 22 → 1 ≤ a 146 23 → a 146 23 ≤ a 146 22 → a0 146 23 ≤ a 146 23 → ((a0 146 23 < a0 146 22 ∧ ¬ a0 164 ((a0 146 23).toNat) = 32) → a 146 23 = a0 146 23) → (SK (UB (a 164)) (a 146 22).toNat (a 146 23).toNat = SK (UB (a0 164)) (a0 146 22).toNat (a0 146 23).toNat) → jt (jxX E d 215 35 [some (.inr (.inr (.inl 146)))] [] (jxSH, a, b0)) (jQ_X12_see a0 b0) := fun a hlt i0 i1 i2 i3 i4 i5 i6 i7 => (ih _ hlt).1 a (Nat.le_refl _) i0 i1 i2 i3 i4 i5 i6 i7
  have ih0 : ∀ (a : Nat → Nat → Int), ((((a 146 22) - (a 146 23)) * 2) + 0).toNat < n → iv a → jfr jW_X12_see a0 a → 1 ≤ a 146 22 → 1 ≤ a 146 23 → a 146 23 ≤ a 146 22 → a0 146 23 ≤ a 146 23 → ((a0 146 23 < a0 146 22 ∧ ¬ a0 164 ((a0 146 23).toNat) = 32) → a 146 23 = a0 146 23) → (SK (UB (a 164)) (a 146 22).toNat (a 146 23).toNat = SK (UB (a0 164)) (a0 146 22).toNat (a0 146 23).toNat) → jt (jxX E d 215 0 [some (.inr (.inr (.inl 146)))] [] (jxSH, a, b0)) (jQ_X12_see a0 b0) := fun a hlt i0 i1 i2 i3 i4 i5 i6 i7 => (ih _ hlt).2 a (Nat.le_refl _) i0 i1 i2 i3 i4 i5 i6 i7
  have hc35 : ∀ (a : Nat → Nat → Int), ((((a 146 22) - (a 146 23)) * 2) + 1).toNat ≤ n → iv a → jfr jW_X12_see a0 a → 1 ≤ a 146 22 → 1 ≤ a 146 23 → a 146 23 ≤ a 146 22 → a0 146 23 ≤ a 146 23 → ((a0 146 23 < a0 146 22 ∧ ¬ a0 164 ((a0 146 23).toNat) = 32) → a 146 23 = a0 146 23) → (SK (UB (a 164)) (a 146 22).toNat (a 146 23).toNat = SK (UB (a0 164)) (a0 146 22).toNat (a0 146 23).toNat) → jt (jxX E d 215 35 [some (.inr (.inr (.inl 146)))] [] (jxSH, a, b0)) (jQ_X12_see a0 b0) := by
    intro a hm hv hf hi0 hi1 hi2 hi3 hi4 hk
    refine jt_eq (bq_X12_see_35 E d a b0) ?_
    have h12_ := iv_get hv (k := 146) (j := 22) (l := 0) (u := 200) rfl
    have h13_ : a 146 22 = a0 146 22 := hf 146 22 rfl
    have h14_ := iv_get hv0 (k := 146) (j := 22) (l := 0) (u := 200) rfl
    have h15_ := iv_get hv (k := 146) (j := 23) (l := 0) (u := 200) rfl
    have h16_ := iv_get hv0 (k := 146) (j := 23) (l := 0) (u := 200) rfl
    have h17_ := iv_get hv0 (k := 164) (j := (a0 146 23).toNat) (l := (-128)) (u := 127) rfl
    exact ih0 a (show ((((a 146 22) - (a 146 23)) * 2) + 0).toNat < n from by omega) hv hf (show 1 ≤ a 146 22 from by omega) (show 1 ≤ a 146 23 from by omega) (show a 146 23 ≤ a 146 22 from by omega) (show a0 146 23 ≤ a 146 23 from by omega) (show ((a0 146 23 < a0 146 22 ∧ ¬ a0 164 ((a0 146 23).toNat) = 32) → a 146 23 = a0 146 23) from by omega) hk
  have hc0 : ∀ (a : Nat → Nat → Int), ((((a 146 22) - (a 146 23)) * 2) + 0).toNat ≤ n → iv a → jfr jW_X12_see a0 a → 1 ≤ a 146 22 → 1 ≤ a 146 23 → a 146 23 ≤ a 146 22 → a0 146 23 ≤ a 146 23 → ((a0 146 23 < a0 146 22 ∧ ¬ a0 164 ((a0 146 23).toNat) = 32) → a 146 23 = a0 146 23) → (SK (UB (a 164)) (a 146 22).toNat (a 146 23).toNat = SK (UB (a0 164)) (a0 146 22).toNat (a0 146 23).toNat) → jt (jxX E d 215 0 [some (.inr (.inr (.inl 146)))] [] (jxSH, a, b0)) (jQ_X12_see a0 b0) := by
    intro a hm hv hf hi0 hi1 hi2 hi3 hi4 hk
    refine jt_eq (bq_X12_see_0 E d a b0) ?_
    have h18_ := iv_get hv (k := 146) (j := 22) (l := 0) (u := 200) rfl
    have h19_ : a 146 22 = a0 146 22 := hf 146 22 rfl
    have h20_ := iv_get hv0 (k := 146) (j := 22) (l := 0) (u := 200) rfl
    have h21_ := iv_get hv (k := 146) (j := 23) (l := 0) (u := 200) rfl
    have h22_ := iv_get hv0 (k := 146) (j := 23) (l := 0) (u := 200) rfl
    have h23_ := iv_get hv0 (k := 164) (j := (a0 146 23).toNat) (l := (-128)) (u := 127) rfl
    have hcg : a 146 23 = a0 146 23 → a 164 ((a 146 23).toNat) = a0 164 ((a0 146 23).toNat) := fun h => by rw [h]; exact hf 164 _ rfl
    have h4 : a 164 = a0 164 := funext fun j => hf 164 j rfl
    have h22 := hf 146 22 rfl
    have hub := UB_sp (g := a 164) (j := (a 146 23).toNat) (iv_get hv (k := 164) (j := (a 146 23).toNat) (l := -128) (u := 127) rfl).1 (iv_get hv (k := 164) (j := (a 146 23).toNat) (l := -128) (u := 127) rfl).2
    refine jt_ite (fun c24_ => ?_) (fun c24_ => ?_)
    ·
      refine jt_grd (by omega) ?_
      have h25_ := iv_get hv (k := 164) (j := (a 146 23).toNat) (l := (-128)) (u := 127) rfl
      have h26_ : a 164 ((a 146 23).toNat) = a0 164 ((a 146 23).toNat) := hf 164 ((a 146 23).toNat) rfl
      have h27_ := iv_get hv0 (k := 164) (j := (a 146 23).toNat) (l := (-128)) (u := 127) rfl
      refine jt_ite (fun c28_ => ?_) (fun c28_ => ?_)
      ·
        have h30_ : jxw ((a 146 23) + 1) = (a 146 23) + 1 := jxw_id (by omega) (by omega)
        have hv29_ : iv (jxu a 146 23 (jxw ((a 146 23) + 1))) := iv_put hv (l := 0) (u := 200) rfl (by omega) (by omega)
        have hf31_ : jfr jW_X12_see a0 (jxu a 146 23 (jxw ((a 146 23) + 1))) := jfr_put hf rfl
        exact hc35 (jxu a 146 23 (jxw ((a 146 23) + 1))) (show ((((a 146 22) - (jxw ((a 146 23) + 1))) * 2) + 1).toNat ≤ n from by omega) hv29_ hf31_ (show 1 ≤ a 146 22 from by omega) (show 1 ≤ jxw ((a 146 23) + 1) from by omega) (show jxw ((a 146 23) + 1) ≤ a 146 22 from by omega) (show a0 146 23 ≤ jxw ((a 146 23) + 1) from by omega) (show ((a0 146 23 < a0 146 22 ∧ ¬ a0 164 ((a0 146 23).toNat) = 32) → jxw ((a 146 23) + 1) = a0 146 23) from by omega) (by have e : (jxw ((a 146 23) + 1)).toNat = (a 146 23).toNat + 1 := (by omega); show SK (UB (a 164)) (a 146 22).toNat (jxw ((a 146 23) + 1)).toNat = _; rw [e, ← SK_step (by omega) (by omega)]; exact hk)
      ·
        exact cp_X12_see_38 E d hd a0 b0 hv0 hp0 a hv hf (show a 146 23 ≤ a 146 22 from by omega) (show a0 146 23 ≤ a 146 23 from by omega) (show ((a0 146 23 < a0 146 22 ∧ ¬ a0 164 ((a0 146 23).toNat) = 32) → a 146 23 = a0 146 23) from by omega) (show (a 146 23 < a 146 22 → ¬ a 164 ((a 146 23).toNat) = 32) from by omega) hk (by omega)
    ·
      have h32_ := iv_get hv (k := 164) (j := (a 146 23).toNat) (l := (-128)) (u := 127) rfl
      have h33_ : a 164 ((a 146 23).toNat) = a0 164 ((a 146 23).toNat) := hf 164 ((a 146 23).toNat) rfl
      have h34_ := iv_get hv0 (k := 164) (j := (a 146 23).toNat) (l := (-128)) (u := 127) rfl
      exact cp_X12_see_38 E d hd a0 b0 hv0 hp0 a hv hf (show a 146 23 ≤ a 146 22 from by omega) (show a0 146 23 ≤ a 146 23 from by omega) (show ((a0 146 23 < a0 146 22 ∧ ¬ a0 164 ((a0 146 23).toNat) = 32) → a 146 23 = a0 146 23) from by omega) (show (a 146 23 < a 146 22 → ¬ a 164 ((a 146 23).toNat) = 32) from by omega) hk (by omega)
  exact ⟨hc35, hc0⟩
theorem sp_X12_see (E : jxE) (d : Nat) (hd : Nat.ble 1 d = true) (a0 b0 : Nat → Nat → Int) (hv0 : iv a0) (hp0 : a0 146 23 ≤ a0 146 22) : jt (jxC E d 215 [.inr (.inr (.inl 146))] (jxSH, a0, b0)) (jQ_X12_see a0 b0) := by
  obtain ⟨d, rfl⟩ := jd_succ hd
  refine jt_eq (bq_X12_see E d a0 b0) ?_
  have h35_ := iv_get hv0 (k := 146) (j := 23) (l := 0) (u := 200) rfl
  have h36_ := iv_get hv0 (k := 146) (j := 22) (l := 0) (u := 200) rfl
  have hub := UB_sp (g := a0 164) (j := (a0 146 23).toNat) (iv_get hv0 (k := 164) (j := (a0 146 23).toNat) (l := -128) (u := 127) rfl).1 (iv_get hv0 (k := 164) (j := (a0 146 23).toNat) (l := -128) (u := 127) rfl).2
  refine jt_ite (fun c37_ => ?_) (fun c37_ => ?_)
  ·
    refine jt_grd (by omega) ?_
    have h38_ := iv_get hv0 (k := 164) (j := (a0 146 23).toNat) (l := (-128)) (u := 127) rfl
    refine jt_ite (fun c39_ => ?_) (fun c39_ => ?_)
    ·
      have h41_ : jxw ((a0 146 23) + 1) = (a0 146 23) + 1 := jxw_id (by omega) (by omega)
      have hv40_ : iv (jxu a0 146 23 (jxw ((a0 146 23) + 1))) := iv_put hv0 (l := 0) (u := 200) rfl (by omega) (by omega)
      have hf42_ : jfr jW_X12_see a0 (jxu a0 146 23 (jxw ((a0 146 23) + 1))) := jfr_put (jfr_rf _ _) rfl
      exact (cp_X12_see_0 E d hd a0 b0 hv0 hp0 _).1 (jxu a0 146 23 (jxw ((a0 146 23) + 1))) (Nat.le_refl _) hv40_ hf42_ (show 1 ≤ a0 146 22 from by omega) (show 1 ≤ jxw ((a0 146 23) + 1) from by omega) (show jxw ((a0 146 23) + 1) ≤ a0 146 22 from by omega) (show a0 146 23 ≤ jxw ((a0 146 23) + 1) from by omega) (show ((a0 146 23 < a0 146 22 ∧ ¬ a0 164 ((a0 146 23).toNat) = 32) → jxw ((a0 146 23) + 1) = a0 146 23) from by omega) (by have e : (jxw ((a0 146 23) + 1)).toNat = (a0 146 23).toNat + 1 := (by omega); show SK (UB (a0 164)) (a0 146 22).toNat (jxw ((a0 146 23) + 1)).toNat = _; rw [e, ← SK_step (by omega) (by omega)])
    ·
      exact cp_X12_see_38 E d hd a0 b0 hv0 hp0 a0 hv0 (jfr_rf _ _) (show a0 146 23 ≤ a0 146 22 from by omega) (show a0 146 23 ≤ a0 146 23 from by omega) (show ((a0 146 23 < a0 146 22 ∧ ¬ a0 164 ((a0 146 23).toNat) = 32) → a0 146 23 = a0 146 23) from by omega) (show (a0 146 23 < a0 146 22 → ¬ a0 164 ((a0 146 23).toNat) = 32) from by omega) rfl (by omega)
  ·
    have h43_ := iv_get hv0 (k := 164) (j := (a0 146 23).toNat) (l := (-128)) (u := 127) rfl
    exact cp_X12_see_38 E d hd a0 b0 hv0 hp0 a0 hv0 (jfr_rf _ _) (show a0 146 23 ≤ a0 146 22 from by omega) (show a0 146 23 ≤ a0 146 23 from by omega) (show ((a0 146 23 < a0 146 22 ∧ ¬ a0 164 ((a0 146 23).toNat) = 32) → a0 146 23 = a0 146 23) from by omega) (show (a0 146 23 < a0 146 22 → ¬ a0 164 ((a0 146 23).toNat) = 32) from by omega) rfl (by omega)
def jW_X12_fails : List (Nat × Nat) := [(146, 24)]
abbrev jQ_X12_fails (x1 x2 : Int) (a0 b0 : Nat → Nat → Int) : List jxV → (Nat → Nat → Int) → (Nat → Nat → Int) → Prop := rI (fun r a b => (iv a) ∧ (jfr jW_X12_fails a0 a) ∧ (b0 = b) ∧ ((0 ≤ r ∧ r ≤ 1)) ∧ (r = 0) ∧ ((((((a0 146 24 = 0 ∧ 0 ≤ x2) ∧ x2 ≤ 200) ∧ 0 ≤ x1) ∧ x1 ≤ 7) → a 146 24 = (1 + (8 * x2)) + x1)) ∧ ((¬ a0 146 24 = 0 → a 146 24 = a0 146 24)))
theorem sp_X12_fails (E : jxE) (d : Nat) (hd : Nat.ble 1 d = true) (x1 x2 : Int) (a0 b0 : Nat → Nat → Int) (hv0 : iv a0) : jt (jxC E d 214 [.inr (.inr (.inl 146)), .inl x1, .inl x2] (jxSH, a0, b0)) (jQ_X12_fails x1 x2 a0 b0) := by
  obtain ⟨d, rfl⟩ := jd_succ hd
  refine jt_eq (bq_X12_fails E d x1 x2 a0 b0) ?_
  refine jt_ite (fun c44_ => ?_) (fun c44_ => ?_)
  ·
    have hv45_ : iv (jxu a0 146 24 (jxw ((jxw (1 + (jxw (8 * x2)))) + x1))) := iv_putf hv0 rfl
    have hf46_ : jfr jW_X12_fails a0 (jxu a0 146 24 (jxw ((jxw (1 + (jxw (8 * x2)))) + x1))) := jfr_put (jfr_rf _ _) rfl
    have h47_ := jxw_im (8 * x2)
    have h48_ := jxw_rg (8 * x2)
    have h49_ := jxw_im (1 + (jxw (8 * x2)))
    have h50_ := jxw_rg (1 + (jxw (8 * x2)))
    have h51_ := jxw_im ((jxw (1 + (jxw (8 * x2)))) + x1)
    have h52_ := jxw_rg ((jxw (1 + (jxw (8 * x2)))) + x1)
    exact jt_rI ⟨hv45_, hf46_, rfl, (show (0 ≤ 0 ∧ 0 ≤ 1) from by omega), (show 0 = 0 from by omega), (show (((((a0 146 24 = 0 ∧ 0 ≤ x2) ∧ x2 ≤ 200) ∧ 0 ≤ x1) ∧ x1 ≤ 7) → jxw ((jxw (1 + (jxw (8 * x2)))) + x1) = (1 + (8 * x2)) + x1) from by omega), (show (¬ a0 146 24 = 0 → jxw ((jxw (1 + (jxw (8 * x2)))) + x1) = a0 146 24) from by omega)⟩
  ·
    exact jt_rI ⟨hv0, (jfr_rf _ _), rfl, (show (0 ≤ 0 ∧ 0 ≤ 1) from by omega), (show 0 = 0 from by omega), (show (((((a0 146 24 = 0 ∧ 0 ≤ x2) ∧ x2 ≤ 200) ∧ 0 ≤ x1) ∧ x1 ≤ 7) → a0 146 24 = (1 + (8 * x2)) + x1) from by omega), (show (¬ a0 146 24 = 0 → a0 146 24 = a0 146 24) from by omega)⟩
def jW_X12_number : List (Nat × Nat) := [(146, 23), (146, 24), (146, 26), (146, 27)]
abbrev jQ_X12_number (x1 x2 : Int) (a0 b0 : Nat → Nat → Int) : List jxV → (Nat → Nat → Int) → (Nat → Nat → Int) → Prop := rI (fun r a b => (iv a) ∧ (jfr jW_X12_number a0 a) ∧ (b0 = b) ∧ ((0 ≤ r ∧ r ≤ 1)) ∧ (a0 146 23 ≤ a 146 23) ∧ (a 146 23 ≤ a0 146 22) ∧ ((r = 1 → (x1 ≤ a 146 26 ∧ a 146 26 ≤ x2))) ∧ (r = 1 → NF (UB (a0 164)) (a0 146 22).toNat (SK (UB (a0 164)) (a0 146 22).toNat (a0 146 23).toNat) x1 x2 = 0 ∧ a 146 26 = NV (UB (a0 164)) (a0 146 22).toNat (SK (UB (a0 164)) (a0 146 22).toNat (a0 146 23).toNat) ∧ a 146 23 = (DE (UB (a0 164)) (a0 146 22).toNat (SK (UB (a0 164)) (a0 146 22).toNat (a0 146 23).toNat) : Int) ∧ a 146 24 = a0 146 24) ∧ (r = 0 → ¬ NF (UB (a0 164)) (a0 146 22).toNat (SK (UB (a0 164)) (a0 146 22).toNat (a0 146 23).toNat) x1 x2 = 0 ∧ a 146 24 = (if a0 146 24 = 0 then NF (UB (a0 164)) (a0 146 22).toNat (SK (UB (a0 164)) (a0 146 22).toNat (a0 146 23).toNat) x1 x2 else a0 146 24)))
theorem cp_X12_number_144 (E : jxE) (d : Nat) (hd : Nat.ble 2 (d + 1) = true) (x1 x2 : Int) (a0 b0 : Nat → Nat → Int) (hv0 : iv a0) (hp0 : a0 146 23 ≤ a0 146 22) : ∀ (a : Nat → Nat → Int), iv a → jfr jW_X12_number a0 a → a 146 23 ≤ a 146 22 → a0 146 23 ≤ a 146 23 → a 146 24 = a0 146 24 → (DG (UB (a0 164)) (a0 146 22).toNat (SK (UB (a0 164)) (a0 146 22).toNat (a0 146 23).toNat)) → (a 146 27 = ((SK (UB (a0 164)) (a0 146 22).toNat (a0 146 23).toNat) : Int)) → (NF (UB (a0 164)) (a0 146 22).toNat (SK (UB (a0 164)) (a0 146 22).toNat (a0 146 23).toNat) x1 x2 = 2 + 8 * ((SK (UB (a0 164)) (a0 146 22).toNat (a0 146 23).toNat) : Int)) → jt (jxX E d 217 144 [some (.inr (.inr (.inl 146))), none, none, none, none, none] [] (jxSH, a, b0)) (jQ_X12_number x1 x2 a0 b0) := by
  intro a hv hf hi0 hi1 hi2 hd0 hq hnf
  refine jt_eq (bq_X12_number_144 E d a b0) ?_
  have h53_ := iv_get hv (k := 146) (j := 23) (l := 0) (u := 200) rfl
  have h54_ := iv_get hv (k := 146) (j := 22) (l := 0) (u := 200) rfl
  have h55_ : a 146 22 = a0 146 22 := hf 146 22 rfl
  have h56_ := iv_get hv0 (k := 146) (j := 22) (l := 0) (u := 200) rfl
  have h57_ := iv_get hv0 (k := 146) (j := 23) (l := 0) (u := 200) rfl
  have h4 : a 164 = a0 164 := funext fun j => hf 164 j rfl
  have h22 := hf 146 22 rfl
  have hub := UB_sp (g := a 164) (j := (a 146 23).toNat) (iv_get hv (k := 164) (j := (a 146 23).toNat) (l := -128) (u := 127) rfl).1 (iv_get hv (k := 164) (j := (a 146 23).toNat) (l := -128) (u := 127) rfl).2
  have hskb := (SK_sp (UB (a0 164)) (a0 146 22).toNat (a0 146 23).toNat).2.1 (by omega)
  have hskc := iv_get hv0 (k := 146) (j := 22) (l := 0) (u := 200) rfl
  refine jt_bI (sp_X12_fails E d (jd_le hd rfl) 1 (a 146 27) a b0 hv) (fun r58_ a58_ b58_ h58_ => ?_)
  obtain ⟨hv58_, hf58_, rfl, hq58_0, hq58_1, hq58_2, hq58_3⟩ := h58_
  have h23_58 := hf58_ 146 23 rfl
  refine jt_ite (fun c59_ => ?_) (fun c59_ => ?_)
  ·
    have hf60_ : jfr jW_X12_number a0 a58_ := jfr_tr hf hf58_ rfl
    have h61_ := iv_get hv58_ (k := 146) (j := 23) (l := 0) (u := 200) rfl
    have h62_ : a58_ 146 23 = a 146 23 := hf58_ 146 23 rfl
    have h63_ := iv_get hv58_ (k := 146) (j := 26) (l := 0) (u := 999) rfl
    have h64_ : a58_ 146 26 = a 146 26 := hf58_ 146 26 rfl
    have h65_ := iv_get hv (k := 146) (j := 26) (l := 0) (u := 999) rfl
    exact jt_rI ⟨hv58_, hf60_, rfl, (show (0 ≤ 0 ∧ 0 ≤ 1) from by omega), (show a0 146 23 ≤ a58_ 146 23 from by omega), (show a58_ 146 23 ≤ a0 146 22 from by omega), (show (0 = 1 → (x1 ≤ a58_ 146 26 ∧ a58_ 146 26 ≤ x2)) from by omega), (by first | exact (fun h => absurd h (by omega)) | exact (fun _ => ⟨by have hz := (DE_sp (UB (a0 164)) (a0 146 22).toNat (SK (UB (a0 164)) (a0 146 22).toNat (a0 146 23).toNat)).2.2.1; unfold NF; rw [if_neg (fun h => hz (by rw [h]; exact hd0)), if_neg (by rw [hde, ← hnv]; omega)], hnv, by rw [hde]; show a 146 23 = _; omega, by show a 146 24 = _; omega⟩)), (by first | exact (fun h => absurd h (by decide)) | exact (fun _ => ⟨by rw [hnf]; omega, by rw [hnf]; split <;> omega⟩) | (intro _; have e := hq0_4; have hnd : ¬ DG (UB (a0 164)) (a0 146 22).toNat (SK (UB (a0 164)) (a0 146 22).toNat (a0 146 23).toNat) := (fun hd => by have e2 : (a0_ 146 23).toNat = _ := congrArg Int.toNat e; rw [Int.toNat_natCast] at e2; obtain ⟨q1, q2, q3⟩ := hd; have h5 := hq0_5; rw [e2] at h5; omega); rw [NF_none hnd]; exact ⟨by omega, by split <;> omega⟩))⟩
  ·
    have hf66_ : jfr jW_X12_number a0 a58_ := jfr_tr hf hf58_ rfl
    have h67_ := iv_get hv58_ (k := 146) (j := 23) (l := 0) (u := 200) rfl
    have h68_ : a58_ 146 23 = a 146 23 := hf58_ 146 23 rfl
    have h69_ := iv_get hv58_ (k := 146) (j := 26) (l := 0) (u := 999) rfl
    have h70_ : a58_ 146 26 = a 146 26 := hf58_ 146 26 rfl
    have h71_ := iv_get hv (k := 146) (j := 26) (l := 0) (u := 999) rfl
    exact jt_rI ⟨hv58_, hf66_, rfl, (show (0 ≤ 1 ∧ 1 ≤ 1) from by omega), (show a0 146 23 ≤ a58_ 146 23 from by omega), (show a58_ 146 23 ≤ a0 146 22 from by omega), (show (1 = 1 → (x1 ≤ a58_ 146 26 ∧ a58_ 146 26 ≤ x2)) from by omega), (by first | exact (fun h => absurd h (by omega)) | exact (fun _ => ⟨by have hz := (DE_sp (UB (a0 164)) (a0 146 22).toNat (SK (UB (a0 164)) (a0 146 22).toNat (a0 146 23).toNat)).2.2.1; unfold NF; rw [if_neg (fun h => hz (by rw [h]; exact hd0)), if_neg (by rw [hde, ← hnv]; omega)], hnv, by rw [hde]; show a 146 23 = _; omega, by show a 146 24 = _; omega⟩)), (by first | exact (fun h => absurd h (by decide)) | exact (fun _ => ⟨by rw [hnf]; omega, by rw [hnf]; split <;> omega⟩) | (intro _; have e := hq0_4; have hnd : ¬ DG (UB (a0 164)) (a0 146 22).toNat (SK (UB (a0 164)) (a0 146 22).toNat (a0 146 23).toNat) := (fun hd => by have e2 : (a0_ 146 23).toNat = _ := congrArg Int.toNat e; rw [Int.toNat_natCast] at e2; obtain ⟨q1, q2, q3⟩ := hd; have h5 := hq0_5; rw [e2] at h5; omega); rw [NF_none hnd]; exact ⟨by omega, by split <;> omega⟩))⟩
theorem cp_X12_number_122 (E : jxE) (d : Nat) (hd : Nat.ble 2 (d + 1) = true) (x1 x2 : Int) (a0 b0 : Nat → Nat → Int) (hv0 : iv a0) (hp0 : a0 146 23 ≤ a0 146 22) : ∀ (y1 y2 y4 y5 : Int) (a : Nat → Nat → Int), iv a → jfr jW_X12_number a0 a → a 146 23 ≤ a 146 22 → a0 146 23 ≤ a 146 23 → y1 = x1 → y2 = x2 → 0 ≤ y5 → y5 ≤ 999 → a 146 24 = a0 146 24 → (DG (UB (a0 164)) (a0 146 22).toNat (SK (UB (a0 164)) (a0 146 22).toNat (a0 146 23).toNat)) → (a 146 27 = ((SK (UB (a0 164)) (a0 146 22).toNat (a0 146 23).toNat) : Int)) → (y4 + ((SK (UB (a0 164)) (a0 146 22).toNat (a0 146 23).toNat) : Int) = a 146 23) → (DE (UB (a0 164)) (a0 146 22).toNat (SK (UB (a0 164)) (a0 146 22).toNat (a0 146 23).toNat) = (a 146 23).toNat) → (y5 = NV (UB (a0 164)) (a0 146 22).toNat (SK (UB (a0 164)) (a0 146 22).toNat (a0 146 23).toNat)) → jt (jxX E d 217 122 [some (.inr (.inr (.inl 146))), some (.inl y1), some (.inl y2), none, some (.inl y4), some (.inl y5)] [] (jxSH, a, b0)) (jQ_X12_number x1 x2 a0 b0) := by
  intro y1 y2 y4 y5 a hv hf hi0 hi1 hi2 hi3 hi4 hi5 hi6 hd0 hq hm4 hde hnv
  refine jt_eq (bq_X12_number_122 E d y1 y2 y4 y5 a b0) ?_
  have h72_ := iv_get hv (k := 146) (j := 23) (l := 0) (u := 200) rfl
  have h73_ := iv_get hv (k := 146) (j := 22) (l := 0) (u := 200) rfl
  have h74_ : a 146 22 = a0 146 22 := hf 146 22 rfl
  have h75_ := iv_get hv0 (k := 146) (j := 22) (l := 0) (u := 200) rfl
  have h76_ := iv_get hv0 (k := 146) (j := 23) (l := 0) (u := 200) rfl
  have h4 : a 164 = a0 164 := funext fun j => hf 164 j rfl
  have h22 := hf 146 22 rfl
  have hub := UB_sp (g := a 164) (j := (a 146 23).toNat) (iv_get hv (k := 164) (j := (a 146 23).toNat) (l := -128) (u := 127) rfl).1 (iv_get hv (k := 164) (j := (a 146 23).toNat) (l := -128) (u := 127) rfl).2
  refine jt_ite (fun c77_ => ?_) (fun c77_ => ?_)
  ·
    have hv78_ : iv (jxu a 146 26 y5) := iv_put hv (l := 0) (u := 999) rfl (by omega) (by omega)
    have hf79_ : jfr jW_X12_number a0 (jxu a 146 26 y5) := jfr_put hf rfl
    exact cp_X12_number_144 E d hd x1 x2 a0 b0 hv0 hp0 (jxu a 146 26 y5) hv78_ hf79_ (show a 146 23 ≤ a 146 22 from by omega) (show a0 146 23 ≤ a 146 23 from by omega) (show a 146 24 = a0 146 24 from by omega) (by first | exact hd0 | (have e := hq0_4; have h5 := hq0_5 (by omega); have e2 : (a0_ 146 23).toNat = _ := congrArg Int.toNat e; rw [Int.toNat_natCast] at e2; rw [e2] at h5; exact ⟨by omega, by omega, by omega⟩)) hq (by have hz := (DE_sp (UB (a0 164)) (a0 146 22).toNat (SK (UB (a0 164)) (a0 146 22).toNat (a0 146 23).toNat)).2.2.1; unfold NF; rw [if_neg (fun h => hz (by rw [h]; exact hd0)), if_pos (by rw [hde, ← hnv]; omega)])
  ·
    refine jt_eI (eq_X12_in E d (jd_le hd rfl) y5 y1 y2 (jxu a 146 26 y5) b0) ?_
    have h80_ : f_X12_in (jxu a 146 26 y5) b0 y5 y1 y2 = (if y5 < y1 then 0 else (if y2 < y5 then 0 else 1)) := f_X12_in_eq (jxu a 146 26 y5) b0 y5 y1 y2
    refine jt_ite (fun c81_ => ?_) (fun c81_ => ?_)
    ·
      have hv82_ : iv (jxu a 146 26 y5) := iv_put hv (l := 0) (u := 999) rfl (by omega) (by omega)
      have hf83_ : jfr jW_X12_number a0 (jxu a 146 26 y5) := jfr_put hf rfl
      exact cp_X12_number_144 E d hd x1 x2 a0 b0 hv0 hp0 (jxu a 146 26 y5) hv82_ hf83_ (show a 146 23 ≤ a 146 22 from by omega) (show a0 146 23 ≤ a 146 23 from by omega) (show a 146 24 = a0 146 24 from by omega) (by first | exact hd0 | (have e := hq0_4; have h5 := hq0_5 (by omega); have e2 : (a0_ 146 23).toNat = _ := congrArg Int.toNat e; rw [Int.toNat_natCast] at e2; rw [e2] at h5; exact ⟨by omega, by omega, by omega⟩)) hq (by have hz := (DE_sp (UB (a0 164)) (a0 146 22).toNat (SK (UB (a0 164)) (a0 146 22).toNat (a0 146 23).toNat)).2.2.1; unfold NF; rw [if_neg (fun h => hz (by rw [h]; exact hd0)), if_pos (by rw [hde, ← hnv]; omega)])
    ·
      have hv84_ : iv (jxu a 146 26 y5) := iv_put hv (l := 0) (u := 999) rfl (by omega) (by omega)
      have hf85_ : jfr jW_X12_number a0 (jxu a 146 26 y5) := jfr_put hf rfl
      exact jt_rI ⟨hv84_, hf85_, rfl, (show (0 ≤ 1 ∧ 1 ≤ 1) from by omega), (show a0 146 23 ≤ a 146 23 from by omega), (show a 146 23 ≤ a0 146 22 from by omega), (show (1 = 1 → (x1 ≤ y5 ∧ y5 ≤ x2)) from by omega), (by first | exact (fun h => absurd h (by omega)) | exact (fun _ => ⟨by have hz := (DE_sp (UB (a0 164)) (a0 146 22).toNat (SK (UB (a0 164)) (a0 146 22).toNat (a0 146 23).toNat)).2.2.1; unfold NF; rw [if_neg (fun h => hz (by rw [h]; exact hd0)), if_neg (by rw [hde, ← hnv]; omega)], hnv, by rw [hde]; show a 146 23 = _; omega, by show a 146 24 = _; omega⟩)), (by first | exact (fun h => absurd h (by decide)) | exact (fun _ => ⟨by rw [hnf]; omega, by rw [hnf]; split <;> omega⟩) | (intro _; have e := hq0_4; have hnd : ¬ DG (UB (a0 164)) (a0 146 22).toNat (SK (UB (a0 164)) (a0 146 22).toNat (a0 146 23).toNat) := (fun hd => by have e2 : (a0_ 146 23).toNat = _ := congrArg Int.toNat e; rw [Int.toNat_natCast] at e2; obtain ⟨q1, q2, q3⟩ := hd; have h5 := hq0_5; rw [e2] at h5; omega); rw [NF_none hnd]; exact ⟨by omega, by split <;> omega⟩))⟩
theorem cp_X12_number_41 (E : jxE) (d : Nat) (hd : Nat.ble 2 (d + 1) = true) (x1 x2 : Int) (a0 b0 : Nat → Nat → Int) (hv0 : iv a0) (hp0 : a0 146 23 ≤ a0 146 22) : ∀ n : Nat, (∀ (y1 y2 y4 y5 : Int) (a : Nat → Nat → Int), ((((a 146 22) - (a 146 23)) * 1) + 0).toNat ≤ n → iv a → jfr jW_X12_number a0 a → 1 ≤ a 146 22 → a 146 23 ≤ 199 → a 146 23 ≤ a 146 22 → a0 146 23 ≤ a 146 23 → y1 = x1 → y2 = x2 → 0 ≤ y4 → y4 ≤ a 146 23 → 0 ≤ y5 → y5 ≤ 999 → (y4 ≤ 1 → y5 ≤ 99) → (y4 ≤ 0 → y5 ≤ 9) → a 146 23 < a 146 22 → a 146 24 = a0 146 24 → (DG (UB (a0 164)) (a0 146 22).toNat (SK (UB (a0 164)) (a0 146 22).toNat (a0 146 23).toNat)) → (a 146 27 = ((SK (UB (a0 164)) (a0 146 22).toNat (a0 146 23).toNat) : Int)) → (y4 + ((SK (UB (a0 164)) (a0 146 22).toNat (a0 146 23).toNat) : Int) = a 146 23) → (∀ j : Nat, (SK (UB (a0 164)) (a0 146 22).toNat (a0 146 23).toNat) ≤ j → (j : Int) < a 146 23 → DG (UB (a0 164)) (a0 146 22).toNat j) → (DG (UB (a0 164)) (a0 146 22).toNat (a 146 23).toNat) → (y5 = DV (UB (a0 164)) (SK (UB (a0 164)) (a0 146 22).toNat (a0 146 23).toNat) (y4.toNat + 1)) → jt (jxX E d 217 106 [some (.inr (.inr (.inl 146))), some (.inl y1), some (.inl y2), none, some (.inl y4), some (.inl y5)] [] (jxSH, a, b0)) (jQ_X12_number x1 x2 a0 b0)) ∧ (∀ (y1 y2 y4 y5 : Int) (a : Nat → Nat → Int), ((((a 146 22) - (a 146 23)) * 1) + 0).toNat ≤ n → iv a → jfr jW_X12_number a0 a → 1 ≤ a 146 22 → a 146 23 ≤ 199 → a 146 23 ≤ a 146 22 → a0 146 23 ≤ a 146 23 → y1 = x1 → y2 = x2 → 0 ≤ y4 → y4 ≤ a 146 23 → 0 ≤ y5 → y5 ≤ 999 → (y4 ≤ 2 → y5 ≤ 99) → (y4 ≤ 1 → y5 ≤ 9) → (y4 ≤ 0 → y5 ≤ 0) → a 146 23 < a 146 22 → 48 ≤ a 164 ((a 146 23).toNat) → a 164 ((a 146 23).toNat) ≤ 57 → a 146 24 = a0 146 24 → (DG (UB (a0 164)) (a0 146 22).toNat (SK (UB (a0 164)) (a0 146 22).toNat (a0 146 23).toNat)) → (a 146 27 = ((SK (UB (a0 164)) (a0 146 22).toNat (a0 146 23).toNat) : Int)) → (y4 + ((SK (UB (a0 164)) (a0 146 22).toNat (a0 146 23).toNat) : Int) = a 146 23) → (∀ j : Nat, (SK (UB (a0 164)) (a0 146 22).toNat (a0 146 23).toNat) ≤ j → (j : Int) < a 146 23 → DG (UB (a0 164)) (a0 146 22).toNat j) → (y5 = DV (UB (a0 164)) (SK (UB (a0 164)) (a0 146 22).toNat (a0 146 23).toNat) y4.toNat) → (DG (UB (a0 164)) (a0 146 22).toNat (a 146 23).toNat) → jt (jxX E d 217 80 [some (.inr (.inr (.inl 146))), some (.inl y1), some (.inl y2), none, some (.inl y4), some (.inl y5)] [] (jxSH, a, b0)) (jQ_X12_number x1 x2 a0 b0)) ∧ (∀ (y1 y2 y4 y5 : Int) (a : Nat → Nat → Int), ((((a 146 22) - (a 146 23)) * 1) + 0).toNat ≤ n → iv a → jfr jW_X12_number a0 a → a 146 23 ≤ a 146 22 → a0 146 23 ≤ a 146 23 → y1 = x1 → y2 = x2 → 0 ≤ y4 → y4 ≤ a 146 23 → 0 ≤ y5 → y5 ≤ 999 → (y4 ≤ 2 → y5 ≤ 99) → (y4 ≤ 1 → y5 ≤ 9) → (y4 ≤ 0 → y5 ≤ 0) → a 146 24 = a0 146 24 → (DG (UB (a0 164)) (a0 146 22).toNat (SK (UB (a0 164)) (a0 146 22).toNat (a0 146 23).toNat)) → (a 146 27 = ((SK (UB (a0 164)) (a0 146 22).toNat (a0 146 23).toNat) : Int)) → (y4 + ((SK (UB (a0 164)) (a0 146 22).toNat (a0 146 23).toNat) : Int) = a 146 23) → (∀ j : Nat, (SK (UB (a0 164)) (a0 146 22).toNat (a0 146 23).toNat) ≤ j → (j : Int) < a 146 23 → DG (UB (a0 164)) (a0 146 22).toNat j) → (y5 = DV (UB (a0 164)) (SK (UB (a0 164)) (a0 146 22).toNat (a0 146 23).toNat) y4.toNat) → jt (jxX E d 217 41 [some (.inr (.inr (.inl 146))), some (.inl y1), some (.inl y2), none, some (.inl y4), some (.inl y5)] [] (jxSH, a, b0)) (jQ_X12_number x1 x2 a0 b0)) := by
  refine jx_ind fun n ih => ?_
  have ih106 : ∀ (y1 y2 y4 y5 : Int) (a : Nat → Nat → Int), ((((a 146 22) - (a 146 23)) * 1) + 0).toNat < n → iv a → jfr jW_X12_number a0 a → 1 ≤ a 146 22 → a 146 23 ≤ 199 → a 146 23 ≤ a 146 22 → a0 146 23 ≤ a 146 23 → y1 = x1 → y2 = x2 → 0 ≤ y4 → y4 ≤ a 146 23 → 0 ≤ y5 → y5 ≤ 999 → (y4 ≤ 1 → y5 ≤ 99) → (y4 ≤ 0 → y5 ≤ 9) → a 146 23 < a 146 22 → a 146 24 = a0 146 24 → (DG (UB (a0 164)) (a0 146 22).toNat (SK (UB (a0 164)) (a0 146 22).toNat (a0 146 23).toNat)) → (a 146 27 = ((SK (UB (a0 164)) (a0 146 22).toNat (a0 146 23).toNat) : Int)) → (y4 + ((SK (UB (a0 164)) (a0 146 22).toNat (a0 146 23).toNat) : Int) = a 146 23) → (∀ j : Nat, (SK (UB (a0 164)) (a0 146 22).toNat (a0 146 23).toNat) ≤ j → (j : Int) < a 146 23 → DG (UB (a0 164)) (a0 146 22).toNat j) → (DG (UB (a0 164)) (a0 146 22).toNat (a 146 23).toNat) → (y5 = DV (UB (a0 164)) (SK (UB (a0 164)) (a0 146 22).toNat (a0 146 23).toNat) (y4.toNat + 1)) → jt (jxX E d 217 106 [some (.inr (.inr (.inl 146))), some (.inl y1), some (.inl y2), none, some (.inl y4), some (.inl y5)] [] (jxSH, a, b0)) (jQ_X12_number x1 x2 a0 b0) := fun y1 y2 y4 y5 a hlt i0 i1 i2 i3 i4 i5 i6 i7 i8 i9 i10 i11 i12 i13 i14 i15 i16 i17 i18 i19 i20 i21 => (ih _ hlt).1 y1 y2 y4 y5 a (Nat.le_refl _) i0 i1 i2 i3 i4 i5 i6 i7 i8 i9 i10 i11 i12 i13 i14 i15 i16 i17 i18 i19 i20 i21
  have ih80 : ∀ (y1 y2 y4 y5 : Int) (a : Nat → Nat → Int), ((((a 146 22) - (a 146 23)) * 1) + 0).toNat < n → iv a → jfr jW_X12_number a0 a → 1 ≤ a 146 22 → a 146 23 ≤ 199 → a 146 23 ≤ a 146 22 → a0 146 23 ≤ a 146 23 → y1 = x1 → y2 = x2 → 0 ≤ y4 → y4 ≤ a 146 23 → 0 ≤ y5 → y5 ≤ 999 → (y4 ≤ 2 → y5 ≤ 99) → (y4 ≤ 1 → y5 ≤ 9) → (y4 ≤ 0 → y5 ≤ 0) → a 146 23 < a 146 22 → 48 ≤ a 164 ((a 146 23).toNat) → a 164 ((a 146 23).toNat) ≤ 57 → a 146 24 = a0 146 24 → (DG (UB (a0 164)) (a0 146 22).toNat (SK (UB (a0 164)) (a0 146 22).toNat (a0 146 23).toNat)) → (a 146 27 = ((SK (UB (a0 164)) (a0 146 22).toNat (a0 146 23).toNat) : Int)) → (y4 + ((SK (UB (a0 164)) (a0 146 22).toNat (a0 146 23).toNat) : Int) = a 146 23) → (∀ j : Nat, (SK (UB (a0 164)) (a0 146 22).toNat (a0 146 23).toNat) ≤ j → (j : Int) < a 146 23 → DG (UB (a0 164)) (a0 146 22).toNat j) → (y5 = DV (UB (a0 164)) (SK (UB (a0 164)) (a0 146 22).toNat (a0 146 23).toNat) y4.toNat) → (DG (UB (a0 164)) (a0 146 22).toNat (a 146 23).toNat) → jt (jxX E d 217 80 [some (.inr (.inr (.inl 146))), some (.inl y1), some (.inl y2), none, some (.inl y4), some (.inl y5)] [] (jxSH, a, b0)) (jQ_X12_number x1 x2 a0 b0) := fun y1 y2 y4 y5 a hlt i0 i1 i2 i3 i4 i5 i6 i7 i8 i9 i10 i11 i12 i13 i14 i15 i16 i17 i18 i19 i20 i21 i22 i23 i24 => (ih _ hlt).2.1 y1 y2 y4 y5 a (Nat.le_refl _) i0 i1 i2 i3 i4 i5 i6 i7 i8 i9 i10 i11 i12 i13 i14 i15 i16 i17 i18 i19 i20 i21 i22 i23 i24
  have ih41 : ∀ (y1 y2 y4 y5 : Int) (a : Nat → Nat → Int), ((((a 146 22) - (a 146 23)) * 1) + 0).toNat < n → iv a → jfr jW_X12_number a0 a → a 146 23 ≤ a 146 22 → a0 146 23 ≤ a 146 23 → y1 = x1 → y2 = x2 → 0 ≤ y4 → y4 ≤ a 146 23 → 0 ≤ y5 → y5 ≤ 999 → (y4 ≤ 2 → y5 ≤ 99) → (y4 ≤ 1 → y5 ≤ 9) → (y4 ≤ 0 → y5 ≤ 0) → a 146 24 = a0 146 24 → (DG (UB (a0 164)) (a0 146 22).toNat (SK (UB (a0 164)) (a0 146 22).toNat (a0 146 23).toNat)) → (a 146 27 = ((SK (UB (a0 164)) (a0 146 22).toNat (a0 146 23).toNat) : Int)) → (y4 + ((SK (UB (a0 164)) (a0 146 22).toNat (a0 146 23).toNat) : Int) = a 146 23) → (∀ j : Nat, (SK (UB (a0 164)) (a0 146 22).toNat (a0 146 23).toNat) ≤ j → (j : Int) < a 146 23 → DG (UB (a0 164)) (a0 146 22).toNat j) → (y5 = DV (UB (a0 164)) (SK (UB (a0 164)) (a0 146 22).toNat (a0 146 23).toNat) y4.toNat) → jt (jxX E d 217 41 [some (.inr (.inr (.inl 146))), some (.inl y1), some (.inl y2), none, some (.inl y4), some (.inl y5)] [] (jxSH, a, b0)) (jQ_X12_number x1 x2 a0 b0) := fun y1 y2 y4 y5 a hlt i0 i1 i2 i3 i4 i5 i6 i7 i8 i9 i10 i11 i12 i13 i14 i15 i16 i17 i18 => (ih _ hlt).2.2 y1 y2 y4 y5 a (Nat.le_refl _) i0 i1 i2 i3 i4 i5 i6 i7 i8 i9 i10 i11 i12 i13 i14 i15 i16 i17 i18
  have hc106 : ∀ (y1 y2 y4 y5 : Int) (a : Nat → Nat → Int), ((((a 146 22) - (a 146 23)) * 1) + 0).toNat ≤ n → iv a → jfr jW_X12_number a0 a → 1 ≤ a 146 22 → a 146 23 ≤ 199 → a 146 23 ≤ a 146 22 → a0 146 23 ≤ a 146 23 → y1 = x1 → y2 = x2 → 0 ≤ y4 → y4 ≤ a 146 23 → 0 ≤ y5 → y5 ≤ 999 → (y4 ≤ 1 → y5 ≤ 99) → (y4 ≤ 0 → y5 ≤ 9) → a 146 23 < a 146 22 → a 146 24 = a0 146 24 → (DG (UB (a0 164)) (a0 146 22).toNat (SK (UB (a0 164)) (a0 146 22).toNat (a0 146 23).toNat)) → (a 146 27 = ((SK (UB (a0 164)) (a0 146 22).toNat (a0 146 23).toNat) : Int)) → (y4 + ((SK (UB (a0 164)) (a0 146 22).toNat (a0 146 23).toNat) : Int) = a 146 23) → (∀ j : Nat, (SK (UB (a0 164)) (a0 146 22).toNat (a0 146 23).toNat) ≤ j → (j : Int) < a 146 23 → DG (UB (a0 164)) (a0 146 22).toNat j) → (DG (UB (a0 164)) (a0 146 22).toNat (a 146 23).toNat) → (y5 = DV (UB (a0 164)) (SK (UB (a0 164)) (a0 146 22).toNat (a0 146 23).toNat) (y4.toNat + 1)) → jt (jxX E d 217 106 [some (.inr (.inr (.inl 146))), some (.inl y1), some (.inl y2), none, some (.inl y4), some (.inl y5)] [] (jxSH, a, b0)) (jQ_X12_number x1 x2 a0 b0) := by
    intro y1 y2 y4 y5 a hm hv hf hi0 hi1 hi2 hi3 hi4 hi5 hi6 hi7 hi8 hi9 hi10 hi11 hi12 hi13 hd0 hq hm4 hdg hd1 hdv
    refine jt_eq (bq_X12_number_106 E d y1 y2 y4 y5 a b0) ?_
    have h86_ := iv_get hv (k := 146) (j := 22) (l := 0) (u := 200) rfl
    have h87_ : a 146 22 = a0 146 22 := hf 146 22 rfl
    have h88_ := iv_get hv0 (k := 146) (j := 22) (l := 0) (u := 200) rfl
    have h89_ := iv_get hv (k := 146) (j := 23) (l := 0) (u := 200) rfl
    have h90_ := iv_get hv0 (k := 146) (j := 23) (l := 0) (u := 200) rfl
    have h4 : a 164 = a0 164 := funext fun j => hf 164 j rfl
    have h22 := hf 146 22 rfl
    have hub := UB_sp (g := a 164) (j := (a 146 23).toNat) (iv_get hv (k := 164) (j := (a 146 23).toNat) (l := -128) (u := 127) rfl).1 (iv_get hv (k := 164) (j := (a 146 23).toNat) (l := -128) (u := 127) rfl).2
    have h92_ : jxw ((a 146 23) + 1) = (a 146 23) + 1 := jxw_id (by omega) (by omega)
    have hv91_ : iv (jxu a 146 23 (jxw ((a 146 23) + 1))) := iv_put hv (l := 0) (u := 200) rfl (by omega) (by omega)
    have hf93_ : jfr jW_X12_number a0 (jxu a 146 23 (jxw ((a 146 23) + 1))) := jfr_put hf rfl
    have h94_ := jxw_im (y4 + 1)
    have h95_ := jxw_rg (y4 + 1)
    exact ih41 y1 y2 (jxw (y4 + 1)) y5 (jxu a 146 23 (jxw ((a 146 23) + 1))) (show ((((a 146 22) - (jxw ((a 146 23) + 1))) * 1) + 0).toNat < n from by omega) hv91_ hf93_ (show jxw ((a 146 23) + 1) ≤ a 146 22 from by omega) (show a0 146 23 ≤ jxw ((a 146 23) + 1) from by omega) (show y1 = x1 from by omega) (show y2 = x2 from by omega) (show 0 ≤ jxw (y4 + 1) from by omega) (show jxw (y4 + 1) ≤ jxw ((a 146 23) + 1) from by omega) (show 0 ≤ y5 from by omega) (show y5 ≤ 999 from by omega) (show (jxw (y4 + 1) ≤ 2 → y5 ≤ 99) from by omega) (show (jxw (y4 + 1) ≤ 1 → y5 ≤ 9) from by omega) (show (jxw (y4 + 1) ≤ 0 → y5 ≤ 0) from by omega) (show a 146 24 = a0 146 24 from by omega) (by first | exact hd0 | (have e := hq0_4; have h5 := hq0_5 (by omega); have e2 : (a0_ 146 23).toNat = _ := congrArg Int.toNat e; rw [Int.toNat_natCast] at e2; rw [e2] at h5; exact ⟨by omega, by omega, by omega⟩)) hq (by first | exact hm4 | (rw [hn]; omega) | (show jxw (y4 + 1) + _ = jxw ((a 146 23) + 1); omega)) (by first | exact (fun j h1 h2 => absurd h2 (by omega)) | exact (dg_ext hdg hd1 (by omega) (show jxw ((a 146 23) + 1) = a 146 23 + 1 by omega))) (by first | (rw [show y4.toNat = 0 from by omega]; rfl) | rfl | (rw [show (jxw (y4 + 1)).toNat = y4.toNat + 1 from by omega]; exact hdv))
  have hc80 : ∀ (y1 y2 y4 y5 : Int) (a : Nat → Nat → Int), ((((a 146 22) - (a 146 23)) * 1) + 0).toNat ≤ n → iv a → jfr jW_X12_number a0 a → 1 ≤ a 146 22 → a 146 23 ≤ 199 → a 146 23 ≤ a 146 22 → a0 146 23 ≤ a 146 23 → y1 = x1 → y2 = x2 → 0 ≤ y4 → y4 ≤ a 146 23 → 0 ≤ y5 → y5 ≤ 999 → (y4 ≤ 2 → y5 ≤ 99) → (y4 ≤ 1 → y5 ≤ 9) → (y4 ≤ 0 → y5 ≤ 0) → a 146 23 < a 146 22 → 48 ≤ a 164 ((a 146 23).toNat) → a 164 ((a 146 23).toNat) ≤ 57 → a 146 24 = a0 146 24 → (DG (UB (a0 164)) (a0 146 22).toNat (SK (UB (a0 164)) (a0 146 22).toNat (a0 146 23).toNat)) → (a 146 27 = ((SK (UB (a0 164)) (a0 146 22).toNat (a0 146 23).toNat) : Int)) → (y4 + ((SK (UB (a0 164)) (a0 146 22).toNat (a0 146 23).toNat) : Int) = a 146 23) → (∀ j : Nat, (SK (UB (a0 164)) (a0 146 22).toNat (a0 146 23).toNat) ≤ j → (j : Int) < a 146 23 → DG (UB (a0 164)) (a0 146 22).toNat j) → (y5 = DV (UB (a0 164)) (SK (UB (a0 164)) (a0 146 22).toNat (a0 146 23).toNat) y4.toNat) → (DG (UB (a0 164)) (a0 146 22).toNat (a 146 23).toNat) → jt (jxX E d 217 80 [some (.inr (.inr (.inl 146))), some (.inl y1), some (.inl y2), none, some (.inl y4), some (.inl y5)] [] (jxSH, a, b0)) (jQ_X12_number x1 x2 a0 b0) := by
    intro y1 y2 y4 y5 a hm hv hf hi0 hi1 hi2 hi3 hi4 hi5 hi6 hi7 hi8 hi9 hi10 hi11 hi12 hi13 hi14 hi15 hi16 hd0 hq hm4 hdg hdv hd1
    refine jt_eq (bq_X12_number_80 E d y1 y2 y4 y5 a b0) ?_
    have h96_ := iv_get hv (k := 146) (j := 22) (l := 0) (u := 200) rfl
    have h97_ : a 146 22 = a0 146 22 := hf 146 22 rfl
    have h98_ := iv_get hv0 (k := 146) (j := 22) (l := 0) (u := 200) rfl
    have h99_ := iv_get hv (k := 146) (j := 23) (l := 0) (u := 200) rfl
    have h100_ := iv_get hv0 (k := 146) (j := 23) (l := 0) (u := 200) rfl
    have h101_ := iv_get hv (k := 164) (j := (a 146 23).toNat) (l := (-128)) (u := 127) rfl
    have h102_ : a 164 ((a 146 23).toNat) = a0 164 ((a 146 23).toNat) := hf 164 ((a 146 23).toNat) rfl
    have h103_ := iv_get hv0 (k := 164) (j := (a 146 23).toNat) (l := (-128)) (u := 127) rfl
    have h4 : a 164 = a0 164 := funext fun j => hf 164 j rfl
    have h22 := hf 146 22 rfl
    have hub := UB_sp (g := a 164) (j := (a 146 23).toNat) (iv_get hv (k := 164) (j := (a 146 23).toNat) (l := -128) (u := 127) rfl).1 (iv_get hv (k := 164) (j := (a 146 23).toNat) (l := -128) (u := 127) rfl).2
    refine jt_ite (fun c104_ => ?_) (fun c104_ => ?_)
    ·
      refine jt_grd (by omega) ?_
      have h105_ : jxw (10 * y5) = 10 * y5 := jxw_id (by omega) (by omega)
      have h106_ : jxw ((jxw (10 * y5)) + (a 164 ((a 146 23).toNat))) = (jxw (10 * y5)) + (a 164 ((a 146 23).toNat)) := jxw_id (by omega) (by omega)
      have h107_ : jxw ((jxw ((jxw (10 * y5)) + (a 164 ((a 146 23).toNat)))) - 48) = (jxw ((jxw (10 * y5)) + (a 164 ((a 146 23).toNat)))) - 48 := jxw_id (by omega) (by omega)
      exact hc106 y1 y2 y4 (jxw ((jxw ((jxw (10 * y5)) + (a 164 ((a 146 23).toNat)))) - 48)) a (show ((((a 146 22) - (a 146 23)) * 1) + 0).toNat ≤ n from by omega) hv hf (show 1 ≤ a 146 22 from by omega) (show a 146 23 ≤ 199 from by omega) (show a 146 23 ≤ a 146 22 from by omega) (show a0 146 23 ≤ a 146 23 from by omega) (show y1 = x1 from by omega) (show y2 = x2 from by omega) (show 0 ≤ y4 from by omega) (show y4 ≤ a 146 23 from by omega) (show 0 ≤ jxw ((jxw ((jxw (10 * y5)) + (a 164 ((a 146 23).toNat)))) - 48) from by omega) (show jxw ((jxw ((jxw (10 * y5)) + (a 164 ((a 146 23).toNat)))) - 48) ≤ 999 from by omega) (show (y4 ≤ 1 → jxw ((jxw ((jxw (10 * y5)) + (a 164 ((a 146 23).toNat)))) - 48) ≤ 99) from by omega) (show (y4 ≤ 0 → jxw ((jxw ((jxw (10 * y5)) + (a 164 ((a 146 23).toNat)))) - 48) ≤ 9) from by omega) (show a 146 23 < a 146 22 from by omega) (show a 146 24 = a0 146 24 from by omega) (by first | exact hd0 | (have e := hq0_4; have h5 := hq0_5 (by omega); have e2 : (a0_ 146 23).toNat = _ := congrArg Int.toNat e; rw [Int.toNat_natCast] at e2; rw [e2] at h5; exact ⟨by omega, by omega, by omega⟩)) hq hm4 hdg hd1 (by first | (rw [DV_lt (by omega), ← hdv, show (SK (UB (a0 164)) (a0 146 22).toNat (a0 146 23).toNat) + y4.toNat = (a 146 23).toNat from by omega, ← h4]; have hd2 := hd1; rw [← h4] at hd2; obtain ⟨q1, q2, q3⟩ := hd2; omega) | (rw [DV_ge (by omega)]; exact hdv))
    ·
      exact hc106 y1 y2 y4 y5 a (show ((((a 146 22) - (a 146 23)) * 1) + 0).toNat ≤ n from by omega) hv hf (show 1 ≤ a 146 22 from by omega) (show a 146 23 ≤ 199 from by omega) (show a 146 23 ≤ a 146 22 from by omega) (show a0 146 23 ≤ a 146 23 from by omega) (show y1 = x1 from by omega) (show y2 = x2 from by omega) (show 0 ≤ y4 from by omega) (show y4 ≤ a 146 23 from by omega) (show 0 ≤ y5 from by omega) (show y5 ≤ 999 from by omega) (show (y4 ≤ 1 → y5 ≤ 99) from by omega) (show (y4 ≤ 0 → y5 ≤ 9) from by omega) (show a 146 23 < a 146 22 from by omega) (show a 146 24 = a0 146 24 from by omega) (by first | exact hd0 | (have e := hq0_4; have h5 := hq0_5 (by omega); have e2 : (a0_ 146 23).toNat = _ := congrArg Int.toNat e; rw [Int.toNat_natCast] at e2; rw [e2] at h5; exact ⟨by omega, by omega, by omega⟩)) hq hm4 hdg hd1 (by first | (rw [DV_lt (by omega), ← hdv, show (SK (UB (a0 164)) (a0 146 22).toNat (a0 146 23).toNat) + y4.toNat = (a 146 23).toNat from by omega, ← h4]; have hd2 := hd1; rw [← h4] at hd2; obtain ⟨q1, q2, q3⟩ := hd2; omega) | (rw [DV_ge (by omega)]; exact hdv))
  have hc41 : ∀ (y1 y2 y4 y5 : Int) (a : Nat → Nat → Int), ((((a 146 22) - (a 146 23)) * 1) + 0).toNat ≤ n → iv a → jfr jW_X12_number a0 a → a 146 23 ≤ a 146 22 → a0 146 23 ≤ a 146 23 → y1 = x1 → y2 = x2 → 0 ≤ y4 → y4 ≤ a 146 23 → 0 ≤ y5 → y5 ≤ 999 → (y4 ≤ 2 → y5 ≤ 99) → (y4 ≤ 1 → y5 ≤ 9) → (y4 ≤ 0 → y5 ≤ 0) → a 146 24 = a0 146 24 → (DG (UB (a0 164)) (a0 146 22).toNat (SK (UB (a0 164)) (a0 146 22).toNat (a0 146 23).toNat)) → (a 146 27 = ((SK (UB (a0 164)) (a0 146 22).toNat (a0 146 23).toNat) : Int)) → (y4 + ((SK (UB (a0 164)) (a0 146 22).toNat (a0 146 23).toNat) : Int) = a 146 23) → (∀ j : Nat, (SK (UB (a0 164)) (a0 146 22).toNat (a0 146 23).toNat) ≤ j → (j : Int) < a 146 23 → DG (UB (a0 164)) (a0 146 22).toNat j) → (y5 = DV (UB (a0 164)) (SK (UB (a0 164)) (a0 146 22).toNat (a0 146 23).toNat) y4.toNat) → jt (jxX E d 217 41 [some (.inr (.inr (.inl 146))), some (.inl y1), some (.inl y2), none, some (.inl y4), some (.inl y5)] [] (jxSH, a, b0)) (jQ_X12_number x1 x2 a0 b0) := by
    intro y1 y2 y4 y5 a hm hv hf hi0 hi1 hi2 hi3 hi4 hi5 hi6 hi7 hi8 hi9 hi10 hi11 hd0 hq hm4 hdg hdv
    refine jt_eq (bq_X12_number_41 E d y1 y2 y4 y5 a b0) ?_
    have h108_ := iv_get hv (k := 146) (j := 23) (l := 0) (u := 200) rfl
    have h109_ := iv_get hv (k := 146) (j := 22) (l := 0) (u := 200) rfl
    have h110_ : a 146 22 = a0 146 22 := hf 146 22 rfl
    have h111_ := iv_get hv0 (k := 146) (j := 22) (l := 0) (u := 200) rfl
    have h112_ := iv_get hv0 (k := 146) (j := 23) (l := 0) (u := 200) rfl
    have h4 : a 164 = a0 164 := funext fun j => hf 164 j rfl
    have h22 := hf 146 22 rfl
    have hub := UB_sp (g := a 164) (j := (a 146 23).toNat) (iv_get hv (k := 164) (j := (a 146 23).toNat) (l := -128) (u := 127) rfl).1 (iv_get hv (k := 164) (j := (a 146 23).toNat) (l := -128) (u := 127) rfl).2
    refine jt_ite (fun c113_ => ?_) (fun c113_ => ?_)
    ·
      refine jt_grd (by omega) ?_
      have h114_ := iv_get hv (k := 164) (j := (a 146 23).toNat) (l := (-128)) (u := 127) rfl
      have h115_ : a 164 ((a 146 23).toNat) = a0 164 ((a 146 23).toNat) := hf 164 ((a 146 23).toNat) rfl
      have h116_ := iv_get hv0 (k := 164) (j := (a 146 23).toNat) (l := (-128)) (u := 127) rfl
      refine jt_ite (fun c117_ => ?_) (fun c117_ => ?_)
      ·
        exact cp_X12_number_122 E d hd x1 x2 a0 b0 hv0 hp0 y1 y2 y4 y5 a hv hf (show a 146 23 ≤ a 146 22 from by omega) (show a0 146 23 ≤ a 146 23 from by omega) (show y1 = x1 from by omega) (show y2 = x2 from by omega) (show 0 ≤ y5 from by omega) (show y5 ≤ 999 from by omega) (show a 146 24 = a0 146 24 from by omega) (by first | exact hd0 | (have e := hq0_4; have h5 := hq0_5 (by omega); have e2 : (a0_ 146 23).toNat = _ := congrArg Int.toNat e; rw [Int.toNat_natCast] at e2; rw [e2] at h5; exact ⟨by omega, by omega, by omega⟩)) hq hm4 (DE_un (q := (a 146 23).toNat) (by omega) (fun j h1 h2 => hdg j h1 (by omega)) (fun h => by rw [← h4] at h; obtain ⟨q1, q2, q3⟩ := h; omega)) (by unfold NV; rw [(DE_un (q := (a 146 23).toNat) (by omega) (fun j h1 h2 => hdg j h1 (by omega)) (fun h => by rw [← h4] at h; obtain ⟨q1, q2, q3⟩ := h; omega)), show (a 146 23).toNat - (SK (UB (a0 164)) (a0 146 22).toNat (a0 146 23).toNat) = y4.toNat from by omega]; exact hdv)
      ·
        refine jt_grd (by omega) ?_
        refine jt_ite (fun c118_ => ?_) (fun c118_ => ?_)
        ·
          exact cp_X12_number_122 E d hd x1 x2 a0 b0 hv0 hp0 y1 y2 y4 y5 a hv hf (show a 146 23 ≤ a 146 22 from by omega) (show a0 146 23 ≤ a 146 23 from by omega) (show y1 = x1 from by omega) (show y2 = x2 from by omega) (show 0 ≤ y5 from by omega) (show y5 ≤ 999 from by omega) (show a 146 24 = a0 146 24 from by omega) (by first | exact hd0 | (have e := hq0_4; have h5 := hq0_5 (by omega); have e2 : (a0_ 146 23).toNat = _ := congrArg Int.toNat e; rw [Int.toNat_natCast] at e2; rw [e2] at h5; exact ⟨by omega, by omega, by omega⟩)) hq hm4 (DE_un (q := (a 146 23).toNat) (by omega) (fun j h1 h2 => hdg j h1 (by omega)) (fun h => by rw [← h4] at h; obtain ⟨q1, q2, q3⟩ := h; omega)) (by unfold NV; rw [(DE_un (q := (a 146 23).toNat) (by omega) (fun j h1 h2 => hdg j h1 (by omega)) (fun h => by rw [← h4] at h; obtain ⟨q1, q2, q3⟩ := h; omega)), show (a 146 23).toNat - (SK (UB (a0 164)) (a0 146 22).toNat (a0 146 23).toNat) = y4.toNat from by omega]; exact hdv)
        ·
          exact hc80 y1 y2 y4 y5 a (show ((((a 146 22) - (a 146 23)) * 1) + 0).toNat ≤ n from by omega) hv hf (show 1 ≤ a 146 22 from by omega) (show a 146 23 ≤ 199 from by omega) (show a 146 23 ≤ a 146 22 from by omega) (show a0 146 23 ≤ a 146 23 from by omega) (show y1 = x1 from by omega) (show y2 = x2 from by omega) (show 0 ≤ y4 from by omega) (show y4 ≤ a 146 23 from by omega) (show 0 ≤ y5 from by omega) (show y5 ≤ 999 from by omega) (show (y4 ≤ 2 → y5 ≤ 99) from by omega) (show (y4 ≤ 1 → y5 ≤ 9) from by omega) (show (y4 ≤ 0 → y5 ≤ 0) from by omega) (show a 146 23 < a 146 22 from by omega) (show 48 ≤ a 164 ((a 146 23).toNat) from by omega) (show a 164 ((a 146 23).toNat) ≤ 57 from by omega) (show a 146 24 = a0 146 24 from by omega) (by first | exact hd0 | (have e := hq0_4; have h5 := hq0_5 (by omega); have e2 : (a0_ 146 23).toNat = _ := congrArg Int.toNat e; rw [Int.toNat_natCast] at e2; rw [e2] at h5; exact ⟨by omega, by omega, by omega⟩)) hq hm4 hdg hdv (by rw [← h4]; exact ⟨by omega, by omega, by omega⟩)
    ·
      exact cp_X12_number_122 E d hd x1 x2 a0 b0 hv0 hp0 y1 y2 y4 y5 a hv hf (show a 146 23 ≤ a 146 22 from by omega) (show a0 146 23 ≤ a 146 23 from by omega) (show y1 = x1 from by omega) (show y2 = x2 from by omega) (show 0 ≤ y5 from by omega) (show y5 ≤ 999 from by omega) (show a 146 24 = a0 146 24 from by omega) (by first | exact hd0 | (have e := hq0_4; have h5 := hq0_5 (by omega); have e2 : (a0_ 146 23).toNat = _ := congrArg Int.toNat e; rw [Int.toNat_natCast] at e2; rw [e2] at h5; exact ⟨by omega, by omega, by omega⟩)) hq hm4 (DE_un (q := (a 146 23).toNat) (by omega) (fun j h1 h2 => hdg j h1 (by omega)) (fun h => by rw [← h4] at h; obtain ⟨q1, q2, q3⟩ := h; omega)) (by unfold NV; rw [(DE_un (q := (a 146 23).toNat) (by omega) (fun j h1 h2 => hdg j h1 (by omega)) (fun h => by rw [← h4] at h; obtain ⟨q1, q2, q3⟩ := h; omega)), show (a 146 23).toNat - (SK (UB (a0 164)) (a0 146 22).toNat (a0 146 23).toNat) = y4.toNat from by omega]; exact hdv)
  exact ⟨hc106, hc80, hc41⟩
theorem cp_X12_number_38 (E : jxE) (d : Nat) (hd : Nat.ble 2 (d + 1) = true) (x1 x2 : Int) (a0 b0 : Nat → Nat → Int) (hv0 : iv a0) (hp0 : a0 146 23 ≤ a0 146 22) : ∀ (y1 y2 y4 : Int) (a : Nat → Nat → Int), iv a → jfr jW_X12_number a0 a → 0 ≤ y4 → y4 ≤ 0 → a 146 23 ≤ a 146 22 → a0 146 23 ≤ a 146 23 → y1 = x1 → y2 = x2 → y4 = 0 → a 146 24 = a0 146 24 → (DG (UB (a0 164)) (a0 146 22).toNat (SK (UB (a0 164)) (a0 146 22).toNat (a0 146 23).toNat)) → (a 146 27 = ((SK (UB (a0 164)) (a0 146 22).toNat (a0 146 23).toNat) : Int)) → (a 146 23 = ((SK (UB (a0 164)) (a0 146 22).toNat (a0 146 23).toNat) : Int)) → jt (jxX E d 217 38 [some (.inr (.inr (.inl 146))), some (.inl y1), some (.inl y2), none, some (.inl y4), none] [] (jxSH, a, b0)) (jQ_X12_number x1 x2 a0 b0) := by
  intro y1 y2 y4 a hv hf hi0 hi1 hi2 hi3 hi4 hi5 hi6 hi7 hd0 hq hn
  refine jt_eq (bq_X12_number_38 E d y1 y2 y4 a b0) ?_
  have h119_ := iv_get hv (k := 146) (j := 23) (l := 0) (u := 200) rfl
  have h120_ := iv_get hv (k := 146) (j := 22) (l := 0) (u := 200) rfl
  have h121_ : a 146 22 = a0 146 22 := hf 146 22 rfl
  have h122_ := iv_get hv0 (k := 146) (j := 22) (l := 0) (u := 200) rfl
  have h123_ := iv_get hv0 (k := 146) (j := 23) (l := 0) (u := 200) rfl
  have h4 : a 164 = a0 164 := funext fun j => hf 164 j rfl
  have h22 := hf 146 22 rfl
  have hub := UB_sp (g := a 164) (j := (a 146 23).toNat) (iv_get hv (k := 164) (j := (a 146 23).toNat) (l := -128) (u := 127) rfl).1 (iv_get hv (k := 164) (j := (a 146 23).toNat) (l := -128) (u := 127) rfl).2
  exact (cp_X12_number_41 E d hd x1 x2 a0 b0 hv0 hp0 _).2.2 y1 y2 y4 0 a (Nat.le_refl _) hv hf (show a 146 23 ≤ a 146 22 from by omega) (show a0 146 23 ≤ a 146 23 from by omega) (show y1 = x1 from by omega) (show y2 = x2 from by omega) (show 0 ≤ y4 from by omega) (show y4 ≤ a 146 23 from by omega) (show 0 ≤ 0 from by omega) (show 0 ≤ 999 from by omega) (show (y4 ≤ 2 → 0 ≤ 99) from by omega) (show (y4 ≤ 1 → 0 ≤ 9) from by omega) (show (y4 ≤ 0 → 0 ≤ 0) from by omega) (show a 146 24 = a0 146 24 from by omega) (by first | exact hd0 | (have e := hq0_4; have h5 := hq0_5 (by omega); have e2 : (a0_ 146 23).toNat = _ := congrArg Int.toNat e; rw [Int.toNat_natCast] at e2; rw [e2] at h5; exact ⟨by omega, by omega, by omega⟩)) hq (by first | exact hm4 | (rw [hn]; omega) | (show jxw (y4 + 1) + _ = jxw ((a 146 23) + 1); omega)) (by first | exact (fun j h1 h2 => absurd h2 (by omega)) | exact (dg_ext hdg hd1 (by omega) (show jxw ((a 146 23) + 1) = a 146 23 + 1 by omega))) (by first | (rw [show y4.toNat = 0 from by omega]; rfl) | rfl | (rw [show (jxw (y4 + 1)).toNat = y4.toNat + 1 from by omega]; exact hdv))
theorem sp_X12_number (E : jxE) (d : Nat) (hd : Nat.ble 2 d = true) (x1 x2 : Int) (a0 b0 : Nat → Nat → Int) (hv0 : iv a0) (hp0 : a0 146 23 ≤ a0 146 22) : jt (jxC E d 217 [.inr (.inr (.inl 146)), .inl x1, .inl x2] (jxSH, a0, b0)) (jQ_X12_number x1 x2 a0 b0) := by
  obtain ⟨d, rfl⟩ := jd_succ hd
  refine jt_eq (bq_X12_number E d x1 x2 a0 b0) ?_
  have h124_ := iv_get hv0 (k := 146) (j := 23) (l := 0) (u := 200) rfl
  have h125_ := iv_get hv0 (k := 146) (j := 22) (l := 0) (u := 200) rfl
  refine jt_bI (sp_X12_see E d (jd_le hd rfl) a0 b0 hv0 (show a0 146 23 ≤ a0 146 22 from by omega)) (fun r126_ a126_ b126_ h126_ => ?_)
  obtain ⟨hv126_, hf126_, rfl, hq126_0, hq126_1, hq126_2, hq126_3, hq126_4, hq126_5⟩ := h126_
  have h127_ := iv_get hv126_ (k := 146) (j := 23) (l := 0) (u := 200) rfl
  have h128_ := iv_get hv126_ (k := 164) (j := (a126_ 146 23).toNat) (l := (-128)) (u := 127) rfl
  have h129_ : a126_ 164 ((a126_ 146 23).toNat) = a0 164 ((a126_ 146 23).toNat) := hf126_ 164 ((a126_ 146 23).toNat) rfl
  have h130_ := iv_get hv0 (k := 164) (j := (a126_ 146 23).toNat) (l := (-128)) (u := 127) rfl
  have h131_ := iv_get hv0 (k := 164) (j := (a0 146 23).toNat) (l := (-128)) (u := 127) rfl
  have h22_126 := hf126_ 146 22 rfl
  have h24_126 := hf126_ 146 24 rfl
  refine jt_ite (fun c132_ => ?_) (fun c132_ => ?_)
  ·
    refine jt_bI (sp_X12_fails E d (jd_le hd rfl) 0 (a126_ 146 23) a126_ b0 hv126_) (fun r133_ a133_ b133_ h133_ => ?_)
    obtain ⟨hv133_, hf133_, rfl, hq133_0, hq133_1, hq133_2, hq133_3⟩ := h133_
    have h134_ : a126_ 146 24 = a0 146 24 := hf126_ 146 24 rfl
    have h23_133 := hf133_ 146 23 rfl
    refine jt_grd (by omega) ?_
    have hf135_ : jfr jW_X12_number a0 a126_ := jfr_tr (jfr_rf _ _) hf126_ rfl
    have hf136_ : jfr jW_X12_number a0 a133_ := jfr_tr hf135_ hf133_ rfl
    have h137_ := iv_get hv133_ (k := 146) (j := 23) (l := 0) (u := 200) rfl
    have h138_ : a133_ 146 23 = a126_ 146 23 := hf133_ 146 23 rfl
    have h139_ := iv_get hv133_ (k := 146) (j := 26) (l := 0) (u := 999) rfl
    have h140_ : a133_ 146 26 = a126_ 146 26 := hf133_ 146 26 rfl
    have h141_ := iv_get hv126_ (k := 146) (j := 26) (l := 0) (u := 999) rfl
    have h142_ : a126_ 146 26 = a0 146 26 := hf126_ 146 26 rfl
    have h143_ := iv_get hv0 (k := 146) (j := 26) (l := 0) (u := 999) rfl
    exact jt_rI ⟨hv133_, hf136_, rfl, (show (0 ≤ r133_ ∧ r133_ ≤ 1) from by omega), (show a0 146 23 ≤ a133_ 146 23 from by omega), (show a133_ 146 23 ≤ a0 146 22 from by omega), (show (r133_ = 1 → (x1 ≤ a133_ 146 26 ∧ a133_ 146 26 ≤ x2)) from by omega), (by first | exact (fun h => absurd h (by omega)) | exact (fun _ => ⟨by have hz := (DE_sp (UB (a0 164)) (a0 146 22).toNat (SK (UB (a0 164)) (a0 146 22).toNat (a0 146 23).toNat)).2.2.1; unfold NF; rw [if_neg (fun h => hz (by rw [h]; exact hd0)), if_neg (by rw [hde, ← hnv]; omega)], hnv, by rw [hde]; show a 146 23 = _; omega, by show a 146 24 = _; omega⟩)), (by first | exact (fun h => absurd h (by decide)) | exact (fun _ => ⟨by rw [hnf]; omega, by rw [hnf]; split <;> omega⟩) | (intro _; have e := hq126_4; have hnd : ¬ DG (UB (a0 164)) (a0 146 22).toNat (SK (UB (a0 164)) (a0 146 22).toNat (a0 146 23).toNat) := (fun hd => by have e2 : (a126_ 146 23).toNat = _ := congrArg Int.toNat e; rw [Int.toNat_natCast] at e2; obtain ⟨q1, q2, q3⟩ := hd; have h5 := hq126_5; rw [e2] at h5; omega); rw [NF_none hnd]; exact ⟨by omega, by split <;> omega⟩))⟩
  ·
    refine jt_ite (fun c144_ => ?_) (fun c144_ => ?_)
    ·
      refine jt_bI (sp_X12_fails E d (jd_le hd rfl) 0 (a126_ 146 23) a126_ b0 hv126_) (fun r145_ a145_ b145_ h145_ => ?_)
      obtain ⟨hv145_, hf145_, rfl, hq145_0, hq145_1, hq145_2, hq145_3⟩ := h145_
      have h146_ : a126_ 146 24 = a0 146 24 := hf126_ 146 24 rfl
      have h23_145 := hf145_ 146 23 rfl
      refine jt_grd (by omega) ?_
      have hf147_ : jfr jW_X12_number a0 a126_ := jfr_tr (jfr_rf _ _) hf126_ rfl
      have hf148_ : jfr jW_X12_number a0 a145_ := jfr_tr hf147_ hf145_ rfl
      have h149_ := iv_get hv145_ (k := 146) (j := 23) (l := 0) (u := 200) rfl
      have h150_ : a145_ 146 23 = a126_ 146 23 := hf145_ 146 23 rfl
      have h151_ := iv_get hv145_ (k := 146) (j := 26) (l := 0) (u := 999) rfl
      have h152_ : a145_ 146 26 = a126_ 146 26 := hf145_ 146 26 rfl
      have h153_ := iv_get hv126_ (k := 146) (j := 26) (l := 0) (u := 999) rfl
      have h154_ : a126_ 146 26 = a0 146 26 := hf126_ 146 26 rfl
      have h155_ := iv_get hv0 (k := 146) (j := 26) (l := 0) (u := 999) rfl
      exact jt_rI ⟨hv145_, hf148_, rfl, (show (0 ≤ r145_ ∧ r145_ ≤ 1) from by omega), (show a0 146 23 ≤ a145_ 146 23 from by omega), (show a145_ 146 23 ≤ a0 146 22 from by omega), (show (r145_ = 1 → (x1 ≤ a145_ 146 26 ∧ a145_ 146 26 ≤ x2)) from by omega), (by first | exact (fun h => absurd h (by omega)) | exact (fun _ => ⟨by have hz := (DE_sp (UB (a0 164)) (a0 146 22).toNat (SK (UB (a0 164)) (a0 146 22).toNat (a0 146 23).toNat)).2.2.1; unfold NF; rw [if_neg (fun h => hz (by rw [h]; exact hd0)), if_neg (by rw [hde, ← hnv]; omega)], hnv, by rw [hde]; show a 146 23 = _; omega, by show a 146 24 = _; omega⟩)), (by first | exact (fun h => absurd h (by decide)) | exact (fun _ => ⟨by rw [hnf]; omega, by rw [hnf]; split <;> omega⟩) | (intro _; have e := hq126_4; have hnd : ¬ DG (UB (a0 164)) (a0 146 22).toNat (SK (UB (a0 164)) (a0 146 22).toNat (a0 146 23).toNat) := (fun hd => by have e2 : (a126_ 146 23).toNat = _ := congrArg Int.toNat e; rw [Int.toNat_natCast] at e2; obtain ⟨q1, q2, q3⟩ := hd; have h5 := hq126_5; rw [e2] at h5; omega); rw [NF_none hnd]; exact ⟨by omega, by split <;> omega⟩))⟩
    ·
      have hv156_ : iv (jxu a126_ 146 27 (a126_ 146 23)) := iv_putf hv126_ rfl
      have hf157_ : jfr jW_X12_number a0 a126_ := jfr_tr (jfr_rf _ _) hf126_ rfl
      have hf158_ : jfr jW_X12_number a0 (jxu a126_ 146 27 (a126_ 146 23)) := jfr_put hf157_ rfl
      have h159_ := iv_get hv126_ (k := 146) (j := 22) (l := 0) (u := 200) rfl
      have h160_ : a126_ 146 22 = a0 146 22 := hf126_ 146 22 rfl
      have h161_ : a126_ 146 24 = a0 146 24 := hf126_ 146 24 rfl
      exact cp_X12_number_38 E d hd x1 x2 a0 b0 hv0 hp0 x1 x2 0 (jxu a126_ 146 27 (a126_ 146 23)) hv156_ hf158_ (show 0 ≤ 0 from by omega) (show 0 ≤ 0 from by omega) (show a126_ 146 23 ≤ a126_ 146 22 from by omega) (show a0 146 23 ≤ a126_ 146 23 from by omega) (show x1 = x1 from by omega) (show x2 = x2 from by omega) (show 0 = 0 from by omega) (show a126_ 146 24 = a0 146 24 from by omega) (by first | exact hd0 | (have e := hq126_4; have h5 := hq126_5 (by omega); have e2 : (a126_ 146 23).toNat = _ := congrArg Int.toNat e; rw [Int.toNat_natCast] at e2; rw [e2] at h5; exact ⟨by omega, by omega, by omega⟩)) (by have e := hq126_4; exact e) (by have e := hq126_4; exact e)
def jW_X12_wordHere : List (Nat × Nat) := [(146, 23), (146, 25)]
abbrev jQ_X12_wordHere (a0 b0 : Nat → Nat → Int) : List jxV → (Nat → Nat → Int) → (Nat → Nat → Int) → Prop := rI (fun r a b => (iv a) ∧ (jfr jW_X12_wordHere a0 a) ∧ (b0 = b) ∧ ((a 146 23) + (a 146 25) ≤ a 146 22) ∧ (a0 146 23 ≤ a 146 23) ∧ (0 - 1 ≤ r) ∧ (r ≤ 15) ∧ ((r = 2 → a 146 25 = 3)) ∧ ((0 ≤ r → 2 ≤ a 146 25)) ∧ (((a0 146 23 < a0 146 22 ∧ ¬ a0 164 ((a0 146 23).toNat) = 32) → a 146 23 = a0 146 23)) ∧ (a 146 23 = ((SK (UB (a0 164)) (a0 146 22).toNat (a0 146 23).toNat) : Int)) ∧ (∀ w : Nat, w < 16 → (TW (UB (a0 164)) (a0 146 22).toNat (SK (UB (a0 164)) (a0 146 22).toNat (a0 146 23).toNat) w ↔ r = (w : Int))) ∧ (0 ≤ r → a 146 25 = (wdn r.toNat : Int)))
theorem cp_X12_wordHere_79 (E : jxE) (d : Nat) (hd : Nat.ble 2 (d + 1) = true) (a0 b0 : Nat → Nat → Int) (hv0 : iv a0) (hp0 : a0 146 23 ≤ a0 146 22) : ∀ n : Nat, (∀ (y1 y2 y4 : Int) (a : Nat → Nat → Int), (((((16 - y1) * 17) + 0) + ((6 - y4) * 1)) + 0).toNat ≤ n → iv a → jfr jW_X12_wordHere a0 a → 0 ≤ y1 → y1 ≤ 15 → 1 ≤ y2 → y2 ≤ 6 → 0 ≤ y4 → y4 ≤ 5 → a 146 25 ≤ 6 → (a 146 23) + (a 146 25) ≤ a 146 22 → a0 146 23 ≤ a 146 23 → 2 ≤ y2 → (y1 = 2 → y2 = 3) → y2 = a 146 25 → y4 < y2 → ((a0 146 23 < a0 146 22 ∧ ¬ a0 164 ((a0 146 23).toNat) = 32) → a 146 23 = a0 146 23) → (a 146 23 = ((SK (UB (a0 164)) (a0 146 22).toNat (a0 146 23).toNat) : Int)) → (∀ k : Nat, (k : Int) < a 146 25 → LT (UB (a0 164)) (a0 146 22).toNat ((SK (UB (a0 164)) (a0 146 22).toNat (a0 146 23).toNat) + k)) → (¬ LT (UB (a0 164)) (a0 146 22).toNat ((SK (UB (a0 164)) (a0 146 22).toNat (a0 146 23).toNat) + (a 146 25).toNat)) → (∀ v : Nat, (v : Int) < y1 → v < 16 → ¬ TW (UB (a0 164)) (a0 146 22).toNat (SK (UB (a0 164)) (a0 146 22).toNat (a0 146 23).toNat) v) → (y2 = (wdn y1.toNat : Int)) → (y2 = a 146 25) → (∀ k : Nat, (k : Int) < y4 + 1 → (UB (a0 164)) ((SK (UB (a0 164)) (a0 146 22).toNat (a0 146 23).toNat) + k) = (wdl y1.toNat).getD k 0) → jt (jxX E d 216 176 [some (.inr (.inr (.inl 146))), some (.inl y1), some (.inl y2), none, some (.inl y4)] [] (jxSH, a, b0)) (jQ_X12_wordHere a0 b0)) ∧ (∀ (y1 y2 y4 : Int) (a : Nat → Nat → Int), (((((16 - y1) * 17) + 0) + ((6 - y4) * 1)) + 0).toNat ≤ n → iv a → jfr jW_X12_wordHere a0 a → 0 ≤ y1 → y1 ≤ 15 → 1 ≤ y2 → y2 ≤ 6 → 0 ≤ y4 → y4 ≤ 5 → a 146 25 ≤ 6 → (a 146 23) + (a 146 25) ≤ a 146 22 → a0 146 23 ≤ a 146 23 → 2 ≤ y2 → (y1 = 2 → y2 = 3) → y2 = a 146 25 → y4 < y2 → ((a0 146 23 < a0 146 22 ∧ ¬ a0 164 ((a0 146 23).toNat) = 32) → a 146 23 = a0 146 23) → (a 146 23 = ((SK (UB (a0 164)) (a0 146 22).toNat (a0 146 23).toNat) : Int)) → (∀ k : Nat, (k : Int) < a 146 25 → LT (UB (a0 164)) (a0 146 22).toNat ((SK (UB (a0 164)) (a0 146 22).toNat (a0 146 23).toNat) + k)) → (¬ LT (UB (a0 164)) (a0 146 22).toNat ((SK (UB (a0 164)) (a0 146 22).toNat (a0 146 23).toNat) + (a 146 25).toNat)) → (∀ v : Nat, (v : Int) < y1 → v < 16 → ¬ TW (UB (a0 164)) (a0 146 22).toNat (SK (UB (a0 164)) (a0 146 22).toNat (a0 146 23).toNat) v) → (y2 = (wdn y1.toNat : Int)) → (¬ TW (UB (a0 164)) (a0 146 22).toNat (SK (UB (a0 164)) (a0 146 22).toNat (a0 146 23).toNat) y1.toNat) → jt (jxX E d 216 180 [some (.inr (.inr (.inl 146))), some (.inl y1), some (.inl y2), none, some (.inl y4)] [] (jxSH, a, b0)) (jQ_X12_wordHere a0 b0)) ∧ (∀ (y1 y2 y3 y4 : Int) (a : Nat → Nat → Int), (((((16 - y1) * 17) + 0) + ((6 - y4) * 1)) + 0).toNat ≤ n → iv a → jfr jW_X12_wordHere a0 a → 0 ≤ y1 → y1 ≤ 15 → 0 ≤ y2 → y2 ≤ 6 → 0 ≤ y3 → y3 ≤ 1 → 0 ≤ y4 → y4 ≤ 6 → a 146 25 ≤ 6 → (a 146 23) + (a 146 25) ≤ a 146 22 → a0 146 23 ≤ a 146 23 → 2 ≤ y2 → (y1 = 2 → y2 = 3) → (y3 = 0 ∨ y2 = a 146 25) → (y3 = 0 ∨ y3 = 1) → ((a0 146 23 < a0 146 22 ∧ ¬ a0 164 ((a0 146 23).toNat) = 32) → a 146 23 = a0 146 23) → (a 146 23 = ((SK (UB (a0 164)) (a0 146 22).toNat (a0 146 23).toNat) : Int)) → (∀ k : Nat, (k : Int) < a 146 25 → LT (UB (a0 164)) (a0 146 22).toNat ((SK (UB (a0 164)) (a0 146 22).toNat (a0 146 23).toNat) + k)) → (¬ LT (UB (a0 164)) (a0 146 22).toNat ((SK (UB (a0 164)) (a0 146 22).toNat (a0 146 23).toNat) + (a 146 25).toNat)) → (∀ v : Nat, (v : Int) < y1 → v < 16 → ¬ TW (UB (a0 164)) (a0 146 22).toNat (SK (UB (a0 164)) (a0 146 22).toNat (a0 146 23).toNat) v) → (y2 = (wdn y1.toNat : Int)) → ((y3 = 0 ∧ ¬ TW (UB (a0 164)) (a0 146 22).toNat (SK (UB (a0 164)) (a0 146 22).toNat (a0 146 23).toNat) y1.toNat) ∨ (y3 = 1 ∧ y2 = a 146 25 ∧ ∀ k : Nat, (k : Int) < y4 → (UB (a0 164)) ((SK (UB (a0 164)) (a0 146 22).toNat (a0 146 23).toNat) + k) = (wdl y1.toNat).getD k 0)) → jt (jxX E d 216 139 [some (.inr (.inr (.inl 146))), some (.inl y1), some (.inl y2), some (.inl y3), some (.inl y4)] [] (jxSH, a, b0)) (jQ_X12_wordHere a0 b0)) ∧ (∀ (y1 y2 : Int) (a : Nat → Nat → Int), (((16 - y1) * 17) + 8).toNat ≤ n → iv a → jfr jW_X12_wordHere a0 a → 0 ≤ y1 → y1 ≤ 15 → 0 ≤ y2 → y2 ≤ 6 → a 146 25 ≤ 6 → (a 146 23) + (a 146 25) ≤ a 146 22 → a0 146 23 ≤ a 146 23 → (y1 = 2 → y2 = 3) → 2 ≤ y2 → ((a0 146 23 < a0 146 22 ∧ ¬ a0 164 ((a0 146 23).toNat) = 32) → a 146 23 = a0 146 23) → (a 146 23 = ((SK (UB (a0 164)) (a0 146 22).toNat (a0 146 23).toNat) : Int)) → (∀ k : Nat, (k : Int) < a 146 25 → LT (UB (a0 164)) (a0 146 22).toNat ((SK (UB (a0 164)) (a0 146 22).toNat (a0 146 23).toNat) + k)) → (¬ LT (UB (a0 164)) (a0 146 22).toNat ((SK (UB (a0 164)) (a0 146 22).toNat (a0 146 23).toNat) + (a 146 25).toNat)) → (∀ v : Nat, (v : Int) < y1 → v < 16 → ¬ TW (UB (a0 164)) (a0 146 22).toNat (SK (UB (a0 164)) (a0 146 22).toNat (a0 146 23).toNat) v) → (y2 = (wdn y1.toNat : Int)) → jt (jxX E d 216 122 [some (.inr (.inr (.inl 146))), some (.inl y1), some (.inl y2), none, none] [] (jxSH, a, b0)) (jQ_X12_wordHere a0 b0)) ∧ (∀ (y1 y2 : Int) (a : Nat → Nat → Int), (((((16 - y1) * 17) + 8) + ((6 - y2) * 1)) + 0).toNat ≤ n → iv a → jfr jW_X12_wordHere a0 a → 0 ≤ y1 → y1 ≤ 15 → 0 ≤ y2 → y2 ≤ 6 → a 146 25 ≤ 6 → (a 146 23) + (a 146 25) ≤ a 146 22 → a0 146 23 ≤ a 146 23 → (y1 = 2 → y2 ≤ 3) → ((a0 146 23 < a0 146 22 ∧ ¬ a0 164 ((a0 146 23).toNat) = 32) → a 146 23 = a0 146 23) → (a 146 23 = ((SK (UB (a0 164)) (a0 146 22).toNat (a0 146 23).toNat) : Int)) → (∀ k : Nat, (k : Int) < a 146 25 → LT (UB (a0 164)) (a0 146 22).toNat ((SK (UB (a0 164)) (a0 146 22).toNat (a0 146 23).toNat) + k)) → (¬ LT (UB (a0 164)) (a0 146 22).toNat ((SK (UB (a0 164)) (a0 146 22).toNat (a0 146 23).toNat) + (a 146 25).toNat)) → (∀ v : Nat, (v : Int) < y1 → v < 16 → ¬ TW (UB (a0 164)) (a0 146 22).toNat (SK (UB (a0 164)) (a0 146 22).toNat (a0 146 23).toNat) v) → (y2 ≤ (wdn y1.toNat : Int)) → jt (jxX E d 216 96 [some (.inr (.inr (.inl 146))), some (.inl y1), some (.inl y2), none, none] [] (jxSH, a, b0)) (jQ_X12_wordHere a0 b0)) ∧ (∀ (y1 : Int) (a : Nat → Nat → Int), (((16 - y1) * 17) + 16).toNat ≤ n → iv a → jfr jW_X12_wordHere a0 a → 0 ≤ y1 → y1 ≤ 16 → (a 146 23) + (a 146 25) ≤ a 146 22 → a0 146 23 ≤ a 146 23 → ((a0 146 23 < a0 146 22 ∧ ¬ a0 164 ((a0 146 23).toNat) = 32) → a 146 23 = a0 146 23) → (a 146 23 = ((SK (UB (a0 164)) (a0 146 22).toNat (a0 146 23).toNat) : Int)) → (∀ k : Nat, (k : Int) < a 146 25 → LT (UB (a0 164)) (a0 146 22).toNat ((SK (UB (a0 164)) (a0 146 22).toNat (a0 146 23).toNat) + k)) → (¬ LT (UB (a0 164)) (a0 146 22).toNat ((SK (UB (a0 164)) (a0 146 22).toNat (a0 146 23).toNat) + (a 146 25).toNat)) → (∀ v : Nat, (v : Int) < y1 → v < 16 → ¬ TW (UB (a0 164)) (a0 146 22).toNat (SK (UB (a0 164)) (a0 146 22).toNat (a0 146 23).toNat) v) → jt (jxX E d 216 79 [some (.inr (.inr (.inl 146))), some (.inl y1), none, none, none] [] (jxSH, a, b0)) (jQ_X12_wordHere a0 b0)) := by
  refine jx_ind fun n ih => ?_
  have ih176 : ∀ (y1 y2 y4 : Int) (a : Nat → Nat → Int), (((((16 - y1) * 17) + 0) + ((6 - y4) * 1)) + 0).toNat < n → iv a → jfr jW_X12_wordHere a0 a → 0 ≤ y1 → y1 ≤ 15 → 1 ≤ y2 → y2 ≤ 6 → 0 ≤ y4 → y4 ≤ 5 → a 146 25 ≤ 6 → (a 146 23) + (a 146 25) ≤ a 146 22 → a0 146 23 ≤ a 146 23 → 2 ≤ y2 → (y1 = 2 → y2 = 3) → y2 = a 146 25 → y4 < y2 → ((a0 146 23 < a0 146 22 ∧ ¬ a0 164 ((a0 146 23).toNat) = 32) → a 146 23 = a0 146 23) → (a 146 23 = ((SK (UB (a0 164)) (a0 146 22).toNat (a0 146 23).toNat) : Int)) → (∀ k : Nat, (k : Int) < a 146 25 → LT (UB (a0 164)) (a0 146 22).toNat ((SK (UB (a0 164)) (a0 146 22).toNat (a0 146 23).toNat) + k)) → (¬ LT (UB (a0 164)) (a0 146 22).toNat ((SK (UB (a0 164)) (a0 146 22).toNat (a0 146 23).toNat) + (a 146 25).toNat)) → (∀ v : Nat, (v : Int) < y1 → v < 16 → ¬ TW (UB (a0 164)) (a0 146 22).toNat (SK (UB (a0 164)) (a0 146 22).toNat (a0 146 23).toNat) v) → (y2 = (wdn y1.toNat : Int)) → (y2 = a 146 25) → (∀ k : Nat, (k : Int) < y4 + 1 → (UB (a0 164)) ((SK (UB (a0 164)) (a0 146 22).toNat (a0 146 23).toNat) + k) = (wdl y1.toNat).getD k 0) → jt (jxX E d 216 176 [some (.inr (.inr (.inl 146))), some (.inl y1), some (.inl y2), none, some (.inl y4)] [] (jxSH, a, b0)) (jQ_X12_wordHere a0 b0) := fun y1 y2 y4 a hlt i0 i1 i2 i3 i4 i5 i6 i7 i8 i9 i10 i11 i12 i13 i14 i15 i16 i17 i18 i19 i20 i21 i22 => (ih _ hlt).1 y1 y2 y4 a (Nat.le_refl _) i0 i1 i2 i3 i4 i5 i6 i7 i8 i9 i10 i11 i12 i13 i14 i15 i16 i17 i18 i19 i20 i21 i22
  have ih180 : ∀ (y1 y2 y4 : Int) (a : Nat → Nat → Int), (((((16 - y1) * 17) + 0) + ((6 - y4) * 1)) + 0).toNat < n → iv a → jfr jW_X12_wordHere a0 a → 0 ≤ y1 → y1 ≤ 15 → 1 ≤ y2 → y2 ≤ 6 → 0 ≤ y4 → y4 ≤ 5 → a 146 25 ≤ 6 → (a 146 23) + (a 146 25) ≤ a 146 22 → a0 146 23 ≤ a 146 23 → 2 ≤ y2 → (y1 = 2 → y2 = 3) → y2 = a 146 25 → y4 < y2 → ((a0 146 23 < a0 146 22 ∧ ¬ a0 164 ((a0 146 23).toNat) = 32) → a 146 23 = a0 146 23) → (a 146 23 = ((SK (UB (a0 164)) (a0 146 22).toNat (a0 146 23).toNat) : Int)) → (∀ k : Nat, (k : Int) < a 146 25 → LT (UB (a0 164)) (a0 146 22).toNat ((SK (UB (a0 164)) (a0 146 22).toNat (a0 146 23).toNat) + k)) → (¬ LT (UB (a0 164)) (a0 146 22).toNat ((SK (UB (a0 164)) (a0 146 22).toNat (a0 146 23).toNat) + (a 146 25).toNat)) → (∀ v : Nat, (v : Int) < y1 → v < 16 → ¬ TW (UB (a0 164)) (a0 146 22).toNat (SK (UB (a0 164)) (a0 146 22).toNat (a0 146 23).toNat) v) → (y2 = (wdn y1.toNat : Int)) → (¬ TW (UB (a0 164)) (a0 146 22).toNat (SK (UB (a0 164)) (a0 146 22).toNat (a0 146 23).toNat) y1.toNat) → jt (jxX E d 216 180 [some (.inr (.inr (.inl 146))), some (.inl y1), some (.inl y2), none, some (.inl y4)] [] (jxSH, a, b0)) (jQ_X12_wordHere a0 b0) := fun y1 y2 y4 a hlt i0 i1 i2 i3 i4 i5 i6 i7 i8 i9 i10 i11 i12 i13 i14 i15 i16 i17 i18 i19 i20 i21 => (ih _ hlt).2.1 y1 y2 y4 a (Nat.le_refl _) i0 i1 i2 i3 i4 i5 i6 i7 i8 i9 i10 i11 i12 i13 i14 i15 i16 i17 i18 i19 i20 i21
  have ih139 : ∀ (y1 y2 y3 y4 : Int) (a : Nat → Nat → Int), (((((16 - y1) * 17) + 0) + ((6 - y4) * 1)) + 0).toNat < n → iv a → jfr jW_X12_wordHere a0 a → 0 ≤ y1 → y1 ≤ 15 → 0 ≤ y2 → y2 ≤ 6 → 0 ≤ y3 → y3 ≤ 1 → 0 ≤ y4 → y4 ≤ 6 → a 146 25 ≤ 6 → (a 146 23) + (a 146 25) ≤ a 146 22 → a0 146 23 ≤ a 146 23 → 2 ≤ y2 → (y1 = 2 → y2 = 3) → (y3 = 0 ∨ y2 = a 146 25) → (y3 = 0 ∨ y3 = 1) → ((a0 146 23 < a0 146 22 ∧ ¬ a0 164 ((a0 146 23).toNat) = 32) → a 146 23 = a0 146 23) → (a 146 23 = ((SK (UB (a0 164)) (a0 146 22).toNat (a0 146 23).toNat) : Int)) → (∀ k : Nat, (k : Int) < a 146 25 → LT (UB (a0 164)) (a0 146 22).toNat ((SK (UB (a0 164)) (a0 146 22).toNat (a0 146 23).toNat) + k)) → (¬ LT (UB (a0 164)) (a0 146 22).toNat ((SK (UB (a0 164)) (a0 146 22).toNat (a0 146 23).toNat) + (a 146 25).toNat)) → (∀ v : Nat, (v : Int) < y1 → v < 16 → ¬ TW (UB (a0 164)) (a0 146 22).toNat (SK (UB (a0 164)) (a0 146 22).toNat (a0 146 23).toNat) v) → (y2 = (wdn y1.toNat : Int)) → ((y3 = 0 ∧ ¬ TW (UB (a0 164)) (a0 146 22).toNat (SK (UB (a0 164)) (a0 146 22).toNat (a0 146 23).toNat) y1.toNat) ∨ (y3 = 1 ∧ y2 = a 146 25 ∧ ∀ k : Nat, (k : Int) < y4 → (UB (a0 164)) ((SK (UB (a0 164)) (a0 146 22).toNat (a0 146 23).toNat) + k) = (wdl y1.toNat).getD k 0)) → jt (jxX E d 216 139 [some (.inr (.inr (.inl 146))), some (.inl y1), some (.inl y2), some (.inl y3), some (.inl y4)] [] (jxSH, a, b0)) (jQ_X12_wordHere a0 b0) := fun y1 y2 y3 y4 a hlt i0 i1 i2 i3 i4 i5 i6 i7 i8 i9 i10 i11 i12 i13 i14 i15 i16 i17 i18 i19 i20 i21 i22 i23 => (ih _ hlt).2.2.1 y1 y2 y3 y4 a (Nat.le_refl _) i0 i1 i2 i3 i4 i5 i6 i7 i8 i9 i10 i11 i12 i13 i14 i15 i16 i17 i18 i19 i20 i21 i22 i23
  have ih122 : ∀ (y1 y2 : Int) (a : Nat → Nat → Int), (((16 - y1) * 17) + 8).toNat < n → iv a → jfr jW_X12_wordHere a0 a → 0 ≤ y1 → y1 ≤ 15 → 0 ≤ y2 → y2 ≤ 6 → a 146 25 ≤ 6 → (a 146 23) + (a 146 25) ≤ a 146 22 → a0 146 23 ≤ a 146 23 → (y1 = 2 → y2 = 3) → 2 ≤ y2 → ((a0 146 23 < a0 146 22 ∧ ¬ a0 164 ((a0 146 23).toNat) = 32) → a 146 23 = a0 146 23) → (a 146 23 = ((SK (UB (a0 164)) (a0 146 22).toNat (a0 146 23).toNat) : Int)) → (∀ k : Nat, (k : Int) < a 146 25 → LT (UB (a0 164)) (a0 146 22).toNat ((SK (UB (a0 164)) (a0 146 22).toNat (a0 146 23).toNat) + k)) → (¬ LT (UB (a0 164)) (a0 146 22).toNat ((SK (UB (a0 164)) (a0 146 22).toNat (a0 146 23).toNat) + (a 146 25).toNat)) → (∀ v : Nat, (v : Int) < y1 → v < 16 → ¬ TW (UB (a0 164)) (a0 146 22).toNat (SK (UB (a0 164)) (a0 146 22).toNat (a0 146 23).toNat) v) → (y2 = (wdn y1.toNat : Int)) → jt (jxX E d 216 122 [some (.inr (.inr (.inl 146))), some (.inl y1), some (.inl y2), none, none] [] (jxSH, a, b0)) (jQ_X12_wordHere a0 b0) := fun y1 y2 a hlt i0 i1 i2 i3 i4 i5 i6 i7 i8 i9 i10 i11 i12 i13 i14 i15 i16 => (ih _ hlt).2.2.2.1 y1 y2 a (Nat.le_refl _) i0 i1 i2 i3 i4 i5 i6 i7 i8 i9 i10 i11 i12 i13 i14 i15 i16
  have ih96 : ∀ (y1 y2 : Int) (a : Nat → Nat → Int), (((((16 - y1) * 17) + 8) + ((6 - y2) * 1)) + 0).toNat < n → iv a → jfr jW_X12_wordHere a0 a → 0 ≤ y1 → y1 ≤ 15 → 0 ≤ y2 → y2 ≤ 6 → a 146 25 ≤ 6 → (a 146 23) + (a 146 25) ≤ a 146 22 → a0 146 23 ≤ a 146 23 → (y1 = 2 → y2 ≤ 3) → ((a0 146 23 < a0 146 22 ∧ ¬ a0 164 ((a0 146 23).toNat) = 32) → a 146 23 = a0 146 23) → (a 146 23 = ((SK (UB (a0 164)) (a0 146 22).toNat (a0 146 23).toNat) : Int)) → (∀ k : Nat, (k : Int) < a 146 25 → LT (UB (a0 164)) (a0 146 22).toNat ((SK (UB (a0 164)) (a0 146 22).toNat (a0 146 23).toNat) + k)) → (¬ LT (UB (a0 164)) (a0 146 22).toNat ((SK (UB (a0 164)) (a0 146 22).toNat (a0 146 23).toNat) + (a 146 25).toNat)) → (∀ v : Nat, (v : Int) < y1 → v < 16 → ¬ TW (UB (a0 164)) (a0 146 22).toNat (SK (UB (a0 164)) (a0 146 22).toNat (a0 146 23).toNat) v) → (y2 ≤ (wdn y1.toNat : Int)) → jt (jxX E d 216 96 [some (.inr (.inr (.inl 146))), some (.inl y1), some (.inl y2), none, none] [] (jxSH, a, b0)) (jQ_X12_wordHere a0 b0) := fun y1 y2 a hlt i0 i1 i2 i3 i4 i5 i6 i7 i8 i9 i10 i11 i12 i13 i14 i15 => (ih _ hlt).2.2.2.2.1 y1 y2 a (Nat.le_refl _) i0 i1 i2 i3 i4 i5 i6 i7 i8 i9 i10 i11 i12 i13 i14 i15
  have ih79 : ∀ (y1 : Int) (a : Nat → Nat → Int), (((16 - y1) * 17) + 16).toNat < n → iv a → jfr jW_X12_wordHere a0 a → 0 ≤ y1 → y1 ≤ 16 → (a 146 23) + (a 146 25) ≤ a 146 22 → a0 146 23 ≤ a 146 23 → ((a0 146 23 < a0 146 22 ∧ ¬ a0 164 ((a0 146 23).toNat) = 32) → a 146 23 = a0 146 23) → (a 146 23 = ((SK (UB (a0 164)) (a0 146 22).toNat (a0 146 23).toNat) : Int)) → (∀ k : Nat, (k : Int) < a 146 25 → LT (UB (a0 164)) (a0 146 22).toNat ((SK (UB (a0 164)) (a0 146 22).toNat (a0 146 23).toNat) + k)) → (¬ LT (UB (a0 164)) (a0 146 22).toNat ((SK (UB (a0 164)) (a0 146 22).toNat (a0 146 23).toNat) + (a 146 25).toNat)) → (∀ v : Nat, (v : Int) < y1 → v < 16 → ¬ TW (UB (a0 164)) (a0 146 22).toNat (SK (UB (a0 164)) (a0 146 22).toNat (a0 146 23).toNat) v) → jt (jxX E d 216 79 [some (.inr (.inr (.inl 146))), some (.inl y1), none, none, none] [] (jxSH, a, b0)) (jQ_X12_wordHere a0 b0) := fun y1 a hlt i0 i1 i2 i3 i4 i5 i6 i7 i8 i9 i10 => (ih _ hlt).2.2.2.2.2 y1 a (Nat.le_refl _) i0 i1 i2 i3 i4 i5 i6 i7 i8 i9 i10
  have hc176 : ∀ (y1 y2 y4 : Int) (a : Nat → Nat → Int), (((((16 - y1) * 17) + 0) + ((6 - y4) * 1)) + 0).toNat ≤ n → iv a → jfr jW_X12_wordHere a0 a → 0 ≤ y1 → y1 ≤ 15 → 1 ≤ y2 → y2 ≤ 6 → 0 ≤ y4 → y4 ≤ 5 → a 146 25 ≤ 6 → (a 146 23) + (a 146 25) ≤ a 146 22 → a0 146 23 ≤ a 146 23 → 2 ≤ y2 → (y1 = 2 → y2 = 3) → y2 = a 146 25 → y4 < y2 → ((a0 146 23 < a0 146 22 ∧ ¬ a0 164 ((a0 146 23).toNat) = 32) → a 146 23 = a0 146 23) → (a 146 23 = ((SK (UB (a0 164)) (a0 146 22).toNat (a0 146 23).toNat) : Int)) → (∀ k : Nat, (k : Int) < a 146 25 → LT (UB (a0 164)) (a0 146 22).toNat ((SK (UB (a0 164)) (a0 146 22).toNat (a0 146 23).toNat) + k)) → (¬ LT (UB (a0 164)) (a0 146 22).toNat ((SK (UB (a0 164)) (a0 146 22).toNat (a0 146 23).toNat) + (a 146 25).toNat)) → (∀ v : Nat, (v : Int) < y1 → v < 16 → ¬ TW (UB (a0 164)) (a0 146 22).toNat (SK (UB (a0 164)) (a0 146 22).toNat (a0 146 23).toNat) v) → (y2 = (wdn y1.toNat : Int)) → (y2 = a 146 25) → (∀ k : Nat, (k : Int) < y4 + 1 → (UB (a0 164)) ((SK (UB (a0 164)) (a0 146 22).toNat (a0 146 23).toNat) + k) = (wdl y1.toNat).getD k 0) → jt (jxX E d 216 176 [some (.inr (.inr (.inl 146))), some (.inl y1), some (.inl y2), none, some (.inl y4)] [] (jxSH, a, b0)) (jQ_X12_wordHere a0 b0) := by
    intro y1 y2 y4 a hm hv hf hi0 hi1 hi2 hi3 hi4 hi5 hi6 hi7 hi8 hi9 hi10 hi11 hi12 hi13 hn hl hnl hno hwn hsz hch
    refine jt_eq (bq_X12_wordHere_176 E d y1 y2 y4 a b0) ?_
    have h162_ := iv_get hv (k := 146) (j := 25) (l := 0) (u := 200) rfl
    have h163_ := iv_get hv (k := 146) (j := 23) (l := 0) (u := 200) rfl
    have h164_ := iv_get hv (k := 146) (j := 22) (l := 0) (u := 200) rfl
    have h165_ : a 146 22 = a0 146 22 := hf 146 22 rfl
    have h166_ := iv_get hv0 (k := 146) (j := 22) (l := 0) (u := 200) rfl
    have h167_ := iv_get hv0 (k := 146) (j := 23) (l := 0) (u := 200) rfl
    have h168_ := iv_get hv0 (k := 164) (j := (a0 146 23).toNat) (l := (-128)) (u := 127) rfl
    have h4 : a 164 = a0 164 := funext fun j => hf 164 j rfl
    have h22 := hf 146 22 rfl
    have h169_ : jxw (y4 + 1) = y4 + 1 := jxw_id (by omega) (by omega)
    exact ih139 y1 y2 1 (jxw (y4 + 1)) a (show (((((16 - y1) * 17) + 0) + ((6 - (jxw (y4 + 1))) * 1)) + 0).toNat < n from by omega) hv hf (show 0 ≤ y1 from by omega) (show y1 ≤ 15 from by omega) (show 0 ≤ y2 from by omega) (show y2 ≤ 6 from by omega) (show 0 ≤ 1 from by omega) (show 1 ≤ 1 from by omega) (show 0 ≤ jxw (y4 + 1) from by omega) (show jxw (y4 + 1) ≤ 6 from by omega) (show a 146 25 ≤ 6 from by omega) (show (a 146 23) + (a 146 25) ≤ a 146 22 from by omega) (show a0 146 23 ≤ a 146 23 from by omega) (show 2 ≤ y2 from by omega) (show (y1 = 2 → y2 = 3) from by omega) (show (1 = 0 ∨ y2 = a 146 25) from by omega) (show (1 = 0 ∨ 1 = 1) from by omega) (show ((a0 146 23 < a0 146 22 ∧ ¬ a0 164 ((a0 146 23).toNat) = 32) → a 146 23 = a0 146 23) from by omega) (by first | exact hn | (have e := hq0_4; exact e)) (by first | exact hl | exact (fun k hk => absurd hk (show ¬ (k : Int) < 0 by omega)) | exact lt_ext hl hl1 (by omega) (show jxw ((a 146 25) + 1) = a 146 25 + 1 by omega)) (by first | exact hnl | (rw [show (SK (UB (a0 164)) (a0 146 22).toNat (a0 146 23).toNat) + (a 146 25).toNat = (jxw ((a 146 23) + (a 146 25))).toNat from by omega, ← h4]; exact LT_no1 (by omega))) hno hwn (by first | exact Or.inl ⟨rfl, fun t => by have e := TW_run (s := (a 146 25).toNat) (by omega) (fun k hk => hl k (by omega)) hnl t; omega⟩ | exact Or.inr ⟨rfl, by omega, fun k hk => absurd hk (by omega)⟩ | exact Or.inl ⟨rfl, hno1⟩ | exact Or.inr ⟨rfl, hsz, by rw [show jxw (y4 + 1) = y4 + 1 from by omega]; exact hch⟩)
  have hc180 : ∀ (y1 y2 y4 : Int) (a : Nat → Nat → Int), (((((16 - y1) * 17) + 0) + ((6 - y4) * 1)) + 0).toNat ≤ n → iv a → jfr jW_X12_wordHere a0 a → 0 ≤ y1 → y1 ≤ 15 → 1 ≤ y2 → y2 ≤ 6 → 0 ≤ y4 → y4 ≤ 5 → a 146 25 ≤ 6 → (a 146 23) + (a 146 25) ≤ a 146 22 → a0 146 23 ≤ a 146 23 → 2 ≤ y2 → (y1 = 2 → y2 = 3) → y2 = a 146 25 → y4 < y2 → ((a0 146 23 < a0 146 22 ∧ ¬ a0 164 ((a0 146 23).toNat) = 32) → a 146 23 = a0 146 23) → (a 146 23 = ((SK (UB (a0 164)) (a0 146 22).toNat (a0 146 23).toNat) : Int)) → (∀ k : Nat, (k : Int) < a 146 25 → LT (UB (a0 164)) (a0 146 22).toNat ((SK (UB (a0 164)) (a0 146 22).toNat (a0 146 23).toNat) + k)) → (¬ LT (UB (a0 164)) (a0 146 22).toNat ((SK (UB (a0 164)) (a0 146 22).toNat (a0 146 23).toNat) + (a 146 25).toNat)) → (∀ v : Nat, (v : Int) < y1 → v < 16 → ¬ TW (UB (a0 164)) (a0 146 22).toNat (SK (UB (a0 164)) (a0 146 22).toNat (a0 146 23).toNat) v) → (y2 = (wdn y1.toNat : Int)) → (¬ TW (UB (a0 164)) (a0 146 22).toNat (SK (UB (a0 164)) (a0 146 22).toNat (a0 146 23).toNat) y1.toNat) → jt (jxX E d 216 180 [some (.inr (.inr (.inl 146))), some (.inl y1), some (.inl y2), none, some (.inl y4)] [] (jxSH, a, b0)) (jQ_X12_wordHere a0 b0) := by
    intro y1 y2 y4 a hm hv hf hi0 hi1 hi2 hi3 hi4 hi5 hi6 hi7 hi8 hi9 hi10 hi11 hi12 hi13 hn hl hnl hno hwn hno1
    refine jt_eq (bq_X12_wordHere_180 E d y1 y2 y4 a b0) ?_
    have h170_ := iv_get hv (k := 146) (j := 25) (l := 0) (u := 200) rfl
    have h171_ := iv_get hv (k := 146) (j := 23) (l := 0) (u := 200) rfl
    have h172_ := iv_get hv (k := 146) (j := 22) (l := 0) (u := 200) rfl
    have h173_ : a 146 22 = a0 146 22 := hf 146 22 rfl
    have h174_ := iv_get hv0 (k := 146) (j := 22) (l := 0) (u := 200) rfl
    have h175_ := iv_get hv0 (k := 146) (j := 23) (l := 0) (u := 200) rfl
    have h176_ := iv_get hv0 (k := 164) (j := (a0 146 23).toNat) (l := (-128)) (u := 127) rfl
    have h4 : a 164 = a0 164 := funext fun j => hf 164 j rfl
    have h22 := hf 146 22 rfl
    have h177_ : jxw (y4 + 1) = y4 + 1 := jxw_id (by omega) (by omega)
    exact ih139 y1 y2 0 (jxw (y4 + 1)) a (show (((((16 - y1) * 17) + 0) + ((6 - (jxw (y4 + 1))) * 1)) + 0).toNat < n from by omega) hv hf (show 0 ≤ y1 from by omega) (show y1 ≤ 15 from by omega) (show 0 ≤ y2 from by omega) (show y2 ≤ 6 from by omega) (show 0 ≤ 0 from by omega) (show 0 ≤ 1 from by omega) (show 0 ≤ jxw (y4 + 1) from by omega) (show jxw (y4 + 1) ≤ 6 from by omega) (show a 146 25 ≤ 6 from by omega) (show (a 146 23) + (a 146 25) ≤ a 146 22 from by omega) (show a0 146 23 ≤ a 146 23 from by omega) (show 2 ≤ y2 from by omega) (show (y1 = 2 → y2 = 3) from by omega) (show (0 = 0 ∨ y2 = a 146 25) from by omega) (show (0 = 0 ∨ 0 = 1) from by omega) (show ((a0 146 23 < a0 146 22 ∧ ¬ a0 164 ((a0 146 23).toNat) = 32) → a 146 23 = a0 146 23) from by omega) (by first | exact hn | (have e := hq0_4; exact e)) (by first | exact hl | exact (fun k hk => absurd hk (show ¬ (k : Int) < 0 by omega)) | exact lt_ext hl hl1 (by omega) (show jxw ((a 146 25) + 1) = a 146 25 + 1 by omega)) (by first | exact hnl | (rw [show (SK (UB (a0 164)) (a0 146 22).toNat (a0 146 23).toNat) + (a 146 25).toNat = (jxw ((a 146 23) + (a 146 25))).toNat from by omega, ← h4]; exact LT_no1 (by omega))) hno hwn (by first | exact Or.inl ⟨rfl, fun t => by have e := TW_run (s := (a 146 25).toNat) (by omega) (fun k hk => hl k (by omega)) hnl t; omega⟩ | exact Or.inr ⟨rfl, by omega, fun k hk => absurd hk (by omega)⟩ | exact Or.inl ⟨rfl, hno1⟩ | exact Or.inr ⟨rfl, hsz, by rw [show jxw (y4 + 1) = y4 + 1 from by omega]; exact hch⟩)
  have hc139 : ∀ (y1 y2 y3 y4 : Int) (a : Nat → Nat → Int), (((((16 - y1) * 17) + 0) + ((6 - y4) * 1)) + 0).toNat ≤ n → iv a → jfr jW_X12_wordHere a0 a → 0 ≤ y1 → y1 ≤ 15 → 0 ≤ y2 → y2 ≤ 6 → 0 ≤ y3 → y3 ≤ 1 → 0 ≤ y4 → y4 ≤ 6 → a 146 25 ≤ 6 → (a 146 23) + (a 146 25) ≤ a 146 22 → a0 146 23 ≤ a 146 23 → 2 ≤ y2 → (y1 = 2 → y2 = 3) → (y3 = 0 ∨ y2 = a 146 25) → (y3 = 0 ∨ y3 = 1) → ((a0 146 23 < a0 146 22 ∧ ¬ a0 164 ((a0 146 23).toNat) = 32) → a 146 23 = a0 146 23) → (a 146 23 = ((SK (UB (a0 164)) (a0 146 22).toNat (a0 146 23).toNat) : Int)) → (∀ k : Nat, (k : Int) < a 146 25 → LT (UB (a0 164)) (a0 146 22).toNat ((SK (UB (a0 164)) (a0 146 22).toNat (a0 146 23).toNat) + k)) → (¬ LT (UB (a0 164)) (a0 146 22).toNat ((SK (UB (a0 164)) (a0 146 22).toNat (a0 146 23).toNat) + (a 146 25).toNat)) → (∀ v : Nat, (v : Int) < y1 → v < 16 → ¬ TW (UB (a0 164)) (a0 146 22).toNat (SK (UB (a0 164)) (a0 146 22).toNat (a0 146 23).toNat) v) → (y2 = (wdn y1.toNat : Int)) → ((y3 = 0 ∧ ¬ TW (UB (a0 164)) (a0 146 22).toNat (SK (UB (a0 164)) (a0 146 22).toNat (a0 146 23).toNat) y1.toNat) ∨ (y3 = 1 ∧ y2 = a 146 25 ∧ ∀ k : Nat, (k : Int) < y4 → (UB (a0 164)) ((SK (UB (a0 164)) (a0 146 22).toNat (a0 146 23).toNat) + k) = (wdl y1.toNat).getD k 0)) → jt (jxX E d 216 139 [some (.inr (.inr (.inl 146))), some (.inl y1), some (.inl y2), some (.inl y3), some (.inl y4)] [] (jxSH, a, b0)) (jQ_X12_wordHere a0 b0) := by
    intro y1 y2 y3 y4 a hm hv hf hi0 hi1 hi2 hi3 hi4 hi5 hi6 hi7 hi8 hi9 hi10 hi11 hi12 hi13 hi14 hi15 hn hl hnl hno hwn hs
    refine jt_eq (bq_X12_wordHere_139 E d y1 y2 y3 y4 a b0) ?_
    have h178_ := iv_get hv (k := 146) (j := 25) (l := 0) (u := 200) rfl
    have h179_ := iv_get hv (k := 146) (j := 23) (l := 0) (u := 200) rfl
    have h180_ := iv_get hv (k := 146) (j := 22) (l := 0) (u := 200) rfl
    have h181_ : a 146 22 = a0 146 22 := hf 146 22 rfl
    have h182_ := iv_get hv0 (k := 146) (j := 22) (l := 0) (u := 200) rfl
    have h183_ := iv_get hv0 (k := 146) (j := 23) (l := 0) (u := 200) rfl
    have h184_ := iv_get hv0 (k := 164) (j := (a0 146 23).toNat) (l := (-128)) (u := 127) rfl
    have h4 : a 164 = a0 164 := funext fun j => hf 164 j rfl
    have h22 := hf 146 22 rfl
    have hub := UB_sp (g := a 164) (j := (jxw ((a 146 23) + y4)).toNat) (iv_get hv (k := 164) (j := (jxw ((a 146 23) + y4)).toNat) (l := -128) (u := 127) rfl).1 (iv_get hv (k := 164) (j := (jxw ((a 146 23) + y4)).toNat) (l := -128) (u := 127) rfl).2
    refine jt_ite (fun c185_ => ?_) (fun c185_ => ?_)
    ·
      refine jt_ite (fun c186_ => ?_) (fun c186_ => ?_)
      ·
        have h187_ : jxw (y1 + 1) = y1 + 1 := jxw_id (by omega) (by omega)
        exact ih79 (jxw (y1 + 1)) a (show (((16 - (jxw (y1 + 1))) * 17) + 16).toNat < n from by omega) hv hf (show 0 ≤ jxw (y1 + 1) from by omega) (show jxw (y1 + 1) ≤ 16 from by omega) (show (a 146 23) + (a 146 25) ≤ a 146 22 from by omega) (show a0 146 23 ≤ a 146 23 from by omega) (show ((a0 146 23 < a0 146 22 ∧ ¬ a0 164 ((a0 146 23).toNat) = 32) → a 146 23 = a0 146 23) from by omega) (by first | exact hn | (have e := hq0_4; exact e)) (by first | exact hl | exact (fun k hk => absurd hk (show ¬ (k : Int) < 0 by omega)) | exact lt_ext hl hl1 (by omega) (show jxw ((a 146 25) + 1) = a 146 25 + 1 by omega)) (by first | exact hnl | (rw [show (SK (UB (a0 164)) (a0 146 22).toNat (a0 146 23).toNat) + (a 146 25).toNat = (jxw ((a 146 23) + (a 146 25))).toNat from by omega, ← h4]; exact LT_no1 (by omega))) (by first | exact (fun v h => absurd h (by omega)) | exact no_ext hno hno1 (by omega) (show jxw (y1 + 1) = y1 + 1 by omega) | (rcases hs with hs | hs <;> first | exact no_ext hno hs.2 (by omega) (show jxw (y1 + 1) = y1 + 1 by omega) | exact absurd hs.1 (by omega)))
      ·
        exact jt_rI ⟨hv, hf, rfl, (show (a 146 23) + (a 146 25) ≤ a 146 22 from by omega), (show a0 146 23 ≤ a 146 23 from by omega), (show 0 - 1 ≤ y1 from by omega), (show y1 ≤ 15 from by omega), (show (y1 = 2 → a 146 25 = 3) from by omega), (show (0 ≤ y1 → 2 ≤ a 146 25) from by omega), (show ((a0 146 23 < a0 146 22 ∧ ¬ a0 164 ((a0 146 23).toNat) = 32) → a 146 23 = a0 146 23) from by omega), hn, (by first | exact (fun w hw => ⟨fun t => absurd t (hno w (by omega) hw), fun e => absurd e (by omega)⟩) | exact (fun w hw => ⟨fun t => by have e := TW_run (s := (a 146 25).toNat) hw (fun k hk => hl k (by omega)) hnl t; have hb := wdn_bd w hw; omega, fun e => absurd e (by omega)⟩) | (rcases hs with hs | hs <;> first | exact absurd hs.1 (by assumption) | (have ht := TW_mk (w := y1.toNat) (q := (SK (UB (a0 164)) (a0 146 22).toNat (a0 146 23).toNat) + (a 146 25).toNat) (by omega) (by omega) (fun k hk => hs.2.2 k (by omega)) hnl; exact fun w hw => ⟨fun t => by have e := TW_one (by omega) hw ht t; omega, fun e => by rw [show w = y1.toNat from by omega]; exact ht⟩))), (by first | exact (fun h => absurd h (by decide)) | (rcases hs with hs | hs <;> first | exact absurd hs.1 (by assumption) | exact (fun _ => by rw [← hs.2.1]; exact hwn)))⟩
    ·
      refine jt_ite (fun c188_ => ?_) (fun c188_ => ?_)
      ·
        have h189_ : jxw (6 * y1) = 6 * y1 := jxw_id (by omega) (by omega)
        have h190_ : jxw ((jxw (6 * y1)) + y4) = (jxw (6 * y1)) + y4 := jxw_id (by omega) (by omega)
        refine jt_grd (by omega) ?_
        have h191_ : jxw ((a 146 23) + y4) = (a 146 23) + y4 := jxw_id (by omega) (by omega)
        refine jt_grd (by omega) ?_
        have h192_ := iv_wd hv ((jxw ((jxw (6 * y1)) + y4)).toNat)
        have h193_ : a 165 ((jxw ((jxw (6 * y1)) + y4)).toNat) = a0 165 ((jxw ((jxw (6 * y1)) + y4)).toNat) := hf 165 ((jxw ((jxw (6 * y1)) + y4)).toNat) rfl
        have h194_ := iv_wd hv0 ((jxw ((jxw (6 * y1)) + y4)).toNat)
        have h195_ := iv_get hv (k := 164) (j := (jxw ((a 146 23) + y4)).toNat) (l := (-128)) (u := 127) rfl
        have h196_ : a 164 ((jxw ((a 146 23) + y4)).toNat) = a0 164 ((jxw ((a 146 23) + y4)).toNat) := hf 164 ((jxw ((a 146 23) + y4)).toNat) rfl
        have h197_ := iv_get hv0 (k := 164) (j := (jxw ((a 146 23) + y4)).toNat) (l := (-128)) (u := 127) rfl
        refine jt_ite (fun c198_ => ?_) (fun c198_ => ?_)
        ·
          exact hc176 y1 y2 y4 a (show (((((16 - y1) * 17) + 0) + ((6 - y4) * 1)) + 0).toNat ≤ n from by omega) hv hf (show 0 ≤ y1 from by omega) (show y1 ≤ 15 from by omega) (show 1 ≤ y2 from by omega) (show y2 ≤ 6 from by omega) (show 0 ≤ y4 from by omega) (show y4 ≤ 5 from by omega) (show a 146 25 ≤ 6 from by omega) (show (a 146 23) + (a 146 25) ≤ a 146 22 from by omega) (show a0 146 23 ≤ a 146 23 from by omega) (show 2 ≤ y2 from by omega) (show (y1 = 2 → y2 = 3) from by omega) (show y2 = a 146 25 from by omega) (show y4 < y2 from by omega) (show ((a0 146 23 < a0 146 22 ∧ ¬ a0 164 ((a0 146 23).toNat) = 32) → a 146 23 = a0 146 23) from by omega) (by first | exact hn | (have e := hq0_4; exact e)) (by first | exact hl | exact (fun k hk => absurd hk (show ¬ (k : Int) < 0 by omega)) | exact lt_ext hl hl1 (by omega) (show jxw ((a 146 25) + 1) = a 146 25 + 1 by omega)) (by first | exact hnl | (rw [show (SK (UB (a0 164)) (a0 146 22).toNat (a0 146 23).toNat) + (a 146 25).toNat = (jxw ((a 146 23) + (a 146 25))).toNat from by omega, ← h4]; exact LT_no1 (by omega))) hno hwn (by rcases hs with hs | hs <;> first | exact hs.2.1 | exact absurd hs.1 (by assumption)) (by rcases hs with hs | hs <;> first | exact absurd hs.1 (by assumption) | (have hwl := wdl_lt y1.toNat (by omega) y4.toNat (by omega); have h1 := wd_val (w := y1.toNat) (k := y4.toNat) (by omega) (by omega); rw [show 6 * y1.toNat + y4.toNat = (jxw ((jxw (6 * y1)) + y4)).toNat from by omega, ← iv_wd hv] at h1; exact ch_ext hs.2.2 (by omega) (q := (jxw ((a 146 23) + y4)).toNat) (by omega) (by rw [← h4]; exact (show _ = (wdl y1.toNat).getD y4.toNat 0 by omega)) rfl))
        ·
          exact hc180 y1 y2 y4 a (show (((((16 - y1) * 17) + 0) + ((6 - y4) * 1)) + 0).toNat ≤ n from by omega) hv hf (show 0 ≤ y1 from by omega) (show y1 ≤ 15 from by omega) (show 1 ≤ y2 from by omega) (show y2 ≤ 6 from by omega) (show 0 ≤ y4 from by omega) (show y4 ≤ 5 from by omega) (show a 146 25 ≤ 6 from by omega) (show (a 146 23) + (a 146 25) ≤ a 146 22 from by omega) (show a0 146 23 ≤ a 146 23 from by omega) (show 2 ≤ y2 from by omega) (show (y1 = 2 → y2 = 3) from by omega) (show y2 = a 146 25 from by omega) (show y4 < y2 from by omega) (show ((a0 146 23 < a0 146 22 ∧ ¬ a0 164 ((a0 146 23).toNat) = 32) → a 146 23 = a0 146 23) from by omega) (by first | exact hn | (have e := hq0_4; exact e)) (by first | exact hl | exact (fun k hk => absurd hk (show ¬ (k : Int) < 0 by omega)) | exact lt_ext hl hl1 (by omega) (show jxw ((a 146 25) + 1) = a 146 25 + 1 by omega)) (by first | exact hnl | (rw [show (SK (UB (a0 164)) (a0 146 22).toNat (a0 146 23).toNat) + (a 146 25).toNat = (jxw ((a 146 23) + (a 146 25))).toNat from by omega, ← h4]; exact LT_no1 (by omega))) hno hwn (by have hwl := wdl_lt y1.toNat (by omega) y4.toNat (by omega); have h1 := wd_val (w := y1.toNat) (k := y4.toNat) (by omega) (by omega); rw [show 6 * y1.toNat + y4.toNat = (jxw ((jxw (6 * y1)) + y4)).toNat from by omega, ← iv_wd hv] at h1; exact TW_no (y := y4) (by omega) (by omega) (q := (jxw ((a 146 23) + y4)).toNat) (by omega) rfl (by rw [← h4]; omega))
      ·
        refine jt_ite (fun c199_ => ?_) (fun c199_ => ?_)
        ·
          have h200_ : jxw (y1 + 1) = y1 + 1 := jxw_id (by omega) (by omega)
          exact ih79 (jxw (y1 + 1)) a (show (((16 - (jxw (y1 + 1))) * 17) + 16).toNat < n from by omega) hv hf (show 0 ≤ jxw (y1 + 1) from by omega) (show jxw (y1 + 1) ≤ 16 from by omega) (show (a 146 23) + (a 146 25) ≤ a 146 22 from by omega) (show a0 146 23 ≤ a 146 23 from by omega) (show ((a0 146 23 < a0 146 22 ∧ ¬ a0 164 ((a0 146 23).toNat) = 32) → a 146 23 = a0 146 23) from by omega) (by first | exact hn | (have e := hq0_4; exact e)) (by first | exact hl | exact (fun k hk => absurd hk (show ¬ (k : Int) < 0 by omega)) | exact lt_ext hl hl1 (by omega) (show jxw ((a 146 25) + 1) = a 146 25 + 1 by omega)) (by first | exact hnl | (rw [show (SK (UB (a0 164)) (a0 146 22).toNat (a0 146 23).toNat) + (a 146 25).toNat = (jxw ((a 146 23) + (a 146 25))).toNat from by omega, ← h4]; exact LT_no1 (by omega))) (by first | exact (fun v h => absurd h (by omega)) | exact no_ext hno hno1 (by omega) (show jxw (y1 + 1) = y1 + 1 by omega) | (rcases hs with hs | hs <;> first | exact no_ext hno hs.2 (by omega) (show jxw (y1 + 1) = y1 + 1 by omega) | exact absurd hs.1 (by omega)))
        ·
          exact jt_rI ⟨hv, hf, rfl, (show (a 146 23) + (a 146 25) ≤ a 146 22 from by omega), (show a0 146 23 ≤ a 146 23 from by omega), (show 0 - 1 ≤ y1 from by omega), (show y1 ≤ 15 from by omega), (show (y1 = 2 → a 146 25 = 3) from by omega), (show (0 ≤ y1 → 2 ≤ a 146 25) from by omega), (show ((a0 146 23 < a0 146 22 ∧ ¬ a0 164 ((a0 146 23).toNat) = 32) → a 146 23 = a0 146 23) from by omega), hn, (by first | exact (fun w hw => ⟨fun t => absurd t (hno w (by omega) hw), fun e => absurd e (by omega)⟩) | exact (fun w hw => ⟨fun t => by have e := TW_run (s := (a 146 25).toNat) hw (fun k hk => hl k (by omega)) hnl t; have hb := wdn_bd w hw; omega, fun e => absurd e (by omega)⟩) | (rcases hs with hs | hs <;> first | exact absurd hs.1 (by assumption) | (have ht := TW_mk (w := y1.toNat) (q := (SK (UB (a0 164)) (a0 146 22).toNat (a0 146 23).toNat) + (a 146 25).toNat) (by omega) (by omega) (fun k hk => hs.2.2 k (by omega)) hnl; exact fun w hw => ⟨fun t => by have e := TW_one (by omega) hw ht t; omega, fun e => by rw [show w = y1.toNat from by omega]; exact ht⟩))), (by first | exact (fun h => absurd h (by decide)) | (rcases hs with hs | hs <;> first | exact absurd hs.1 (by assumption) | exact (fun _ => by rw [← hs.2.1]; exact hwn)))⟩
  have hc122 : ∀ (y1 y2 : Int) (a : Nat → Nat → Int), (((16 - y1) * 17) + 8).toNat ≤ n → iv a → jfr jW_X12_wordHere a0 a → 0 ≤ y1 → y1 ≤ 15 → 0 ≤ y2 → y2 ≤ 6 → a 146 25 ≤ 6 → (a 146 23) + (a 146 25) ≤ a 146 22 → a0 146 23 ≤ a 146 23 → (y1 = 2 → y2 = 3) → 2 ≤ y2 → ((a0 146 23 < a0 146 22 ∧ ¬ a0 164 ((a0 146 23).toNat) = 32) → a 146 23 = a0 146 23) → (a 146 23 = ((SK (UB (a0 164)) (a0 146 22).toNat (a0 146 23).toNat) : Int)) → (∀ k : Nat, (k : Int) < a 146 25 → LT (UB (a0 164)) (a0 146 22).toNat ((SK (UB (a0 164)) (a0 146 22).toNat (a0 146 23).toNat) + k)) → (¬ LT (UB (a0 164)) (a0 146 22).toNat ((SK (UB (a0 164)) (a0 146 22).toNat (a0 146 23).toNat) + (a 146 25).toNat)) → (∀ v : Nat, (v : Int) < y1 → v < 16 → ¬ TW (UB (a0 164)) (a0 146 22).toNat (SK (UB (a0 164)) (a0 146 22).toNat (a0 146 23).toNat) v) → (y2 = (wdn y1.toNat : Int)) → jt (jxX E d 216 122 [some (.inr (.inr (.inl 146))), some (.inl y1), some (.inl y2), none, none] [] (jxSH, a, b0)) (jQ_X12_wordHere a0 b0) := by
    intro y1 y2 a hm hv hf hi0 hi1 hi2 hi3 hi4 hi5 hi6 hi7 hi8 hi9 hn hl hnl hno hwn
    refine jt_eq (bq_X12_wordHere_122 E d y1 y2 a b0) ?_
    have h201_ := iv_get hv (k := 146) (j := 25) (l := 0) (u := 200) rfl
    have h202_ := iv_get hv (k := 146) (j := 23) (l := 0) (u := 200) rfl
    have h203_ := iv_get hv (k := 146) (j := 22) (l := 0) (u := 200) rfl
    have h204_ : a 146 22 = a0 146 22 := hf 146 22 rfl
    have h205_ := iv_get hv0 (k := 146) (j := 22) (l := 0) (u := 200) rfl
    have h206_ := iv_get hv0 (k := 146) (j := 23) (l := 0) (u := 200) rfl
    have h207_ := iv_get hv0 (k := 164) (j := (a0 146 23).toNat) (l := (-128)) (u := 127) rfl
    have h4 : a 164 = a0 164 := funext fun j => hf 164 j rfl
    have h22 := hf 146 22 rfl
    refine jt_ite (fun c208_ => ?_) (fun c208_ => ?_)
    ·
      exact hc139 y1 y2 1 0 a (show (((((16 - y1) * 17) + 0) + ((6 - 0) * 1)) + 0).toNat ≤ n from by omega) hv hf (show 0 ≤ y1 from by omega) (show y1 ≤ 15 from by omega) (show 0 ≤ y2 from by omega) (show y2 ≤ 6 from by omega) (show 0 ≤ 1 from by omega) (show 1 ≤ 1 from by omega) (show 0 ≤ 0 from by omega) (show 0 ≤ 6 from by omega) (show a 146 25 ≤ 6 from by omega) (show (a 146 23) + (a 146 25) ≤ a 146 22 from by omega) (show a0 146 23 ≤ a 146 23 from by omega) (show 2 ≤ y2 from by omega) (show (y1 = 2 → y2 = 3) from by omega) (show (1 = 0 ∨ y2 = a 146 25) from by omega) (show (1 = 0 ∨ 1 = 1) from by omega) (show ((a0 146 23 < a0 146 22 ∧ ¬ a0 164 ((a0 146 23).toNat) = 32) → a 146 23 = a0 146 23) from by omega) (by first | exact hn | (have e := hq0_4; exact e)) (by first | exact hl | exact (fun k hk => absurd hk (show ¬ (k : Int) < 0 by omega)) | exact lt_ext hl hl1 (by omega) (show jxw ((a 146 25) + 1) = a 146 25 + 1 by omega)) (by first | exact hnl | (rw [show (SK (UB (a0 164)) (a0 146 22).toNat (a0 146 23).toNat) + (a 146 25).toNat = (jxw ((a 146 23) + (a 146 25))).toNat from by omega, ← h4]; exact LT_no1 (by omega))) hno hwn (by first | exact Or.inl ⟨rfl, fun t => by have e := TW_run (s := (a 146 25).toNat) (by omega) (fun k hk => hl k (by omega)) hnl t; omega⟩ | exact Or.inr ⟨rfl, by omega, fun k hk => absurd hk (by omega)⟩ | exact Or.inl ⟨rfl, hno1⟩ | exact Or.inr ⟨rfl, hsz, by rw [show jxw (y4 + 1) = y4 + 1 from by omega]; exact hch⟩)
    ·
      exact hc139 y1 y2 0 0 a (show (((((16 - y1) * 17) + 0) + ((6 - 0) * 1)) + 0).toNat ≤ n from by omega) hv hf (show 0 ≤ y1 from by omega) (show y1 ≤ 15 from by omega) (show 0 ≤ y2 from by omega) (show y2 ≤ 6 from by omega) (show 0 ≤ 0 from by omega) (show 0 ≤ 1 from by omega) (show 0 ≤ 0 from by omega) (show 0 ≤ 6 from by omega) (show a 146 25 ≤ 6 from by omega) (show (a 146 23) + (a 146 25) ≤ a 146 22 from by omega) (show a0 146 23 ≤ a 146 23 from by omega) (show 2 ≤ y2 from by omega) (show (y1 = 2 → y2 = 3) from by omega) (show (0 = 0 ∨ y2 = a 146 25) from by omega) (show (0 = 0 ∨ 0 = 1) from by omega) (show ((a0 146 23 < a0 146 22 ∧ ¬ a0 164 ((a0 146 23).toNat) = 32) → a 146 23 = a0 146 23) from by omega) (by first | exact hn | (have e := hq0_4; exact e)) (by first | exact hl | exact (fun k hk => absurd hk (show ¬ (k : Int) < 0 by omega)) | exact lt_ext hl hl1 (by omega) (show jxw ((a 146 25) + 1) = a 146 25 + 1 by omega)) (by first | exact hnl | (rw [show (SK (UB (a0 164)) (a0 146 22).toNat (a0 146 23).toNat) + (a 146 25).toNat = (jxw ((a 146 23) + (a 146 25))).toNat from by omega, ← h4]; exact LT_no1 (by omega))) hno hwn (by first | exact Or.inl ⟨rfl, fun t => by have e := TW_run (s := (a 146 25).toNat) (by omega) (fun k hk => hl k (by omega)) hnl t; omega⟩ | exact Or.inr ⟨rfl, by omega, fun k hk => absurd hk (by omega)⟩ | exact Or.inl ⟨rfl, hno1⟩ | exact Or.inr ⟨rfl, hsz, by rw [show jxw (y4 + 1) = y4 + 1 from by omega]; exact hch⟩)
  have hc96 : ∀ (y1 y2 : Int) (a : Nat → Nat → Int), (((((16 - y1) * 17) + 8) + ((6 - y2) * 1)) + 0).toNat ≤ n → iv a → jfr jW_X12_wordHere a0 a → 0 ≤ y1 → y1 ≤ 15 → 0 ≤ y2 → y2 ≤ 6 → a 146 25 ≤ 6 → (a 146 23) + (a 146 25) ≤ a 146 22 → a0 146 23 ≤ a 146 23 → (y1 = 2 → y2 ≤ 3) → ((a0 146 23 < a0 146 22 ∧ ¬ a0 164 ((a0 146 23).toNat) = 32) → a 146 23 = a0 146 23) → (a 146 23 = ((SK (UB (a0 164)) (a0 146 22).toNat (a0 146 23).toNat) : Int)) → (∀ k : Nat, (k : Int) < a 146 25 → LT (UB (a0 164)) (a0 146 22).toNat ((SK (UB (a0 164)) (a0 146 22).toNat (a0 146 23).toNat) + k)) → (¬ LT (UB (a0 164)) (a0 146 22).toNat ((SK (UB (a0 164)) (a0 146 22).toNat (a0 146 23).toNat) + (a 146 25).toNat)) → (∀ v : Nat, (v : Int) < y1 → v < 16 → ¬ TW (UB (a0 164)) (a0 146 22).toNat (SK (UB (a0 164)) (a0 146 22).toNat (a0 146 23).toNat) v) → (y2 ≤ (wdn y1.toNat : Int)) → jt (jxX E d 216 96 [some (.inr (.inr (.inl 146))), some (.inl y1), some (.inl y2), none, none] [] (jxSH, a, b0)) (jQ_X12_wordHere a0 b0) := by
    intro y1 y2 a hm hv hf hi0 hi1 hi2 hi3 hi4 hi5 hi6 hi7 hi8 hn hl hnl hno hle
    refine jt_eq (bq_X12_wordHere_96 E d y1 y2 a b0) ?_
    have h209_ := iv_get hv (k := 146) (j := 25) (l := 0) (u := 200) rfl
    have h210_ := iv_get hv (k := 146) (j := 23) (l := 0) (u := 200) rfl
    have h211_ := iv_get hv (k := 146) (j := 22) (l := 0) (u := 200) rfl
    have h212_ : a 146 22 = a0 146 22 := hf 146 22 rfl
    have h213_ := iv_get hv0 (k := 146) (j := 22) (l := 0) (u := 200) rfl
    have h214_ := iv_get hv0 (k := 146) (j := 23) (l := 0) (u := 200) rfl
    have h215_ := iv_get hv0 (k := 164) (j := (a0 146 23).toNat) (l := (-128)) (u := 127) rfl
    have hw1 := wd_ne (y1 := y1) (y2 := y2) (by omega) (by omega)
    rw [← iv_wd hv] at hw1
    have hw2 : y1 = 2 → (y2 = 0 ∨ y2 = 1 ∨ y2 = 2) → ¬ a 165 ((jxw ((jxw (6 * y1)) + y2)).toNat) = 0 := by rintro rfl (rfl | rfl | rfl) <;> rw [iv_wd hv] <;> decide
    have hw3 : y1 = 2 → y2 = 3 → a 165 ((jxw ((jxw (6 * y1)) + y2)).toNat) = 0 := by rintro rfl rfl; rw [iv_wd hv]; decide
    have h4 : a 164 = a0 164 := funext fun j => hf 164 j rfl
    have h22 := hf 146 22 rfl
    refine jt_ite (fun c216_ => ?_) (fun c216_ => ?_)
    ·
      have h217_ : jxw (6 * y1) = 6 * y1 := jxw_id (by omega) (by omega)
      have h218_ : jxw ((jxw (6 * y1)) + y2) = (jxw (6 * y1)) + y2 := jxw_id (by omega) (by omega)
      refine jt_grd (by omega) ?_
      have h219_ := iv_wd hv ((jxw ((jxw (6 * y1)) + y2)).toNat)
      have h220_ : a 165 ((jxw ((jxw (6 * y1)) + y2)).toNat) = a0 165 ((jxw ((jxw (6 * y1)) + y2)).toNat) := hf 165 ((jxw ((jxw (6 * y1)) + y2)).toNat) rfl
      have h221_ := iv_wd hv0 ((jxw ((jxw (6 * y1)) + y2)).toNat)
      refine jt_ite (fun c222_ => ?_) (fun c222_ => ?_)
      ·
        exact hc122 y1 y2 a (show (((16 - y1) * 17) + 8).toNat ≤ n from by omega) hv hf (show 0 ≤ y1 from by omega) (show y1 ≤ 15 from by omega) (show 0 ≤ y2 from by omega) (show y2 ≤ 6 from by omega) (show a 146 25 ≤ 6 from by omega) (show (a 146 23) + (a 146 25) ≤ a 146 22 from by omega) (show a0 146 23 ≤ a 146 23 from by omega) (show (y1 = 2 → y2 = 3) from by omega) (show 2 ≤ y2 from by omega) (show ((a0 146 23 < a0 146 22 ∧ ¬ a0 164 ((a0 146 23).toNat) = 32) → a 146 23 = a0 146 23) from by omega) (by first | exact hn | (have e := hq0_4; exact e)) (by first | exact hl | exact (fun k hk => absurd hk (show ¬ (k : Int) < 0 by omega)) | exact lt_ext hl hl1 (by omega) (show jxw ((a 146 25) + 1) = a 146 25 + 1 by omega)) (by first | exact hnl | (rw [show (SK (UB (a0 164)) (a0 146 22).toNat (a0 146 23).toNat) + (a 146 25).toNat = (jxw ((a 146 23) + (a 146 25))).toNat from by omega, ← h4]; exact LT_no1 (by omega))) hno (by have hb := wdn_bd y1.toNat (by omega); first | omega | (have h1 := wd_in (w := y1.toNat) (k := y2.toNat) (by omega) (by omega); rw [show 6 * y1.toNat + y2.toNat = (jxw ((jxw (6 * y1)) + y2)).toNat from by omega, ← iv_wd hv] at h1; omega))
      ·
        have h223_ : jxw (y2 + 1) = y2 + 1 := jxw_id (by omega) (by omega)
        exact ih96 y1 (jxw (y2 + 1)) a (show (((((16 - y1) * 17) + 8) + ((6 - (jxw (y2 + 1))) * 1)) + 0).toNat < n from by omega) hv hf (show 0 ≤ y1 from by omega) (show y1 ≤ 15 from by omega) (show 0 ≤ jxw (y2 + 1) from by omega) (show jxw (y2 + 1) ≤ 6 from by omega) (show a 146 25 ≤ 6 from by omega) (show (a 146 23) + (a 146 25) ≤ a 146 22 from by omega) (show a0 146 23 ≤ a 146 23 from by omega) (show (y1 = 2 → jxw (y2 + 1) ≤ 3) from by omega) (show ((a0 146 23 < a0 146 22 ∧ ¬ a0 164 ((a0 146 23).toNat) = 32) → a 146 23 = a0 146 23) from by omega) (by first | exact hn | (have e := hq0_4; exact e)) (by first | exact hl | exact (fun k hk => absurd hk (show ¬ (k : Int) < 0 by omega)) | exact lt_ext hl hl1 (by omega) (show jxw ((a 146 25) + 1) = a 146 25 + 1 by omega)) (by first | exact hnl | (rw [show (SK (UB (a0 164)) (a0 146 22).toNat (a0 146 23).toNat) + (a 146 25).toNat = (jxw ((a 146 23) + (a 146 25))).toNat from by omega, ← h4]; exact LT_no1 (by omega))) hno (by first | omega | (have h1 := wd_in (w := y1.toNat) (k := y2.toNat) (by omega) (by omega); rw [show 6 * y1.toNat + y2.toNat = (jxw ((jxw (6 * y1)) + y2)).toNat from by omega, ← iv_wd hv] at h1; omega))
    ·
      exact hc122 y1 y2 a (show (((16 - y1) * 17) + 8).toNat ≤ n from by omega) hv hf (show 0 ≤ y1 from by omega) (show y1 ≤ 15 from by omega) (show 0 ≤ y2 from by omega) (show y2 ≤ 6 from by omega) (show a 146 25 ≤ 6 from by omega) (show (a 146 23) + (a 146 25) ≤ a 146 22 from by omega) (show a0 146 23 ≤ a 146 23 from by omega) (show (y1 = 2 → y2 = 3) from by omega) (show 2 ≤ y2 from by omega) (show ((a0 146 23 < a0 146 22 ∧ ¬ a0 164 ((a0 146 23).toNat) = 32) → a 146 23 = a0 146 23) from by omega) (by first | exact hn | (have e := hq0_4; exact e)) (by first | exact hl | exact (fun k hk => absurd hk (show ¬ (k : Int) < 0 by omega)) | exact lt_ext hl hl1 (by omega) (show jxw ((a 146 25) + 1) = a 146 25 + 1 by omega)) (by first | exact hnl | (rw [show (SK (UB (a0 164)) (a0 146 22).toNat (a0 146 23).toNat) + (a 146 25).toNat = (jxw ((a 146 23) + (a 146 25))).toNat from by omega, ← h4]; exact LT_no1 (by omega))) hno (by have hb := wdn_bd y1.toNat (by omega); first | omega | (have h1 := wd_in (w := y1.toNat) (k := y2.toNat) (by omega) (by omega); rw [show 6 * y1.toNat + y2.toNat = (jxw ((jxw (6 * y1)) + y2)).toNat from by omega, ← iv_wd hv] at h1; omega))
  have hc79 : ∀ (y1 : Int) (a : Nat → Nat → Int), (((16 - y1) * 17) + 16).toNat ≤ n → iv a → jfr jW_X12_wordHere a0 a → 0 ≤ y1 → y1 ≤ 16 → (a 146 23) + (a 146 25) ≤ a 146 22 → a0 146 23 ≤ a 146 23 → ((a0 146 23 < a0 146 22 ∧ ¬ a0 164 ((a0 146 23).toNat) = 32) → a 146 23 = a0 146 23) → (a 146 23 = ((SK (UB (a0 164)) (a0 146 22).toNat (a0 146 23).toNat) : Int)) → (∀ k : Nat, (k : Int) < a 146 25 → LT (UB (a0 164)) (a0 146 22).toNat ((SK (UB (a0 164)) (a0 146 22).toNat (a0 146 23).toNat) + k)) → (¬ LT (UB (a0 164)) (a0 146 22).toNat ((SK (UB (a0 164)) (a0 146 22).toNat (a0 146 23).toNat) + (a 146 25).toNat)) → (∀ v : Nat, (v : Int) < y1 → v < 16 → ¬ TW (UB (a0 164)) (a0 146 22).toNat (SK (UB (a0 164)) (a0 146 22).toNat (a0 146 23).toNat) v) → jt (jxX E d 216 79 [some (.inr (.inr (.inl 146))), some (.inl y1), none, none, none] [] (jxSH, a, b0)) (jQ_X12_wordHere a0 b0) := by
    intro y1 a hm hv hf hi0 hi1 hi2 hi3 hi4 hn hl hnl hno
    refine jt_eq (bq_X12_wordHere_79 E d y1 a b0) ?_
    have h224_ := iv_get hv (k := 146) (j := 23) (l := 0) (u := 200) rfl
    have h225_ := iv_get hv (k := 146) (j := 25) (l := 0) (u := 200) rfl
    have h226_ := iv_get hv (k := 146) (j := 22) (l := 0) (u := 200) rfl
    have h227_ : a 146 22 = a0 146 22 := hf 146 22 rfl
    have h228_ := iv_get hv0 (k := 146) (j := 22) (l := 0) (u := 200) rfl
    have h229_ := iv_get hv0 (k := 146) (j := 23) (l := 0) (u := 200) rfl
    have h230_ := iv_get hv0 (k := 164) (j := (a0 146 23).toNat) (l := (-128)) (u := 127) rfl
    have h4 : a 164 = a0 164 := funext fun j => hf 164 j rfl
    have h22 := hf 146 22 rfl
    refine jt_ite (fun c231_ => ?_) (fun c231_ => ?_)
    ·
      refine jt_ite (fun c232_ => ?_) (fun c232_ => ?_)
      ·
        exact jt_rI ⟨hv, hf, rfl, (show (a 146 23) + (a 146 25) ≤ a 146 22 from by omega), (show a0 146 23 ≤ a 146 23 from by omega), (show 0 - 1 ≤ (-1) from by omega), (show (-1) ≤ 15 from by omega), (show ((-1) = 2 → a 146 25 = 3) from by omega), (show (0 ≤ (-1) → 2 ≤ a 146 25) from by omega), (show ((a0 146 23 < a0 146 22 ∧ ¬ a0 164 ((a0 146 23).toNat) = 32) → a 146 23 = a0 146 23) from by omega), hn, (by first | exact (fun w hw => ⟨fun t => absurd t (hno w (by omega) hw), fun e => absurd e (by omega)⟩) | exact (fun w hw => ⟨fun t => by have e := TW_run (s := (a 146 25).toNat) hw (fun k hk => hl k (by omega)) hnl t; have hb := wdn_bd w hw; omega, fun e => absurd e (by omega)⟩) | (rcases hs with hs | hs <;> first | exact absurd hs.1 (by assumption) | (have ht := TW_mk (w := y1.toNat) (q := (SK (UB (a0 164)) (a0 146 22).toNat (a0 146 23).toNat) + (a 146 25).toNat) (by omega) (by omega) (fun k hk => hs.2.2 k (by omega)) hnl; exact fun w hw => ⟨fun t => by have e := TW_one (by omega) hw ht t; omega, fun e => by rw [show w = y1.toNat from by omega]; exact ht⟩))), (by first | exact (fun h => absurd h (by decide)) | (rcases hs with hs | hs <;> first | exact absurd hs.1 (by assumption) | exact (fun _ => by rw [← hs.2.1]; exact hwn)))⟩
      ·
        exact hc96 y1 0 a (show (((((16 - y1) * 17) + 8) + ((6 - 0) * 1)) + 0).toNat ≤ n from by omega) hv hf (show 0 ≤ y1 from by omega) (show y1 ≤ 15 from by omega) (show 0 ≤ 0 from by omega) (show 0 ≤ 6 from by omega) (show a 146 25 ≤ 6 from by omega) (show (a 146 23) + (a 146 25) ≤ a 146 22 from by omega) (show a0 146 23 ≤ a 146 23 from by omega) (show (y1 = 2 → 0 ≤ 3) from by omega) (show ((a0 146 23 < a0 146 22 ∧ ¬ a0 164 ((a0 146 23).toNat) = 32) → a 146 23 = a0 146 23) from by omega) (by first | exact hn | (have e := hq0_4; exact e)) (by first | exact hl | exact (fun k hk => absurd hk (show ¬ (k : Int) < 0 by omega)) | exact lt_ext hl hl1 (by omega) (show jxw ((a 146 25) + 1) = a 146 25 + 1 by omega)) (by first | exact hnl | (rw [show (SK (UB (a0 164)) (a0 146 22).toNat (a0 146 23).toNat) + (a 146 25).toNat = (jxw ((a 146 23) + (a 146 25))).toNat from by omega, ← h4]; exact LT_no1 (by omega))) hno (by first | omega | (have h1 := wd_in (w := y1.toNat) (k := y2.toNat) (by omega) (by omega); rw [show 6 * y1.toNat + y2.toNat = (jxw ((jxw (6 * y1)) + y2)).toNat from by omega, ← iv_wd hv] at h1; omega))
    ·
      exact jt_rI ⟨hv, hf, rfl, (show (a 146 23) + (a 146 25) ≤ a 146 22 from by omega), (show a0 146 23 ≤ a 146 23 from by omega), (show 0 - 1 ≤ (-1) from by omega), (show (-1) ≤ 15 from by omega), (show ((-1) = 2 → a 146 25 = 3) from by omega), (show (0 ≤ (-1) → 2 ≤ a 146 25) from by omega), (show ((a0 146 23 < a0 146 22 ∧ ¬ a0 164 ((a0 146 23).toNat) = 32) → a 146 23 = a0 146 23) from by omega), hn, (by first | exact (fun w hw => ⟨fun t => absurd t (hno w (by omega) hw), fun e => absurd e (by omega)⟩) | exact (fun w hw => ⟨fun t => by have e := TW_run (s := (a 146 25).toNat) hw (fun k hk => hl k (by omega)) hnl t; have hb := wdn_bd w hw; omega, fun e => absurd e (by omega)⟩) | (rcases hs with hs | hs <;> first | exact absurd hs.1 (by assumption) | (have ht := TW_mk (w := y1.toNat) (q := (SK (UB (a0 164)) (a0 146 22).toNat (a0 146 23).toNat) + (a 146 25).toNat) (by omega) (by omega) (fun k hk => hs.2.2 k (by omega)) hnl; exact fun w hw => ⟨fun t => by have e := TW_one (by omega) hw ht t; omega, fun e => by rw [show w = y1.toNat from by omega]; exact ht⟩))), (by first | exact (fun h => absurd h (by decide)) | (rcases hs with hs | hs <;> first | exact absurd hs.1 (by assumption) | exact (fun _ => by rw [← hs.2.1]; exact hwn)))⟩
  exact ⟨hc176, hc180, hc139, hc122, hc96, hc79⟩
theorem cp_X12_wordHere_77 (E : jxE) (d : Nat) (hd : Nat.ble 2 (d + 1) = true) (a0 b0 : Nat → Nat → Int) (hv0 : iv a0) (hp0 : a0 146 23 ≤ a0 146 22) : ∀ (a : Nat → Nat → Int), iv a → jfr jW_X12_wordHere a0 a → (a 146 23) + (a 146 25) ≤ a 146 22 → a0 146 23 ≤ a 146 23 → ((a0 146 23 < a0 146 22 ∧ ¬ a0 164 ((a0 146 23).toNat) = 32) → a 146 23 = a0 146 23) → (a 146 23 = ((SK (UB (a0 164)) (a0 146 22).toNat (a0 146 23).toNat) : Int)) → (∀ k : Nat, (k : Int) < a 146 25 → LT (UB (a0 164)) (a0 146 22).toNat ((SK (UB (a0 164)) (a0 146 22).toNat (a0 146 23).toNat) + k)) → (¬ LT (UB (a0 164)) (a0 146 22).toNat ((SK (UB (a0 164)) (a0 146 22).toNat (a0 146 23).toNat) + (a 146 25).toNat)) → jt (jxX E d 216 77 [some (.inr (.inr (.inl 146))), none, none, none, none] [] (jxSH, a, b0)) (jQ_X12_wordHere a0 b0) := by
  intro a hv hf hi0 hi1 hi2 hn hl hnl
  refine jt_eq (bq_X12_wordHere_77 E d a b0) ?_
  have h233_ := iv_get hv (k := 146) (j := 23) (l := 0) (u := 200) rfl
  have h234_ := iv_get hv (k := 146) (j := 25) (l := 0) (u := 200) rfl
  have h235_ := iv_get hv (k := 146) (j := 22) (l := 0) (u := 200) rfl
  have h236_ : a 146 22 = a0 146 22 := hf 146 22 rfl
  have h237_ := iv_get hv0 (k := 146) (j := 22) (l := 0) (u := 200) rfl
  have h238_ := iv_get hv0 (k := 146) (j := 23) (l := 0) (u := 200) rfl
  have h239_ := iv_get hv0 (k := 164) (j := (a0 146 23).toNat) (l := (-128)) (u := 127) rfl
  have h4 : a 164 = a0 164 := funext fun j => hf 164 j rfl
  have h22 := hf 146 22 rfl
  exact (cp_X12_wordHere_79 E d hd a0 b0 hv0 hp0 _).2.2.2.2.2 0 a (Nat.le_refl _) hv hf (show 0 ≤ 0 from by omega) (show 0 ≤ 16 from by omega) (show (a 146 23) + (a 146 25) ≤ a 146 22 from by omega) (show a0 146 23 ≤ a 146 23 from by omega) (show ((a0 146 23 < a0 146 22 ∧ ¬ a0 164 ((a0 146 23).toNat) = 32) → a 146 23 = a0 146 23) from by omega) (by first | exact hn | (have e := hq0_4; exact e)) (by first | exact hl | exact (fun k hk => absurd hk (show ¬ (k : Int) < 0 by omega)) | exact lt_ext hl hl1 (by omega) (show jxw ((a 146 25) + 1) = a 146 25 + 1 by omega)) (by first | exact hnl | (rw [show (SK (UB (a0 164)) (a0 146 22).toNat (a0 146 23).toNat) + (a 146 25).toNat = (jxw ((a 146 23) + (a 146 25))).toNat from by omega, ← h4]; exact LT_no1 (by omega))) (by first | exact (fun v h => absurd h (by omega)) | exact no_ext hno hno1 (by omega) (show jxw (y1 + 1) = y1 + 1 by omega) | (rcases hs with hs | hs <;> first | exact no_ext hno hs.2 (by omega) (show jxw (y1 + 1) = y1 + 1 by omega) | exact absurd hs.1 (by omega)))
theorem cp_X12_wordHere_10 (E : jxE) (d : Nat) (hd : Nat.ble 2 (d + 1) = true) (a0 b0 : Nat → Nat → Int) (hv0 : iv a0) (hp0 : a0 146 23 ≤ a0 146 22) : ∀ n : Nat, (∀ (a : Nat → Nat → Int), (((((a 146 22) - (a 146 23)) - (a 146 25)) * 2) + 1).toNat ≤ n → iv a → jfr jW_X12_wordHere a0 a → 1 ≤ a 146 22 → 1 ≤ a 146 25 → (a 146 23) + (a 146 25) ≤ a 146 22 → a0 146 23 ≤ a 146 23 → ((a0 146 23 < a0 146 22 ∧ ¬ a0 164 ((a0 146 23).toNat) = 32) → a 146 23 = a0 146 23) → (a 146 23 = ((SK (UB (a0 164)) (a0 146 22).toNat (a0 146 23).toNat) : Int)) → (∀ k : Nat, (k : Int) < a 146 25 → LT (UB (a0 164)) (a0 146 22).toNat ((SK (UB (a0 164)) (a0 146 22).toNat (a0 146 23).toNat) + k)) → jt (jxX E d 216 74 [some (.inr (.inr (.inl 146))), none, none, none, none] [] (jxSH, a, b0)) (jQ_X12_wordHere a0 b0)) ∧ (∀ (a : Nat → Nat → Int), (((((a 146 22) - (a 146 23)) - (a 146 25)) * 2) + 0).toNat ≤ n → iv a → jfr jW_X12_wordHere a0 a → 1 ≤ a 146 22 → (a 146 23) + (a 146 25) ≤ a 146 22 → a0 146 23 ≤ a 146 23 → (a 146 23) + (a 146 25) < a 146 22 → ((a0 146 23 < a0 146 22 ∧ ¬ a0 164 ((a0 146 23).toNat) = 32) → a 146 23 = a0 146 23) → (a 146 23 = ((SK (UB (a0 164)) (a0 146 22).toNat (a0 146 23).toNat) : Int)) → (∀ k : Nat, (k : Int) < a 146 25 → LT (UB (a0 164)) (a0 146 22).toNat ((SK (UB (a0 164)) (a0 146 22).toNat (a0 146 23).toNat) + k)) → (97 ≤ a 164 (jxw ((a 146 23) + (a 146 25))).toNat) → (a 146 23) + (a 146 25) < a 146 22 → jt (jxX E d 216 45 [some (.inr (.inr (.inl 146))), none, none, none, none] [] (jxSH, a, b0)) (jQ_X12_wordHere a0 b0)) ∧ (∀ (a : Nat → Nat → Int), (((((a 146 22) - (a 146 23)) - (a 146 25)) * 2) + 0).toNat ≤ n → iv a → jfr jW_X12_wordHere a0 a → (a 146 23) + (a 146 25) ≤ a 146 22 → a0 146 23 ≤ a 146 23 → ((a0 146 23 < a0 146 22 ∧ ¬ a0 164 ((a0 146 23).toNat) = 32) → a 146 23 = a0 146 23) → (a 146 23 = ((SK (UB (a0 164)) (a0 146 22).toNat (a0 146 23).toNat) : Int)) → (∀ k : Nat, (k : Int) < a 146 25 → LT (UB (a0 164)) (a0 146 22).toNat ((SK (UB (a0 164)) (a0 146 22).toNat (a0 146 23).toNat) + k)) → jt (jxX E d 216 10 [some (.inr (.inr (.inl 146))), none, none, none, none] [] (jxSH, a, b0)) (jQ_X12_wordHere a0 b0)) := by
  refine jx_ind fun n ih => ?_
  have ih74 : ∀ (a : Nat → Nat → Int), (((((a 146 22) - (a 146 23)) - (a 146 25)) * 2) + 1).toNat < n → iv a → jfr jW_X12_wordHere a0 a → 1 ≤ a 146 22 → 1 ≤ a 146 25 → (a 146 23) + (a 146 25) ≤ a 146 22 → a0 146 23 ≤ a 146 23 → ((a0 146 23 < a0 146 22 ∧ ¬ a0 164 ((a0 146 23).toNat) = 32) → a 146 23 = a0 146 23) → (a 146 23 = ((SK (UB (a0 164)) (a0 146 22).toNat (a0 146 23).toNat) : Int)) → (∀ k : Nat, (k : Int) < a 146 25 → LT (UB (a0 164)) (a0 146 22).toNat ((SK (UB (a0 164)) (a0 146 22).toNat (a0 146 23).toNat) + k)) → jt (jxX E d 216 74 [some (.inr (.inr (.inl 146))), none, none, none, none] [] (jxSH, a, b0)) (jQ_X12_wordHere a0 b0) := fun a hlt i0 i1 i2 i3 i4 i5 i6 i7 i8 => (ih _ hlt).1 a (Nat.le_refl _) i0 i1 i2 i3 i4 i5 i6 i7 i8
  have ih45 : ∀ (a : Nat → Nat → Int), (((((a 146 22) - (a 146 23)) - (a 146 25)) * 2) + 0).toNat < n → iv a → jfr jW_X12_wordHere a0 a → 1 ≤ a 146 22 → (a 146 23) + (a 146 25) ≤ a 146 22 → a0 146 23 ≤ a 146 23 → (a 146 23) + (a 146 25) < a 146 22 → ((a0 146 23 < a0 146 22 ∧ ¬ a0 164 ((a0 146 23).toNat) = 32) → a 146 23 = a0 146 23) → (a 146 23 = ((SK (UB (a0 164)) (a0 146 22).toNat (a0 146 23).toNat) : Int)) → (∀ k : Nat, (k : Int) < a 146 25 → LT (UB (a0 164)) (a0 146 22).toNat ((SK (UB (a0 164)) (a0 146 22).toNat (a0 146 23).toNat) + k)) → (97 ≤ a 164 (jxw ((a 146 23) + (a 146 25))).toNat) → (a 146 23) + (a 146 25) < a 146 22 → jt (jxX E d 216 45 [some (.inr (.inr (.inl 146))), none, none, none, none] [] (jxSH, a, b0)) (jQ_X12_wordHere a0 b0) := fun a hlt i0 i1 i2 i3 i4 i5 i6 i7 i8 i9 i10 => (ih _ hlt).2.1 a (Nat.le_refl _) i0 i1 i2 i3 i4 i5 i6 i7 i8 i9 i10
  have ih10 : ∀ (a : Nat → Nat → Int), (((((a 146 22) - (a 146 23)) - (a 146 25)) * 2) + 0).toNat < n → iv a → jfr jW_X12_wordHere a0 a → (a 146 23) + (a 146 25) ≤ a 146 22 → a0 146 23 ≤ a 146 23 → ((a0 146 23 < a0 146 22 ∧ ¬ a0 164 ((a0 146 23).toNat) = 32) → a 146 23 = a0 146 23) → (a 146 23 = ((SK (UB (a0 164)) (a0 146 22).toNat (a0 146 23).toNat) : Int)) → (∀ k : Nat, (k : Int) < a 146 25 → LT (UB (a0 164)) (a0 146 22).toNat ((SK (UB (a0 164)) (a0 146 22).toNat (a0 146 23).toNat) + k)) → jt (jxX E d 216 10 [some (.inr (.inr (.inl 146))), none, none, none, none] [] (jxSH, a, b0)) (jQ_X12_wordHere a0 b0) := fun a hlt i0 i1 i2 i3 i4 i5 i6 => (ih _ hlt).2.2 a (Nat.le_refl _) i0 i1 i2 i3 i4 i5 i6
  have hc74 : ∀ (a : Nat → Nat → Int), (((((a 146 22) - (a 146 23)) - (a 146 25)) * 2) + 1).toNat ≤ n → iv a → jfr jW_X12_wordHere a0 a → 1 ≤ a 146 22 → 1 ≤ a 146 25 → (a 146 23) + (a 146 25) ≤ a 146 22 → a0 146 23 ≤ a 146 23 → ((a0 146 23 < a0 146 22 ∧ ¬ a0 164 ((a0 146 23).toNat) = 32) → a 146 23 = a0 146 23) → (a 146 23 = ((SK (UB (a0 164)) (a0 146 22).toNat (a0 146 23).toNat) : Int)) → (∀ k : Nat, (k : Int) < a 146 25 → LT (UB (a0 164)) (a0 146 22).toNat ((SK (UB (a0 164)) (a0 146 22).toNat (a0 146 23).toNat) + k)) → jt (jxX E d 216 74 [some (.inr (.inr (.inl 146))), none, none, none, none] [] (jxSH, a, b0)) (jQ_X12_wordHere a0 b0) := by
    intro a hm hv hf hi0 hi1 hi2 hi3 hi4 hn hl
    refine jt_eq (bq_X12_wordHere_74 E d a b0) ?_
    have h240_ := iv_get hv (k := 146) (j := 22) (l := 0) (u := 200) rfl
    have h241_ : a 146 22 = a0 146 22 := hf 146 22 rfl
    have h242_ := iv_get hv0 (k := 146) (j := 22) (l := 0) (u := 200) rfl
    have h243_ := iv_get hv (k := 146) (j := 25) (l := 0) (u := 200) rfl
    have h244_ := iv_get hv (k := 146) (j := 23) (l := 0) (u := 200) rfl
    have h245_ := iv_get hv0 (k := 146) (j := 23) (l := 0) (u := 200) rfl
    have h246_ := iv_get hv0 (k := 164) (j := (a0 146 23).toNat) (l := (-128)) (u := 127) rfl
    have h4 : a 164 = a0 164 := funext fun j => hf 164 j rfl
    have h22 := hf 146 22 rfl
    exact ih10 a (show (((((a 146 22) - (a 146 23)) - (a 146 25)) * 2) + 0).toNat < n from by omega) hv hf (show (a 146 23) + (a 146 25) ≤ a 146 22 from by omega) (show a0 146 23 ≤ a 146 23 from by omega) (show ((a0 146 23 < a0 146 22 ∧ ¬ a0 164 ((a0 146 23).toNat) = 32) → a 146 23 = a0 146 23) from by omega) (by first | exact hn | (have e := hq0_4; exact e)) (by first | exact hl | exact (fun k hk => absurd hk (show ¬ (k : Int) < 0 by omega)) | exact lt_ext hl hl1 (by omega) (show jxw ((a 146 25) + 1) = a 146 25 + 1 by omega))
  have hc45 : ∀ (a : Nat → Nat → Int), (((((a 146 22) - (a 146 23)) - (a 146 25)) * 2) + 0).toNat ≤ n → iv a → jfr jW_X12_wordHere a0 a → 1 ≤ a 146 22 → (a 146 23) + (a 146 25) ≤ a 146 22 → a0 146 23 ≤ a 146 23 → (a 146 23) + (a 146 25) < a 146 22 → ((a0 146 23 < a0 146 22 ∧ ¬ a0 164 ((a0 146 23).toNat) = 32) → a 146 23 = a0 146 23) → (a 146 23 = ((SK (UB (a0 164)) (a0 146 22).toNat (a0 146 23).toNat) : Int)) → (∀ k : Nat, (k : Int) < a 146 25 → LT (UB (a0 164)) (a0 146 22).toNat ((SK (UB (a0 164)) (a0 146 22).toNat (a0 146 23).toNat) + k)) → (97 ≤ a 164 (jxw ((a 146 23) + (a 146 25))).toNat) → (a 146 23) + (a 146 25) < a 146 22 → jt (jxX E d 216 45 [some (.inr (.inr (.inl 146))), none, none, none, none] [] (jxSH, a, b0)) (jQ_X12_wordHere a0 b0) := by
    intro a hm hv hf hi0 hi1 hi2 hi3 hi4 hn hl h97 hi8
    refine jt_eq (bq_X12_wordHere_45 E d a b0) ?_
    have h247_ := iv_get hv (k := 146) (j := 22) (l := 0) (u := 200) rfl
    have h248_ : a 146 22 = a0 146 22 := hf 146 22 rfl
    have h249_ := iv_get hv0 (k := 146) (j := 22) (l := 0) (u := 200) rfl
    have h250_ := iv_get hv (k := 146) (j := 23) (l := 0) (u := 200) rfl
    have h251_ := iv_get hv (k := 146) (j := 25) (l := 0) (u := 200) rfl
    have h252_ := iv_get hv0 (k := 146) (j := 23) (l := 0) (u := 200) rfl
    have h253_ := iv_get hv0 (k := 164) (j := (a0 146 23).toNat) (l := (-128)) (u := 127) rfl
    have h4 : a 164 = a0 164 := funext fun j => hf 164 j rfl
    have h22 := hf 146 22 rfl
    have hub := UB_sp (g := a 164) (j := (jxw ((a 146 23) + (a 146 25))).toNat) (iv_get hv (k := 164) (j := (jxw ((a 146 23) + (a 146 25))).toNat) (l := -128) (u := 127) rfl).1 (iv_get hv (k := 164) (j := (jxw ((a 146 23) + (a 146 25))).toNat) (l := -128) (u := 127) rfl).2
    have h254_ : jxw ((a 146 23) + (a 146 25)) = (a 146 23) + (a 146 25) := jxw_id (by omega) (by omega)
    refine jt_grd (by omega) ?_
    have h255_ := iv_get hv (k := 164) (j := (jxw ((a 146 23) + (a 146 25))).toNat) (l := (-128)) (u := 127) rfl
    have h256_ : a 164 ((jxw ((a 146 23) + (a 146 25))).toNat) = a0 164 ((jxw ((a 146 23) + (a 146 25))).toNat) := hf 164 ((jxw ((a 146 23) + (a 146 25))).toNat) rfl
    have h257_ := iv_get hv0 (k := 164) (j := (jxw ((a 146 23) + (a 146 25))).toNat) (l := (-128)) (u := 127) rfl
    refine jt_ite (fun c258_ => ?_) (fun c258_ => ?_)
    ·
      exact cp_X12_wordHere_77 E d hd a0 b0 hv0 hp0 a hv hf (show (a 146 23) + (a 146 25) ≤ a 146 22 from by omega) (show a0 146 23 ≤ a 146 23 from by omega) (show ((a0 146 23 < a0 146 22 ∧ ¬ a0 164 ((a0 146 23).toNat) = 32) → a 146 23 = a0 146 23) from by omega) (by first | exact hn | (have e := hq0_4; exact e)) (by first | exact hl | exact (fun k hk => absurd hk (show ¬ (k : Int) < 0 by omega)) | exact lt_ext hl hl1 (by omega) (show jxw ((a 146 25) + 1) = a 146 25 + 1 by omega)) (by first | exact hnl | (rw [show (SK (UB (a0 164)) (a0 146 22).toNat (a0 146 23).toNat) + (a 146 25).toNat = (jxw ((a 146 23) + (a 146 25))).toNat from by omega, ← h4]; exact LT_no1 (by omega)))
    ·
      have h260_ : jxw ((a 146 25) + 1) = (a 146 25) + 1 := jxw_id (by omega) (by omega)
      have hv259_ : iv (jxu a 146 25 (jxw ((a 146 25) + 1))) := iv_put hv (l := 0) (u := 200) rfl (by omega) (by omega)
      have hf261_ : jfr jW_X12_wordHere a0 (jxu a 146 25 (jxw ((a 146 25) + 1))) := jfr_put hf rfl
      exact hc74 (jxu a 146 25 (jxw ((a 146 25) + 1))) (show (((((a 146 22) - (a 146 23)) - (jxw ((a 146 25) + 1))) * 2) + 1).toNat ≤ n from by omega) hv259_ hf261_ (show 1 ≤ a 146 22 from by omega) (show 1 ≤ jxw ((a 146 25) + 1) from by omega) (show (a 146 23) + (jxw ((a 146 25) + 1)) ≤ a 146 22 from by omega) (show a0 146 23 ≤ a 146 23 from by omega) (show ((a0 146 23 < a0 146 22 ∧ ¬ a0 164 ((a0 146 23).toNat) = 32) → a 146 23 = a0 146 23) from by omega) (by first | exact hn | (have e := hq0_4; exact e)) (lt_ext hl (by rw [show (SK (UB (a0 164)) (a0 146 22).toNat (a0 146 23).toNat) + (a 146 25).toNat = (jxw ((a 146 23) + (a 146 25))).toNat from by omega, ← h4]; exact ⟨by omega, by omega, by omega⟩) (by omega) (show jxw ((a 146 25) + 1) = a 146 25 + 1 by omega))
  have hc10 : ∀ (a : Nat → Nat → Int), (((((a 146 22) - (a 146 23)) - (a 146 25)) * 2) + 0).toNat ≤ n → iv a → jfr jW_X12_wordHere a0 a → (a 146 23) + (a 146 25) ≤ a 146 22 → a0 146 23 ≤ a 146 23 → ((a0 146 23 < a0 146 22 ∧ ¬ a0 164 ((a0 146 23).toNat) = 32) → a 146 23 = a0 146 23) → (a 146 23 = ((SK (UB (a0 164)) (a0 146 22).toNat (a0 146 23).toNat) : Int)) → (∀ k : Nat, (k : Int) < a 146 25 → LT (UB (a0 164)) (a0 146 22).toNat ((SK (UB (a0 164)) (a0 146 22).toNat (a0 146 23).toNat) + k)) → jt (jxX E d 216 10 [some (.inr (.inr (.inl 146))), none, none, none, none] [] (jxSH, a, b0)) (jQ_X12_wordHere a0 b0) := by
    intro a hm hv hf hi0 hi1 hi2 hn hl
    refine jt_eq (bq_X12_wordHere_10 E d a b0) ?_
    have h262_ := iv_get hv (k := 146) (j := 23) (l := 0) (u := 200) rfl
    have h263_ := iv_get hv (k := 146) (j := 25) (l := 0) (u := 200) rfl
    have h264_ := iv_get hv (k := 146) (j := 22) (l := 0) (u := 200) rfl
    have h265_ : a 146 22 = a0 146 22 := hf 146 22 rfl
    have h266_ := iv_get hv0 (k := 146) (j := 22) (l := 0) (u := 200) rfl
    have h267_ := iv_get hv0 (k := 146) (j := 23) (l := 0) (u := 200) rfl
    have h268_ := iv_get hv0 (k := 164) (j := (a0 146 23).toNat) (l := (-128)) (u := 127) rfl
    have h4 : a 164 = a0 164 := funext fun j => hf 164 j rfl
    have h22 := hf 146 22 rfl
    have hub := UB_sp (g := a 164) (j := (jxw ((a 146 23) + (a 146 25))).toNat) (iv_get hv (k := 164) (j := (jxw ((a 146 23) + (a 146 25))).toNat) (l := -128) (u := 127) rfl).1 (iv_get hv (k := 164) (j := (jxw ((a 146 23) + (a 146 25))).toNat) (l := -128) (u := 127) rfl).2
    have h269_ : jxw ((a 146 23) + (a 146 25)) = (a 146 23) + (a 146 25) := jxw_id (by omega) (by omega)
    refine jt_ite (fun c270_ => ?_) (fun c270_ => ?_)
    ·
      refine jt_grd (by omega) ?_
      have h271_ := iv_get hv (k := 164) (j := (jxw ((a 146 23) + (a 146 25))).toNat) (l := (-128)) (u := 127) rfl
      have h272_ : a 164 ((jxw ((a 146 23) + (a 146 25))).toNat) = a0 164 ((jxw ((a 146 23) + (a 146 25))).toNat) := hf 164 ((jxw ((a 146 23) + (a 146 25))).toNat) rfl
      have h273_ := iv_get hv0 (k := 164) (j := (jxw ((a 146 23) + (a 146 25))).toNat) (l := (-128)) (u := 127) rfl
      refine jt_ite (fun c274_ => ?_) (fun c274_ => ?_)
      ·
        exact cp_X12_wordHere_77 E d hd a0 b0 hv0 hp0 a hv hf (show (a 146 23) + (a 146 25) ≤ a 146 22 from by omega) (show a0 146 23 ≤ a 146 23 from by omega) (show ((a0 146 23 < a0 146 22 ∧ ¬ a0 164 ((a0 146 23).toNat) = 32) → a 146 23 = a0 146 23) from by omega) (by first | exact hn | (have e := hq0_4; exact e)) (by first | exact hl | exact (fun k hk => absurd hk (show ¬ (k : Int) < 0 by omega)) | exact lt_ext hl hl1 (by omega) (show jxw ((a 146 25) + 1) = a 146 25 + 1 by omega)) (by first | exact hnl | (rw [show (SK (UB (a0 164)) (a0 146 22).toNat (a0 146 23).toNat) + (a 146 25).toNat = (jxw ((a 146 23) + (a 146 25))).toNat from by omega, ← h4]; exact LT_no1 (by omega)))
      ·
        exact hc45 a (show (((((a 146 22) - (a 146 23)) - (a 146 25)) * 2) + 0).toNat ≤ n from by omega) hv hf (show 1 ≤ a 146 22 from by omega) (show (a 146 23) + (a 146 25) ≤ a 146 22 from by omega) (show a0 146 23 ≤ a 146 23 from by omega) (show (a 146 23) + (a 146 25) < a 146 22 from by omega) (show ((a0 146 23 < a0 146 22 ∧ ¬ a0 164 ((a0 146 23).toNat) = 32) → a 146 23 = a0 146 23) from by omega) (by first | exact hn | (have e := hq0_4; exact e)) (by first | exact hl | exact (fun k hk => absurd hk (show ¬ (k : Int) < 0 by omega)) | exact lt_ext hl hl1 (by omega) (show jxw ((a 146 25) + 1) = a 146 25 + 1 by omega)) (by omega) (show (a 146 23) + (a 146 25) < a 146 22 from by omega)
    ·
      exact cp_X12_wordHere_77 E d hd a0 b0 hv0 hp0 a hv hf (show (a 146 23) + (a 146 25) ≤ a 146 22 from by omega) (show a0 146 23 ≤ a 146 23 from by omega) (show ((a0 146 23 < a0 146 22 ∧ ¬ a0 164 ((a0 146 23).toNat) = 32) → a 146 23 = a0 146 23) from by omega) (by first | exact hn | (have e := hq0_4; exact e)) (by first | exact hl | exact (fun k hk => absurd hk (show ¬ (k : Int) < 0 by omega)) | exact lt_ext hl hl1 (by omega) (show jxw ((a 146 25) + 1) = a 146 25 + 1 by omega)) (by first | exact hnl | (rw [show (SK (UB (a0 164)) (a0 146 22).toNat (a0 146 23).toNat) + (a 146 25).toNat = (jxw ((a 146 23) + (a 146 25))).toNat from by omega, ← h4]; exact LT_no1 (by omega)))
  exact ⟨hc74, hc45, hc10⟩
theorem sp_X12_wordHere (E : jxE) (d : Nat) (hd : Nat.ble 2 d = true) (a0 b0 : Nat → Nat → Int) (hv0 : iv a0) (hp0 : a0 146 23 ≤ a0 146 22) : jt (jxC E d 216 [.inr (.inr (.inl 146))] (jxSH, a0, b0)) (jQ_X12_wordHere a0 b0) := by
  obtain ⟨d, rfl⟩ := jd_succ hd
  refine jt_eq (bq_X12_wordHere E d a0 b0) ?_
  have h275_ := iv_get hv0 (k := 146) (j := 23) (l := 0) (u := 200) rfl
  have h276_ := iv_get hv0 (k := 146) (j := 22) (l := 0) (u := 200) rfl
  refine jt_bI (sp_X12_see E d (jd_le hd rfl) a0 b0 hv0 (show a0 146 23 ≤ a0 146 22 from by omega)) (fun r277_ a277_ b277_ h277_ => ?_)
  obtain ⟨hv277_, hf277_, rfl, hq277_0, hq277_1, hq277_2, hq277_3, hq277_4, hq277_5⟩ := h277_
  have h278_ := iv_get hv277_ (k := 146) (j := 23) (l := 0) (u := 200) rfl
  have h279_ := iv_get hv277_ (k := 164) (j := (a277_ 146 23).toNat) (l := (-128)) (u := 127) rfl
  have h280_ : a277_ 164 ((a277_ 146 23).toNat) = a0 164 ((a277_ 146 23).toNat) := hf277_ 164 ((a277_ 146 23).toNat) rfl
  have h281_ := iv_get hv0 (k := 164) (j := (a277_ 146 23).toNat) (l := (-128)) (u := 127) rfl
  have h282_ := iv_get hv0 (k := 164) (j := (a0 146 23).toNat) (l := (-128)) (u := 127) rfl
  have hv283_ : iv (jxu a277_ 146 25 0) := iv_put hv277_ (l := 0) (u := 200) rfl (by omega) (by omega)
  have hf284_ : jfr jW_X12_wordHere a0 a277_ := jfr_tr (jfr_rf _ _) hf277_ rfl
  have hf285_ : jfr jW_X12_wordHere a0 (jxu a277_ 146 25 0) := jfr_put hf284_ rfl
  have h286_ := iv_get hv277_ (k := 146) (j := 22) (l := 0) (u := 200) rfl
  have h287_ : a277_ 146 22 = a0 146 22 := hf277_ 146 22 rfl
  exact (cp_X12_wordHere_10 E d hd a0 b0 hv0 hp0 _).2.2 (jxu a277_ 146 25 0) (Nat.le_refl _) hv283_ hf285_ (show (a277_ 146 23) + 0 ≤ a277_ 146 22 from by omega) (show a0 146 23 ≤ a277_ 146 23 from by omega) (show ((a0 146 23 < a0 146 22 ∧ ¬ a0 164 ((a0 146 23).toNat) = 32) → a277_ 146 23 = a0 146 23) from by omega) (by first | exact hn | (have e := hq277_4; exact e)) (by first | exact hl | exact (fun k hk => absurd hk (show ¬ (k : Int) < 0 by omega)) | exact lt_ext hl hl1 (by omega) (show jxw ((a 146 25) + 1) = a 146 25 + 1 by omega))
def jW_X12_writes : List (Nat × Nat) := [(146, 32), (168, 9999)]
abbrev jQ_X12_writes (x1 : Int) (a0 b0 : Nat → Nat → Int) : List jxV → (Nat → Nat → Int) → (Nat → Nat → Int) → Prop := rV (fun a b => (iv a) ∧ (jfr jW_X12_writes a0 a) ∧ (b0 = b) ∧ (a 146 32 = (a0 146 32) + 1) ∧ (a 168 (a0 146 32).toNat = x1) ∧ (∀ k, ¬ k = (a0 146 32).toNat → a 168 k = a0 168 k))
theorem sp_X12_writes (E : jxE) (d : Nat) (hd : Nat.ble 1 d = true) (x1 : Int) (a0 b0 : Nat → Nat → Int) (hv0 : iv a0) (hp0 : a0 146 32 < 64) : jt (jxC E d 218 [.inr (.inr (.inl 146)), .inl x1] (jxSH, a0, b0)) (jQ_X12_writes x1 a0 b0) := by
  obtain ⟨d, rfl⟩ := jd_succ hd
  refine jt_eq (bq_X12_writes E d x1 a0 b0) ?_
  have h288_ := iv_get hv0 (k := 146) (j := 32) (l := 0) (u := 64) rfl
  refine jt_grd (by omega) ?_
  have hv289_ : iv (jxu a0 168 ((a0 146 32).toNat) x1) := iv_putf hv0 rfl
  have h291_ : jxw ((a0 146 32) + 1) = (a0 146 32) + 1 := jxw_id (by omega) (by omega)
  have hv290_ : iv (jxu (jxu a0 168 ((a0 146 32).toNat) x1) 146 32 (jxw ((a0 146 32) + 1))) := iv_put hv289_ (l := 0) (u := 64) rfl (by omega) (by omega)
  have hf292_ : jfr jW_X12_writes a0 (jxu a0 168 ((a0 146 32).toNat) x1) := jfr_put (jfr_rf _ _) rfl
  have hf293_ : jfr jW_X12_writes a0 (jxu (jxu a0 168 ((a0 146 32).toNat) x1) 146 32 (jxw ((a0 146 32) + 1))) := jfr_put hf292_ rfl
  exact jt_rV ⟨hv290_, hf293_, rfl, (show jxw ((a0 146 32) + 1) = (a0 146 32) + 1 from by omega), (by simp [jxu]), (by intro k hk; simp [jxu, hk])⟩
def jWat : List (Nat × Nat) := [(146, 23), (146, 24), (146, 26), (146, 27), (146, 33)]
def jW_X12_atom : List (Nat × Nat) := [(146, 23), (146, 24), (146, 26), (146, 27), (146, 32), (146, 33), (168, 9999)]
abbrev jQ_X12_atom (x1 : Int) (a0 b0 : Nat → Nat → Int) : List jxV → (Nat → Nat → Int) → (Nat → Nat → Int) → Prop := rI (fun r a b => (iv a) ∧ (jfr jW_X12_atom a0 a) ∧ (b0 = b) ∧ ((0 ≤ r ∧ r ≤ 1)) ∧ (a0 146 23 ≤ a 146 23) ∧ (a 146 23 ≤ a 146 22) ∧ ((r = 1 → (a0 146 23) + 2 ≤ a 146 23)) ∧ (((r = 0 ∧ a 146 32 = a0 146 32) ∨ (r = 1 ∧ a 146 32 = (a0 146 32) + 1))) ∧ (r = 1 → 1024 ≤ a 168 (a0 146 32).toNat) ∧ (∀ k : Nat, (k : Int) < a0 146 32 → a 168 k = a0 168 k) ∧ (QA a0 a x1 r))
theorem cp_X12_atom_113 (E : jxE) (d : Nat) (hd : Nat.ble 3 (d + 1) = true) (x1 : Int) (a0 b0 : Nat → Nat → Int) (hv0 : iv a0) (hp0 : (a0 146 23) + (a0 146 25) ≤ a0 146 22) (hp1 : (0 ≤ x1 → 2 ≤ a0 146 25)) (hp2 : a0 146 32 < 64) (hp3 : x1 ≤ 15) (hp4 : 0 - 1 ≤ x1) : ∀ (y1 : Int) (a : Nat → Nat → Int), iv a → jfr jW_X12_atom a0 a → 3 ≤ y1 → y1 ≤ 9 → 1 ≤ a 146 33 → a 146 23 ≤ a 146 22 → (a0 146 23) + 2 ≤ a 146 23 → 3 ≤ y1 → y1 ≤ 9 → a 146 32 = a0 146 32 → (jfr jWat a0 a) → y1 = x1 → (QN a0 a x1) → jt (jxX E d 220 113 [some (.inr (.inr (.inl 146))), some (.inl y1)] [] (jxSH, a, b0)) (jQ_X12_atom x1 a0 b0) := by
  intro y1 a hv hf hi0 hi1 hi2 hi3 hi4 hi5 hi6 hi7 hfat hi9 hqn
  refine jt_eq (bq_X12_atom_113 E d y1 a b0) ?_
  have h294_ := iv_get hv (k := 146) (j := 33) (l := 0) (u := 12) rfl
  have h295_ := iv_get hv (k := 146) (j := 23) (l := 0) (u := 200) rfl
  have h296_ := iv_get hv (k := 146) (j := 22) (l := 0) (u := 200) rfl
  have h297_ : a 146 22 = a0 146 22 := hf 146 22 rfl
  have h298_ := iv_get hv0 (k := 146) (j := 22) (l := 0) (u := 200) rfl
  have h299_ := iv_get hv0 (k := 146) (j := 23) (l := 0) (u := 200) rfl
  have h300_ := iv_get hv (k := 146) (j := 32) (l := 0) (u := 64) rfl
  have h301_ := iv_get hv0 (k := 146) (j := 32) (l := 0) (u := 64) rfl
  have h4 : a 164 = a0 164 := funext fun j => hf 164 j rfl
  have h22 := hf 146 22 rfl
  refine jt_bV (sp_X12_writes E d (jd_le hd rfl) (jxw ((jxw (1024 * (jxw (1 + y1)))) + (a 146 26))) a b0 hv (show a 146 32 < 64 from by omega)) (fun a302_ b302_ h302_ => ?_)
  obtain ⟨hv302_, hf302_, rfl, hq302_0, hq302_1, hq302_2⟩ := h302_
  have h303_ := iv_get hv302_ (k := 146) (j := 32) (l := 0) (u := 64) rfl
  have i26_302 := iv_get hv (k := 146) (j := 26) (l := 0) (u := 999) rfl
  have hA302 : jxw ((jxw (1024 * (jxw (1 + y1)))) + (a 146 26)) = 1024 * (1 + y1) + a 146 26 := by
    have := iv_get hv (k := 146) (j := 26) (l := 0) (u := 999) rfl
    rw [jxw_id (x := 1 + y1) (by omega) (by omega), jxw_id (x := 1024 * (1 + y1)) (by omega) (by omega), jxw_id (by omega) (by omega)]
  have hf304_ : jfr jW_X12_atom a0 a302_ := jfr_tr hf hf302_ rfl
  have h305_ := iv_get hv302_ (k := 146) (j := 23) (l := 0) (u := 200) rfl
  have h306_ : a302_ 146 23 = a 146 23 := hf302_ 146 23 rfl
  have h307_ := iv_get hv302_ (k := 146) (j := 22) (l := 0) (u := 200) rfl
  have h308_ : a302_ 146 22 = a 146 22 := hf302_ 146 22 rfl
  exact jt_rI ⟨hv302_, hf304_, rfl, (show (0 ≤ 1 ∧ 1 ≤ 1) from by omega), (show a0 146 23 ≤ a302_ 146 23 from by omega), (show a302_ 146 23 ≤ a302_ 146 22 from by omega), (show (1 = 1 → (a0 146 23) + 2 ≤ a302_ 146 23) from by omega), (show ((1 = 0 ∧ a302_ 146 32 = a0 146 32) ∨ (1 = 1 ∧ a302_ 146 32 = (a0 146 32) + 1)) from by omega), (fun _ => by rw [show (a0 146 32).toNat = (a 146 32).toNat from (by omega), hq302_1, hA302]; omega), (fun k hk => by rw [hq302_2 k (by omega)]; exact hfat 168 k rfl), (QA_end hqn (by omega) (by omega) i26_302.1 i26_302.2 (by omega) (by rw [show (a0 146 32).toNat = (a 146 32).toNat from (by omega), hq302_1, hA302]; omega) (fun k hk => by rw [hq302_2 k (by omega)]; exact hfat 168 k rfl) (by omega) (hf302_ 146 24 rfl) (hf302_ 146 23 rfl) (hf302_ 146 33 rfl) (fun j => (hf302_ 169 j rfl).trans (hfat 169 j rfl)) ((hf302_ 146 35 rfl).trans (hfat 146 35 rfl)) rfl)⟩
theorem cp_X12_atom_105 (E : jxE) (d : Nat) (hd : Nat.ble 3 (d + 1) = true) (x1 : Int) (a0 b0 : Nat → Nat → Int) (hv0 : iv a0) (hp0 : (a0 146 23) + (a0 146 25) ≤ a0 146 22) (hp1 : (0 ≤ x1 → 2 ≤ a0 146 25)) (hp2 : a0 146 32 < 64) (hp3 : x1 ≤ 15) (hp4 : 0 - 1 ≤ x1) : ∀ (y1 s1 s2 : Int) (a : Nat → Nat → Int), iv a → jfr jW_X12_atom a0 a → 3 ≤ y1 → y1 ≤ 8 → 0 ≤ s1 → s1 ≤ 0 → 15 ≤ s2 → s2 ≤ 999 → 1 ≤ a 146 33 → a 146 23 ≤ a 146 22 → (a0 146 23) + 2 ≤ a 146 23 → 3 ≤ y1 → y1 ≤ 9 → a 146 32 = a0 146 32 → (jfr jWat a0 a) → y1 = x1 → a 146 23 = (a0 146 23) + (a0 146 25) → a 146 33 = (a0 146 33) + 1 → a 146 24 = a0 146 24 → ¬ a0 146 33 = 12 → ¬ y1 = 5 → ¬ y1 = 9 → s1 = 0 → (((y1 ≤ 4 ∧ s2 = 15) ∨ ((5 ≤ y1 ∧ y1 ≤ 7) ∧ s2 = 99)) ∨ (8 ≤ y1 ∧ s2 = 999)) → jt (jxX E d 220 105 [some (.inr (.inr (.inl 146))), some (.inl y1)] [.inl s2, .inl s1, .inr (.inr (.inl 146))] (jxSH, a, b0)) (jQ_X12_atom x1 a0 b0) := by
  intro y1 s1 s2 a hv hf hi0 hi1 hi2 hi3 hi4 hi5 hi6 hi7 hi8 hi9 hi10 hi11 hfat hi13 hi14 hi15 hi16 hi17 hi18 hi19 hi20 hi21
  refine jt_eq (bq_X12_atom_105 E d y1 s1 s2 a b0) ?_
  have h309_ := iv_get hv (k := 146) (j := 33) (l := 0) (u := 12) rfl
  have h310_ := iv_get hv (k := 146) (j := 23) (l := 0) (u := 200) rfl
  have h311_ := iv_get hv (k := 146) (j := 22) (l := 0) (u := 200) rfl
  have h312_ : a 146 22 = a0 146 22 := hf 146 22 rfl
  have h313_ := iv_get hv0 (k := 146) (j := 22) (l := 0) (u := 200) rfl
  have h314_ := iv_get hv0 (k := 146) (j := 23) (l := 0) (u := 200) rfl
  have h315_ := iv_get hv (k := 146) (j := 32) (l := 0) (u := 64) rfl
  have h316_ := iv_get hv0 (k := 146) (j := 32) (l := 0) (u := 64) rfl
  have h317_ := iv_get hv0 (k := 146) (j := 25) (l := 0) (u := 200) rfl
  have h318_ := iv_get hv0 (k := 146) (j := 33) (l := 0) (u := 12) rfl
  have h4 : a 164 = a0 164 := funext fun j => hf 164 j rfl
  have h22 := hf 146 22 rfl
  refine jt_bI (sp_X12_number E d (jd_le hd rfl) s1 s2 a b0 hv (show a 146 23 ≤ a 146 22 from by omega)) (fun r319_ a319_ b319_ h319_ => ?_)
  obtain ⟨hv319_, hf319_, rfl, hq319_0, hq319_1, hq319_2, hq319_3, hq319_4, hq319_5⟩ := h319_
  have h320_ := iv_get hv319_ (k := 146) (j := 23) (l := 0) (u := 200) rfl
  have h321_ := iv_get hv319_ (k := 146) (j := 26) (l := 0) (u := 999) rfl
  refine jt_ite (fun c322_ => ?_) (fun c322_ => ?_)
  ·
    have hf323_ : jfr jW_X12_atom a0 a319_ := jfr_tr hf hf319_ rfl
    have h324_ := iv_get hv319_ (k := 146) (j := 22) (l := 0) (u := 200) rfl
    have h325_ : a319_ 146 22 = a 146 22 := hf319_ 146 22 rfl
    have h326_ := iv_get hv319_ (k := 146) (j := 32) (l := 0) (u := 64) rfl
    have h327_ : a319_ 146 32 = a 146 32 := hf319_ 146 32 rfl
    have hf328_ : jfr jWat a0 a319_ := jfr_tr hfat hf319_ rfl
    exact jt_rI ⟨hv319_, hf323_, rfl, (show (0 ≤ 0 ∧ 0 ≤ 1) from by omega), (show a0 146 23 ≤ a319_ 146 23 from by omega), (show a319_ 146 23 ≤ a319_ 146 22 from by omega), (show (0 = 1 → (a0 146 23) + 2 ≤ a319_ 146 23) from by omega), (show ((0 = 0 ∧ a319_ 146 32 = a0 146 32) ∨ (0 = 1 ∧ a319_ 146 32 = (a0 146 32) + 1)) from by omega), (fun h => by omega), (fun k _ => hf328_ 168 k rfl), (by have e : r319_ = 0 := (by omega); have q := (QN_n (hi := s2) (r := r319_) (x := x1) (by omega) (by omega) (by omega) (by omega) (by split <;> first | omega | (split <;> omega)) (by omega) (by omega) (by omega) (by omega) (by omega) h4 h22 (hf319_ 146 33 rfl) (fun h => by have q := hq319_4 h; rw [show s1 = 0 from by omega] at q; exact q) (fun h => by have q := hq319_5 h; rw [show s1 = 0 from by omega] at q; exact q)).2 e; rw [e] at q; exact q)⟩
  ·
    have hf329_ : jfr jW_X12_atom a0 a319_ := jfr_tr hf hf319_ rfl
    have h330_ := iv_get hv319_ (k := 146) (j := 33) (l := 0) (u := 12) rfl
    have h331_ : a319_ 146 33 = a 146 33 := hf319_ 146 33 rfl
    have h332_ := iv_get hv319_ (k := 146) (j := 22) (l := 0) (u := 200) rfl
    have h333_ : a319_ 146 22 = a 146 22 := hf319_ 146 22 rfl
    have h334_ := iv_get hv319_ (k := 146) (j := 32) (l := 0) (u := 64) rfl
    have h335_ : a319_ 146 32 = a 146 32 := hf319_ 146 32 rfl
    have hf336_ : jfr jWat a0 a319_ := jfr_tr hfat hf319_ rfl
    exact cp_X12_atom_113 E d hd x1 a0 b0 hv0 hp0 hp1 hp2 hp3 hp4 y1 a319_ hv319_ hf329_ (show 3 ≤ y1 from by omega) (show y1 ≤ 9 from by omega) (show 1 ≤ a319_ 146 33 from by omega) (show a319_ 146 23 ≤ a319_ 146 22 from by omega) (show (a0 146 23) + 2 ≤ a319_ 146 23 from by omega) (show 3 ≤ y1 from by omega) (show y1 ≤ 9 from by omega) (show a319_ 146 32 = a0 146 32 from by omega) hf336_ (show y1 = x1 from by omega) ((QN_n (hi := s2) (r := r319_) (x := x1) (by omega) (by omega) (by omega) (by omega) (by split <;> first | omega | (split <;> omega)) (by omega) (by omega) (by omega) (by omega) (by omega) h4 h22 (hf319_ 146 33 rfl) (fun h => by have q := hq319_4 h; rw [show s1 = 0 from by omega] at q; exact q) (fun h => by have q := hq319_5 h; rw [show s1 = 0 from by omega] at q; exact q)).1 (by omega))
theorem cp_X12_atom_79 (E : jxE) (d : Nat) (hd : Nat.ble 3 (d + 1) = true) (x1 : Int) (a0 b0 : Nat → Nat → Int) (hv0 : iv a0) (hp0 : (a0 146 23) + (a0 146 25) ≤ a0 146 22) (hp1 : (0 ≤ x1 → 2 ≤ a0 146 25)) (hp2 : a0 146 32 < 64) (hp3 : x1 ≤ 15) (hp4 : 0 - 1 ≤ x1) : ∀ (y1 : Int) (a : Nat → Nat → Int), iv a → jfr jW_X12_atom a0 a → 3 ≤ y1 → y1 ≤ 8 → 1 ≤ a 146 33 → a 146 23 ≤ a 146 22 → (a0 146 23) + 2 ≤ a 146 23 → 3 ≤ y1 → y1 ≤ 9 → a 146 32 = a0 146 32 → (jfr jWat a0 a) → y1 = x1 → a 146 23 = (a0 146 23) + (a0 146 25) → a 146 33 = (a0 146 33) + 1 → a 146 24 = a0 146 24 → ¬ a0 146 33 = 12 → ¬ y1 = 5 → ¬ y1 = 9 → jt (jxX E d 220 79 [some (.inr (.inr (.inl 146))), some (.inl y1)] [] (jxSH, a, b0)) (jQ_X12_atom x1 a0 b0) := by
  intro y1 a hv hf hi0 hi1 hi2 hi3 hi4 hi5 hi6 hi7 hfat hi9 hi10 hi11 hi12 hi13 hi14 hi15
  refine jt_eq (bq_X12_atom_79 E d y1 a b0) ?_
  have h337_ := iv_get hv (k := 146) (j := 33) (l := 0) (u := 12) rfl
  have h338_ := iv_get hv (k := 146) (j := 23) (l := 0) (u := 200) rfl
  have h339_ := iv_get hv (k := 146) (j := 22) (l := 0) (u := 200) rfl
  have h340_ : a 146 22 = a0 146 22 := hf 146 22 rfl
  have h341_ := iv_get hv0 (k := 146) (j := 22) (l := 0) (u := 200) rfl
  have h342_ := iv_get hv0 (k := 146) (j := 23) (l := 0) (u := 200) rfl
  have h343_ := iv_get hv (k := 146) (j := 32) (l := 0) (u := 64) rfl
  have h344_ := iv_get hv0 (k := 146) (j := 32) (l := 0) (u := 64) rfl
  have h345_ := iv_get hv0 (k := 146) (j := 25) (l := 0) (u := 200) rfl
  have h346_ := iv_get hv0 (k := 146) (j := 33) (l := 0) (u := 12) rfl
  refine jt_ite (fun c347_ => ?_) (fun c347_ => ?_)
  ·
    refine jt_ite (fun c348_ => ?_) (fun c348_ => ?_)
    ·
      exact cp_X12_atom_105 E d hd x1 a0 b0 hv0 hp0 hp1 hp2 hp3 hp4 y1 0 999 a hv hf (show 3 ≤ y1 from by omega) (show y1 ≤ 8 from by omega) (show 0 ≤ 0 from by omega) (show 0 ≤ 0 from by omega) (show 15 ≤ 999 from by omega) (show 999 ≤ 999 from by omega) (show 1 ≤ a 146 33 from by omega) (show a 146 23 ≤ a 146 22 from by omega) (show (a0 146 23) + 2 ≤ a 146 23 from by omega) (show 3 ≤ y1 from by omega) (show y1 ≤ 9 from by omega) (show a 146 32 = a0 146 32 from by omega) hfat (show y1 = x1 from by omega) (show a 146 23 = (a0 146 23) + (a0 146 25) from by omega) (show a 146 33 = (a0 146 33) + 1 from by omega) (show a 146 24 = a0 146 24 from by omega) (show ¬ a0 146 33 = 12 from by omega) (show ¬ y1 = 5 from by omega) (show ¬ y1 = 9 from by omega) (show 0 = 0 from by omega) (show (((y1 ≤ 4 ∧ 999 = 15) ∨ ((5 ≤ y1 ∧ y1 ≤ 7) ∧ 999 = 99)) ∨ (8 ≤ y1 ∧ 999 = 999)) from by omega)
    ·
      exact cp_X12_atom_105 E d hd x1 a0 b0 hv0 hp0 hp1 hp2 hp3 hp4 y1 0 99 a hv hf (show 3 ≤ y1 from by omega) (show y1 ≤ 8 from by omega) (show 0 ≤ 0 from by omega) (show 0 ≤ 0 from by omega) (show 15 ≤ 99 from by omega) (show 99 ≤ 999 from by omega) (show 1 ≤ a 146 33 from by omega) (show a 146 23 ≤ a 146 22 from by omega) (show (a0 146 23) + 2 ≤ a 146 23 from by omega) (show 3 ≤ y1 from by omega) (show y1 ≤ 9 from by omega) (show a 146 32 = a0 146 32 from by omega) hfat (show y1 = x1 from by omega) (show a 146 23 = (a0 146 23) + (a0 146 25) from by omega) (show a 146 33 = (a0 146 33) + 1 from by omega) (show a 146 24 = a0 146 24 from by omega) (show ¬ a0 146 33 = 12 from by omega) (show ¬ y1 = 5 from by omega) (show ¬ y1 = 9 from by omega) (show 0 = 0 from by omega) (show (((y1 ≤ 4 ∧ 99 = 15) ∨ ((5 ≤ y1 ∧ y1 ≤ 7) ∧ 99 = 99)) ∨ (8 ≤ y1 ∧ 99 = 999)) from by omega)
  ·
    exact cp_X12_atom_105 E d hd x1 a0 b0 hv0 hp0 hp1 hp2 hp3 hp4 y1 0 15 a hv hf (show 3 ≤ y1 from by omega) (show y1 ≤ 8 from by omega) (show 0 ≤ 0 from by omega) (show 0 ≤ 0 from by omega) (show 15 ≤ 15 from by omega) (show 15 ≤ 999 from by omega) (show 1 ≤ a 146 33 from by omega) (show a 146 23 ≤ a 146 22 from by omega) (show (a0 146 23) + 2 ≤ a 146 23 from by omega) (show 3 ≤ y1 from by omega) (show y1 ≤ 9 from by omega) (show a 146 32 = a0 146 32 from by omega) hfat (show y1 = x1 from by omega) (show a 146 23 = (a0 146 23) + (a0 146 25) from by omega) (show a 146 33 = (a0 146 33) + 1 from by omega) (show a 146 24 = a0 146 24 from by omega) (show ¬ a0 146 33 = 12 from by omega) (show ¬ y1 = 5 from by omega) (show ¬ y1 = 9 from by omega) (show 0 = 0 from by omega) (show (((y1 ≤ 4 ∧ 15 = 15) ∨ ((5 ≤ y1 ∧ y1 ≤ 7) ∧ 15 = 99)) ∨ (8 ≤ y1 ∧ 15 = 999)) from by omega)
theorem cp_X12_atom_53 (E : jxE) (d : Nat) (hd : Nat.ble 3 (d + 1) = true) (x1 : Int) (a0 b0 : Nat → Nat → Int) (hv0 : iv a0) (hp0 : (a0 146 23) + (a0 146 25) ≤ a0 146 22) (hp1 : (0 ≤ x1 → 2 ≤ a0 146 25)) (hp2 : a0 146 32 < 64) (hp3 : x1 ≤ 15) (hp4 : 0 - 1 ≤ x1) : ∀ (y1 : Int) (a : Nat → Nat → Int), iv a → jfr jW_X12_atom a0 a → 3 ≤ y1 → y1 ≤ 9 → a 146 33 ≤ 11 → a 146 23 ≤ a 146 22 → (a0 146 23) + 2 ≤ a 146 23 → 3 ≤ y1 → y1 ≤ 9 → a 146 32 = a0 146 32 → (jfr jWat a0 a) → y1 = x1 → a 146 23 = (a0 146 23) + (a0 146 25) → a 146 33 = a0 146 33 → a 146 24 = a0 146 24 → ¬ a0 146 33 = 12 → jt (jxX E d 220 53 [some (.inr (.inr (.inl 146))), some (.inl y1)] [] (jxSH, a, b0)) (jQ_X12_atom x1 a0 b0) := by
  intro y1 a hv hf hi0 hi1 hi2 hi3 hi4 hi5 hi6 hi7 hfat hi9 hi10 hi11 hi12 hi13
  refine jt_eq (bq_X12_atom_53 E d y1 a b0) ?_
  have h349_ := iv_get hv (k := 146) (j := 33) (l := 0) (u := 12) rfl
  have h350_ := iv_get hv (k := 146) (j := 23) (l := 0) (u := 200) rfl
  have h351_ := iv_get hv (k := 146) (j := 22) (l := 0) (u := 200) rfl
  have h352_ : a 146 22 = a0 146 22 := hf 146 22 rfl
  have h353_ := iv_get hv0 (k := 146) (j := 22) (l := 0) (u := 200) rfl
  have h354_ := iv_get hv0 (k := 146) (j := 23) (l := 0) (u := 200) rfl
  have h355_ := iv_get hv (k := 146) (j := 32) (l := 0) (u := 64) rfl
  have h356_ := iv_get hv0 (k := 146) (j := 32) (l := 0) (u := 64) rfl
  have h357_ := iv_get hv0 (k := 146) (j := 25) (l := 0) (u := 200) rfl
  have h358_ := iv_get hv0 (k := 146) (j := 33) (l := 0) (u := 12) rfl
  refine jt_ite (fun c359_ => ?_) (fun c359_ => ?_)
  ·
    have h361_ : jxw ((a 146 33) + 1) = (a 146 33) + 1 := jxw_id (by omega) (by omega)
    have hv360_ : iv (jxu a 146 33 (jxw ((a 146 33) + 1))) := iv_put hv (l := 0) (u := 12) rfl (by omega) (by omega)
    have hv362_ : iv (jxu (jxu a 146 33 (jxw ((a 146 33) + 1))) 146 26 0) := iv_put hv360_ (l := 0) (u := 999) rfl (by omega) (by omega)
    have hf363_ : jfr jW_X12_atom a0 (jxu a 146 33 (jxw ((a 146 33) + 1))) := jfr_put hf rfl
    have hf364_ : jfr jW_X12_atom a0 (jxu (jxu a 146 33 (jxw ((a 146 33) + 1))) 146 26 0) := jfr_put hf363_ rfl
    have hf365_ : jfr jWat a0 (jxu a 146 33 (jxw ((a 146 33) + 1))) := jfr_put hfat rfl
    have hf366_ : jfr jWat a0 (jxu (jxu a 146 33 (jxw ((a 146 33) + 1))) 146 26 0) := jfr_put hf365_ rfl
    exact cp_X12_atom_113 E d hd x1 a0 b0 hv0 hp0 hp1 hp2 hp3 hp4 y1 (jxu (jxu a 146 33 (jxw ((a 146 33) + 1))) 146 26 0) hv362_ hf364_ (show 3 ≤ y1 from by omega) (show y1 ≤ 9 from by omega) (show 1 ≤ jxw ((a 146 33) + 1) from by omega) (show a 146 23 ≤ a 146 22 from by omega) (show (a0 146 23) + 2 ≤ a 146 23 from by omega) (show 3 ≤ y1 from by omega) (show y1 ≤ 9 from by omega) (show a 146 32 = a0 146 32 from by omega) hf366_ (show y1 = x1 from by omega) (QN_p (by omega) (show a 146 24 = _ by omega) (show a 146 23 = _ by omega) (show jxw ((a 146 33) + 1) = _ by omega) rfl (by omega) (by omega))
  ·
    refine jt_ite (fun c367_ => ?_) (fun c367_ => ?_)
    ·
      have h369_ : jxw ((a 146 33) + 1) = (a 146 33) + 1 := jxw_id (by omega) (by omega)
      have hv368_ : iv (jxu a 146 33 (jxw ((a 146 33) + 1))) := iv_put hv (l := 0) (u := 12) rfl (by omega) (by omega)
      have hv370_ : iv (jxu (jxu a 146 33 (jxw ((a 146 33) + 1))) 146 26 0) := iv_put hv368_ (l := 0) (u := 999) rfl (by omega) (by omega)
      have hf371_ : jfr jW_X12_atom a0 (jxu a 146 33 (jxw ((a 146 33) + 1))) := jfr_put hf rfl
      have hf372_ : jfr jW_X12_atom a0 (jxu (jxu a 146 33 (jxw ((a 146 33) + 1))) 146 26 0) := jfr_put hf371_ rfl
      have hf373_ : jfr jWat a0 (jxu a 146 33 (jxw ((a 146 33) + 1))) := jfr_put hfat rfl
      have hf374_ : jfr jWat a0 (jxu (jxu a 146 33 (jxw ((a 146 33) + 1))) 146 26 0) := jfr_put hf373_ rfl
      exact cp_X12_atom_113 E d hd x1 a0 b0 hv0 hp0 hp1 hp2 hp3 hp4 y1 (jxu (jxu a 146 33 (jxw ((a 146 33) + 1))) 146 26 0) hv370_ hf372_ (show 3 ≤ y1 from by omega) (show y1 ≤ 9 from by omega) (show 1 ≤ jxw ((a 146 33) + 1) from by omega) (show a 146 23 ≤ a 146 22 from by omega) (show (a0 146 23) + 2 ≤ a 146 23 from by omega) (show 3 ≤ y1 from by omega) (show y1 ≤ 9 from by omega) (show a 146 32 = a0 146 32 from by omega) hf374_ (show y1 = x1 from by omega) (QN_p (by omega) (show a 146 24 = _ by omega) (show a 146 23 = _ by omega) (show jxw ((a 146 33) + 1) = _ by omega) rfl (by omega) (by omega))
    ·
      have h376_ : jxw ((a 146 33) + 1) = (a 146 33) + 1 := jxw_id (by omega) (by omega)
      have hv375_ : iv (jxu a 146 33 (jxw ((a 146 33) + 1))) := iv_put hv (l := 0) (u := 12) rfl (by omega) (by omega)
      have hv377_ : iv (jxu (jxu a 146 33 (jxw ((a 146 33) + 1))) 146 26 0) := iv_put hv375_ (l := 0) (u := 999) rfl (by omega) (by omega)
      have hf378_ : jfr jW_X12_atom a0 (jxu a 146 33 (jxw ((a 146 33) + 1))) := jfr_put hf rfl
      have hf379_ : jfr jW_X12_atom a0 (jxu (jxu a 146 33 (jxw ((a 146 33) + 1))) 146 26 0) := jfr_put hf378_ rfl
      have hf380_ : jfr jWat a0 (jxu a 146 33 (jxw ((a 146 33) + 1))) := jfr_put hfat rfl
      have hf381_ : jfr jWat a0 (jxu (jxu a 146 33 (jxw ((a 146 33) + 1))) 146 26 0) := jfr_put hf380_ rfl
      exact cp_X12_atom_79 E d hd x1 a0 b0 hv0 hp0 hp1 hp2 hp3 hp4 y1 (jxu (jxu a 146 33 (jxw ((a 146 33) + 1))) 146 26 0) hv377_ hf379_ (show 3 ≤ y1 from by omega) (show y1 ≤ 8 from by omega) (show 1 ≤ jxw ((a 146 33) + 1) from by omega) (show a 146 23 ≤ a 146 22 from by omega) (show (a0 146 23) + 2 ≤ a 146 23 from by omega) (show 3 ≤ y1 from by omega) (show y1 ≤ 9 from by omega) (show a 146 32 = a0 146 32 from by omega) hf381_ (show y1 = x1 from by omega) (show a 146 23 = (a0 146 23) + (a0 146 25) from by omega) (show jxw ((a 146 33) + 1) = (a0 146 33) + 1 from by omega) (show a 146 24 = a0 146 24 from by omega) (show ¬ a0 146 33 = 12 from by omega) (show ¬ y1 = 5 from by omega) (show ¬ y1 = 9 from by omega)
theorem sp_X12_atom (E : jxE) (d : Nat) (hd : Nat.ble 3 d = true) (x1 : Int) (a0 b0 : Nat → Nat → Int) (hv0 : iv a0) (hp0 : (a0 146 23) + (a0 146 25) ≤ a0 146 22) (hp1 : (0 ≤ x1 → 2 ≤ a0 146 25)) (hp2 : a0 146 32 < 64) (hp3 : x1 ≤ 15) (hp4 : 0 - 1 ≤ x1) : jt (jxC E d 220 [.inr (.inr (.inl 146)), .inl x1] (jxSH, a0, b0)) (jQ_X12_atom x1 a0 b0) := by
  obtain ⟨d, rfl⟩ := jd_succ hd
  refine jt_eq (bq_X12_atom E d x1 a0 b0) ?_
  have h382_ := iv_get hv0 (k := 146) (j := 23) (l := 0) (u := 200) rfl
  have h383_ := iv_get hv0 (k := 146) (j := 25) (l := 0) (u := 200) rfl
  have h384_ := iv_get hv0 (k := 146) (j := 22) (l := 0) (u := 200) rfl
  have h385_ := iv_get hv0 (k := 146) (j := 32) (l := 0) (u := 64) rfl
  refine jt_ite (fun c386_ => ?_) (fun c386_ => ?_)
  ·
    refine jt_bI (sp_X12_fails E d (jd_le hd rfl) 0 (a0 146 23) a0 b0 hv0) (fun r387_ a387_ b387_ h387_ => ?_)
    obtain ⟨hv387_, hf387_, rfl, hq387_0, hq387_1, hq387_2, hq387_3⟩ := h387_
    refine jt_grd (by omega) ?_
    have hf388_ : jfr jW_X12_atom a0 a387_ := jfr_tr (jfr_rf _ _) hf387_ rfl
    have h389_ := iv_get hv387_ (k := 146) (j := 23) (l := 0) (u := 200) rfl
    have h390_ : a387_ 146 23 = a0 146 23 := hf387_ 146 23 rfl
    have h391_ := iv_get hv387_ (k := 146) (j := 22) (l := 0) (u := 200) rfl
    have h392_ : a387_ 146 22 = a0 146 22 := hf387_ 146 22 rfl
    have h393_ := iv_get hv387_ (k := 146) (j := 32) (l := 0) (u := 64) rfl
    have h394_ : a387_ 146 32 = a0 146 32 := hf387_ 146 32 rfl
    have hf395_ : jfr jWat a0 a387_ := jfr_tr (jfr_rf _ _) hf387_ rfl
    exact jt_rI ⟨hv387_, hf388_, rfl, (show (0 ≤ r387_ ∧ r387_ ≤ 1) from by omega), (show a0 146 23 ≤ a387_ 146 23 from by omega), (show a387_ 146 23 ≤ a387_ 146 22 from by omega), (show (r387_ = 1 → (a0 146 23) + 2 ≤ a387_ 146 23) from by omega), (show ((r387_ = 0 ∧ a387_ 146 32 = a0 146 32) ∨ (r387_ = 1 ∧ a387_ 146 32 = (a0 146 32) + 1)) from by omega), (fun h => by omega), (fun k _ => hf395_ 168 k rfl), (by first | exact QA_no (by omega) (by omega) (fun h => by have e := hq387_2; omega) hq387_1 | exact QA_13 (by omega) (by omega) (by omega) (by omega) (fun h => by have e := hq387_2; omega) hq387_1)⟩
  ·
    refine jt_ite (fun c396_ => ?_) (fun c396_ => ?_)
    ·
      refine jt_bI (sp_X12_fails E d (jd_le hd rfl) 0 (a0 146 23) a0 b0 hv0) (fun r397_ a397_ b397_ h397_ => ?_)
      obtain ⟨hv397_, hf397_, rfl, hq397_0, hq397_1, hq397_2, hq397_3⟩ := h397_
      refine jt_grd (by omega) ?_
      have hf398_ : jfr jW_X12_atom a0 a397_ := jfr_tr (jfr_rf _ _) hf397_ rfl
      have h399_ := iv_get hv397_ (k := 146) (j := 23) (l := 0) (u := 200) rfl
      have h400_ : a397_ 146 23 = a0 146 23 := hf397_ 146 23 rfl
      have h401_ := iv_get hv397_ (k := 146) (j := 22) (l := 0) (u := 200) rfl
      have h402_ : a397_ 146 22 = a0 146 22 := hf397_ 146 22 rfl
      have h403_ := iv_get hv397_ (k := 146) (j := 32) (l := 0) (u := 64) rfl
      have h404_ : a397_ 146 32 = a0 146 32 := hf397_ 146 32 rfl
      have hf405_ : jfr jWat a0 a397_ := jfr_tr (jfr_rf _ _) hf397_ rfl
      exact jt_rI ⟨hv397_, hf398_, rfl, (show (0 ≤ r397_ ∧ r397_ ≤ 1) from by omega), (show a0 146 23 ≤ a397_ 146 23 from by omega), (show a397_ 146 23 ≤ a397_ 146 22 from by omega), (show (r397_ = 1 → (a0 146 23) + 2 ≤ a397_ 146 23) from by omega), (show ((r397_ = 0 ∧ a397_ 146 32 = a0 146 32) ∨ (r397_ = 1 ∧ a397_ 146 32 = (a0 146 32) + 1)) from by omega), (fun h => by omega), (fun k _ => hf405_ 168 k rfl), (by first | exact QA_no (by omega) (by omega) (fun h => by have e := hq397_2; omega) hq397_1 | exact QA_13 (by omega) (by omega) (by omega) (by omega) (fun h => by have e := hq397_2; omega) hq397_1)⟩
    ·
      have h406_ := iv_get hv0 (k := 146) (j := 33) (l := 0) (u := 12) rfl
      refine jt_ite (fun c407_ => ?_) (fun c407_ => ?_)
      ·
        refine jt_bI (sp_X12_fails E d (jd_le hd rfl) 2 (a0 146 23) a0 b0 hv0) (fun r408_ a408_ b408_ h408_ => ?_)
        obtain ⟨hv408_, hf408_, rfl, hq408_0, hq408_1, hq408_2, hq408_3⟩ := h408_
        refine jt_grd (by omega) ?_
        have hf409_ : jfr jW_X12_atom a0 a408_ := jfr_tr (jfr_rf _ _) hf408_ rfl
        have h410_ := iv_get hv408_ (k := 146) (j := 23) (l := 0) (u := 200) rfl
        have h411_ : a408_ 146 23 = a0 146 23 := hf408_ 146 23 rfl
        have h412_ := iv_get hv408_ (k := 146) (j := 22) (l := 0) (u := 200) rfl
        have h413_ : a408_ 146 22 = a0 146 22 := hf408_ 146 22 rfl
        have h414_ := iv_get hv408_ (k := 146) (j := 32) (l := 0) (u := 64) rfl
        have h415_ : a408_ 146 32 = a0 146 32 := hf408_ 146 32 rfl
        have hf416_ : jfr jWat a0 a408_ := jfr_tr (jfr_rf _ _) hf408_ rfl
        exact jt_rI ⟨hv408_, hf409_, rfl, (show (0 ≤ r408_ ∧ r408_ ≤ 1) from by omega), (show a0 146 23 ≤ a408_ 146 23 from by omega), (show a408_ 146 23 ≤ a408_ 146 22 from by omega), (show (r408_ = 1 → (a0 146 23) + 2 ≤ a408_ 146 23) from by omega), (show ((r408_ = 0 ∧ a408_ 146 32 = a0 146 32) ∨ (r408_ = 1 ∧ a408_ 146 32 = (a0 146 32) + 1)) from by omega), (fun h => by omega), (fun k _ => hf416_ 168 k rfl), (by first | exact QA_no (by omega) (by omega) (fun h => by have e := hq408_2; omega) hq408_1 | exact QA_13 (by omega) (by omega) (by omega) (by omega) (fun h => by have e := hq408_2; omega) hq408_1)⟩
      ·
        have h418_ : jxw ((a0 146 23) + (a0 146 25)) = (a0 146 23) + (a0 146 25) := jxw_id (by omega) (by omega)
        have hv417_ : iv (jxu a0 146 23 (jxw ((a0 146 23) + (a0 146 25)))) := iv_put hv0 (l := 0) (u := 200) rfl (by omega) (by omega)
        have hf419_ : jfr jW_X12_atom a0 (jxu a0 146 23 (jxw ((a0 146 23) + (a0 146 25)))) := jfr_put (jfr_rf _ _) rfl
        have hf420_ : jfr jWat a0 (jxu a0 146 23 (jxw ((a0 146 23) + (a0 146 25)))) := jfr_put (jfr_rf _ _) rfl
        exact cp_X12_atom_53 E d hd x1 a0 b0 hv0 hp0 hp1 hp2 hp3 hp4 x1 (jxu a0 146 23 (jxw ((a0 146 23) + (a0 146 25)))) hv417_ hf419_ (show 3 ≤ x1 from by omega) (show x1 ≤ 9 from by omega) (show a0 146 33 ≤ 11 from by omega) (show jxw ((a0 146 23) + (a0 146 25)) ≤ a0 146 22 from by omega) (show (a0 146 23) + 2 ≤ jxw ((a0 146 23) + (a0 146 25)) from by omega) (show 3 ≤ x1 from by omega) (show x1 ≤ 9 from by omega) (show a0 146 32 = a0 146 32 from by omega) hf420_ (show x1 = x1 from by omega) (show jxw ((a0 146 23) + (a0 146 25)) = (a0 146 23) + (a0 146 25) from by omega) (show a0 146 33 = a0 146 33 from by omega) (show a0 146 24 = a0 146 24 from by omega) (show ¬ a0 146 33 = 12 from by omega)
