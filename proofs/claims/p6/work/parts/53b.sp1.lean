def jW_X12_see : List (Nat × Nat) := [(146, 23)]
abbrev jQ_X12_see (a0 b0 : Nat → Nat → Int) : List jxV → (Nat → Nat → Int) → (Nat → Nat → Int) → Prop := rI (fun r a b => (iv a) ∧ (jfr jW_X12_see a0 a) ∧ (b0 = b) ∧ (a0 146 23 ≤ a 146 23) ∧ (a 146 23 ≤ a0 146 22) ∧ (((r = 0 - 1 ∧ a 146 23 = a0 146 22) ∨ (((0 ≤ r ∧ r ≤ 255) ∧ a 146 23 < a0 146 22) ∧ ¬ a 164 ((a 146 23).toNat) = 32))) ∧ (((a0 146 23 < a0 146 22 ∧ ¬ a0 164 ((a0 146 23).toNat) = 32) → a 146 23 = a0 146 23)) ∧ (a 146 23 = ((SK (UB (a0 164)) (a0 146 22).toNat (a0 146 23).toNat : Nat) : Int)) ∧ (0 ≤ r → r = UB (a0 164) (a 146 23).toNat))
theorem cp_X12_see_38 (E : jxE) (d : Nat) (hd : Nat.ble 1 (d + 1) = true) (a0 b0 : Nat → Nat → Int) (hv0 : iv a0) (hp0 : a0 146 23 ≤ a0 146 22) : ∀ (a : Nat → Nat → Int), iv a → jfr jW_X12_see a0 a → a 146 23 ≤ a 146 22 → a0 146 23 ≤ a 146 23 → ((a0 146 23 < a0 146 22 ∧ ¬ a0 164 ((a0 146 23).toNat) = 32) → a 146 23 = a0 146 23) → (a 146 23 < a 146 22 → ¬ a 164 ((a 146 23).toNat) = 32) → (SK (UB (a 164)) (a 146 22).toNat (a 146 23).toNat = SK (UB (a0 164)) (a0 146 22).toNat (a0 146 23).toNat) → (¬ ((a 146 23).toNat < (a 146 22).toNat ∧ UB (a 164) (a 146 23).toNat = 32)) → jt (jxX E d 215 38 [some (.inr (.inr (.inl 146)))] [] (jxSH, a, b0)) (jQ_X12_see a0 b0) := by
  intro a hv hf hi0 hi1 hi2 hi3 hk hst
  refine jt_eq (bq_X12_see_38 E d a b0) ?_
  have h1_ := iv_get hv (k := 146) (j := 23) (l := 0) (u := 200) rfl
  have h2_ := iv_get hv (k := 146) (j := 22) (l := 0) (u := 200) rfl
  have h3_ : a 146 22 = a0 146 22 := hf 146 22 rfl
  have h4_ := iv_get hv0 (k := 146) (j := 22) (l := 0) (u := 200) rfl
  have h5_ := iv_get hv0 (k := 146) (j := 23) (l := 0) (u := 200) rfl
  have h6_ := iv_get hv0 (k := 164) (j := (a0 146 23).toNat) (l := (-128)) (u := 127) rfl
  have h7_ := iv_get hv (k := 164) (j := (a 146 23).toNat) (l := (-128)) (u := 127) rfl
  have h8_ : a 164 ((a 146 23).toNat) = a0 164 ((a 146 23).toNat) := hf 164 ((a 146 23).toNat) rfl
  have h9_ := iv_get hv0 (k := 164) (j := (a 146 23).toNat) (l := (-128)) (u := 127) rfl
  have h4 : a 164 = a0 164 := funext fun j => hf 164 j rfl
  have h22 := hf 146 22 rfl
  have hub := UB_sp (g := a 164) (j := (a 146 23).toNat) (iv_get hv (k := 164) (j := (a 146 23).toNat) (l := -128) (u := 127) rfl).1 (iv_get hv (k := 164) (j := (a 146 23).toNat) (l := -128) (u := 127) rfl).2
  refine jt_ite (fun c10_ => ?_) (fun c10_ => ?_)
  ·
    refine jt_grd (by omega) ?_
    have h11_ := jxand_r (a 164 ((a 146 23).toNat)) 255 (by decide) (by decide)
    exact jt_rI ⟨hv, hf, rfl, (show a0 146 23 ≤ a 146 23 from by omega), (show a 146 23 ≤ a0 146 22 from by omega), (show ((jxand (a 164 ((a 146 23).toNat)) 255 = 0 - 1 ∧ a 146 23 = a0 146 22) ∨ (((0 ≤ jxand (a 164 ((a 146 23).toNat)) 255 ∧ jxand (a 164 ((a 146 23).toNat)) 255 ≤ 255) ∧ a 146 23 < a0 146 22) ∧ ¬ a 164 ((a 146 23).toNat) = 32)) from by omega), (show ((a0 146 23 < a0 146 22 ∧ ¬ a0 164 ((a0 146 23).toNat) = 32) → a 146 23 = a0 146 23) from by omega), (by rw [← hk]; by_cases hc : (a 146 23).toNat < (a 146 22).toNat <;> first | (rw [SK_stay (fun h => hst ⟨hc, h⟩)]; omega) | (rw [SK_end (by omega)]; omega)), (by first | (intro h; exact absurd h (by decide)) | (intro _; rw [← h4]; rfl))⟩
  ·
    exact jt_rI ⟨hv, hf, rfl, (show a0 146 23 ≤ a 146 23 from by omega), (show a 146 23 ≤ a0 146 22 from by omega), (show (((-1) = 0 - 1 ∧ a 146 23 = a0 146 22) ∨ (((0 ≤ (-1) ∧ (-1) ≤ 255) ∧ a 146 23 < a0 146 22) ∧ ¬ a 164 ((a 146 23).toNat) = 32)) from by omega), (show ((a0 146 23 < a0 146 22 ∧ ¬ a0 164 ((a0 146 23).toNat) = 32) → a 146 23 = a0 146 23) from by omega), (by rw [← hk]; by_cases hc : (a 146 23).toNat < (a 146 22).toNat <;> first | (rw [SK_stay (fun h => hst ⟨hc, h⟩)]; omega) | (rw [SK_end (by omega)]; omega)), (by first | (intro h; exact absurd h (by decide)) | (intro _; rw [← h4]; rfl))⟩
theorem cp_X12_see_0 (E : jxE) (d : Nat) (hd : Nat.ble 1 (d + 1) = true) (a0 b0 : Nat → Nat → Int) (hv0 : iv a0) (hp0 : a0 146 23 ≤ a0 146 22) : ∀ n : Nat, (∀ (a : Nat → Nat → Int), ((((a 146 22) - (a 146 23)) * 2) + 1).toNat ≤ n → iv a → jfr jW_X12_see a0 a → 1 ≤ a 146 22 → 1 ≤ a 146 23 → a 146 23 ≤ a 146 22 → a0 146 23 ≤ a 146 23 → ((a0 146 23 < a0 146 22 ∧ ¬ a0 164 ((a0 146 23).toNat) = 32) → a 146 23 = a0 146 23) → (SK (UB (a 164)) (a 146 22).toNat (a 146 23).toNat = SK (UB (a0 164)) (a0 146 22).toNat (a0 146 23).toNat) → jt (jxX E d 215 35 [some (.inr (.inr (.inl 146)))] [] (jxSH, a, b0)) (jQ_X12_see a0 b0)) ∧ (∀ (a : Nat → Nat → Int), ((((a 146 22) - (a 146 23)) * 2) + 0).toNat ≤ n → iv a → jfr jW_X12_see a0 a → 1 ≤ a 146 22 → 1 ≤ a 146 23 → a 146 23 ≤ a 146 22 → a0 146 23 ≤ a 146 23 → ((a0 146 23 < a0 146 22 ∧ ¬ a0 164 ((a0 146 23).toNat) = 32) → a 146 23 = a0 146 23) → (SK (UB (a 164)) (a 146 22).toNat (a 146 23).toNat = SK (UB (a0 164)) (a0 146 22).toNat (a0 146 23).toNat) → jt (jxX E d 215 0 [some (.inr (.inr (.inl 146)))] [] (jxSH, a, b0)) (jQ_X12_see a0 b0)) := by
  refine jx_ind fun n ih => ?_
  have ih35 : ∀ (a : Nat → Nat → Int), ((((a 146 22) - (a 146 23)) * 2) + 1).toNat < n → iv a → jfr jW_X12_see a0 a → 1 ≤ a 146 22 → 1 ≤ a 146 23 → a 146 23 ≤ a 146 22 → a0 146 23 ≤ a 146 23 → ((a0 146 23 < a0 146 22 ∧ ¬ a0 164 ((a0 146 23).toNat) = 32) → a 146 23 = a0 146 23) → (SK (UB (a 164)) (a 146 22).toNat (a 146 23).toNat = SK (UB (a0 164)) (a0 146 22).toNat (a0 146 23).toNat) → jt (jxX E d 215 35 [some (.inr (.inr (.inl 146)))] [] (jxSH, a, b0)) (jQ_X12_see a0 b0) := fun a hlt i0 i1 i2 i3 i4 i5 i6 i7 => (ih _ hlt).1 a (Nat.le_refl _) i0 i1 i2 i3 i4 i5 i6 i7
  have ih0 : ∀ (a : Nat → Nat → Int), ((((a 146 22) - (a 146 23)) * 2) + 0).toNat < n → iv a → jfr jW_X12_see a0 a → 1 ≤ a 146 22 → 1 ≤ a 146 23 → a 146 23 ≤ a 146 22 → a0 146 23 ≤ a 146 23 → ((a0 146 23 < a0 146 22 ∧ ¬ a0 164 ((a0 146 23).toNat) = 32) → a 146 23 = a0 146 23) → (SK (UB (a 164)) (a 146 22).toNat (a 146 23).toNat = SK (UB (a0 164)) (a0 146 22).toNat (a0 146 23).toNat) → jt (jxX E d 215 0 [some (.inr (.inr (.inl 146)))] [] (jxSH, a, b0)) (jQ_X12_see a0 b0) := fun a hlt i0 i1 i2 i3 i4 i5 i6 i7 => (ih _ hlt).2 a (Nat.le_refl _) i0 i1 i2 i3 i4 i5 i6 i7
  have hc35 : ∀ (a : Nat → Nat → Int), ((((a 146 22) - (a 146 23)) * 2) + 1).toNat ≤ n → iv a → jfr jW_X12_see a0 a → 1 ≤ a 146 22 → 1 ≤ a 146 23 → a 146 23 ≤ a 146 22 → a0 146 23 ≤ a 146 23 → ((a0 146 23 < a0 146 22 ∧ ¬ a0 164 ((a0 146 23).toNat) = 32) → a 146 23 = a0 146 23) → (SK (UB (a 164)) (a 146 22).toNat (a 146 23).toNat = SK (UB (a0 164)) (a0 146 22).toNat (a0 146 23).toNat) → jt (jxX E d 215 35 [some (.inr (.inr (.inl 146)))] [] (jxSH, a, b0)) (jQ_X12_see a0 b0) := by
    intro a hm hv hf hi0 hi1 hi2 hi3 hi4 hk
    refine jt_eq (bq_X12_see_35 E d a b0) ?_
    have h12_ := iv_get hv (k := 146) (j := 22) (l := 0) (u := 200) rfl
    have h13_ : a 146 22 = a0 146 22 := hf 146 22 rfl
    have h14_ := iv_get hv0 (k := 146) (j := 22) (l := 0) (u := 200) rfl
    have h15_ := iv_get hv (k := 146) (j := 23) (l := 0) (u := 200) rfl
    have h16_ := iv_get hv0 (k := 146) (j := 23) (l := 0) (u := 200) rfl
    have h17_ := iv_get hv0 (k := 164) (j := (a0 146 23).toNat) (l := (-128)) (u := 127) rfl
    exact ih0 a (show ((((a 146 22) - (a 146 23)) * 2) + 0).toNat < n from by omega) hv hf (show 1 ≤ a 146 22 from by omega) (show 1 ≤ a 146 23 from by omega) (show a 146 23 ≤ a 146 22 from by omega) (show a0 146 23 ≤ a 146 23 from by omega) (show ((a0 146 23 < a0 146 22 ∧ ¬ a0 164 ((a0 146 23).toNat) = 32) → a 146 23 = a0 146 23) from by omega) hk
  have hc0 : ∀ (a : Nat → Nat → Int), ((((a 146 22) - (a 146 23)) * 2) + 0).toNat ≤ n → iv a → jfr jW_X12_see a0 a → 1 ≤ a 146 22 → 1 ≤ a 146 23 → a 146 23 ≤ a 146 22 → a0 146 23 ≤ a 146 23 → ((a0 146 23 < a0 146 22 ∧ ¬ a0 164 ((a0 146 23).toNat) = 32) → a 146 23 = a0 146 23) → (SK (UB (a 164)) (a 146 22).toNat (a 146 23).toNat = SK (UB (a0 164)) (a0 146 22).toNat (a0 146 23).toNat) → jt (jxX E d 215 0 [some (.inr (.inr (.inl 146)))] [] (jxSH, a, b0)) (jQ_X12_see a0 b0) := by
    intro a hm hv hf hi0 hi1 hi2 hi3 hi4 hk
    refine jt_eq (bq_X12_see_0 E d a b0) ?_
    have h18_ := iv_get hv (k := 146) (j := 22) (l := 0) (u := 200) rfl
    have h19_ : a 146 22 = a0 146 22 := hf 146 22 rfl
    have h20_ := iv_get hv0 (k := 146) (j := 22) (l := 0) (u := 200) rfl
    have h21_ := iv_get hv (k := 146) (j := 23) (l := 0) (u := 200) rfl
    have h22_ := iv_get hv0 (k := 146) (j := 23) (l := 0) (u := 200) rfl
    have h23_ := iv_get hv0 (k := 164) (j := (a0 146 23).toNat) (l := (-128)) (u := 127) rfl
    have hcg : a 146 23 = a0 146 23 → a 164 ((a 146 23).toNat) = a0 164 ((a0 146 23).toNat) := fun h => by rw [h]; exact hf 164 _ rfl
    have h4 : a 164 = a0 164 := funext fun j => hf 164 j rfl
    have h22 := hf 146 22 rfl
    have hub := UB_sp (g := a 164) (j := (a 146 23).toNat) (iv_get hv (k := 164) (j := (a 146 23).toNat) (l := -128) (u := 127) rfl).1 (iv_get hv (k := 164) (j := (a 146 23).toNat) (l := -128) (u := 127) rfl).2
    refine jt_ite (fun c24_ => ?_) (fun c24_ => ?_)
    ·
      refine jt_grd (by omega) ?_
      have h25_ := iv_get hv (k := 164) (j := (a 146 23).toNat) (l := (-128)) (u := 127) rfl
      have h26_ : a 164 ((a 146 23).toNat) = a0 164 ((a 146 23).toNat) := hf 164 ((a 146 23).toNat) rfl
      have h27_ := iv_get hv0 (k := 164) (j := (a 146 23).toNat) (l := (-128)) (u := 127) rfl
      refine jt_ite (fun c28_ => ?_) (fun c28_ => ?_)
      ·
        have h30_ : jxw ((a 146 23) + 1) = (a 146 23) + 1 := jxw_id (by omega) (by omega)
        have hv29_ : iv (jxu a 146 23 (jxw ((a 146 23) + 1))) := iv_put hv (l := 0) (u := 200) rfl (by omega) (by omega)
        have hf31_ : jfr jW_X12_see a0 (jxu a 146 23 (jxw ((a 146 23) + 1))) := jfr_put hf rfl
        exact hc35 (jxu a 146 23 (jxw ((a 146 23) + 1))) (show ((((a 146 22) - (jxw ((a 146 23) + 1))) * 2) + 1).toNat ≤ n from by omega) hv29_ hf31_ (show 1 ≤ a 146 22 from by omega) (show 1 ≤ jxw ((a 146 23) + 1) from by omega) (show jxw ((a 146 23) + 1) ≤ a 146 22 from by omega) (show a0 146 23 ≤ jxw ((a 146 23) + 1) from by omega) (show ((a0 146 23 < a0 146 22 ∧ ¬ a0 164 ((a0 146 23).toNat) = 32) → jxw ((a 146 23) + 1) = a0 146 23) from by omega) (by have e : (jxw ((a 146 23) + 1)).toNat = (a 146 23).toNat + 1 := (by omega); show SK (UB (a 164)) (a 146 22).toNat (jxw ((a 146 23) + 1)).toNat = _; rw [e, ← SK_step (by omega) (by omega)]; exact hk)
      ·
        exact cp_X12_see_38 E d hd a0 b0 hv0 hp0 a hv hf (show a 146 23 ≤ a 146 22 from by omega) (show a0 146 23 ≤ a 146 23 from by omega) (show ((a0 146 23 < a0 146 22 ∧ ¬ a0 164 ((a0 146 23).toNat) = 32) → a 146 23 = a0 146 23) from by omega) (show (a 146 23 < a 146 22 → ¬ a 164 ((a 146 23).toNat) = 32) from by omega) hk (by omega)
    ·
      have h32_ := iv_get hv (k := 164) (j := (a 146 23).toNat) (l := (-128)) (u := 127) rfl
      have h33_ : a 164 ((a 146 23).toNat) = a0 164 ((a 146 23).toNat) := hf 164 ((a 146 23).toNat) rfl
      have h34_ := iv_get hv0 (k := 164) (j := (a 146 23).toNat) (l := (-128)) (u := 127) rfl
      exact cp_X12_see_38 E d hd a0 b0 hv0 hp0 a hv hf (show a 146 23 ≤ a 146 22 from by omega) (show a0 146 23 ≤ a 146 23 from by omega) (show ((a0 146 23 < a0 146 22 ∧ ¬ a0 164 ((a0 146 23).toNat) = 32) → a 146 23 = a0 146 23) from by omega) (show (a 146 23 < a 146 22 → ¬ a 164 ((a 146 23).toNat) = 32) from by omega) hk (by omega)
  exact ⟨hc35, hc0⟩
theorem sp_X12_see (E : jxE) (d : Nat) (hd : Nat.ble 1 d = true) (a0 b0 : Nat → Nat → Int) (hv0 : iv a0) (hp0 : a0 146 23 ≤ a0 146 22) : jt (jxC E d 215 [.inr (.inr (.inl 146))] (jxSH, a0, b0)) (jQ_X12_see a0 b0) := by
  obtain ⟨d, rfl⟩ := jd_succ hd
  refine jt_eq (bq_X12_see E d a0 b0) ?_
  have h35_ := iv_get hv0 (k := 146) (j := 23) (l := 0) (u := 200) rfl
  have h36_ := iv_get hv0 (k := 146) (j := 22) (l := 0) (u := 200) rfl
  have hub := UB_sp (g := a0 164) (j := (a0 146 23).toNat) (iv_get hv0 (k := 164) (j := (a0 146 23).toNat) (l := -128) (u := 127) rfl).1 (iv_get hv0 (k := 164) (j := (a0 146 23).toNat) (l := -128) (u := 127) rfl).2
  refine jt_ite (fun c37_ => ?_) (fun c37_ => ?_)
  ·
    refine jt_grd (by omega) ?_
    have h38_ := iv_get hv0 (k := 164) (j := (a0 146 23).toNat) (l := (-128)) (u := 127) rfl
    refine jt_ite (fun c39_ => ?_) (fun c39_ => ?_)
    ·
      have h41_ : jxw ((a0 146 23) + 1) = (a0 146 23) + 1 := jxw_id (by omega) (by omega)
      have hv40_ : iv (jxu a0 146 23 (jxw ((a0 146 23) + 1))) := iv_put hv0 (l := 0) (u := 200) rfl (by omega) (by omega)
      have hf42_ : jfr jW_X12_see a0 (jxu a0 146 23 (jxw ((a0 146 23) + 1))) := jfr_put (jfr_rf _ _) rfl
      exact (cp_X12_see_0 E d hd a0 b0 hv0 hp0 _).1 (jxu a0 146 23 (jxw ((a0 146 23) + 1))) (Nat.le_refl _) hv40_ hf42_ (show 1 ≤ a0 146 22 from by omega) (show 1 ≤ jxw ((a0 146 23) + 1) from by omega) (show jxw ((a0 146 23) + 1) ≤ a0 146 22 from by omega) (show a0 146 23 ≤ jxw ((a0 146 23) + 1) from by omega) (show ((a0 146 23 < a0 146 22 ∧ ¬ a0 164 ((a0 146 23).toNat) = 32) → jxw ((a0 146 23) + 1) = a0 146 23) from by omega) (by have e : (jxw ((a0 146 23) + 1)).toNat = (a0 146 23).toNat + 1 := (by omega); show SK (UB (a0 164)) (a0 146 22).toNat (jxw ((a0 146 23) + 1)).toNat = _; rw [e, ← SK_step (by omega) (by omega)])
    ·
      exact cp_X12_see_38 E d hd a0 b0 hv0 hp0 a0 hv0 (jfr_rf _ _) (show a0 146 23 ≤ a0 146 22 from by omega) (show a0 146 23 ≤ a0 146 23 from by omega) (show ((a0 146 23 < a0 146 22 ∧ ¬ a0 164 ((a0 146 23).toNat) = 32) → a0 146 23 = a0 146 23) from by omega) (show (a0 146 23 < a0 146 22 → ¬ a0 164 ((a0 146 23).toNat) = 32) from by omega) rfl (by omega)
  ·
    have h43_ := iv_get hv0 (k := 164) (j := (a0 146 23).toNat) (l := (-128)) (u := 127) rfl
    exact cp_X12_see_38 E d hd a0 b0 hv0 hp0 a0 hv0 (jfr_rf _ _) (show a0 146 23 ≤ a0 146 22 from by omega) (show a0 146 23 ≤ a0 146 23 from by omega) (show ((a0 146 23 < a0 146 22 ∧ ¬ a0 164 ((a0 146 23).toNat) = 32) → a0 146 23 = a0 146 23) from by omega) (show (a0 146 23 < a0 146 22 → ¬ a0 164 ((a0 146 23).toNat) = 32) from by omega) rfl (by omega)
def jW_X12_fails : List (Nat × Nat) := [(146, 24)]
abbrev jQ_X12_fails (x1 x2 : Int) (a0 b0 : Nat → Nat → Int) : List jxV → (Nat → Nat → Int) → (Nat → Nat → Int) → Prop := rI (fun r a b => (iv a) ∧ (jfr jW_X12_fails a0 a) ∧ (b0 = b) ∧ ((0 ≤ r ∧ r ≤ 1)) ∧ (r = 0) ∧ ((((((a0 146 24 = 0 ∧ 0 ≤ x2) ∧ x2 ≤ 200) ∧ 0 ≤ x1) ∧ x1 ≤ 7) → a 146 24 = (1 + (8 * x2)) + x1)) ∧ ((¬ a0 146 24 = 0 → a 146 24 = a0 146 24)))
theorem sp_X12_fails (E : jxE) (d : Nat) (hd : Nat.ble 1 d = true) (x1 x2 : Int) (a0 b0 : Nat → Nat → Int) (hv0 : iv a0) : jt (jxC E d 214 [.inr (.inr (.inl 146)), .inl x1, .inl x2] (jxSH, a0, b0)) (jQ_X12_fails x1 x2 a0 b0) := by
  obtain ⟨d, rfl⟩ := jd_succ hd
  refine jt_eq (bq_X12_fails E d x1 x2 a0 b0) ?_
  refine jt_ite (fun c44_ => ?_) (fun c44_ => ?_)
  ·
    have hv45_ : iv (jxu a0 146 24 (jxw ((jxw (1 + (jxw (8 * x2)))) + x1))) := iv_putf hv0 rfl
    have hf46_ : jfr jW_X12_fails a0 (jxu a0 146 24 (jxw ((jxw (1 + (jxw (8 * x2)))) + x1))) := jfr_put (jfr_rf _ _) rfl
    have h47_ := jxw_im (8 * x2)
    have h48_ := jxw_rg (8 * x2)
    have h49_ := jxw_im (1 + (jxw (8 * x2)))
    have h50_ := jxw_rg (1 + (jxw (8 * x2)))
    have h51_ := jxw_im ((jxw (1 + (jxw (8 * x2)))) + x1)
    have h52_ := jxw_rg ((jxw (1 + (jxw (8 * x2)))) + x1)
    exact jt_rI ⟨hv45_, hf46_, rfl, (show (0 ≤ 0 ∧ 0 ≤ 1) from by omega), (show 0 = 0 from by omega), (show (((((a0 146 24 = 0 ∧ 0 ≤ x2) ∧ x2 ≤ 200) ∧ 0 ≤ x1) ∧ x1 ≤ 7) → jxw ((jxw (1 + (jxw (8 * x2)))) + x1) = (1 + (8 * x2)) + x1) from by omega), (show (¬ a0 146 24 = 0 → jxw ((jxw (1 + (jxw (8 * x2)))) + x1) = a0 146 24) from by omega)⟩
  ·
    exact jt_rI ⟨hv0, (jfr_rf _ _), rfl, (show (0 ≤ 0 ∧ 0 ≤ 1) from by omega), (show 0 = 0 from by omega), (show (((((a0 146 24 = 0 ∧ 0 ≤ x2) ∧ x2 ≤ 200) ∧ 0 ≤ x1) ∧ x1 ≤ 7) → a0 146 24 = (1 + (8 * x2)) + x1) from by omega), (show (¬ a0 146 24 = 0 → a0 146 24 = a0 146 24) from by omega)⟩
def jW_X12_number : List (Nat × Nat) := [(146, 23), (146, 24), (146, 26), (146, 27)]
abbrev jQ_X12_number (x1 x2 : Int) (a0 b0 : Nat → Nat → Int) : List jxV → (Nat → Nat → Int) → (Nat → Nat → Int) → Prop := rI (fun r a b => (iv a) ∧ (jfr jW_X12_number a0 a) ∧ (b0 = b) ∧ ((0 ≤ r ∧ r ≤ 1)) ∧ (a0 146 23 ≤ a 146 23) ∧ (a 146 23 ≤ a0 146 22) ∧ ((r = 1 → (x1 ≤ a 146 26 ∧ a 146 26 ≤ x2))) ∧ (r = 1 → NF (UB (a0 164)) (a0 146 22).toNat (SK (UB (a0 164)) (a0 146 22).toNat (a0 146 23).toNat) x1 x2 = 0 ∧ a 146 26 = NV (UB (a0 164)) (a0 146 22).toNat (SK (UB (a0 164)) (a0 146 22).toNat (a0 146 23).toNat) ∧ a 146 23 = (DE (UB (a0 164)) (a0 146 22).toNat (SK (UB (a0 164)) (a0 146 22).toNat (a0 146 23).toNat) : Int) ∧ a 146 24 = a0 146 24) ∧ (r = 0 → ¬ NF (UB (a0 164)) (a0 146 22).toNat (SK (UB (a0 164)) (a0 146 22).toNat (a0 146 23).toNat) x1 x2 = 0 ∧ a 146 24 = (if a0 146 24 = 0 then NF (UB (a0 164)) (a0 146 22).toNat (SK (UB (a0 164)) (a0 146 22).toNat (a0 146 23).toNat) x1 x2 else a0 146 24)))
theorem cp_X12_number_144 (E : jxE) (d : Nat) (hd : Nat.ble 2 (d + 1) = true) (x1 x2 : Int) (a0 b0 : Nat → Nat → Int) (hv0 : iv a0) (hp0 : a0 146 23 ≤ a0 146 22) : ∀ (a : Nat → Nat → Int), iv a → jfr jW_X12_number a0 a → a 146 23 ≤ a 146 22 → a0 146 23 ≤ a 146 23 → a 146 24 = a0 146 24 → (DG (UB (a0 164)) (a0 146 22).toNat (SK (UB (a0 164)) (a0 146 22).toNat (a0 146 23).toNat)) → (a 146 27 = ((SK (UB (a0 164)) (a0 146 22).toNat (a0 146 23).toNat) : Int)) → (NF (UB (a0 164)) (a0 146 22).toNat (SK (UB (a0 164)) (a0 146 22).toNat (a0 146 23).toNat) x1 x2 = 2 + 8 * ((SK (UB (a0 164)) (a0 146 22).toNat (a0 146 23).toNat) : Int)) → jt (jxX E d 217 144 [some (.inr (.inr (.inl 146))), none, none, none, none, none] [] (jxSH, a, b0)) (jQ_X12_number x1 x2 a0 b0) := by
  intro a hv hf hi0 hi1 hi2 hd0 hq hnf
  refine jt_eq (bq_X12_number_144 E d a b0) ?_
  have h53_ := iv_get hv (k := 146) (j := 23) (l := 0) (u := 200) rfl
  have h54_ := iv_get hv (k := 146) (j := 22) (l := 0) (u := 200) rfl
  have h55_ : a 146 22 = a0 146 22 := hf 146 22 rfl
  have h56_ := iv_get hv0 (k := 146) (j := 22) (l := 0) (u := 200) rfl
  have h57_ := iv_get hv0 (k := 146) (j := 23) (l := 0) (u := 200) rfl
  have h4 : a 164 = a0 164 := funext fun j => hf 164 j rfl
  have h22 := hf 146 22 rfl
  have hub := UB_sp (g := a 164) (j := (a 146 23).toNat) (iv_get hv (k := 164) (j := (a 146 23).toNat) (l := -128) (u := 127) rfl).1 (iv_get hv (k := 164) (j := (a 146 23).toNat) (l := -128) (u := 127) rfl).2
  have hskb := (SK_sp (UB (a0 164)) (a0 146 22).toNat (a0 146 23).toNat).2.1 (by omega)
  have hskc := iv_get hv0 (k := 146) (j := 22) (l := 0) (u := 200) rfl
  refine jt_bI (sp_X12_fails E d (jd_le hd rfl) 1 (a 146 27) a b0 hv) (fun r58_ a58_ b58_ h58_ => ?_)
  obtain ⟨hv58_, hf58_, rfl, hq58_0, hq58_1, hq58_2, hq58_3⟩ := h58_
  have h23_58 := hf58_ 146 23 rfl
  refine jt_ite (fun c59_ => ?_) (fun c59_ => ?_)
  ·
    have hf60_ : jfr jW_X12_number a0 a58_ := jfr_tr hf hf58_ rfl
    have h61_ := iv_get hv58_ (k := 146) (j := 23) (l := 0) (u := 200) rfl
    have h62_ : a58_ 146 23 = a 146 23 := hf58_ 146 23 rfl
    have h63_ := iv_get hv58_ (k := 146) (j := 26) (l := 0) (u := 999) rfl
    have h64_ : a58_ 146 26 = a 146 26 := hf58_ 146 26 rfl
    have h65_ := iv_get hv (k := 146) (j := 26) (l := 0) (u := 999) rfl
    exact jt_rI ⟨hv58_, hf60_, rfl, (show (0 ≤ 0 ∧ 0 ≤ 1) from by omega), (show a0 146 23 ≤ a58_ 146 23 from by omega), (show a58_ 146 23 ≤ a0 146 22 from by omega), (show (0 = 1 → (x1 ≤ a58_ 146 26 ∧ a58_ 146 26 ≤ x2)) from by omega), (by first | exact (fun h => absurd h (by omega)) | exact (fun _ => ⟨by have hz := (DE_sp (UB (a0 164)) (a0 146 22).toNat (SK (UB (a0 164)) (a0 146 22).toNat (a0 146 23).toNat)).2.2.1; unfold NF; rw [if_neg (fun h => hz (by rw [h]; exact hd0)), if_neg (by rw [hde, ← hnv]; omega)], hnv, by rw [hde]; show a 146 23 = _; omega, by show a 146 24 = _; omega⟩)), (by first | exact (fun h => absurd h (by decide)) | exact (fun _ => ⟨by rw [hnf]; omega, by rw [hnf]; split <;> omega⟩) | (intro _; have e := hq0_4; have hnd : ¬ DG (UB (a0 164)) (a0 146 22).toNat (SK (UB (a0 164)) (a0 146 22).toNat (a0 146 23).toNat) := (fun hd => by have e2 : (a0_ 146 23).toNat = _ := congrArg Int.toNat e; rw [Int.toNat_natCast] at e2; obtain ⟨q1, q2, q3⟩ := hd; have h5 := hq0_5; rw [e2] at h5; omega); rw [NF_none hnd]; exact ⟨by omega, by split <;> omega⟩))⟩
  ·
    have hf66_ : jfr jW_X12_number a0 a58_ := jfr_tr hf hf58_ rfl
    have h67_ := iv_get hv58_ (k := 146) (j := 23) (l := 0) (u := 200) rfl
    have h68_ : a58_ 146 23 = a 146 23 := hf58_ 146 23 rfl
    have h69_ := iv_get hv58_ (k := 146) (j := 26) (l := 0) (u := 999) rfl
    have h70_ : a58_ 146 26 = a 146 26 := hf58_ 146 26 rfl
    have h71_ := iv_get hv (k := 146) (j := 26) (l := 0) (u := 999) rfl
    exact jt_rI ⟨hv58_, hf66_, rfl, (show (0 ≤ 1 ∧ 1 ≤ 1) from by omega), (show a0 146 23 ≤ a58_ 146 23 from by omega), (show a58_ 146 23 ≤ a0 146 22 from by omega), (show (1 = 1 → (x1 ≤ a58_ 146 26 ∧ a58_ 146 26 ≤ x2)) from by omega), (by first | exact (fun h => absurd h (by omega)) | exact (fun _ => ⟨by have hz := (DE_sp (UB (a0 164)) (a0 146 22).toNat (SK (UB (a0 164)) (a0 146 22).toNat (a0 146 23).toNat)).2.2.1; unfold NF; rw [if_neg (fun h => hz (by rw [h]; exact hd0)), if_neg (by rw [hde, ← hnv]; omega)], hnv, by rw [hde]; show a 146 23 = _; omega, by show a 146 24 = _; omega⟩)), (by first | exact (fun h => absurd h (by decide)) | exact (fun _ => ⟨by rw [hnf]; omega, by rw [hnf]; split <;> omega⟩) | (intro _; have e := hq0_4; have hnd : ¬ DG (UB (a0 164)) (a0 146 22).toNat (SK (UB (a0 164)) (a0 146 22).toNat (a0 146 23).toNat) := (fun hd => by have e2 : (a0_ 146 23).toNat = _ := congrArg Int.toNat e; rw [Int.toNat_natCast] at e2; obtain ⟨q1, q2, q3⟩ := hd; have h5 := hq0_5; rw [e2] at h5; omega); rw [NF_none hnd]; exact ⟨by omega, by split <;> omega⟩))⟩
theorem cp_X12_number_122 (E : jxE) (d : Nat) (hd : Nat.ble 2 (d + 1) = true) (x1 x2 : Int) (a0 b0 : Nat → Nat → Int) (hv0 : iv a0) (hp0 : a0 146 23 ≤ a0 146 22) : ∀ (y1 y2 y4 y5 : Int) (a : Nat → Nat → Int), iv a → jfr jW_X12_number a0 a → a 146 23 ≤ a 146 22 → a0 146 23 ≤ a 146 23 → y1 = x1 → y2 = x2 → 0 ≤ y5 → y5 ≤ 999 → a 146 24 = a0 146 24 → (DG (UB (a0 164)) (a0 146 22).toNat (SK (UB (a0 164)) (a0 146 22).toNat (a0 146 23).toNat)) → (a 146 27 = ((SK (UB (a0 164)) (a0 146 22).toNat (a0 146 23).toNat) : Int)) → (y4 + ((SK (UB (a0 164)) (a0 146 22).toNat (a0 146 23).toNat) : Int) = a 146 23) → (DE (UB (a0 164)) (a0 146 22).toNat (SK (UB (a0 164)) (a0 146 22).toNat (a0 146 23).toNat) = (a 146 23).toNat) → (y5 = NV (UB (a0 164)) (a0 146 22).toNat (SK (UB (a0 164)) (a0 146 22).toNat (a0 146 23).toNat)) → jt (jxX E d 217 122 [some (.inr (.inr (.inl 146))), some (.inl y1), some (.inl y2), none, some (.inl y4), some (.inl y5)] [] (jxSH, a, b0)) (jQ_X12_number x1 x2 a0 b0) := by
  intro y1 y2 y4 y5 a hv hf hi0 hi1 hi2 hi3 hi4 hi5 hi6 hd0 hq hm4 hde hnv
  refine jt_eq (bq_X12_number_122 E d y1 y2 y4 y5 a b0) ?_
  have h72_ := iv_get hv (k := 146) (j := 23) (l := 0) (u := 200) rfl
  have h73_ := iv_get hv (k := 146) (j := 22) (l := 0) (u := 200) rfl
  have h74_ : a 146 22 = a0 146 22 := hf 146 22 rfl
  have h75_ := iv_get hv0 (k := 146) (j := 22) (l := 0) (u := 200) rfl
  have h76_ := iv_get hv0 (k := 146) (j := 23) (l := 0) (u := 200) rfl
  have h4 : a 164 = a0 164 := funext fun j => hf 164 j rfl
  have h22 := hf 146 22 rfl
  have hub := UB_sp (g := a 164) (j := (a 146 23).toNat) (iv_get hv (k := 164) (j := (a 146 23).toNat) (l := -128) (u := 127) rfl).1 (iv_get hv (k := 164) (j := (a 146 23).toNat) (l := -128) (u := 127) rfl).2
  refine jt_ite (fun c77_ => ?_) (fun c77_ => ?_)
  ·
    have hv78_ : iv (jxu a 146 26 y5) := iv_put hv (l := 0) (u := 999) rfl (by omega) (by omega)
    have hf79_ : jfr jW_X12_number a0 (jxu a 146 26 y5) := jfr_put hf rfl
    exact cp_X12_number_144 E d hd x1 x2 a0 b0 hv0 hp0 (jxu a 146 26 y5) hv78_ hf79_ (show a 146 23 ≤ a 146 22 from by omega) (show a0 146 23 ≤ a 146 23 from by omega) (show a 146 24 = a0 146 24 from by omega) (by first | exact hd0 | (have e := hq0_4; have h5 := hq0_5 (by omega); have e2 : (a0_ 146 23).toNat = _ := congrArg Int.toNat e; rw [Int.toNat_natCast] at e2; rw [e2] at h5; exact ⟨by omega, by omega, by omega⟩)) hq (by have hz := (DE_sp (UB (a0 164)) (a0 146 22).toNat (SK (UB (a0 164)) (a0 146 22).toNat (a0 146 23).toNat)).2.2.1; unfold NF; rw [if_neg (fun h => hz (by rw [h]; exact hd0)), if_pos (by rw [hde, ← hnv]; omega)])
  ·
    refine jt_eI (eq_X12_in E d (jd_le hd rfl) y5 y1 y2 (jxu a 146 26 y5) b0) ?_
    have h80_ : f_X12_in (jxu a 146 26 y5) b0 y5 y1 y2 = (if y5 < y1 then 0 else (if y2 < y5 then 0 else 1)) := f_X12_in_eq (jxu a 146 26 y5) b0 y5 y1 y2
    refine jt_ite (fun c81_ => ?_) (fun c81_ => ?_)
    ·
      have hv82_ : iv (jxu a 146 26 y5) := iv_put hv (l := 0) (u := 999) rfl (by omega) (by omega)
      have hf83_ : jfr jW_X12_number a0 (jxu a 146 26 y5) := jfr_put hf rfl
      exact cp_X12_number_144 E d hd x1 x2 a0 b0 hv0 hp0 (jxu a 146 26 y5) hv82_ hf83_ (show a 146 23 ≤ a 146 22 from by omega) (show a0 146 23 ≤ a 146 23 from by omega) (show a 146 24 = a0 146 24 from by omega) (by first | exact hd0 | (have e := hq0_4; have h5 := hq0_5 (by omega); have e2 : (a0_ 146 23).toNat = _ := congrArg Int.toNat e; rw [Int.toNat_natCast] at e2; rw [e2] at h5; exact ⟨by omega, by omega, by omega⟩)) hq (by have hz := (DE_sp (UB (a0 164)) (a0 146 22).toNat (SK (UB (a0 164)) (a0 146 22).toNat (a0 146 23).toNat)).2.2.1; unfold NF; rw [if_neg (fun h => hz (by rw [h]; exact hd0)), if_pos (by rw [hde, ← hnv]; omega)])
    ·
      have hv84_ : iv (jxu a 146 26 y5) := iv_put hv (l := 0) (u := 999) rfl (by omega) (by omega)
      have hf85_ : jfr jW_X12_number a0 (jxu a 146 26 y5) := jfr_put hf rfl
      exact jt_rI ⟨hv84_, hf85_, rfl, (show (0 ≤ 1 ∧ 1 ≤ 1) from by omega), (show a0 146 23 ≤ a 146 23 from by omega), (show a 146 23 ≤ a0 146 22 from by omega), (show (1 = 1 → (x1 ≤ y5 ∧ y5 ≤ x2)) from by omega), (by first | exact (fun h => absurd h (by omega)) | exact (fun _ => ⟨by have hz := (DE_sp (UB (a0 164)) (a0 146 22).toNat (SK (UB (a0 164)) (a0 146 22).toNat (a0 146 23).toNat)).2.2.1; unfold NF; rw [if_neg (fun h => hz (by rw [h]; exact hd0)), if_neg (by rw [hde, ← hnv]; omega)], hnv, by rw [hde]; show a 146 23 = _; omega, by show a 146 24 = _; omega⟩)), (by first | exact (fun h => absurd h (by decide)) | exact (fun _ => ⟨by rw [hnf]; omega, by rw [hnf]; split <;> omega⟩) | (intro _; have e := hq0_4; have hnd : ¬ DG (UB (a0 164)) (a0 146 22).toNat (SK (UB (a0 164)) (a0 146 22).toNat (a0 146 23).toNat) := (fun hd => by have e2 : (a0_ 146 23).toNat = _ := congrArg Int.toNat e; rw [Int.toNat_natCast] at e2; obtain ⟨q1, q2, q3⟩ := hd; have h5 := hq0_5; rw [e2] at h5; omega); rw [NF_none hnd]; exact ⟨by omega, by split <;> omega⟩))⟩
theorem cp_X12_number_41 (E : jxE) (d : Nat) (hd : Nat.ble 2 (d + 1) = true) (x1 x2 : Int) (a0 b0 : Nat → Nat → Int) (hv0 : iv a0) (hp0 : a0 146 23 ≤ a0 146 22) : ∀ n : Nat, (∀ (y1 y2 y4 y5 : Int) (a : Nat → Nat → Int), ((((a 146 22) - (a 146 23)) * 1) + 0).toNat ≤ n → iv a → jfr jW_X12_number a0 a → 1 ≤ a 146 22 → a 146 23 ≤ 199 → a 146 23 ≤ a 146 22 → a0 146 23 ≤ a 146 23 → y1 = x1 → y2 = x2 → 0 ≤ y4 → y4 ≤ a 146 23 → 0 ≤ y5 → y5 ≤ 999 → (y4 ≤ 1 → y5 ≤ 99) → (y4 ≤ 0 → y5 ≤ 9) → a 146 23 < a 146 22 → a 146 24 = a0 146 24 → (DG (UB (a0 164)) (a0 146 22).toNat (SK (UB (a0 164)) (a0 146 22).toNat (a0 146 23).toNat)) → (a 146 27 = ((SK (UB (a0 164)) (a0 146 22).toNat (a0 146 23).toNat) : Int)) → (y4 + ((SK (UB (a0 164)) (a0 146 22).toNat (a0 146 23).toNat) : Int) = a 146 23) → (∀ j : Nat, (SK (UB (a0 164)) (a0 146 22).toNat (a0 146 23).toNat) ≤ j → (j : Int) < a 146 23 → DG (UB (a0 164)) (a0 146 22).toNat j) → (DG (UB (a0 164)) (a0 146 22).toNat (a 146 23).toNat) → (y5 = DV (UB (a0 164)) (SK (UB (a0 164)) (a0 146 22).toNat (a0 146 23).toNat) (y4.toNat + 1)) → jt (jxX E d 217 106 [some (.inr (.inr (.inl 146))), some (.inl y1), some (.inl y2), none, some (.inl y4), some (.inl y5)] [] (jxSH, a, b0)) (jQ_X12_number x1 x2 a0 b0)) ∧ (∀ (y1 y2 y4 y5 : Int) (a : Nat → Nat → Int), ((((a 146 22) - (a 146 23)) * 1) + 0).toNat ≤ n → iv a → jfr jW_X12_number a0 a → 1 ≤ a 146 22 → a 146 23 ≤ 199 → a 146 23 ≤ a 146 22 → a0 146 23 ≤ a 146 23 → y1 = x1 → y2 = x2 → 0 ≤ y4 → y4 ≤ a 146 23 → 0 ≤ y5 → y5 ≤ 999 → (y4 ≤ 2 → y5 ≤ 99) → (y4 ≤ 1 → y5 ≤ 9) → (y4 ≤ 0 → y5 ≤ 0) → a 146 23 < a 146 22 → 48 ≤ a 164 ((a 146 23).toNat) → a 164 ((a 146 23).toNat) ≤ 57 → a 146 24 = a0 146 24 → (DG (UB (a0 164)) (a0 146 22).toNat (SK (UB (a0 164)) (a0 146 22).toNat (a0 146 23).toNat)) → (a 146 27 = ((SK (UB (a0 164)) (a0 146 22).toNat (a0 146 23).toNat) : Int)) → (y4 + ((SK (UB (a0 164)) (a0 146 22).toNat (a0 146 23).toNat) : Int) = a 146 23) → (∀ j : Nat, (SK (UB (a0 164)) (a0 146 22).toNat (a0 146 23).toNat) ≤ j → (j : Int) < a 146 23 → DG (UB (a0 164)) (a0 146 22).toNat j) → (y5 = DV (UB (a0 164)) (SK (UB (a0 164)) (a0 146 22).toNat (a0 146 23).toNat) y4.toNat) → (DG (UB (a0 164)) (a0 146 22).toNat (a 146 23).toNat) → jt (jxX E d 217 80 [some (.inr (.inr (.inl 146))), some (.inl y1), some (.inl y2), none, some (.inl y4), some (.inl y5)] [] (jxSH, a, b0)) (jQ_X12_number x1 x2 a0 b0)) ∧ (∀ (y1 y2 y4 y5 : Int) (a : Nat → Nat → Int), ((((a 146 22) - (a 146 23)) * 1) + 0).toNat ≤ n → iv a → jfr jW_X12_number a0 a → a 146 23 ≤ a 146 22 → a0 146 23 ≤ a 146 23 → y1 = x1 → y2 = x2 → 0 ≤ y4 → y4 ≤ a 146 23 → 0 ≤ y5 → y5 ≤ 999 → (y4 ≤ 2 → y5 ≤ 99) → (y4 ≤ 1 → y5 ≤ 9) → (y4 ≤ 0 → y5 ≤ 0) → a 146 24 = a0 146 24 → (DG (UB (a0 164)) (a0 146 22).toNat (SK (UB (a0 164)) (a0 146 22).toNat (a0 146 23).toNat)) → (a 146 27 = ((SK (UB (a0 164)) (a0 146 22).toNat (a0 146 23).toNat) : Int)) → (y4 + ((SK (UB (a0 164)) (a0 146 22).toNat (a0 146 23).toNat) : Int) = a 146 23) → (∀ j : Nat, (SK (UB (a0 164)) (a0 146 22).toNat (a0 146 23).toNat) ≤ j → (j : Int) < a 146 23 → DG (UB (a0 164)) (a0 146 22).toNat j) → (y5 = DV (UB (a0 164)) (SK (UB (a0 164)) (a0 146 22).toNat (a0 146 23).toNat) y4.toNat) → jt (jxX E d 217 41 [some (.inr (.inr (.inl 146))), some (.inl y1), some (.inl y2), none, some (.inl y4), some (.inl y5)] [] (jxSH, a, b0)) (jQ_X12_number x1 x2 a0 b0)) := by
  refine jx_ind fun n ih => ?_
  have ih106 : ∀ (y1 y2 y4 y5 : Int) (a : Nat → Nat → Int), ((((a 146 22) - (a 146 23)) * 1) + 0).toNat < n → iv a → jfr jW_X12_number a0 a → 1 ≤ a 146 22 → a 146 23 ≤ 199 → a 146 23 ≤ a 146 22 → a0 146 23 ≤ a 146 23 → y1 = x1 → y2 = x2 → 0 ≤ y4 → y4 ≤ a 146 23 → 0 ≤ y5 → y5 ≤ 999 → (y4 ≤ 1 → y5 ≤ 99) → (y4 ≤ 0 → y5 ≤ 9) → a 146 23 < a 146 22 → a 146 24 = a0 146 24 → (DG (UB (a0 164)) (a0 146 22).toNat (SK (UB (a0 164)) (a0 146 22).toNat (a0 146 23).toNat)) → (a 146 27 = ((SK (UB (a0 164)) (a0 146 22).toNat (a0 146 23).toNat) : Int)) → (y4 + ((SK (UB (a0 164)) (a0 146 22).toNat (a0 146 23).toNat) : Int) = a 146 23) → (∀ j : Nat, (SK (UB (a0 164)) (a0 146 22).toNat (a0 146 23).toNat) ≤ j → (j : Int) < a 146 23 → DG (UB (a0 164)) (a0 146 22).toNat j) → (DG (UB (a0 164)) (a0 146 22).toNat (a 146 23).toNat) → (y5 = DV (UB (a0 164)) (SK (UB (a0 164)) (a0 146 22).toNat (a0 146 23).toNat) (y4.toNat + 1)) → jt (jxX E d 217 106 [some (.inr (.inr (.inl 146))), some (.inl y1), some (.inl y2), none, some (.inl y4), some (.inl y5)] [] (jxSH, a, b0)) (jQ_X12_number x1 x2 a0 b0) := fun y1 y2 y4 y5 a hlt i0 i1 i2 i3 i4 i5 i6 i7 i8 i9 i10 i11 i12 i13 i14 i15 i16 i17 i18 i19 i20 i21 => (ih _ hlt).1 y1 y2 y4 y5 a (Nat.le_refl _) i0 i1 i2 i3 i4 i5 i6 i7 i8 i9 i10 i11 i12 i13 i14 i15 i16 i17 i18 i19 i20 i21
  have ih80 : ∀ (y1 y2 y4 y5 : Int) (a : Nat → Nat → Int), ((((a 146 22) - (a 146 23)) * 1) + 0).toNat < n → iv a → jfr jW_X12_number a0 a → 1 ≤ a 146 22 → a 146 23 ≤ 199 → a 146 23 ≤ a 146 22 → a0 146 23 ≤ a 146 23 → y1 = x1 → y2 = x2 → 0 ≤ y4 → y4 ≤ a 146 23 → 0 ≤ y5 → y5 ≤ 999 → (y4 ≤ 2 → y5 ≤ 99) → (y4 ≤ 1 → y5 ≤ 9) → (y4 ≤ 0 → y5 ≤ 0) → a 146 23 < a 146 22 → 48 ≤ a 164 ((a 146 23).toNat) → a 164 ((a 146 23).toNat) ≤ 57 → a 146 24 = a0 146 24 → (DG (UB (a0 164)) (a0 146 22).toNat (SK (UB (a0 164)) (a0 146 22).toNat (a0 146 23).toNat)) → (a 146 27 = ((SK (UB (a0 164)) (a0 146 22).toNat (a0 146 23).toNat) : Int)) → (y4 + ((SK (UB (a0 164)) (a0 146 22).toNat (a0 146 23).toNat) : Int) = a 146 23) → (∀ j : Nat, (SK (UB (a0 164)) (a0 146 22).toNat (a0 146 23).toNat) ≤ j → (j : Int) < a 146 23 → DG (UB (a0 164)) (a0 146 22).toNat j) → (y5 = DV (UB (a0 164)) (SK (UB (a0 164)) (a0 146 22).toNat (a0 146 23).toNat) y4.toNat) → (DG (UB (a0 164)) (a0 146 22).toNat (a 146 23).toNat) → jt (jxX E d 217 80 [some (.inr (.inr (.inl 146))), some (.inl y1), some (.inl y2), none, some (.inl y4), some (.inl y5)] [] (jxSH, a, b0)) (jQ_X12_number x1 x2 a0 b0) := fun y1 y2 y4 y5 a hlt i0 i1 i2 i3 i4 i5 i6 i7 i8 i9 i10 i11 i12 i13 i14 i15 i16 i17 i18 i19 i20 i21 i22 i23 i24 => (ih _ hlt).2.1 y1 y2 y4 y5 a (Nat.le_refl _) i0 i1 i2 i3 i4 i5 i6 i7 i8 i9 i10 i11 i12 i13 i14 i15 i16 i17 i18 i19 i20 i21 i22 i23 i24
  have ih41 : ∀ (y1 y2 y4 y5 : Int) (a : Nat → Nat → Int), ((((a 146 22) - (a 146 23)) * 1) + 0).toNat < n → iv a → jfr jW_X12_number a0 a → a 146 23 ≤ a 146 22 → a0 146 23 ≤ a 146 23 → y1 = x1 → y2 = x2 → 0 ≤ y4 → y4 ≤ a 146 23 → 0 ≤ y5 → y5 ≤ 999 → (y4 ≤ 2 → y5 ≤ 99) → (y4 ≤ 1 → y5 ≤ 9) → (y4 ≤ 0 → y5 ≤ 0) → a 146 24 = a0 146 24 → (DG (UB (a0 164)) (a0 146 22).toNat (SK (UB (a0 164)) (a0 146 22).toNat (a0 146 23).toNat)) → (a 146 27 = ((SK (UB (a0 164)) (a0 146 22).toNat (a0 146 23).toNat) : Int)) → (y4 + ((SK (UB (a0 164)) (a0 146 22).toNat (a0 146 23).toNat) : Int) = a 146 23) → (∀ j : Nat, (SK (UB (a0 164)) (a0 146 22).toNat (a0 146 23).toNat) ≤ j → (j : Int) < a 146 23 → DG (UB (a0 164)) (a0 146 22).toNat j) → (y5 = DV (UB (a0 164)) (SK (UB (a0 164)) (a0 146 22).toNat (a0 146 23).toNat) y4.toNat) → jt (jxX E d 217 41 [some (.inr (.inr (.inl 146))), some (.inl y1), some (.inl y2), none, some (.inl y4), some (.inl y5)] [] (jxSH, a, b0)) (jQ_X12_number x1 x2 a0 b0) := fun y1 y2 y4 y5 a hlt i0 i1 i2 i3 i4 i5 i6 i7 i8 i9 i10 i11 i12 i13 i14 i15 i16 i17 i18 => (ih _ hlt).2.2 y1 y2 y4 y5 a (Nat.le_refl _) i0 i1 i2 i3 i4 i5 i6 i7 i8 i9 i10 i11 i12 i13 i14 i15 i16 i17 i18
  have hc106 : ∀ (y1 y2 y4 y5 : Int) (a : Nat → Nat → Int), ((((a 146 22) - (a 146 23)) * 1) + 0).toNat ≤ n → iv a → jfr jW_X12_number a0 a → 1 ≤ a 146 22 → a 146 23 ≤ 199 → a 146 23 ≤ a 146 22 → a0 146 23 ≤ a 146 23 → y1 = x1 → y2 = x2 → 0 ≤ y4 → y4 ≤ a 146 23 → 0 ≤ y5 → y5 ≤ 999 → (y4 ≤ 1 → y5 ≤ 99) → (y4 ≤ 0 → y5 ≤ 9) → a 146 23 < a 146 22 → a 146 24 = a0 146 24 → (DG (UB (a0 164)) (a0 146 22).toNat (SK (UB (a0 164)) (a0 146 22).toNat (a0 146 23).toNat)) → (a 146 27 = ((SK (UB (a0 164)) (a0 146 22).toNat (a0 146 23).toNat) : Int)) → (y4 + ((SK (UB (a0 164)) (a0 146 22).toNat (a0 146 23).toNat) : Int) = a 146 23) → (∀ j : Nat, (SK (UB (a0 164)) (a0 146 22).toNat (a0 146 23).toNat) ≤ j → (j : Int) < a 146 23 → DG (UB (a0 164)) (a0 146 22).toNat j) → (DG (UB (a0 164)) (a0 146 22).toNat (a 146 23).toNat) → (y5 = DV (UB (a0 164)) (SK (UB (a0 164)) (a0 146 22).toNat (a0 146 23).toNat) (y4.toNat + 1)) → jt (jxX E d 217 106 [some (.inr (.inr (.inl 146))), some (.inl y1), some (.inl y2), none, some (.inl y4), some (.inl y5)] [] (jxSH, a, b0)) (jQ_X12_number x1 x2 a0 b0) := by
    intro y1 y2 y4 y5 a hm hv hf hi0 hi1 hi2 hi3 hi4 hi5 hi6 hi7 hi8 hi9 hi10 hi11 hi12 hi13 hd0 hq hm4 hdg hd1 hdv
    refine jt_eq (bq_X12_number_106 E d y1 y2 y4 y5 a b0) ?_
    have h86_ := iv_get hv (k := 146) (j := 22) (l := 0) (u := 200) rfl
    have h87_ : a 146 22 = a0 146 22 := hf 146 22 rfl
    have h88_ := iv_get hv0 (k := 146) (j := 22) (l := 0) (u := 200) rfl
    have h89_ := iv_get hv (k := 146) (j := 23) (l := 0) (u := 200) rfl
    have h90_ := iv_get hv0 (k := 146) (j := 23) (l := 0) (u := 200) rfl
    have h4 : a 164 = a0 164 := funext fun j => hf 164 j rfl
    have h22 := hf 146 22 rfl
    have hub := UB_sp (g := a 164) (j := (a 146 23).toNat) (iv_get hv (k := 164) (j := (a 146 23).toNat) (l := -128) (u := 127) rfl).1 (iv_get hv (k := 164) (j := (a 146 23).toNat) (l := -128) (u := 127) rfl).2
    have h92_ : jxw ((a 146 23) + 1) = (a 146 23) + 1 := jxw_id (by omega) (by omega)
    have hv91_ : iv (jxu a 146 23 (jxw ((a 146 23) + 1))) := iv_put hv (l := 0) (u := 200) rfl (by omega) (by omega)
    have hf93_ : jfr jW_X12_number a0 (jxu a 146 23 (jxw ((a 146 23) + 1))) := jfr_put hf rfl
    have h94_ := jxw_im (y4 + 1)
    have h95_ := jxw_rg (y4 + 1)
    exact ih41 y1 y2 (jxw (y4 + 1)) y5 (jxu a 146 23 (jxw ((a 146 23) + 1))) (show ((((a 146 22) - (jxw ((a 146 23) + 1))) * 1) + 0).toNat < n from by omega) hv91_ hf93_ (show jxw ((a 146 23) + 1) ≤ a 146 22 from by omega) (show a0 146 23 ≤ jxw ((a 146 23) + 1) from by omega) (show y1 = x1 from by omega) (show y2 = x2 from by omega) (show 0 ≤ jxw (y4 + 1) from by omega) (show jxw (y4 + 1) ≤ jxw ((a 146 23) + 1) from by omega) (show 0 ≤ y5 from by omega) (show y5 ≤ 999 from by omega) (show (jxw (y4 + 1) ≤ 2 → y5 ≤ 99) from by omega) (show (jxw (y4 + 1) ≤ 1 → y5 ≤ 9) from by omega) (show (jxw (y4 + 1) ≤ 0 → y5 ≤ 0) from by omega) (show a 146 24 = a0 146 24 from by omega) (by first | exact hd0 | (have e := hq0_4; have h5 := hq0_5 (by omega); have e2 : (a0_ 146 23).toNat = _ := congrArg Int.toNat e; rw [Int.toNat_natCast] at e2; rw [e2] at h5; exact ⟨by omega, by omega, by omega⟩)) hq (by first | exact hm4 | (rw [hn]; omega) | (show jxw (y4 + 1) + _ = jxw ((a 146 23) + 1); omega)) (by first | exact (fun j h1 h2 => absurd h2 (by omega)) | exact (dg_ext hdg hd1 (by omega) (show jxw ((a 146 23) + 1) = a 146 23 + 1 by omega))) (by first | (rw [show y4.toNat = 0 from by omega]; rfl) | rfl | (rw [show (jxw (y4 + 1)).toNat = y4.toNat + 1 from by omega]; exact hdv))
  have hc80 : ∀ (y1 y2 y4 y5 : Int) (a : Nat → Nat → Int), ((((a 146 22) - (a 146 23)) * 1) + 0).toNat ≤ n → iv a → jfr jW_X12_number a0 a → 1 ≤ a 146 22 → a 146 23 ≤ 199 → a 146 23 ≤ a 146 22 → a0 146 23 ≤ a 146 23 → y1 = x1 → y2 = x2 → 0 ≤ y4 → y4 ≤ a 146 23 → 0 ≤ y5 → y5 ≤ 999 → (y4 ≤ 2 → y5 ≤ 99) → (y4 ≤ 1 → y5 ≤ 9) → (y4 ≤ 0 → y5 ≤ 0) → a 146 23 < a 146 22 → 48 ≤ a 164 ((a 146 23).toNat) → a 164 ((a 146 23).toNat) ≤ 57 → a 146 24 = a0 146 24 → (DG (UB (a0 164)) (a0 146 22).toNat (SK (UB (a0 164)) (a0 146 22).toNat (a0 146 23).toNat)) → (a 146 27 = ((SK (UB (a0 164)) (a0 146 22).toNat (a0 146 23).toNat) : Int)) → (y4 + ((SK (UB (a0 164)) (a0 146 22).toNat (a0 146 23).toNat) : Int) = a 146 23) → (∀ j : Nat, (SK (UB (a0 164)) (a0 146 22).toNat (a0 146 23).toNat) ≤ j → (j : Int) < a 146 23 → DG (UB (a0 164)) (a0 146 22).toNat j) → (y5 = DV (UB (a0 164)) (SK (UB (a0 164)) (a0 146 22).toNat (a0 146 23).toNat) y4.toNat) → (DG (UB (a0 164)) (a0 146 22).toNat (a 146 23).toNat) → jt (jxX E d 217 80 [some (.inr (.inr (.inl 146))), some (.inl y1), some (.inl y2), none, some (.inl y4), some (.inl y5)] [] (jxSH, a, b0)) (jQ_X12_number x1 x2 a0 b0) := by
    intro y1 y2 y4 y5 a hm hv hf hi0 hi1 hi2 hi3 hi4 hi5 hi6 hi7 hi8 hi9 hi10 hi11 hi12 hi13 hi14 hi15 hi16 hd0 hq hm4 hdg hdv hd1
    refine jt_eq (bq_X12_number_80 E d y1 y2 y4 y5 a b0) ?_
    have h96_ := iv_get hv (k := 146) (j := 22) (l := 0) (u := 200) rfl
    have h97_ : a 146 22 = a0 146 22 := hf 146 22 rfl
    have h98_ := iv_get hv0 (k := 146) (j := 22) (l := 0) (u := 200) rfl
    have h99_ := iv_get hv (k := 146) (j := 23) (l := 0) (u := 200) rfl
    have h100_ := iv_get hv0 (k := 146) (j := 23) (l := 0) (u := 200) rfl
    have h101_ := iv_get hv (k := 164) (j := (a 146 23).toNat) (l := (-128)) (u := 127) rfl
    have h102_ : a 164 ((a 146 23).toNat) = a0 164 ((a 146 23).toNat) := hf 164 ((a 146 23).toNat) rfl
    have h103_ := iv_get hv0 (k := 164) (j := (a 146 23).toNat) (l := (-128)) (u := 127) rfl
    have h4 : a 164 = a0 164 := funext fun j => hf 164 j rfl
    have h22 := hf 146 22 rfl
    have hub := UB_sp (g := a 164) (j := (a 146 23).toNat) (iv_get hv (k := 164) (j := (a 146 23).toNat) (l := -128) (u := 127) rfl).1 (iv_get hv (k := 164) (j := (a 146 23).toNat) (l := -128) (u := 127) rfl).2
    refine jt_ite (fun c104_ => ?_) (fun c104_ => ?_)
    ·
      refine jt_grd (by omega) ?_
      have h105_ : jxw (10 * y5) = 10 * y5 := jxw_id (by omega) (by omega)
      have h106_ : jxw ((jxw (10 * y5)) + (a 164 ((a 146 23).toNat))) = (jxw (10 * y5)) + (a 164 ((a 146 23).toNat)) := jxw_id (by omega) (by omega)
      have h107_ : jxw ((jxw ((jxw (10 * y5)) + (a 164 ((a 146 23).toNat)))) - 48) = (jxw ((jxw (10 * y5)) + (a 164 ((a 146 23).toNat)))) - 48 := jxw_id (by omega) (by omega)
      exact hc106 y1 y2 y4 (jxw ((jxw ((jxw (10 * y5)) + (a 164 ((a 146 23).toNat)))) - 48)) a (show ((((a 146 22) - (a 146 23)) * 1) + 0).toNat ≤ n from by omega) hv hf (show 1 ≤ a 146 22 from by omega) (show a 146 23 ≤ 199 from by omega) (show a 146 23 ≤ a 146 22 from by omega) (show a0 146 23 ≤ a 146 23 from by omega) (show y1 = x1 from by omega) (show y2 = x2 from by omega) (show 0 ≤ y4 from by omega) (show y4 ≤ a 146 23 from by omega) (show 0 ≤ jxw ((jxw ((jxw (10 * y5)) + (a 164 ((a 146 23).toNat)))) - 48) from by omega) (show jxw ((jxw ((jxw (10 * y5)) + (a 164 ((a 146 23).toNat)))) - 48) ≤ 999 from by omega) (show (y4 ≤ 1 → jxw ((jxw ((jxw (10 * y5)) + (a 164 ((a 146 23).toNat)))) - 48) ≤ 99) from by omega) (show (y4 ≤ 0 → jxw ((jxw ((jxw (10 * y5)) + (a 164 ((a 146 23).toNat)))) - 48) ≤ 9) from by omega) (show a 146 23 < a 146 22 from by omega) (show a 146 24 = a0 146 24 from by omega) (by first | exact hd0 | (have e := hq0_4; have h5 := hq0_5 (by omega); have e2 : (a0_ 146 23).toNat = _ := congrArg Int.toNat e; rw [Int.toNat_natCast] at e2; rw [e2] at h5; exact ⟨by omega, by omega, by omega⟩)) hq hm4 hdg hd1 (by first | (rw [DV_lt (by omega), ← hdv, show (SK (UB (a0 164)) (a0 146 22).toNat (a0 146 23).toNat) + y4.toNat = (a 146 23).toNat from by omega, ← h4]; have hd2 := hd1; rw [← h4] at hd2; obtain ⟨q1, q2, q3⟩ := hd2; omega) | (rw [DV_ge (by omega)]; exact hdv))
    ·
      exact hc106 y1 y2 y4 y5 a (show ((((a 146 22) - (a 146 23)) * 1) + 0).toNat ≤ n from by omega) hv hf (show 1 ≤ a 146 22 from by omega) (show a 146 23 ≤ 199 from by omega) (show a 146 23 ≤ a 146 22 from by omega) (show a0 146 23 ≤ a 146 23 from by omega) (show y1 = x1 from by omega) (show y2 = x2 from by omega) (show 0 ≤ y4 from by omega) (show y4 ≤ a 146 23 from by omega) (show 0 ≤ y5 from by omega) (show y5 ≤ 999 from by omega) (show (y4 ≤ 1 → y5 ≤ 99) from by omega) (show (y4 ≤ 0 → y5 ≤ 9) from by omega) (show a 146 23 < a 146 22 from by omega) (show a 146 24 = a0 146 24 from by omega) (by first | exact hd0 | (have e := hq0_4; have h5 := hq0_5 (by omega); have e2 : (a0_ 146 23).toNat = _ := congrArg Int.toNat e; rw [Int.toNat_natCast] at e2; rw [e2] at h5; exact ⟨by omega, by omega, by omega⟩)) hq hm4 hdg hd1 (by first | (rw [DV_lt (by omega), ← hdv, show (SK (UB (a0 164)) (a0 146 22).toNat (a0 146 23).toNat) + y4.toNat = (a 146 23).toNat from by omega, ← h4]; have hd2 := hd1; rw [← h4] at hd2; obtain ⟨q1, q2, q3⟩ := hd2; omega) | (rw [DV_ge (by omega)]; exact hdv))
  have hc41 : ∀ (y1 y2 y4 y5 : Int) (a : Nat → Nat → Int), ((((a 146 22) - (a 146 23)) * 1) + 0).toNat ≤ n → iv a → jfr jW_X12_number a0 a → a 146 23 ≤ a 146 22 → a0 146 23 ≤ a 146 23 → y1 = x1 → y2 = x2 → 0 ≤ y4 → y4 ≤ a 146 23 → 0 ≤ y5 → y5 ≤ 999 → (y4 ≤ 2 → y5 ≤ 99) → (y4 ≤ 1 → y5 ≤ 9) → (y4 ≤ 0 → y5 ≤ 0) → a 146 24 = a0 146 24 → (DG (UB (a0 164)) (a0 146 22).toNat (SK (UB (a0 164)) (a0 146 22).toNat (a0 146 23).toNat)) → (a 146 27 = ((SK (UB (a0 164)) (a0 146 22).toNat (a0 146 23).toNat) : Int)) → (y4 + ((SK (UB (a0 164)) (a0 146 22).toNat (a0 146 23).toNat) : Int) = a 146 23) → (∀ j : Nat, (SK (UB (a0 164)) (a0 146 22).toNat (a0 146 23).toNat) ≤ j → (j : Int) < a 146 23 → DG (UB (a0 164)) (a0 146 22).toNat j) → (y5 = DV (UB (a0 164)) (SK (UB (a0 164)) (a0 146 22).toNat (a0 146 23).toNat) y4.toNat) → jt (jxX E d 217 41 [some (.inr (.inr (.inl 146))), some (.inl y1), some (.inl y2), none, some (.inl y4), some (.inl y5)] [] (jxSH, a, b0)) (jQ_X12_number x1 x2 a0 b0) := by
    intro y1 y2 y4 y5 a hm hv hf hi0 hi1 hi2 hi3 hi4 hi5 hi6 hi7 hi8 hi9 hi10 hi11 hd0 hq hm4 hdg hdv
    refine jt_eq (bq_X12_number_41 E d y1 y2 y4 y5 a b0) ?_
    have h108_ := iv_get hv (k := 146) (j := 23) (l := 0) (u := 200) rfl
    have h109_ := iv_get hv (k := 146) (j := 22) (l := 0) (u := 200) rfl
    have h110_ : a 146 22 = a0 146 22 := hf 146 22 rfl
    have h111_ := iv_get hv0 (k := 146) (j := 22) (l := 0) (u := 200) rfl
    have h112_ := iv_get hv0 (k := 146) (j := 23) (l := 0) (u := 200) rfl
    have h4 : a 164 = a0 164 := funext fun j => hf 164 j rfl
    have h22 := hf 146 22 rfl
    have hub := UB_sp (g := a 164) (j := (a 146 23).toNat) (iv_get hv (k := 164) (j := (a 146 23).toNat) (l := -128) (u := 127) rfl).1 (iv_get hv (k := 164) (j := (a 146 23).toNat) (l := -128) (u := 127) rfl).2
    refine jt_ite (fun c113_ => ?_) (fun c113_ => ?_)
    ·
      refine jt_grd (by omega) ?_
      have h114_ := iv_get hv (k := 164) (j := (a 146 23).toNat) (l := (-128)) (u := 127) rfl
      have h115_ : a 164 ((a 146 23).toNat) = a0 164 ((a 146 23).toNat) := hf 164 ((a 146 23).toNat) rfl
      have h116_ := iv_get hv0 (k := 164) (j := (a 146 23).toNat) (l := (-128)) (u := 127) rfl
      refine jt_ite (fun c117_ => ?_) (fun c117_ => ?_)
      ·
        exact cp_X12_number_122 E d hd x1 x2 a0 b0 hv0 hp0 y1 y2 y4 y5 a hv hf (show a 146 23 ≤ a 146 22 from by omega) (show a0 146 23 ≤ a 146 23 from by omega) (show y1 = x1 from by omega) (show y2 = x2 from by omega) (show 0 ≤ y5 from by omega) (show y5 ≤ 999 from by omega) (show a 146 24 = a0 146 24 from by omega) (by first | exact hd0 | (have e := hq0_4; have h5 := hq0_5 (by omega); have e2 : (a0_ 146 23).toNat = _ := congrArg Int.toNat e; rw [Int.toNat_natCast] at e2; rw [e2] at h5; exact ⟨by omega, by omega, by omega⟩)) hq hm4 (DE_un (q := (a 146 23).toNat) (by omega) (fun j h1 h2 => hdg j h1 (by omega)) (fun h => by rw [← h4] at h; obtain ⟨q1, q2, q3⟩ := h; omega)) (by unfold NV; rw [(DE_un (q := (a 146 23).toNat) (by omega) (fun j h1 h2 => hdg j h1 (by omega)) (fun h => by rw [← h4] at h; obtain ⟨q1, q2, q3⟩ := h; omega)), show (a 146 23).toNat - (SK (UB (a0 164)) (a0 146 22).toNat (a0 146 23).toNat) = y4.toNat from by omega]; exact hdv)
      ·
        refine jt_grd (by omega) ?_
        refine jt_ite (fun c118_ => ?_) (fun c118_ => ?_)
        ·
          exact cp_X12_number_122 E d hd x1 x2 a0 b0 hv0 hp0 y1 y2 y4 y5 a hv hf (show a 146 23 ≤ a 146 22 from by omega) (show a0 146 23 ≤ a 146 23 from by omega) (show y1 = x1 from by omega) (show y2 = x2 from by omega) (show 0 ≤ y5 from by omega) (show y5 ≤ 999 from by omega) (show a 146 24 = a0 146 24 from by omega) (by first | exact hd0 | (have e := hq0_4; have h5 := hq0_5 (by omega); have e2 : (a0_ 146 23).toNat = _ := congrArg Int.toNat e; rw [Int.toNat_natCast] at e2; rw [e2] at h5; exact ⟨by omega, by omega, by omega⟩)) hq hm4 (DE_un (q := (a 146 23).toNat) (by omega) (fun j h1 h2 => hdg j h1 (by omega)) (fun h => by rw [← h4] at h; obtain ⟨q1, q2, q3⟩ := h; omega)) (by unfold NV; rw [(DE_un (q := (a 146 23).toNat) (by omega) (fun j h1 h2 => hdg j h1 (by omega)) (fun h => by rw [← h4] at h; obtain ⟨q1, q2, q3⟩ := h; omega)), show (a 146 23).toNat - (SK (UB (a0 164)) (a0 146 22).toNat (a0 146 23).toNat) = y4.toNat from by omega]; exact hdv)
        ·
          exact hc80 y1 y2 y4 y5 a (show ((((a 146 22) - (a 146 23)) * 1) + 0).toNat ≤ n from by omega) hv hf (show 1 ≤ a 146 22 from by omega) (show a 146 23 ≤ 199 from by omega) (show a 146 23 ≤ a 146 22 from by omega) (show a0 146 23 ≤ a 146 23 from by omega) (show y1 = x1 from by omega) (show y2 = x2 from by omega) (show 0 ≤ y4 from by omega) (show y4 ≤ a 146 23 from by omega) (show 0 ≤ y5 from by omega) (show y5 ≤ 999 from by omega) (show (y4 ≤ 2 → y5 ≤ 99) from by omega) (show (y4 ≤ 1 → y5 ≤ 9) from by omega) (show (y4 ≤ 0 → y5 ≤ 0) from by omega) (show a 146 23 < a 146 22 from by omega) (show 48 ≤ a 164 ((a 146 23).toNat) from by omega) (show a 164 ((a 146 23).toNat) ≤ 57 from by omega) (show a 146 24 = a0 146 24 from by omega) (by first | exact hd0 | (have e := hq0_4; have h5 := hq0_5 (by omega); have e2 : (a0_ 146 23).toNat = _ := congrArg Int.toNat e; rw [Int.toNat_natCast] at e2; rw [e2] at h5; exact ⟨by omega, by omega, by omega⟩)) hq hm4 hdg hdv (by rw [← h4]; exact ⟨by omega, by omega, by omega⟩)
    ·
      exact cp_X12_number_122 E d hd x1 x2 a0 b0 hv0 hp0 y1 y2 y4 y5 a hv hf (show a 146 23 ≤ a 146 22 from by omega) (show a0 146 23 ≤ a 146 23 from by omega) (show y1 = x1 from by omega) (show y2 = x2 from by omega) (show 0 ≤ y5 from by omega) (show y5 ≤ 999 from by omega) (show a 146 24 = a0 146 24 from by omega) (by first | exact hd0 | (have e := hq0_4; have h5 := hq0_5 (by omega); have e2 : (a0_ 146 23).toNat = _ := congrArg Int.toNat e; rw [Int.toNat_natCast] at e2; rw [e2] at h5; exact ⟨by omega, by omega, by omega⟩)) hq hm4 (DE_un (q := (a 146 23).toNat) (by omega) (fun j h1 h2 => hdg j h1 (by omega)) (fun h => by rw [← h4] at h; obtain ⟨q1, q2, q3⟩ := h; omega)) (by unfold NV; rw [(DE_un (q := (a 146 23).toNat) (by omega) (fun j h1 h2 => hdg j h1 (by omega)) (fun h => by rw [← h4] at h; obtain ⟨q1, q2, q3⟩ := h; omega)), show (a 146 23).toNat - (SK (UB (a0 164)) (a0 146 22).toNat (a0 146 23).toNat) = y4.toNat from by omega]; exact hdv)
  exact ⟨hc106, hc80, hc41⟩
theorem cp_X12_number_38 (E : jxE) (d : Nat) (hd : Nat.ble 2 (d + 1) = true) (x1 x2 : Int) (a0 b0 : Nat → Nat → Int) (hv0 : iv a0) (hp0 : a0 146 23 ≤ a0 146 22) : ∀ (y1 y2 y4 : Int) (a : Nat → Nat → Int), iv a → jfr jW_X12_number a0 a → 0 ≤ y4 → y4 ≤ 0 → a 146 23 ≤ a 146 22 → a0 146 23 ≤ a 146 23 → y1 = x1 → y2 = x2 → y4 = 0 → a 146 24 = a0 146 24 → (DG (UB (a0 164)) (a0 146 22).toNat (SK (UB (a0 164)) (a0 146 22).toNat (a0 146 23).toNat)) → (a 146 27 = ((SK (UB (a0 164)) (a0 146 22).toNat (a0 146 23).toNat) : Int)) → (a 146 23 = ((SK (UB (a0 164)) (a0 146 22).toNat (a0 146 23).toNat) : Int)) → jt (jxX E d 217 38 [some (.inr (.inr (.inl 146))), some (.inl y1), some (.inl y2), none, some (.inl y4), none] [] (jxSH, a, b0)) (jQ_X12_number x1 x2 a0 b0) := by
  intro y1 y2 y4 a hv hf hi0 hi1 hi2 hi3 hi4 hi5 hi6 hi7 hd0 hq hn
  refine jt_eq (bq_X12_number_38 E d y1 y2 y4 a b0) ?_
  have h119_ := iv_get hv (k := 146) (j := 23) (l := 0) (u := 200) rfl
  have h120_ := iv_get hv (k := 146) (j := 22) (l := 0) (u := 200) rfl
  have h121_ : a 146 22 = a0 146 22 := hf 146 22 rfl
  have h122_ := iv_get hv0 (k := 146) (j := 22) (l := 0) (u := 200) rfl
  have h123_ := iv_get hv0 (k := 146) (j := 23) (l := 0) (u := 200) rfl
  have h4 : a 164 = a0 164 := funext fun j => hf 164 j rfl
  have h22 := hf 146 22 rfl
  have hub := UB_sp (g := a 164) (j := (a 146 23).toNat) (iv_get hv (k := 164) (j := (a 146 23).toNat) (l := -128) (u := 127) rfl).1 (iv_get hv (k := 164) (j := (a 146 23).toNat) (l := -128) (u := 127) rfl).2
  exact (cp_X12_number_41 E d hd x1 x2 a0 b0 hv0 hp0 _).2.2 y1 y2 y4 0 a (Nat.le_refl _) hv hf (show a 146 23 ≤ a 146 22 from by omega) (show a0 146 23 ≤ a 146 23 from by omega) (show y1 = x1 from by omega) (show y2 = x2 from by omega) (show 0 ≤ y4 from by omega) (show y4 ≤ a 146 23 from by omega) (show 0 ≤ 0 from by omega) (show 0 ≤ 999 from by omega) (show (y4 ≤ 2 → 0 ≤ 99) from by omega) (show (y4 ≤ 1 → 0 ≤ 9) from by omega) (show (y4 ≤ 0 → 0 ≤ 0) from by omega) (show a 146 24 = a0 146 24 from by omega) (by first | exact hd0 | (have e := hq0_4; have h5 := hq0_5 (by omega); have e2 : (a0_ 146 23).toNat = _ := congrArg Int.toNat e; rw [Int.toNat_natCast] at e2; rw [e2] at h5; exact ⟨by omega, by omega, by omega⟩)) hq (by first | exact hm4 | (rw [hn]; omega) | (show jxw (y4 + 1) + _ = jxw ((a 146 23) + 1); omega)) (by first | exact (fun j h1 h2 => absurd h2 (by omega)) | exact (dg_ext hdg hd1 (by omega) (show jxw ((a 146 23) + 1) = a 146 23 + 1 by omega))) (by first | (rw [show y4.toNat = 0 from by omega]; rfl) | rfl | (rw [show (jxw (y4 + 1)).toNat = y4.toNat + 1 from by omega]; exact hdv))
theorem sp_X12_number (E : jxE) (d : Nat) (hd : Nat.ble 2 d = true) (x1 x2 : Int) (a0 b0 : Nat → Nat → Int) (hv0 : iv a0) (hp0 : a0 146 23 ≤ a0 146 22) : jt (jxC E d 217 [.inr (.inr (.inl 146)), .inl x1, .inl x2] (jxSH, a0, b0)) (jQ_X12_number x1 x2 a0 b0) := by
  obtain ⟨d, rfl⟩ := jd_succ hd
  refine jt_eq (bq_X12_number E d x1 x2 a0 b0) ?_
  have h124_ := iv_get hv0 (k := 146) (j := 23) (l := 0) (u := 200) rfl
  have h125_ := iv_get hv0 (k := 146) (j := 22) (l := 0) (u := 200) rfl
  refine jt_bI (sp_X12_see E d (jd_le hd rfl) a0 b0 hv0 (show a0 146 23 ≤ a0 146 22 from by omega)) (fun r126_ a126_ b126_ h126_ => ?_)
  obtain ⟨hv126_, hf126_, rfl, hq126_0, hq126_1, hq126_2, hq126_3, hq126_4, hq126_5⟩ := h126_
  have h127_ := iv_get hv126_ (k := 146) (j := 23) (l := 0) (u := 200) rfl
  have h128_ := iv_get hv126_ (k := 164) (j := (a126_ 146 23).toNat) (l := (-128)) (u := 127) rfl
  have h129_ : a126_ 164 ((a126_ 146 23).toNat) = a0 164 ((a126_ 146 23).toNat) := hf126_ 164 ((a126_ 146 23).toNat) rfl
  have h130_ := iv_get hv0 (k := 164) (j := (a126_ 146 23).toNat) (l := (-128)) (u := 127) rfl
  have h131_ := iv_get hv0 (k := 164) (j := (a0 146 23).toNat) (l := (-128)) (u := 127) rfl
  have h22_126 := hf126_ 146 22 rfl
  have h24_126 := hf126_ 146 24 rfl
  refine jt_ite (fun c132_ => ?_) (fun c132_ => ?_)
  ·
    refine jt_bI (sp_X12_fails E d (jd_le hd rfl) 0 (a126_ 146 23) a126_ b0 hv126_) (fun r133_ a133_ b133_ h133_ => ?_)
    obtain ⟨hv133_, hf133_, rfl, hq133_0, hq133_1, hq133_2, hq133_3⟩ := h133_
    have h134_ : a126_ 146 24 = a0 146 24 := hf126_ 146 24 rfl
    have h23_133 := hf133_ 146 23 rfl
    refine jt_grd (by omega) ?_
    have hf135_ : jfr jW_X12_number a0 a126_ := jfr_tr (jfr_rf _ _) hf126_ rfl
    have hf136_ : jfr jW_X12_number a0 a133_ := jfr_tr hf135_ hf133_ rfl
    have h137_ := iv_get hv133_ (k := 146) (j := 23) (l := 0) (u := 200) rfl
    have h138_ : a133_ 146 23 = a126_ 146 23 := hf133_ 146 23 rfl
    have h139_ := iv_get hv133_ (k := 146) (j := 26) (l := 0) (u := 999) rfl
    have h140_ : a133_ 146 26 = a126_ 146 26 := hf133_ 146 26 rfl
    have h141_ := iv_get hv126_ (k := 146) (j := 26) (l := 0) (u := 999) rfl
    have h142_ : a126_ 146 26 = a0 146 26 := hf126_ 146 26 rfl
    have h143_ := iv_get hv0 (k := 146) (j := 26) (l := 0) (u := 999) rfl
    exact jt_rI ⟨hv133_, hf136_, rfl, (show (0 ≤ r133_ ∧ r133_ ≤ 1) from by omega), (show a0 146 23 ≤ a133_ 146 23 from by omega), (show a133_ 146 23 ≤ a0 146 22 from by omega), (show (r133_ = 1 → (x1 ≤ a133_ 146 26 ∧ a133_ 146 26 ≤ x2)) from by omega), (by first | exact (fun h => absurd h (by omega)) | exact (fun _ => ⟨by have hz := (DE_sp (UB (a0 164)) (a0 146 22).toNat (SK (UB (a0 164)) (a0 146 22).toNat (a0 146 23).toNat)).2.2.1; unfold NF; rw [if_neg (fun h => hz (by rw [h]; exact hd0)), if_neg (by rw [hde, ← hnv]; omega)], hnv, by rw [hde]; show a 146 23 = _; omega, by show a 146 24 = _; omega⟩)), (by first | exact (fun h => absurd h (by decide)) | exact (fun _ => ⟨by rw [hnf]; omega, by rw [hnf]; split <;> omega⟩) | (intro _; have e := hq126_4; have hnd : ¬ DG (UB (a0 164)) (a0 146 22).toNat (SK (UB (a0 164)) (a0 146 22).toNat (a0 146 23).toNat) := (fun hd => by have e2 : (a126_ 146 23).toNat = _ := congrArg Int.toNat e; rw [Int.toNat_natCast] at e2; obtain ⟨q1, q2, q3⟩ := hd; have h5 := hq126_5; rw [e2] at h5; omega); rw [NF_none hnd]; exact ⟨by omega, by split <;> omega⟩))⟩
  ·
    refine jt_ite (fun c144_ => ?_) (fun c144_ => ?_)
    ·
      refine jt_bI (sp_X12_fails E d (jd_le hd rfl) 0 (a126_ 146 23) a126_ b0 hv126_) (fun r145_ a145_ b145_ h145_ => ?_)
      obtain ⟨hv145_, hf145_, rfl, hq145_0, hq145_1, hq145_2, hq145_3⟩ := h145_
      have h146_ : a126_ 146 24 = a0 146 24 := hf126_ 146 24 rfl
      have h23_145 := hf145_ 146 23 rfl
      refine jt_grd (by omega) ?_
      have hf147_ : jfr jW_X12_number a0 a126_ := jfr_tr (jfr_rf _ _) hf126_ rfl
      have hf148_ : jfr jW_X12_number a0 a145_ := jfr_tr hf147_ hf145_ rfl
      have h149_ := iv_get hv145_ (k := 146) (j := 23) (l := 0) (u := 200) rfl
      have h150_ : a145_ 146 23 = a126_ 146 23 := hf145_ 146 23 rfl
      have h151_ := iv_get hv145_ (k := 146) (j := 26) (l := 0) (u := 999) rfl
      have h152_ : a145_ 146 26 = a126_ 146 26 := hf145_ 146 26 rfl
      have h153_ := iv_get hv126_ (k := 146) (j := 26) (l := 0) (u := 999) rfl
      have h154_ : a126_ 146 26 = a0 146 26 := hf126_ 146 26 rfl
      have h155_ := iv_get hv0 (k := 146) (j := 26) (l := 0) (u := 999) rfl
      exact jt_rI ⟨hv145_, hf148_, rfl, (show (0 ≤ r145_ ∧ r145_ ≤ 1) from by omega), (show a0 146 23 ≤ a145_ 146 23 from by omega), (show a145_ 146 23 ≤ a0 146 22 from by omega), (show (r145_ = 1 → (x1 ≤ a145_ 146 26 ∧ a145_ 146 26 ≤ x2)) from by omega), (by first | exact (fun h => absurd h (by omega)) | exact (fun _ => ⟨by have hz := (DE_sp (UB (a0 164)) (a0 146 22).toNat (SK (UB (a0 164)) (a0 146 22).toNat (a0 146 23).toNat)).2.2.1; unfold NF; rw [if_neg (fun h => hz (by rw [h]; exact hd0)), if_neg (by rw [hde, ← hnv]; omega)], hnv, by rw [hde]; show a 146 23 = _; omega, by show a 146 24 = _; omega⟩)), (by first | exact (fun h => absurd h (by decide)) | exact (fun _ => ⟨by rw [hnf]; omega, by rw [hnf]; split <;> omega⟩) | (intro _; have e := hq126_4; have hnd : ¬ DG (UB (a0 164)) (a0 146 22).toNat (SK (UB (a0 164)) (a0 146 22).toNat (a0 146 23).toNat) := (fun hd => by have e2 : (a126_ 146 23).toNat = _ := congrArg Int.toNat e; rw [Int.toNat_natCast] at e2; obtain ⟨q1, q2, q3⟩ := hd; have h5 := hq126_5; rw [e2] at h5; omega); rw [NF_none hnd]; exact ⟨by omega, by split <;> omega⟩))⟩
    ·
      have hv156_ : iv (jxu a126_ 146 27 (a126_ 146 23)) := iv_putf hv126_ rfl
      have hf157_ : jfr jW_X12_number a0 a126_ := jfr_tr (jfr_rf _ _) hf126_ rfl
      have hf158_ : jfr jW_X12_number a0 (jxu a126_ 146 27 (a126_ 146 23)) := jfr_put hf157_ rfl
      have h159_ := iv_get hv126_ (k := 146) (j := 22) (l := 0) (u := 200) rfl
      have h160_ : a126_ 146 22 = a0 146 22 := hf126_ 146 22 rfl
      have h161_ : a126_ 146 24 = a0 146 24 := hf126_ 146 24 rfl
      exact cp_X12_number_38 E d hd x1 x2 a0 b0 hv0 hp0 x1 x2 0 (jxu a126_ 146 27 (a126_ 146 23)) hv156_ hf158_ (show 0 ≤ 0 from by omega) (show 0 ≤ 0 from by omega) (show a126_ 146 23 ≤ a126_ 146 22 from by omega) (show a0 146 23 ≤ a126_ 146 23 from by omega) (show x1 = x1 from by omega) (show x2 = x2 from by omega) (show 0 = 0 from by omega) (show a126_ 146 24 = a0 146 24 from by omega) (by first | exact hd0 | (have e := hq126_4; have h5 := hq126_5 (by omega); have e2 : (a126_ 146 23).toNat = _ := congrArg Int.toNat e; rw [Int.toNat_natCast] at e2; rw [e2] at h5; exact ⟨by omega, by omega, by omega⟩)) (by have e := hq126_4; exact e) (by have e := hq126_4; exact e)
def jW_X12_wordHere : List (Nat × Nat) := [(146, 23), (146, 25)]
abbrev jQ_X12_wordHere (a0 b0 : Nat → Nat → Int) : List jxV → (Nat → Nat → Int) → (Nat → Nat → Int) → Prop := rI (fun r a b => (iv a) ∧ (jfr jW_X12_wordHere a0 a) ∧ (b0 = b) ∧ ((a 146 23) + (a 146 25) ≤ a 146 22) ∧ (a0 146 23 ≤ a 146 23) ∧ (0 - 1 ≤ r) ∧ (r ≤ 15) ∧ ((r = 2 → a 146 25 = 3)) ∧ ((0 ≤ r → 2 ≤ a 146 25)) ∧ (((a0 146 23 < a0 146 22 ∧ ¬ a0 164 ((a0 146 23).toNat) = 32) → a 146 23 = a0 146 23)) ∧ (a 146 23 = ((SK (UB (a0 164)) (a0 146 22).toNat (a0 146 23).toNat) : Int)) ∧ (∀ w : Nat, w < 16 → (TW (UB (a0 164)) (a0 146 22).toNat (SK (UB (a0 164)) (a0 146 22).toNat (a0 146 23).toNat) w ↔ r = (w : Int))) ∧ (0 ≤ r → a 146 25 = (wdn r.toNat : Int)))
theorem cp_X12_wordHere_79 (E : jxE) (d : Nat) (hd : Nat.ble 2 (d + 1) = true) (a0 b0 : Nat → Nat → Int) (hv0 : iv a0) (hp0 : a0 146 23 ≤ a0 146 22) : ∀ n : Nat, (∀ (y1 y2 y4 : Int) (a : Nat → Nat → Int), (((((16 - y1) * 17) + 0) + ((6 - y4) * 1)) + 0).toNat ≤ n → iv a → jfr jW_X12_wordHere a0 a → 0 ≤ y1 → y1 ≤ 15 → 1 ≤ y2 → y2 ≤ 6 → 0 ≤ y4 → y4 ≤ 5 → a 146 25 ≤ 6 → (a 146 23) + (a 146 25) ≤ a 146 22 → a0 146 23 ≤ a 146 23 → 2 ≤ y2 → (y1 = 2 → y2 = 3) → y2 = a 146 25 → y4 < y2 → ((a0 146 23 < a0 146 22 ∧ ¬ a0 164 ((a0 146 23).toNat) = 32) → a 146 23 = a0 146 23) → (a 146 23 = ((SK (UB (a0 164)) (a0 146 22).toNat (a0 146 23).toNat) : Int)) → (∀ k : Nat, (k : Int) < a 146 25 → LT (UB (a0 164)) (a0 146 22).toNat ((SK (UB (a0 164)) (a0 146 22).toNat (a0 146 23).toNat) + k)) → (¬ LT (UB (a0 164)) (a0 146 22).toNat ((SK (UB (a0 164)) (a0 146 22).toNat (a0 146 23).toNat) + (a 146 25).toNat)) → (∀ v : Nat, (v : Int) < y1 → v < 16 → ¬ TW (UB (a0 164)) (a0 146 22).toNat (SK (UB (a0 164)) (a0 146 22).toNat (a0 146 23).toNat) v) → (y2 = (wdn y1.toNat : Int)) → (y2 = a 146 25) → (∀ k : Nat, (k : Int) < y4 + 1 → (UB (a0 164)) ((SK (UB (a0 164)) (a0 146 22).toNat (a0 146 23).toNat) + k) = (wdl y1.toNat).getD k 0) → jt (jxX E d 216 176 [some (.inr (.inr (.inl 146))), some (.inl y1), some (.inl y2), none, some (.inl y4)] [] (jxSH, a, b0)) (jQ_X12_wordHere a0 b0)) ∧ (∀ (y1 y2 y4 : Int) (a : Nat → Nat → Int), (((((16 - y1) * 17) + 0) + ((6 - y4) * 1)) + 0).toNat ≤ n → iv a → jfr jW_X12_wordHere a0 a → 0 ≤ y1 → y1 ≤ 15 → 1 ≤ y2 → y2 ≤ 6 → 0 ≤ y4 → y4 ≤ 5 → a 146 25 ≤ 6 → (a 146 23) + (a 146 25) ≤ a 146 22 → a0 146 23 ≤ a 146 23 → 2 ≤ y2 → (y1 = 2 → y2 = 3) → y2 = a 146 25 → y4 < y2 → ((a0 146 23 < a0 146 22 ∧ ¬ a0 164 ((a0 146 23).toNat) = 32) → a 146 23 = a0 146 23) → (a 146 23 = ((SK (UB (a0 164)) (a0 146 22).toNat (a0 146 23).toNat) : Int)) → (∀ k : Nat, (k : Int) < a 146 25 → LT (UB (a0 164)) (a0 146 22).toNat ((SK (UB (a0 164)) (a0 146 22).toNat (a0 146 23).toNat) + k)) → (¬ LT (UB (a0 164)) (a0 146 22).toNat ((SK (UB (a0 164)) (a0 146 22).toNat (a0 146 23).toNat) + (a 146 25).toNat)) → (∀ v : Nat, (v : Int) < y1 → v < 16 → ¬ TW (UB (a0 164)) (a0 146 22).toNat (SK (UB (a0 164)) (a0 146 22).toNat (a0 146 23).toNat) v) → (y2 = (wdn y1.toNat : Int)) → (¬ TW (UB (a0 164)) (a0 146 22).toNat (SK (UB (a0 164)) (a0 146 22).toNat (a0 146 23).toNat) y1.toNat) → jt (jxX E d 216 180 [some (.inr (.inr (.inl 146))), some (.inl y1), some (.inl y2), none, some (.inl y4)] [] (jxSH, a, b0)) (jQ_X12_wordHere a0 b0)) ∧ (∀ (y1 y2 y3 y4 : Int) (a : Nat → Nat → Int), (((((16 - y1) * 17) + 0) + ((6 - y4) * 1)) + 0).toNat ≤ n → iv a → jfr jW_X12_wordHere a0 a → 0 ≤ y1 → y1 ≤ 15 → 0 ≤ y2 → y2 ≤ 6 → 0 ≤ y3 → y3 ≤ 1 → 0 ≤ y4 → y4 ≤ 6 → a 146 25 ≤ 6 → (a 146 23) + (a 146 25) ≤ a 146 22 → a0 146 23 ≤ a 146 23 → 2 ≤ y2 → (y1 = 2 → y2 = 3) → (y3 = 0 ∨ y2 = a 146 25) → (y3 = 0 ∨ y3 = 1) → ((a0 146 23 < a0 146 22 ∧ ¬ a0 164 ((a0 146 23).toNat) = 32) → a 146 23 = a0 146 23) → (a 146 23 = ((SK (UB (a0 164)) (a0 146 22).toNat (a0 146 23).toNat) : Int)) → (∀ k : Nat, (k : Int) < a 146 25 → LT (UB (a0 164)) (a0 146 22).toNat ((SK (UB (a0 164)) (a0 146 22).toNat (a0 146 23).toNat) + k)) → (¬ LT (UB (a0 164)) (a0 146 22).toNat ((SK (UB (a0 164)) (a0 146 22).toNat (a0 146 23).toNat) + (a 146 25).toNat)) → (∀ v : Nat, (v : Int) < y1 → v < 16 → ¬ TW (UB (a0 164)) (a0 146 22).toNat (SK (UB (a0 164)) (a0 146 22).toNat (a0 146 23).toNat) v) → (y2 = (wdn y1.toNat : Int)) → ((y3 = 0 ∧ ¬ TW (UB (a0 164)) (a0 146 22).toNat (SK (UB (a0 164)) (a0 146 22).toNat (a0 146 23).toNat) y1.toNat) ∨ (y3 = 1 ∧ y2 = a 146 25 ∧ ∀ k : Nat, (k : Int) < y4 → (UB (a0 164)) ((SK (UB (a0 164)) (a0 146 22).toNat (a0 146 23).toNat) + k) = (wdl y1.toNat).getD k 0)) → jt (jxX E d 216 139 [some (.inr (.inr (.inl 146))), some (.inl y1), some (.inl y2), some (.inl y3), some (.inl y4)] [] (jxSH, a, b0)) (jQ_X12_wordHere a0 b0)) ∧ (∀ (y1 y2 : Int) (a : Nat → Nat → Int), (((16 - y1) * 17) + 8).toNat ≤ n → iv a → jfr jW_X12_wordHere a0 a → 0 ≤ y1 → y1 ≤ 15 → 0 ≤ y2 → y2 ≤ 6 → a 146 25 ≤ 6 → (a 146 23) + (a 146 25) ≤ a 146 22 → a0 146 23 ≤ a 146 23 → (y1 = 2 → y2 = 3) → 2 ≤ y2 → ((a0 146 23 < a0 146 22 ∧ ¬ a0 164 ((a0 146 23).toNat) = 32) → a 146 23 = a0 146 23) → (a 146 23 = ((SK (UB (a0 164)) (a0 146 22).toNat (a0 146 23).toNat) : Int)) → (∀ k : Nat, (k : Int) < a 146 25 → LT (UB (a0 164)) (a0 146 22).toNat ((SK (UB (a0 164)) (a0 146 22).toNat (a0 146 23).toNat) + k)) → (¬ LT (UB (a0 164)) (a0 146 22).toNat ((SK (UB (a0 164)) (a0 146 22).toNat (a0 146 23).toNat) + (a 146 25).toNat)) → (∀ v : Nat, (v : Int) < y1 → v < 16 → ¬ TW (UB (a0 164)) (a0 146 22).toNat (SK (UB (a0 164)) (a0 146 22).toNat (a0 146 23).toNat) v) → (y2 = (wdn y1.toNat : Int)) → jt (jxX E d 216 122 [some (.inr (.inr (.inl 146))), some (.inl y1), some (.inl y2), none, none] [] (jxSH, a, b0)) (jQ_X12_wordHere a0 b0)) ∧ (∀ (y1 y2 : Int) (a : Nat → Nat → Int), (((((16 - y1) * 17) + 8) + ((6 - y2) * 1)) + 0).toNat ≤ n → iv a → jfr jW_X12_wordHere a0 a → 0 ≤ y1 → y1 ≤ 15 → 0 ≤ y2 → y2 ≤ 6 → a 146 25 ≤ 6 → (a 146 23) + (a 146 25) ≤ a 146 22 → a0 146 23 ≤ a 146 23 → (y1 = 2 → y2 ≤ 3) → ((a0 146 23 < a0 146 22 ∧ ¬ a0 164 ((a0 146 23).toNat) = 32) → a 146 23 = a0 146 23) → (a 146 23 = ((SK (UB (a0 164)) (a0 146 22).toNat (a0 146 23).toNat) : Int)) → (∀ k : Nat, (k : Int) < a 146 25 → LT (UB (a0 164)) (a0 146 22).toNat ((SK (UB (a0 164)) (a0 146 22).toNat (a0 146 23).toNat) + k)) → (¬ LT (UB (a0 164)) (a0 146 22).toNat ((SK (UB (a0 164)) (a0 146 22).toNat (a0 146 23).toNat) + (a 146 25).toNat)) → (∀ v : Nat, (v : Int) < y1 → v < 16 → ¬ TW (UB (a0 164)) (a0 146 22).toNat (SK (UB (a0 164)) (a0 146 22).toNat (a0 146 23).toNat) v) → (y2 ≤ (wdn y1.toNat : Int)) → jt (jxX E d 216 96 [some (.inr (.inr (.inl 146))), some (.inl y1), some (.inl y2), none, none] [] (jxSH, a, b0)) (jQ_X12_wordHere a0 b0)) ∧ (∀ (y1 : Int) (a : Nat → Nat → Int), (((16 - y1) * 17) + 16).toNat ≤ n → iv a → jfr jW_X12_wordHere a0 a → 0 ≤ y1 → y1 ≤ 16 → (a 146 23) + (a 146 25) ≤ a 146 22 → a0 146 23 ≤ a 146 23 → ((a0 146 23 < a0 146 22 ∧ ¬ a0 164 ((a0 146 23).toNat) = 32) → a 146 23 = a0 146 23) → (a 146 23 = ((SK (UB (a0 164)) (a0 146 22).toNat (a0 146 23).toNat) : Int)) → (∀ k : Nat, (k : Int) < a 146 25 → LT (UB (a0 164)) (a0 146 22).toNat ((SK (UB (a0 164)) (a0 146 22).toNat (a0 146 23).toNat) + k)) → (¬ LT (UB (a0 164)) (a0 146 22).toNat ((SK (UB (a0 164)) (a0 146 22).toNat (a0 146 23).toNat) + (a 146 25).toNat)) → (∀ v : Nat, (v : Int) < y1 → v < 16 → ¬ TW (UB (a0 164)) (a0 146 22).toNat (SK (UB (a0 164)) (a0 146 22).toNat (a0 146 23).toNat) v) → jt (jxX E d 216 79 [some (.inr (.inr (.inl 146))), some (.inl y1), none, none, none] [] (jxSH, a, b0)) (jQ_X12_wordHere a0 b0)) := by
  refine jx_ind fun n ih => ?_
  have ih176 : ∀ (y1 y2 y4 : Int) (a : Nat → Nat → Int), (((((16 - y1) * 17) + 0) + ((6 - y4) * 1)) + 0).toNat < n → iv a → jfr jW_X12_wordHere a0 a → 0 ≤ y1 → y1 ≤ 15 → 1 ≤ y2 → y2 ≤ 6 → 0 ≤ y4 → y4 ≤ 5 → a 146 25 ≤ 6 → (a 146 23) + (a 146 25) ≤ a 146 22 → a0 146 23 ≤ a 146 23 → 2 ≤ y2 → (y1 = 2 → y2 = 3) → y2 = a 146 25 → y4 < y2 → ((a0 146 23 < a0 146 22 ∧ ¬ a0 164 ((a0 146 23).toNat) = 32) → a 146 23 = a0 146 23) → (a 146 23 = ((SK (UB (a0 164)) (a0 146 22).toNat (a0 146 23).toNat) : Int)) → (∀ k : Nat, (k : Int) < a 146 25 → LT (UB (a0 164)) (a0 146 22).toNat ((SK (UB (a0 164)) (a0 146 22).toNat (a0 146 23).toNat) + k)) → (¬ LT (UB (a0 164)) (a0 146 22).toNat ((SK (UB (a0 164)) (a0 146 22).toNat (a0 146 23).toNat) + (a 146 25).toNat)) → (∀ v : Nat, (v : Int) < y1 → v < 16 → ¬ TW (UB (a0 164)) (a0 146 22).toNat (SK (UB (a0 164)) (a0 146 22).toNat (a0 146 23).toNat) v) → (y2 = (wdn y1.toNat : Int)) → (y2 = a 146 25) → (∀ k : Nat, (k : Int) < y4 + 1 → (UB (a0 164)) ((SK (UB (a0 164)) (a0 146 22).toNat (a0 146 23).toNat) + k) = (wdl y1.toNat).getD k 0) → jt (jxX E d 216 176 [some (.inr (.inr (.inl 146))), some (.inl y1), some (.inl y2), none, some (.inl y4)] [] (jxSH, a, b0)) (jQ_X12_wordHere a0 b0) := fun y1 y2 y4 a hlt i0 i1 i2 i3 i4 i5 i6 i7 i8 i9 i10 i11 i12 i13 i14 i15 i16 i17 i18 i19 i20 i21 i22 => (ih _ hlt).1 y1 y2 y4 a (Nat.le_refl _) i0 i1 i2 i3 i4 i5 i6 i7 i8 i9 i10 i11 i12 i13 i14 i15 i16 i17 i18 i19 i20 i21 i22
  have ih180 : ∀ (y1 y2 y4 : Int) (a : Nat → Nat → Int), (((((16 - y1) * 17) + 0) + ((6 - y4) * 1)) + 0).toNat < n → iv a → jfr jW_X12_wordHere a0 a → 0 ≤ y1 → y1 ≤ 15 → 1 ≤ y2 → y2 ≤ 6 → 0 ≤ y4 → y4 ≤ 5 → a 146 25 ≤ 6 → (a 146 23) + (a 146 25) ≤ a 146 22 → a0 146 23 ≤ a 146 23 → 2 ≤ y2 → (y1 = 2 → y2 = 3) → y2 = a 146 25 → y4 < y2 → ((a0 146 23 < a0 146 22 ∧ ¬ a0 164 ((a0 146 23).toNat) = 32) → a 146 23 = a0 146 23) → (a 146 23 = ((SK (UB (a0 164)) (a0 146 22).toNat (a0 146 23).toNat) : Int)) → (∀ k : Nat, (k : Int) < a 146 25 → LT (UB (a0 164)) (a0 146 22).toNat ((SK (UB (a0 164)) (a0 146 22).toNat (a0 146 23).toNat) + k)) → (¬ LT (UB (a0 164)) (a0 146 22).toNat ((SK (UB (a0 164)) (a0 146 22).toNat (a0 146 23).toNat) + (a 146 25).toNat)) → (∀ v : Nat, (v : Int) < y1 → v < 16 → ¬ TW (UB (a0 164)) (a0 146 22).toNat (SK (UB (a0 164)) (a0 146 22).toNat (a0 146 23).toNat) v) → (y2 = (wdn y1.toNat : Int)) → (¬ TW (UB (a0 164)) (a0 146 22).toNat (SK (UB (a0 164)) (a0 146 22).toNat (a0 146 23).toNat) y1.toNat) → jt (jxX E d 216 180 [some (.inr (.inr (.inl 146))), some (.inl y1), some (.inl y2), none, some (.inl y4)] [] (jxSH, a, b0)) (jQ_X12_wordHere a0 b0) := fun y1 y2 y4 a hlt i0 i1 i2 i3 i4 i5 i6 i7 i8 i9 i10 i11 i12 i13 i14 i15 i16 i17 i18 i19 i20 i21 => (ih _ hlt).2.1 y1 y2 y4 a (Nat.le_refl _) i0 i1 i2 i3 i4 i5 i6 i7 i8 i9 i10 i11 i12 i13 i14 i15 i16 i17 i18 i19 i20 i21
  have ih139 : ∀ (y1 y2 y3 y4 : Int) (a : Nat → Nat → Int), (((((16 - y1) * 17) + 0) + ((6 - y4) * 1)) + 0).toNat < n → iv a → jfr jW_X12_wordHere a0 a → 0 ≤ y1 → y1 ≤ 15 → 0 ≤ y2 → y2 ≤ 6 → 0 ≤ y3 → y3 ≤ 1 → 0 ≤ y4 → y4 ≤ 6 → a 146 25 ≤ 6 → (a 146 23) + (a 146 25) ≤ a 146 22 → a0 146 23 ≤ a 146 23 → 2 ≤ y2 → (y1 = 2 → y2 = 3) → (y3 = 0 ∨ y2 = a 146 25) → (y3 = 0 ∨ y3 = 1) → ((a0 146 23 < a0 146 22 ∧ ¬ a0 164 ((a0 146 23).toNat) = 32) → a 146 23 = a0 146 23) → (a 146 23 = ((SK (UB (a0 164)) (a0 146 22).toNat (a0 146 23).toNat) : Int)) → (∀ k : Nat, (k : Int) < a 146 25 → LT (UB (a0 164)) (a0 146 22).toNat ((SK (UB (a0 164)) (a0 146 22).toNat (a0 146 23).toNat) + k)) → (¬ LT (UB (a0 164)) (a0 146 22).toNat ((SK (UB (a0 164)) (a0 146 22).toNat (a0 146 23).toNat) + (a 146 25).toNat)) → (∀ v : Nat, (v : Int) < y1 → v < 16 → ¬ TW (UB (a0 164)) (a0 146 22).toNat (SK (UB (a0 164)) (a0 146 22).toNat (a0 146 23).toNat) v) → (y2 = (wdn y1.toNat : Int)) → ((y3 = 0 ∧ ¬ TW (UB (a0 164)) (a0 146 22).toNat (SK (UB (a0 164)) (a0 146 22).toNat (a0 146 23).toNat) y1.toNat) ∨ (y3 = 1 ∧ y2 = a 146 25 ∧ ∀ k : Nat, (k : Int) < y4 → (UB (a0 164)) ((SK (UB (a0 164)) (a0 146 22).toNat (a0 146 23).toNat) + k) = (wdl y1.toNat).getD k 0)) → jt (jxX E d 216 139 [some (.inr (.inr (.inl 146))), some (.inl y1), some (.inl y2), some (.inl y3), some (.inl y4)] [] (jxSH, a, b0)) (jQ_X12_wordHere a0 b0) := fun y1 y2 y3 y4 a hlt i0 i1 i2 i3 i4 i5 i6 i7 i8 i9 i10 i11 i12 i13 i14 i15 i16 i17 i18 i19 i20 i21 i22 i23 => (ih _ hlt).2.2.1 y1 y2 y3 y4 a (Nat.le_refl _) i0 i1 i2 i3 i4 i5 i6 i7 i8 i9 i10 i11 i12 i13 i14 i15 i16 i17 i18 i19 i20 i21 i22 i23
  have ih122 : ∀ (y1 y2 : Int) (a : Nat → Nat → Int), (((16 - y1) * 17) + 8).toNat < n → iv a → jfr jW_X12_wordHere a0 a → 0 ≤ y1 → y1 ≤ 15 → 0 ≤ y2 → y2 ≤ 6 → a 146 25 ≤ 6 → (a 146 23) + (a 146 25) ≤ a 146 22 → a0 146 23 ≤ a 146 23 → (y1 = 2 → y2 = 3) → 2 ≤ y2 → ((a0 146 23 < a0 146 22 ∧ ¬ a0 164 ((a0 146 23).toNat) = 32) → a 146 23 = a0 146 23) → (a 146 23 = ((SK (UB (a0 164)) (a0 146 22).toNat (a0 146 23).toNat) : Int)) → (∀ k : Nat, (k : Int) < a 146 25 → LT (UB (a0 164)) (a0 146 22).toNat ((SK (UB (a0 164)) (a0 146 22).toNat (a0 146 23).toNat) + k)) → (¬ LT (UB (a0 164)) (a0 146 22).toNat ((SK (UB (a0 164)) (a0 146 22).toNat (a0 146 23).toNat) + (a 146 25).toNat)) → (∀ v : Nat, (v : Int) < y1 → v < 16 → ¬ TW (UB (a0 164)) (a0 146 22).toNat (SK (UB (a0 164)) (a0 146 22).toNat (a0 146 23).toNat) v) → (y2 = (wdn y1.toNat : Int)) → jt (jxX E d 216 122 [some (.inr (.inr (.inl 146))), some (.inl y1), some (.inl y2), none, none] [] (jxSH, a, b0)) (jQ_X12_wordHere a0 b0) := fun y1 y2 a hlt i0 i1 i2 i3 i4 i5 i6 i7 i8 i9 i10 i11 i12 i13 i14 i15 i16 => (ih _ hlt).2.2.2.1 y1 y2 a (Nat.le_refl _) i0 i1 i2 i3 i4 i5 i6 i7 i8 i9 i10 i11 i12 i13 i14 i15 i16
  have ih96 : ∀ (y1 y2 : Int) (a : Nat → Nat → Int), (((((16 - y1) * 17) + 8) + ((6 - y2) * 1)) + 0).toNat < n → iv a → jfr jW_X12_wordHere a0 a → 0 ≤ y1 → y1 ≤ 15 → 0 ≤ y2 → y2 ≤ 6 → a 146 25 ≤ 6 → (a 146 23) + (a 146 25) ≤ a 146 22 → a0 146 23 ≤ a 146 23 → (y1 = 2 → y2 ≤ 3) → ((a0 146 23 < a0 146 22 ∧ ¬ a0 164 ((a0 146 23).toNat) = 32) → a 146 23 = a0 146 23) → (a 146 23 = ((SK (UB (a0 164)) (a0 146 22).toNat (a0 146 23).toNat) : Int)) → (∀ k : Nat, (k : Int) < a 146 25 → LT (UB (a0 164)) (a0 146 22).toNat ((SK (UB (a0 164)) (a0 146 22).toNat (a0 146 23).toNat) + k)) → (¬ LT (UB (a0 164)) (a0 146 22).toNat ((SK (UB (a0 164)) (a0 146 22).toNat (a0 146 23).toNat) + (a 146 25).toNat)) → (∀ v : Nat, (v : Int) < y1 → v < 16 → ¬ TW (UB (a0 164)) (a0 146 22).toNat (SK (UB (a0 164)) (a0 146 22).toNat (a0 146 23).toNat) v) → (y2 ≤ (wdn y1.toNat : Int)) → jt (jxX E d 216 96 [some (.inr (.inr (.inl 146))), some (.inl y1), some (.inl y2), none, none] [] (jxSH, a, b0)) (jQ_X12_wordHere a0 b0) := fun y1 y2 a hlt i0 i1 i2 i3 i4 i5 i6 i7 i8 i9 i10 i11 i12 i13 i14 i15 => (ih _ hlt).2.2.2.2.1 y1 y2 a (Nat.le_refl _) i0 i1 i2 i3 i4 i5 i6 i7 i8 i9 i10 i11 i12 i13 i14 i15
  have ih79 : ∀ (y1 : Int) (a : Nat → Nat → Int), (((16 - y1) * 17) + 16).toNat < n → iv a → jfr jW_X12_wordHere a0 a → 0 ≤ y1 → y1 ≤ 16 → (a 146 23) + (a 146 25) ≤ a 146 22 → a0 146 23 ≤ a 146 23 → ((a0 146 23 < a0 146 22 ∧ ¬ a0 164 ((a0 146 23).toNat) = 32) → a 146 23 = a0 146 23) → (a 146 23 = ((SK (UB (a0 164)) (a0 146 22).toNat (a0 146 23).toNat) : Int)) → (∀ k : Nat, (k : Int) < a 146 25 → LT (UB (a0 164)) (a0 146 22).toNat ((SK (UB (a0 164)) (a0 146 22).toNat (a0 146 23).toNat) + k)) → (¬ LT (UB (a0 164)) (a0 146 22).toNat ((SK (UB (a0 164)) (a0 146 22).toNat (a0 146 23).toNat) + (a 146 25).toNat)) → (∀ v : Nat, (v : Int) < y1 → v < 16 → ¬ TW (UB (a0 164)) (a0 146 22).toNat (SK (UB (a0 164)) (a0 146 22).toNat (a0 146 23).toNat) v) → jt (jxX E d 216 79 [some (.inr (.inr (.inl 146))), some (.inl y1), none, none, none] [] (jxSH, a, b0)) (jQ_X12_wordHere a0 b0) := fun y1 a hlt i0 i1 i2 i3 i4 i5 i6 i7 i8 i9 i10 => (ih _ hlt).2.2.2.2.2 y1 a (Nat.le_refl _) i0 i1 i2 i3 i4 i5 i6 i7 i8 i9 i10
  have hc176 : ∀ (y1 y2 y4 : Int) (a : Nat → Nat → Int), (((((16 - y1) * 17) + 0) + ((6 - y4) * 1)) + 0).toNat ≤ n → iv a → jfr jW_X12_wordHere a0 a → 0 ≤ y1 → y1 ≤ 15 → 1 ≤ y2 → y2 ≤ 6 → 0 ≤ y4 → y4 ≤ 5 → a 146 25 ≤ 6 → (a 146 23) + (a 146 25) ≤ a 146 22 → a0 146 23 ≤ a 146 23 → 2 ≤ y2 → (y1 = 2 → y2 = 3) → y2 = a 146 25 → y4 < y2 → ((a0 146 23 < a0 146 22 ∧ ¬ a0 164 ((a0 146 23).toNat) = 32) → a 146 23 = a0 146 23) → (a 146 23 = ((SK (UB (a0 164)) (a0 146 22).toNat (a0 146 23).toNat) : Int)) → (∀ k : Nat, (k : Int) < a 146 25 → LT (UB (a0 164)) (a0 146 22).toNat ((SK (UB (a0 164)) (a0 146 22).toNat (a0 146 23).toNat) + k)) → (¬ LT (UB (a0 164)) (a0 146 22).toNat ((SK (UB (a0 164)) (a0 146 22).toNat (a0 146 23).toNat) + (a 146 25).toNat)) → (∀ v : Nat, (v : Int) < y1 → v < 16 → ¬ TW (UB (a0 164)) (a0 146 22).toNat (SK (UB (a0 164)) (a0 146 22).toNat (a0 146 23).toNat) v) → (y2 = (wdn y1.toNat : Int)) → (y2 = a 146 25) → (∀ k : Nat, (k : Int) < y4 + 1 → (UB (a0 164)) ((SK (UB (a0 164)) (a0 146 22).toNat (a0 146 23).toNat) + k) = (wdl y1.toNat).getD k 0) → jt (jxX E d 216 176 [some (.inr (.inr (.inl 146))), some (.inl y1), some (.inl y2), none, some (.inl y4)] [] (jxSH, a, b0)) (jQ_X12_wordHere a0 b0) := by
    intro y1 y2 y4 a hm hv hf hi0 hi1 hi2 hi3 hi4 hi5 hi6 hi7 hi8 hi9 hi10 hi11 hi12 hi13 hn hl hnl hno hwn hsz hch
    refine jt_eq (bq_X12_wordHere_176 E d y1 y2 y4 a b0) ?_
    have h162_ := iv_get hv (k := 146) (j := 25) (l := 0) (u := 200) rfl
    have h163_ := iv_get hv (k := 146) (j := 23) (l := 0) (u := 200) rfl
    have h164_ := iv_get hv (k := 146) (j := 22) (l := 0) (u := 200) rfl
    have h165_ : a 146 22 = a0 146 22 := hf 146 22 rfl
    have h166_ := iv_get hv0 (k := 146) (j := 22) (l := 0) (u := 200) rfl
    have h167_ := iv_get hv0 (k := 146) (j := 23) (l := 0) (u := 200) rfl
    have h168_ := iv_get hv0 (k := 164) (j := (a0 146 23).toNat) (l := (-128)) (u := 127) rfl
    have h4 : a 164 = a0 164 := funext fun j => hf 164 j rfl
    have h22 := hf 146 22 rfl
    have h169_ : jxw (y4 + 1) = y4 + 1 := jxw_id (by omega) (by omega)
    exact ih139 y1 y2 1 (jxw (y4 + 1)) a (show (((((16 - y1) * 17) + 0) + ((6 - (jxw (y4 + 1))) * 1)) + 0).toNat < n from by omega) hv hf (show 0 ≤ y1 from by omega) (show y1 ≤ 15 from by omega) (show 0 ≤ y2 from by omega) (show y2 ≤ 6 from by omega) (show 0 ≤ 1 from by omega) (show 1 ≤ 1 from by omega) (show 0 ≤ jxw (y4 + 1) from by omega) (show jxw (y4 + 1) ≤ 6 from by omega) (show a 146 25 ≤ 6 from by omega) (show (a 146 23) + (a 146 25) ≤ a 146 22 from by omega) (show a0 146 23 ≤ a 146 23 from by omega) (show 2 ≤ y2 from by omega) (show (y1 = 2 → y2 = 3) from by omega) (show (1 = 0 ∨ y2 = a 146 25) from by omega) (show (1 = 0 ∨ 1 = 1) from by omega) (show ((a0 146 23 < a0 146 22 ∧ ¬ a0 164 ((a0 146 23).toNat) = 32) → a 146 23 = a0 146 23) from by omega) (by first | exact hn | (have e := hq0_4; exact e)) (by first | exact hl | exact (fun k hk => absurd hk (show ¬ (k : Int) < 0 by omega)) | exact lt_ext hl hl1 (by omega) (show jxw ((a 146 25) + 1) = a 146 25 + 1 by omega)) (by first | exact hnl | (rw [show (SK (UB (a0 164)) (a0 146 22).toNat (a0 146 23).toNat) + (a 146 25).toNat = (jxw ((a 146 23) + (a 146 25))).toNat from by omega, ← h4]; exact LT_no1 (by omega))) hno hwn (by first | exact Or.inl ⟨rfl, fun t => by have e := TW_run (s := (a 146 25).toNat) (by omega) (fun k hk => hl k (by omega)) hnl t; omega⟩ | exact Or.inr ⟨rfl, by omega, fun k hk => absurd hk (by omega)⟩ | exact Or.inl ⟨rfl, hno1⟩ | exact Or.inr ⟨rfl, hsz, by rw [show jxw (y4 + 1) = y4 + 1 from by omega]; exact hch⟩)
  have hc180 : ∀ (y1 y2 y4 : Int) (a : Nat → Nat → Int), (((((16 - y1) * 17) + 0) + ((6 - y4) * 1)) + 0).toNat ≤ n → iv a → jfr jW_X12_wordHere a0 a → 0 ≤ y1 → y1 ≤ 15 → 1 ≤ y2 → y2 ≤ 6 → 0 ≤ y4 → y4 ≤ 5 → a 146 25 ≤ 6 → (a 146 23) + (a 146 25) ≤ a 146 22 → a0 146 23 ≤ a 146 23 → 2 ≤ y2 → (y1 = 2 → y2 = 3) → y2 = a 146 25 → y4 < y2 → ((a0 146 23 < a0 146 22 ∧ ¬ a0 164 ((a0 146 23).toNat) = 32) → a 146 23 = a0 146 23) → (a 146 23 = ((SK (UB (a0 164)) (a0 146 22).toNat (a0 146 23).toNat) : Int)) → (∀ k : Nat, (k : Int) < a 146 25 → LT (UB (a0 164)) (a0 146 22).toNat ((SK (UB (a0 164)) (a0 146 22).toNat (a0 146 23).toNat) + k)) → (¬ LT (UB (a0 164)) (a0 146 22).toNat ((SK (UB (a0 164)) (a0 146 22).toNat (a0 146 23).toNat) + (a 146 25).toNat)) → (∀ v : Nat, (v : Int) < y1 → v < 16 → ¬ TW (UB (a0 164)) (a0 146 22).toNat (SK (UB (a0 164)) (a0 146 22).toNat (a0 146 23).toNat) v) → (y2 = (wdn y1.toNat : Int)) → (¬ TW (UB (a0 164)) (a0 146 22).toNat (SK (UB (a0 164)) (a0 146 22).toNat (a0 146 23).toNat) y1.toNat) → jt (jxX E d 216 180 [some (.inr (.inr (.inl 146))), some (.inl y1), some (.inl y2), none, some (.inl y4)] [] (jxSH, a, b0)) (jQ_X12_wordHere a0 b0) := by
    intro y1 y2 y4 a hm hv hf hi0 hi1 hi2 hi3 hi4 hi5 hi6 hi7 hi8 hi9 hi10 hi11 hi12 hi13 hn hl hnl hno hwn hno1
    refine jt_eq (bq_X12_wordHere_180 E d y1 y2 y4 a b0) ?_
    have h170_ := iv_get hv (k := 146) (j := 25) (l := 0) (u := 200) rfl
    have h171_ := iv_get hv (k := 146) (j := 23) (l := 0) (u := 200) rfl
    have h172_ := iv_get hv (k := 146) (j := 22) (l := 0) (u := 200) rfl
    have h173_ : a 146 22 = a0 146 22 := hf 146 22 rfl
    have h174_ := iv_get hv0 (k := 146) (j := 22) (l := 0) (u := 200) rfl
    have h175_ := iv_get hv0 (k := 146) (j := 23) (l := 0) (u := 200) rfl
    have h176_ := iv_get hv0 (k := 164) (j := (a0 146 23).toNat) (l := (-128)) (u := 127) rfl
    have h4 : a 164 = a0 164 := funext fun j => hf 164 j rfl
    have h22 := hf 146 22 rfl
    have h177_ : jxw (y4 + 1) = y4 + 1 := jxw_id (by omega) (by omega)
    exact ih139 y1 y2 0 (jxw (y4 + 1)) a (show (((((16 - y1) * 17) + 0) + ((6 - (jxw (y4 + 1))) * 1)) + 0).toNat < n from by omega) hv hf (show 0 ≤ y1 from by omega) (show y1 ≤ 15 from by omega) (show 0 ≤ y2 from by omega) (show y2 ≤ 6 from by omega) (show 0 ≤ 0 from by omega) (show 0 ≤ 1 from by omega) (show 0 ≤ jxw (y4 + 1) from by omega) (show jxw (y4 + 1) ≤ 6 from by omega) (show a 146 25 ≤ 6 from by omega) (show (a 146 23) + (a 146 25) ≤ a 146 22 from by omega) (show a0 146 23 ≤ a 146 23 from by omega) (show 2 ≤ y2 from by omega) (show (y1 = 2 → y2 = 3) from by omega) (show (0 = 0 ∨ y2 = a 146 25) from by omega) (show (0 = 0 ∨ 0 = 1) from by omega) (show ((a0 146 23 < a0 146 22 ∧ ¬ a0 164 ((a0 146 23).toNat) = 32) → a 146 23 = a0 146 23) from by omega) (by first | exact hn | (have e := hq0_4; exact e)) (by first | exact hl | exact (fun k hk => absurd hk (show ¬ (k : Int) < 0 by omega)) | exact lt_ext hl hl1 (by omega) (show jxw ((a 146 25) + 1) = a 146 25 + 1 by omega)) (by first | exact hnl | (rw [show (SK (UB (a0 164)) (a0 146 22).toNat (a0 146 23).toNat) + (a 146 25).toNat = (jxw ((a 146 23) + (a 146 25))).toNat from by omega, ← h4]; exact LT_no1 (by omega))) hno hwn (by first | exact Or.inl ⟨rfl, fun t => by have e := TW_run (s := (a 146 25).toNat) (by omega) (fun k hk => hl k (by omega)) hnl t; omega⟩ | exact Or.inr ⟨rfl, by omega, fun k hk => absurd hk (by omega)⟩ | exact Or.inl ⟨rfl, hno1⟩ | exact Or.inr ⟨rfl, hsz, by rw [show jxw (y4 + 1) = y4 + 1 from by omega]; exact hch⟩)
  have hc139 : ∀ (y1 y2 y3 y4 : Int) (a : Nat → Nat → Int), (((((16 - y1) * 17) + 0) + ((6 - y4) * 1)) + 0).toNat ≤ n → iv a → jfr jW_X12_wordHere a0 a → 0 ≤ y1 → y1 ≤ 15 → 0 ≤ y2 → y2 ≤ 6 → 0 ≤ y3 → y3 ≤ 1 → 0 ≤ y4 → y4 ≤ 6 → a 146 25 ≤ 6 → (a 146 23) + (a 146 25) ≤ a 146 22 → a0 146 23 ≤ a 146 23 → 2 ≤ y2 → (y1 = 2 → y2 = 3) → (y3 = 0 ∨ y2 = a 146 25) → (y3 = 0 ∨ y3 = 1) → ((a0 146 23 < a0 146 22 ∧ ¬ a0 164 ((a0 146 23).toNat) = 32) → a 146 23 = a0 146 23) → (a 146 23 = ((SK (UB (a0 164)) (a0 146 22).toNat (a0 146 23).toNat) : Int)) → (∀ k : Nat, (k : Int) < a 146 25 → LT (UB (a0 164)) (a0 146 22).toNat ((SK (UB (a0 164)) (a0 146 22).toNat (a0 146 23).toNat) + k)) → (¬ LT (UB (a0 164)) (a0 146 22).toNat ((SK (UB (a0 164)) (a0 146 22).toNat (a0 146 23).toNat) + (a 146 25).toNat)) → (∀ v : Nat, (v : Int) < y1 → v < 16 → ¬ TW (UB (a0 164)) (a0 146 22).toNat (SK (UB (a0 164)) (a0 146 22).toNat (a0 146 23).toNat) v) → (y2 = (wdn y1.toNat : Int)) → ((y3 = 0 ∧ ¬ TW (UB (a0 164)) (a0 146 22).toNat (SK (UB (a0 164)) (a0 146 22).toNat (a0 146 23).toNat) y1.toNat) ∨ (y3 = 1 ∧ y2 = a 146 25 ∧ ∀ k : Nat, (k : Int) < y4 → (UB (a0 164)) ((SK (UB (a0 164)) (a0 146 22).toNat (a0 146 23).toNat) + k) = (wdl y1.toNat).getD k 0)) → jt (jxX E d 216 139 [some (.inr (.inr (.inl 146))), some (.inl y1), some (.inl y2), some (.inl y3), some (.inl y4)] [] (jxSH, a, b0)) (jQ_X12_wordHere a0 b0) := by
    intro y1 y2 y3 y4 a hm hv hf hi0 hi1 hi2 hi3 hi4 hi5 hi6 hi7 hi8 hi9 hi10 hi11 hi12 hi13 hi14 hi15 hn hl hnl hno hwn hs
    refine jt_eq (bq_X12_wordHere_139 E d y1 y2 y3 y4 a b0) ?_
    have h178_ := iv_get hv (k := 146) (j := 25) (l := 0) (u := 200) rfl
    have h179_ := iv_get hv (k := 146) (j := 23) (l := 0) (u := 200) rfl
    have h180_ := iv_get hv (k := 146) (j := 22) (l := 0) (u := 200) rfl
    have h181_ : a 146 22 = a0 146 22 := hf 146 22 rfl
    have h182_ := iv_get hv0 (k := 146) (j := 22) (l := 0) (u := 200) rfl
    have h183_ := iv_get hv0 (k := 146) (j := 23) (l := 0) (u := 200) rfl
    have h184_ := iv_get hv0 (k := 164) (j := (a0 146 23).toNat) (l := (-128)) (u := 127) rfl
    have h4 : a 164 = a0 164 := funext fun j => hf 164 j rfl
    have h22 := hf 146 22 rfl
    have hub := UB_sp (g := a 164) (j := (jxw ((a 146 23) + y4)).toNat) (iv_get hv (k := 164) (j := (jxw ((a 146 23) + y4)).toNat) (l := -128) (u := 127) rfl).1 (iv_get hv (k := 164) (j := (jxw ((a 146 23) + y4)).toNat) (l := -128) (u := 127) rfl).2
    refine jt_ite (fun c185_ => ?_) (fun c185_ => ?_)
    ·
      refine jt_ite (fun c186_ => ?_) (fun c186_ => ?_)
      ·
        have h187_ : jxw (y1 + 1) = y1 + 1 := jxw_id (by omega) (by omega)
        exact ih79 (jxw (y1 + 1)) a (show (((16 - (jxw (y1 + 1))) * 17) + 16).toNat < n from by omega) hv hf (show 0 ≤ jxw (y1 + 1) from by omega) (show jxw (y1 + 1) ≤ 16 from by omega) (show (a 146 23) + (a 146 25) ≤ a 146 22 from by omega) (show a0 146 23 ≤ a 146 23 from by omega) (show ((a0 146 23 < a0 146 22 ∧ ¬ a0 164 ((a0 146 23).toNat) = 32) → a 146 23 = a0 146 23) from by omega) (by first | exact hn | (have e := hq0_4; exact e)) (by first | exact hl | exact (fun k hk => absurd hk (show ¬ (k : Int) < 0 by omega)) | exact lt_ext hl hl1 (by omega) (show jxw ((a 146 25) + 1) = a 146 25 + 1 by omega)) (by first | exact hnl | (rw [show (SK (UB (a0 164)) (a0 146 22).toNat (a0 146 23).toNat) + (a 146 25).toNat = (jxw ((a 146 23) + (a 146 25))).toNat from by omega, ← h4]; exact LT_no1 (by omega))) (by first | exact (fun v h => absurd h (by omega)) | exact no_ext hno hno1 (by omega) (show jxw (y1 + 1) = y1 + 1 by omega) | (rcases hs with hs | hs <;> first | exact no_ext hno hs.2 (by omega) (show jxw (y1 + 1) = y1 + 1 by omega) | exact absurd hs.1 (by omega)))
      ·
        exact jt_rI ⟨hv, hf, rfl, (show (a 146 23) + (a 146 25) ≤ a 146 22 from by omega), (show a0 146 23 ≤ a 146 23 from by omega), (show 0 - 1 ≤ y1 from by omega), (show y1 ≤ 15 from by omega), (show (y1 = 2 → a 146 25 = 3) from by omega), (show (0 ≤ y1 → 2 ≤ a 146 25) from by omega), (show ((a0 146 23 < a0 146 22 ∧ ¬ a0 164 ((a0 146 23).toNat) = 32) → a 146 23 = a0 146 23) from by omega), hn, (by first | exact (fun w hw => ⟨fun t => absurd t (hno w (by omega) hw), fun e => absurd e (by omega)⟩) | exact (fun w hw => ⟨fun t => by have e := TW_run (s := (a 146 25).toNat) hw (fun k hk => hl k (by omega)) hnl t; have hb := wdn_bd w hw; omega, fun e => absurd e (by omega)⟩) | (rcases hs with hs | hs <;> first | exact absurd hs.1 (by assumption) | (have ht := TW_mk (w := y1.toNat) (q := (SK (UB (a0 164)) (a0 146 22).toNat (a0 146 23).toNat) + (a 146 25).toNat) (by omega) (by omega) (fun k hk => hs.2.2 k (by omega)) hnl; exact fun w hw => ⟨fun t => by have e := TW_one (by omega) hw ht t; omega, fun e => by rw [show w = y1.toNat from by omega]; exact ht⟩))), (by first | exact (fun h => absurd h (by decide)) | (rcases hs with hs | hs <;> first | exact absurd hs.1 (by assumption) | exact (fun _ => by rw [← hs.2.1]; exact hwn)))⟩
    ·
      refine jt_ite (fun c188_ => ?_) (fun c188_ => ?_)
      ·
        have h189_ : jxw (6 * y1) = 6 * y1 := jxw_id (by omega) (by omega)
        have h190_ : jxw ((jxw (6 * y1)) + y4) = (jxw (6 * y1)) + y4 := jxw_id (by omega) (by omega)
        refine jt_grd (by omega) ?_
        have h191_ : jxw ((a 146 23) + y4) = (a 146 23) + y4 := jxw_id (by omega) (by omega)
        refine jt_grd (by omega) ?_
        have h192_ := iv_wd hv ((jxw ((jxw (6 * y1)) + y4)).toNat)
        have h193_ : a 165 ((jxw ((jxw (6 * y1)) + y4)).toNat) = a0 165 ((jxw ((jxw (6 * y1)) + y4)).toNat) := hf 165 ((jxw ((jxw (6 * y1)) + y4)).toNat) rfl
        have h194_ := iv_wd hv0 ((jxw ((jxw (6 * y1)) + y4)).toNat)
        have h195_ := iv_get hv (k := 164) (j := (jxw ((a 146 23) + y4)).toNat) (l := (-128)) (u := 127) rfl
        have h196_ : a 164 ((jxw ((a 146 23) + y4)).toNat) = a0 164 ((jxw ((a 146 23) + y4)).toNat) := hf 164 ((jxw ((a 146 23) + y4)).toNat) rfl
        have h197_ := iv_get hv0 (k := 164) (j := (jxw ((a 146 23) + y4)).toNat) (l := (-128)) (u := 127) rfl
        refine jt_ite (fun c198_ => ?_) (fun c198_ => ?_)
        ·
          exact hc176 y1 y2 y4 a (show (((((16 - y1) * 17) + 0) + ((6 - y4) * 1)) + 0).toNat ≤ n from by omega) hv hf (show 0 ≤ y1 from by omega) (show y1 ≤ 15 from by omega) (show 1 ≤ y2 from by omega) (show y2 ≤ 6 from by omega) (show 0 ≤ y4 from by omega) (show y4 ≤ 5 from by omega) (show a 146 25 ≤ 6 from by omega) (show (a 146 23) + (a 146 25) ≤ a 146 22 from by omega) (show a0 146 23 ≤ a 146 23 from by omega) (show 2 ≤ y2 from by omega) (show (y1 = 2 → y2 = 3) from by omega) (show y2 = a 146 25 from by omega) (show y4 < y2 from by omega) (show ((a0 146 23 < a0 146 22 ∧ ¬ a0 164 ((a0 146 23).toNat) = 32) → a 146 23 = a0 146 23) from by omega) (by first | exact hn | (have e := hq0_4; exact e)) (by first | exact hl | exact (fun k hk => absurd hk (show ¬ (k : Int) < 0 by omega)) | exact lt_ext hl hl1 (by omega) (show jxw ((a 146 25) + 1) = a 146 25 + 1 by omega)) (by first | exact hnl | (rw [show (SK (UB (a0 164)) (a0 146 22).toNat (a0 146 23).toNat) + (a 146 25).toNat = (jxw ((a 146 23) + (a 146 25))).toNat from by omega, ← h4]; exact LT_no1 (by omega))) hno hwn (by rcases hs with hs | hs <;> first | exact hs.2.1 | exact absurd hs.1 (by assumption)) (by rcases hs with hs | hs <;> first | exact absurd hs.1 (by assumption) | (have hwl := wdl_lt y1.toNat (by omega) y4.toNat (by omega); have h1 := wd_val (w := y1.toNat) (k := y4.toNat) (by omega) (by omega); rw [show 6 * y1.toNat + y4.toNat = (jxw ((jxw (6 * y1)) + y4)).toNat from by omega, ← iv_wd hv] at h1; exact ch_ext hs.2.2 (by omega) (q := (jxw ((a 146 23) + y4)).toNat) (by omega) (by rw [← h4]; exact (show _ = (wdl y1.toNat).getD y4.toNat 0 by omega)) rfl))
        ·
          exact hc180 y1 y2 y4 a (show (((((16 - y1) * 17) + 0) + ((6 - y4) * 1)) + 0).toNat ≤ n from by omega) hv hf (show 0 ≤ y1 from by omega) (show y1 ≤ 15 from by omega) (show 1 ≤ y2 from by omega) (show y2 ≤ 6 from by omega) (show 0 ≤ y4 from by omega) (show y4 ≤ 5 from by omega) (show a 146 25 ≤ 6 from by omega) (show (a 146 23) + (a 146 25) ≤ a 146 22 from by omega) (show a0 146 23 ≤ a 146 23 from by omega) (show 2 ≤ y2 from by omega) (show (y1 = 2 → y2 = 3) from by omega) (show y2 = a 146 25 from by omega) (show y4 < y2 from by omega) (show ((a0 146 23 < a0 146 22 ∧ ¬ a0 164 ((a0 146 23).toNat) = 32) → a 146 23 = a0 146 23) from by omega) (by first | exact hn | (have e := hq0_4; exact e)) (by first | exact hl | exact (fun k hk => absurd hk (show ¬ (k : Int) < 0 by omega)) | exact lt_ext hl hl1 (by omega) (show jxw ((a 146 25) + 1) = a 146 25 + 1 by omega)) (by first | exact hnl | (rw [show (SK (UB (a0 164)) (a0 146 22).toNat (a0 146 23).toNat) + (a 146 25).toNat = (jxw ((a 146 23) + (a 146 25))).toNat from by omega, ← h4]; exact LT_no1 (by omega))) hno hwn (by have hwl := wdl_lt y1.toNat (by omega) y4.toNat (by omega); have h1 := wd_val (w := y1.toNat) (k := y4.toNat) (by omega) (by omega); rw [show 6 * y1.toNat + y4.toNat = (jxw ((jxw (6 * y1)) + y4)).toNat from by omega, ← iv_wd hv] at h1; exact TW_no (y := y4) (by omega) (by omega) (q := (jxw ((a 146 23) + y4)).toNat) (by omega) rfl (by rw [← h4]; omega))
      ·
        refine jt_ite (fun c199_ => ?_) (fun c199_ => ?_)
        ·
          have h200_ : jxw (y1 + 1) = y1 + 1 := jxw_id (by omega) (by omega)
          exact ih79 (jxw (y1 + 1)) a (show (((16 - (jxw (y1 + 1))) * 17) + 16).toNat < n from by omega) hv hf (show 0 ≤ jxw (y1 + 1) from by omega) (show jxw (y1 + 1) ≤ 16 from by omega) (show (a 146 23) + (a 146 25) ≤ a 146 22 from by omega) (show a0 146 23 ≤ a 146 23 from by omega) (show ((a0 146 23 < a0 146 22 ∧ ¬ a0 164 ((a0 146 23).toNat) = 32) → a 146 23 = a0 146 23) from by omega) (by first | exact hn | (have e := hq0_4; exact e)) (by first | exact hl | exact (fun k hk => absurd hk (show ¬ (k : Int) < 0 by omega)) | exact lt_ext hl hl1 (by omega) (show jxw ((a 146 25) + 1) = a 146 25 + 1 by omega)) (by first | exact hnl | (rw [show (SK (UB (a0 164)) (a0 146 22).toNat (a0 146 23).toNat) + (a 146 25).toNat = (jxw ((a 146 23) + (a 146 25))).toNat from by omega, ← h4]; exact LT_no1 (by omega))) (by first | exact (fun v h => absurd h (by omega)) | exact no_ext hno hno1 (by omega) (show jxw (y1 + 1) = y1 + 1 by omega) | (rcases hs with hs | hs <;> first | exact no_ext hno hs.2 (by omega) (show jxw (y1 + 1) = y1 + 1 by omega) | exact absurd hs.1 (by omega)))
        ·
          exact jt_rI ⟨hv, hf, rfl, (show (a 146 23) + (a 146 25) ≤ a 146 22 from by omega), (show a0 146 23 ≤ a 146 23 from by omega), (show 0 - 1 ≤ y1 from by omega), (show y1 ≤ 15 from by omega), (show (y1 = 2 → a 146 25 = 3) from by omega), (show (0 ≤ y1 → 2 ≤ a 146 25) from by omega), (show ((a0 146 23 < a0 146 22 ∧ ¬ a0 164 ((a0 146 23).toNat) = 32) → a 146 23 = a0 146 23) from by omega), hn, (by first | exact (fun w hw => ⟨fun t => absurd t (hno w (by omega) hw), fun e => absurd e (by omega)⟩) | exact (fun w hw => ⟨fun t => by have e := TW_run (s := (a 146 25).toNat) hw (fun k hk => hl k (by omega)) hnl t; have hb := wdn_bd w hw; omega, fun e => absurd e (by omega)⟩) | (rcases hs with hs | hs <;> first | exact absurd hs.1 (by assumption) | (have ht := TW_mk (w := y1.toNat) (q := (SK (UB (a0 164)) (a0 146 22).toNat (a0 146 23).toNat) + (a 146 25).toNat) (by omega) (by omega) (fun k hk => hs.2.2 k (by omega)) hnl; exact fun w hw => ⟨fun t => by have e := TW_one (by omega) hw ht t; omega, fun e => by rw [show w = y1.toNat from by omega]; exact ht⟩))), (by first | exact (fun h => absurd h (by decide)) | (rcases hs with hs | hs <;> first | exact absurd hs.1 (by assumption) | exact (fun _ => by rw [← hs.2.1]; exact hwn)))⟩
  have hc122 : ∀ (y1 y2 : Int) (a : Nat → Nat → Int), (((16 - y1) * 17) + 8).toNat ≤ n → iv a → jfr jW_X12_wordHere a0 a → 0 ≤ y1 → y1 ≤ 15 → 0 ≤ y2 → y2 ≤ 6 → a 146 25 ≤ 6 → (a 146 23) + (a 146 25) ≤ a 146 22 → a0 146 23 ≤ a 146 23 → (y1 = 2 → y2 = 3) → 2 ≤ y2 → ((a0 146 23 < a0 146 22 ∧ ¬ a0 164 ((a0 146 23).toNat) = 32) → a 146 23 = a0 146 23) → (a 146 23 = ((SK (UB (a0 164)) (a0 146 22).toNat (a0 146 23).toNat) : Int)) → (∀ k : Nat, (k : Int) < a 146 25 → LT (UB (a0 164)) (a0 146 22).toNat ((SK (UB (a0 164)) (a0 146 22).toNat (a0 146 23).toNat) + k)) → (¬ LT (UB (a0 164)) (a0 146 22).toNat ((SK (UB (a0 164)) (a0 146 22).toNat (a0 146 23).toNat) + (a 146 25).toNat)) → (∀ v : Nat, (v : Int) < y1 → v < 16 → ¬ TW (UB (a0 164)) (a0 146 22).toNat (SK (UB (a0 164)) (a0 146 22).toNat (a0 146 23).toNat) v) → (y2 = (wdn y1.toNat : Int)) → jt (jxX E d 216 122 [some (.inr (.inr (.inl 146))), some (.inl y1), some (.inl y2), none, none] [] (jxSH, a, b0)) (jQ_X12_wordHere a0 b0) := by
    intro y1 y2 a hm hv hf hi0 hi1 hi2 hi3 hi4 hi5 hi6 hi7 hi8 hi9 hn hl hnl hno hwn
    refine jt_eq (bq_X12_wordHere_122 E d y1 y2 a b0) ?_
    have h201_ := iv_get hv (k := 146) (j := 25) (l := 0) (u := 200) rfl
    have h202_ := iv_get hv (k := 146) (j := 23) (l := 0) (u := 200) rfl
    have h203_ := iv_get hv (k := 146) (j := 22) (l := 0) (u := 200) rfl
    have h204_ : a 146 22 = a0 146 22 := hf 146 22 rfl
    have h205_ := iv_get hv0 (k := 146) (j := 22) (l := 0) (u := 200) rfl
    have h206_ := iv_get hv0 (k := 146) (j := 23) (l := 0) (u := 200) rfl
    have h207_ := iv_get hv0 (k := 164) (j := (a0 146 23).toNat) (l := (-128)) (u := 127) rfl
    have h4 : a 164 = a0 164 := funext fun j => hf 164 j rfl
    have h22 := hf 146 22 rfl
    refine jt_ite (fun c208_ => ?_) (fun c208_ => ?_)
    ·
      exact hc139 y1 y2 1 0 a (show (((((16 - y1) * 17) + 0) + ((6 - 0) * 1)) + 0).toNat ≤ n from by omega) hv hf (show 0 ≤ y1 from by omega) (show y1 ≤ 15 from by omega) (show 0 ≤ y2 from by omega) (show y2 ≤ 6 from by omega) (show 0 ≤ 1 from by omega) (show 1 ≤ 1 from by omega) (show 0 ≤ 0 from by omega) (show 0 ≤ 6 from by omega) (show a 146 25 ≤ 6 from by omega) (show (a 146 23) + (a 146 25) ≤ a 146 22 from by omega) (show a0 146 23 ≤ a 146 23 from by omega) (show 2 ≤ y2 from by omega) (show (y1 = 2 → y2 = 3) from by omega) (show (1 = 0 ∨ y2 = a 146 25) from by omega) (show (1 = 0 ∨ 1 = 1) from by omega) (show ((a0 146 23 < a0 146 22 ∧ ¬ a0 164 ((a0 146 23).toNat) = 32) → a 146 23 = a0 146 23) from by omega) (by first | exact hn | (have e := hq0_4; exact e)) (by first | exact hl | exact (fun k hk => absurd hk (show ¬ (k : Int) < 0 by omega)) | exact lt_ext hl hl1 (by omega) (show jxw ((a 146 25) + 1) = a 146 25 + 1 by omega)) (by first | exact hnl | (rw [show (SK (UB (a0 164)) (a0 146 22).toNat (a0 146 23).toNat) + (a 146 25).toNat = (jxw ((a 146 23) + (a 146 25))).toNat from by omega, ← h4]; exact LT_no1 (by omega))) hno hwn (by first | exact Or.inl ⟨rfl, fun t => by have e := TW_run (s := (a 146 25).toNat) (by omega) (fun k hk => hl k (by omega)) hnl t; omega⟩ | exact Or.inr ⟨rfl, by omega, fun k hk => absurd hk (by omega)⟩ | exact Or.inl ⟨rfl, hno1⟩ | exact Or.inr ⟨rfl, hsz, by rw [show jxw (y4 + 1) = y4 + 1 from by omega]; exact hch⟩)
    ·
      exact hc139 y1 y2 0 0 a (show (((((16 - y1) * 17) + 0) + ((6 - 0) * 1)) + 0).toNat ≤ n from by omega) hv hf (show 0 ≤ y1 from by omega) (show y1 ≤ 15 from by omega) (show 0 ≤ y2 from by omega) (show y2 ≤ 6 from by omega) (show 0 ≤ 0 from by omega) (show 0 ≤ 1 from by omega) (show 0 ≤ 0 from by omega) (show 0 ≤ 6 from by omega) (show a 146 25 ≤ 6 from by omega) (show (a 146 23) + (a 146 25) ≤ a 146 22 from by omega) (show a0 146 23 ≤ a 146 23 from by omega) (show 2 ≤ y2 from by omega) (show (y1 = 2 → y2 = 3) from by omega) (show (0 = 0 ∨ y2 = a 146 25) from by omega) (show (0 = 0 ∨ 0 = 1) from by omega) (show ((a0 146 23 < a0 146 22 ∧ ¬ a0 164 ((a0 146 23).toNat) = 32) → a 146 23 = a0 146 23) from by omega) (by first | exact hn | (have e := hq0_4; exact e)) (by first | exact hl | exact (fun k hk => absurd hk (show ¬ (k : Int) < 0 by omega)) | exact lt_ext hl hl1 (by omega) (show jxw ((a 146 25) + 1) = a 146 25 + 1 by omega)) (by first | exact hnl | (rw [show (SK (UB (a0 164)) (a0 146 22).toNat (a0 146 23).toNat) + (a 146 25).toNat = (jxw ((a 146 23) + (a 146 25))).toNat from by omega, ← h4]; exact LT_no1 (by omega))) hno hwn (by first | exact Or.inl ⟨rfl, fun t => by have e := TW_run (s := (a 146 25).toNat) (by omega) (fun k hk => hl k (by omega)) hnl t; omega⟩ | exact Or.inr ⟨rfl, by omega, fun k hk => absurd hk (by omega)⟩ | exact Or.inl ⟨rfl, hno1⟩ | exact Or.inr ⟨rfl, hsz, by rw [show jxw (y4 + 1) = y4 + 1 from by omega]; exact hch⟩)
  have hc96 : ∀ (y1 y2 : Int) (a : Nat → Nat → Int), (((((16 - y1) * 17) + 8) + ((6 - y2) * 1)) + 0).toNat ≤ n → iv a → jfr jW_X12_wordHere a0 a → 0 ≤ y1 → y1 ≤ 15 → 0 ≤ y2 → y2 ≤ 6 → a 146 25 ≤ 6 → (a 146 23) + (a 146 25) ≤ a 146 22 → a0 146 23 ≤ a 146 23 → (y1 = 2 → y2 ≤ 3) → ((a0 146 23 < a0 146 22 ∧ ¬ a0 164 ((a0 146 23).toNat) = 32) → a 146 23 = a0 146 23) → (a 146 23 = ((SK (UB (a0 164)) (a0 146 22).toNat (a0 146 23).toNat) : Int)) → (∀ k : Nat, (k : Int) < a 146 25 → LT (UB (a0 164)) (a0 146 22).toNat ((SK (UB (a0 164)) (a0 146 22).toNat (a0 146 23).toNat) + k)) → (¬ LT (UB (a0 164)) (a0 146 22).toNat ((SK (UB (a0 164)) (a0 146 22).toNat (a0 146 23).toNat) + (a 146 25).toNat)) → (∀ v : Nat, (v : Int) < y1 → v < 16 → ¬ TW (UB (a0 164)) (a0 146 22).toNat (SK (UB (a0 164)) (a0 146 22).toNat (a0 146 23).toNat) v) → (y2 ≤ (wdn y1.toNat : Int)) → jt (jxX E d 216 96 [some (.inr (.inr (.inl 146))), some (.inl y1), some (.inl y2), none, none] [] (jxSH, a, b0)) (jQ_X12_wordHere a0 b0) := by
    intro y1 y2 a hm hv hf hi0 hi1 hi2 hi3 hi4 hi5 hi6 hi7 hi8 hn hl hnl hno hle
    refine jt_eq (bq_X12_wordHere_96 E d y1 y2 a b0) ?_
    have h209_ := iv_get hv (k := 146) (j := 25) (l := 0) (u := 200) rfl
    have h210_ := iv_get hv (k := 146) (j := 23) (l := 0) (u := 200) rfl
    have h211_ := iv_get hv (k := 146) (j := 22) (l := 0) (u := 200) rfl
    have h212_ : a 146 22 = a0 146 22 := hf 146 22 rfl
    have h213_ := iv_get hv0 (k := 146) (j := 22) (l := 0) (u := 200) rfl
    have h214_ := iv_get hv0 (k := 146) (j := 23) (l := 0) (u := 200) rfl
    have h215_ := iv_get hv0 (k := 164) (j := (a0 146 23).toNat) (l := (-128)) (u := 127) rfl
    have hw1 := wd_ne (y1 := y1) (y2 := y2) (by omega) (by omega)
    rw [← iv_wd hv] at hw1
    have hw2 : y1 = 2 → (y2 = 0 ∨ y2 = 1 ∨ y2 = 2) → ¬ a 165 ((jxw ((jxw (6 * y1)) + y2)).toNat) = 0 := by rintro rfl (rfl | rfl | rfl) <;> rw [iv_wd hv] <;> decide
    have hw3 : y1 = 2 → y2 = 3 → a 165 ((jxw ((jxw (6 * y1)) + y2)).toNat) = 0 := by rintro rfl rfl; rw [iv_wd hv]; decide
    have h4 : a 164 = a0 164 := funext fun j => hf 164 j rfl
    have h22 := hf 146 22 rfl
    refine jt_ite (fun c216_ => ?_) (fun c216_ => ?_)
    ·
      have h217_ : jxw (6 * y1) = 6 * y1 := jxw_id (by omega) (by omega)
      have h218_ : jxw ((jxw (6 * y1)) + y2) = (jxw (6 * y1)) + y2 := jxw_id (by omega) (by omega)
      refine jt_grd (by omega) ?_
      have h219_ := iv_wd hv ((jxw ((jxw (6 * y1)) + y2)).toNat)
      have h220_ : a 165 ((jxw ((jxw (6 * y1)) + y2)).toNat) = a0 165 ((jxw ((jxw (6 * y1)) + y2)).toNat) := hf 165 ((jxw ((jxw (6 * y1)) + y2)).toNat) rfl
      have h221_ := iv_wd hv0 ((jxw ((jxw (6 * y1)) + y2)).toNat)
      refine jt_ite (fun c222_ => ?_) (fun c222_ => ?_)
      ·
        exact hc122 y1 y2 a (show (((16 - y1) * 17) + 8).toNat ≤ n from by omega) hv hf (show 0 ≤ y1 from by omega) (show y1 ≤ 15 from by omega) (show 0 ≤ y2 from by omega) (show y2 ≤ 6 from by omega) (show a 146 25 ≤ 6 from by omega) (show (a 146 23) + (a 146 25) ≤ a 146 22 from by omega) (show a0 146 23 ≤ a 146 23 from by omega) (show (y1 = 2 → y2 = 3) from by omega) (show 2 ≤ y2 from by omega) (show ((a0 146 23 < a0 146 22 ∧ ¬ a0 164 ((a0 146 23).toNat) = 32) → a 146 23 = a0 146 23) from by omega) (by first | exact hn | (have e := hq0_4; exact e)) (by first | exact hl | exact (fun k hk => absurd hk (show ¬ (k : Int) < 0 by omega)) | exact lt_ext hl hl1 (by omega) (show jxw ((a 146 25) + 1) = a 146 25 + 1 by omega)) (by first | exact hnl | (rw [show (SK (UB (a0 164)) (a0 146 22).toNat (a0 146 23).toNat) + (a 146 25).toNat = (jxw ((a 146 23) + (a 146 25))).toNat from by omega, ← h4]; exact LT_no1 (by omega))) hno (by have hb := wdn_bd y1.toNat (by omega); first | omega | (have h1 := wd_in (w := y1.toNat) (k := y2.toNat) (by omega) (by omega); rw [show 6 * y1.toNat + y2.toNat = (jxw ((jxw (6 * y1)) + y2)).toNat from by omega, ← iv_wd hv] at h1; omega))
      ·
        have h223_ : jxw (y2 + 1) = y2 + 1 := jxw_id (by omega) (by omega)
        exact ih96 y1 (jxw (y2 + 1)) a (show (((((16 - y1) * 17) + 8) + ((6 - (jxw (y2 + 1))) * 1)) + 0).toNat < n from by omega) hv hf (show 0 ≤ y1 from by omega) (show y1 ≤ 15 from by omega) (show 0 ≤ jxw (y2 + 1) from by omega) (show jxw (y2 + 1) ≤ 6 from by omega) (show a 146 25 ≤ 6 from by omega) (show (a 146 23) + (a 146 25) ≤ a 146 22 from by omega) (show a0 146 23 ≤ a 146 23 from by omega) (show (y1 = 2 → jxw (y2 + 1) ≤ 3) from by omega) (show ((a0 146 23 < a0 146 22 ∧ ¬ a0 164 ((a0 146 23).toNat) = 32) → a 146 23 = a0 146 23) from by omega) (by first | exact hn | (have e := hq0_4; exact e)) (by first | exact hl | exact (fun k hk => absurd hk (show ¬ (k : Int) < 0 by omega)) | exact lt_ext hl hl1 (by omega) (show jxw ((a 146 25) + 1) = a 146 25 + 1 by omega)) (by first | exact hnl | (rw [show (SK (UB (a0 164)) (a0 146 22).toNat (a0 146 23).toNat) + (a 146 25).toNat = (jxw ((a 146 23) + (a 146 25))).toNat from by omega, ← h4]; exact LT_no1 (by omega))) hno (by first | omega | (have h1 := wd_in (w := y1.toNat) (k := y2.toNat) (by omega) (by omega); rw [show 6 * y1.toNat + y2.toNat = (jxw ((jxw (6 * y1)) + y2)).toNat from by omega, ← iv_wd hv] at h1; omega))
    ·
      exact hc122 y1 y2 a (show (((16 - y1) * 17) + 8).toNat ≤ n from by omega) hv hf (show 0 ≤ y1 from by omega) (show y1 ≤ 15 from by omega) (show 0 ≤ y2 from by omega) (show y2 ≤ 6 from by omega) (show a 146 25 ≤ 6 from by omega) (show (a 146 23) + (a 146 25) ≤ a 146 22 from by omega) (show a0 146 23 ≤ a 146 23 from by omega) (show (y1 = 2 → y2 = 3) from by omega) (show 2 ≤ y2 from by omega) (show ((a0 146 23 < a0 146 22 ∧ ¬ a0 164 ((a0 146 23).toNat) = 32) → a 146 23 = a0 146 23) from by omega) (by first | exact hn | (have e := hq0_4; exact e)) (by first | exact hl | exact (fun k hk => absurd hk (show ¬ (k : Int) < 0 by omega)) | exact lt_ext hl hl1 (by omega) (show jxw ((a 146 25) + 1) = a 146 25 + 1 by omega)) (by first | exact hnl | (rw [show (SK (UB (a0 164)) (a0 146 22).toNat (a0 146 23).toNat) + (a 146 25).toNat = (jxw ((a 146 23) + (a 146 25))).toNat from by omega, ← h4]; exact LT_no1 (by omega))) hno (by have hb := wdn_bd y1.toNat (by omega); first | omega | (have h1 := wd_in (w := y1.toNat) (k := y2.toNat) (by omega) (by omega); rw [show 6 * y1.toNat + y2.toNat = (jxw ((jxw (6 * y1)) + y2)).toNat from by omega, ← iv_wd hv] at h1; omega))
  have hc79 : ∀ (y1 : Int) (a : Nat → Nat → Int), (((16 - y1) * 17) + 16).toNat ≤ n → iv a → jfr jW_X12_wordHere a0 a → 0 ≤ y1 → y1 ≤ 16 → (a 146 23) + (a 146 25) ≤ a 146 22 → a0 146 23 ≤ a 146 23 → ((a0 146 23 < a0 146 22 ∧ ¬ a0 164 ((a0 146 23).toNat) = 32) → a 146 23 = a0 146 23) → (a 146 23 = ((SK (UB (a0 164)) (a0 146 22).toNat (a0 146 23).toNat) : Int)) → (∀ k : Nat, (k : Int) < a 146 25 → LT (UB (a0 164)) (a0 146 22).toNat ((SK (UB (a0 164)) (a0 146 22).toNat (a0 146 23).toNat) + k)) → (¬ LT (UB (a0 164)) (a0 146 22).toNat ((SK (UB (a0 164)) (a0 146 22).toNat (a0 146 23).toNat) + (a 146 25).toNat)) → (∀ v : Nat, (v : Int) < y1 → v < 16 → ¬ TW (UB (a0 164)) (a0 146 22).toNat (SK (UB (a0 164)) (a0 146 22).toNat (a0 146 23).toNat) v) → jt (jxX E d 216 79 [some (.inr (.inr (.inl 146))), some (.inl y1), none, none, none] [] (jxSH, a, b0)) (jQ_X12_wordHere a0 b0) := by
    intro y1 a hm hv hf hi0 hi1 hi2 hi3 hi4 hn hl hnl hno
    refine jt_eq (bq_X12_wordHere_79 E d y1 a b0) ?_
    have h224_ := iv_get hv (k := 146) (j := 23) (l := 0) (u := 200) rfl
    have h225_ := iv_get hv (k := 146) (j := 25) (l := 0) (u := 200) rfl
    have h226_ := iv_get hv (k := 146) (j := 22) (l := 0) (u := 200) rfl
    have h227_ : a 146 22 = a0 146 22 := hf 146 22 rfl
    have h228_ := iv_get hv0 (k := 146) (j := 22) (l := 0) (u := 200) rfl
    have h229_ := iv_get hv0 (k := 146) (j := 23) (l := 0) (u := 200) rfl
    have h230_ := iv_get hv0 (k := 164) (j := (a0 146 23).toNat) (l := (-128)) (u := 127) rfl
    have h4 : a 164 = a0 164 := funext fun j => hf 164 j rfl
    have h22 := hf 146 22 rfl
    refine jt_ite (fun c231_ => ?_) (fun c231_ => ?_)
    ·
      refine jt_ite (fun c232_ => ?_) (fun c232_ => ?_)
      ·
        exact jt_rI ⟨hv, hf, rfl, (show (a 146 23) + (a 146 25) ≤ a 146 22 from by omega), (show a0 146 23 ≤ a 146 23 from by omega), (show 0 - 1 ≤ (-1) from by omega), (show (-1) ≤ 15 from by omega), (show ((-1) = 2 → a 146 25 = 3) from by omega), (show (0 ≤ (-1) → 2 ≤ a 146 25) from by omega), (show ((a0 146 23 < a0 146 22 ∧ ¬ a0 164 ((a0 146 23).toNat) = 32) → a 146 23 = a0 146 23) from by omega), hn, (by first | exact (fun w hw => ⟨fun t => absurd t (hno w (by omega) hw), fun e => absurd e (by omega)⟩) | exact (fun w hw => ⟨fun t => by have e := TW_run (s := (a 146 25).toNat) hw (fun k hk => hl k (by omega)) hnl t; have hb := wdn_bd w hw; omega, fun e => absurd e (by omega)⟩) | (rcases hs with hs | hs <;> first | exact absurd hs.1 (by assumption) | (have ht := TW_mk (w := y1.toNat) (q := (SK (UB (a0 164)) (a0 146 22).toNat (a0 146 23).toNat) + (a 146 25).toNat) (by omega) (by omega) (fun k hk => hs.2.2 k (by omega)) hnl; exact fun w hw => ⟨fun t => by have e := TW_one (by omega) hw ht t; omega, fun e => by rw [show w = y1.toNat from by omega]; exact ht⟩))), (by first | exact (fun h => absurd h (by decide)) | (rcases hs with hs | hs <;> first | exact absurd hs.1 (by assumption) | exact (fun _ => by rw [← hs.2.1]; exact hwn)))⟩
      ·
        exact hc96 y1 0 a (show (((((16 - y1) * 17) + 8) + ((6 - 0) * 1)) + 0).toNat ≤ n from by omega) hv hf (show 0 ≤ y1 from by omega) (show y1 ≤ 15 from by omega) (show 0 ≤ 0 from by omega) (show 0 ≤ 6 from by omega) (show a 146 25 ≤ 6 from by omega) (show (a 146 23) + (a 146 25) ≤ a 146 22 from by omega) (show a0 146 23 ≤ a 146 23 from by omega) (show (y1 = 2 → 0 ≤ 3) from by omega) (show ((a0 146 23 < a0 146 22 ∧ ¬ a0 164 ((a0 146 23).toNat) = 32) → a 146 23 = a0 146 23) from by omega) (by first | exact hn | (have e := hq0_4; exact e)) (by first | exact hl | exact (fun k hk => absurd hk (show ¬ (k : Int) < 0 by omega)) | exact lt_ext hl hl1 (by omega) (show jxw ((a 146 25) + 1) = a 146 25 + 1 by omega)) (by first | exact hnl | (rw [show (SK (UB (a0 164)) (a0 146 22).toNat (a0 146 23).toNat) + (a 146 25).toNat = (jxw ((a 146 23) + (a 146 25))).toNat from by omega, ← h4]; exact LT_no1 (by omega))) hno (by first | omega | (have h1 := wd_in (w := y1.toNat) (k := y2.toNat) (by omega) (by omega); rw [show 6 * y1.toNat + y2.toNat = (jxw ((jxw (6 * y1)) + y2)).toNat from by omega, ← iv_wd hv] at h1; omega))
    ·
      exact jt_rI ⟨hv, hf, rfl, (show (a 146 23) + (a 146 25) ≤ a 146 22 from by omega), (show a0 146 23 ≤ a 146 23 from by omega), (show 0 - 1 ≤ (-1) from by omega), (show (-1) ≤ 15 from by omega), (show ((-1) = 2 → a 146 25 = 3) from by omega), (show (0 ≤ (-1) → 2 ≤ a 146 25) from by omega), (show ((a0 146 23 < a0 146 22 ∧ ¬ a0 164 ((a0 146 23).toNat) = 32) → a 146 23 = a0 146 23) from by omega), hn, (by first | exact (fun w hw => ⟨fun t => absurd t (hno w (by omega) hw), fun e => absurd e (by omega)⟩) | exact (fun w hw => ⟨fun t => by have e := TW_run (s := (a 146 25).toNat) hw (fun k hk => hl k (by omega)) hnl t; have hb := wdn_bd w hw; omega, fun e => absurd e (by omega)⟩) | (rcases hs with hs | hs <;> first | exact absurd hs.1 (by assumption) | (have ht := TW_mk (w := y1.toNat) (q := (SK (UB (a0 164)) (a0 146 22).toNat (a0 146 23).toNat) + (a 146 25).toNat) (by omega) (by omega) (fun k hk => hs.2.2 k (by omega)) hnl; exact fun w hw => ⟨fun t => by have e := TW_one (by omega) hw ht t; omega, fun e => by rw [show w = y1.toNat from by omega]; exact ht⟩))), (by first | exact (fun h => absurd h (by decide)) | (rcases hs with hs | hs <;> first | exact absurd hs.1 (by assumption) | exact (fun _ => by rw [← hs.2.1]; exact hwn)))⟩
  exact ⟨hc176, hc180, hc139, hc122, hc96, hc79⟩
theorem cp_X12_wordHere_77 (E : jxE) (d : Nat) (hd : Nat.ble 2 (d + 1) = true) (a0 b0 : Nat → Nat → Int) (hv0 : iv a0) (hp0 : a0 146 23 ≤ a0 146 22) : ∀ (a : Nat → Nat → Int), iv a → jfr jW_X12_wordHere a0 a → (a 146 23) + (a 146 25) ≤ a 146 22 → a0 146 23 ≤ a 146 23 → ((a0 146 23 < a0 146 22 ∧ ¬ a0 164 ((a0 146 23).toNat) = 32) → a 146 23 = a0 146 23) → (a 146 23 = ((SK (UB (a0 164)) (a0 146 22).toNat (a0 146 23).toNat) : Int)) → (∀ k : Nat, (k : Int) < a 146 25 → LT (UB (a0 164)) (a0 146 22).toNat ((SK (UB (a0 164)) (a0 146 22).toNat (a0 146 23).toNat) + k)) → (¬ LT (UB (a0 164)) (a0 146 22).toNat ((SK (UB (a0 164)) (a0 146 22).toNat (a0 146 23).toNat) + (a 146 25).toNat)) → jt (jxX E d 216 77 [some (.inr (.inr (.inl 146))), none, none, none, none] [] (jxSH, a, b0)) (jQ_X12_wordHere a0 b0) := by
  intro a hv hf hi0 hi1 hi2 hn hl hnl
  refine jt_eq (bq_X12_wordHere_77 E d a b0) ?_
  have h233_ := iv_get hv (k := 146) (j := 23) (l := 0) (u := 200) rfl
  have h234_ := iv_get hv (k := 146) (j := 25) (l := 0) (u := 200) rfl
  have h235_ := iv_get hv (k := 146) (j := 22) (l := 0) (u := 200) rfl
  have h236_ : a 146 22 = a0 146 22 := hf 146 22 rfl
  have h237_ := iv_get hv0 (k := 146) (j := 22) (l := 0) (u := 200) rfl
  have h238_ := iv_get hv0 (k := 146) (j := 23) (l := 0) (u := 200) rfl
  have h239_ := iv_get hv0 (k := 164) (j := (a0 146 23).toNat) (l := (-128)) (u := 127) rfl
  have h4 : a 164 = a0 164 := funext fun j => hf 164 j rfl
  have h22 := hf 146 22 rfl
  exact (cp_X12_wordHere_79 E d hd a0 b0 hv0 hp0 _).2.2.2.2.2 0 a (Nat.le_refl _) hv hf (show 0 ≤ 0 from by omega) (show 0 ≤ 16 from by omega) (show (a 146 23) + (a 146 25) ≤ a 146 22 from by omega) (show a0 146 23 ≤ a 146 23 from by omega) (show ((a0 146 23 < a0 146 22 ∧ ¬ a0 164 ((a0 146 23).toNat) = 32) → a 146 23 = a0 146 23) from by omega) (by first | exact hn | (have e := hq0_4; exact e)) (by first | exact hl | exact (fun k hk => absurd hk (show ¬ (k : Int) < 0 by omega)) | exact lt_ext hl hl1 (by omega) (show jxw ((a 146 25) + 1) = a 146 25 + 1 by omega)) (by first | exact hnl | (rw [show (SK (UB (a0 164)) (a0 146 22).toNat (a0 146 23).toNat) + (a 146 25).toNat = (jxw ((a 146 23) + (a 146 25))).toNat from by omega, ← h4]; exact LT_no1 (by omega))) (by first | exact (fun v h => absurd h (by omega)) | exact no_ext hno hno1 (by omega) (show jxw (y1 + 1) = y1 + 1 by omega) | (rcases hs with hs | hs <;> first | exact no_ext hno hs.2 (by omega) (show jxw (y1 + 1) = y1 + 1 by omega) | exact absurd hs.1 (by omega)))
theorem cp_X12_wordHere_10 (E : jxE) (d : Nat) (hd : Nat.ble 2 (d + 1) = true) (a0 b0 : Nat → Nat → Int) (hv0 : iv a0) (hp0 : a0 146 23 ≤ a0 146 22) : ∀ n : Nat, (∀ (a : Nat → Nat → Int), (((((a 146 22) - (a 146 23)) - (a 146 25)) * 2) + 1).toNat ≤ n → iv a → jfr jW_X12_wordHere a0 a → 1 ≤ a 146 22 → 1 ≤ a 146 25 → (a 146 23) + (a 146 25) ≤ a 146 22 → a0 146 23 ≤ a 146 23 → ((a0 146 23 < a0 146 22 ∧ ¬ a0 164 ((a0 146 23).toNat) = 32) → a 146 23 = a0 146 23) → (a 146 23 = ((SK (UB (a0 164)) (a0 146 22).toNat (a0 146 23).toNat) : Int)) → (∀ k : Nat, (k : Int) < a 146 25 → LT (UB (a0 164)) (a0 146 22).toNat ((SK (UB (a0 164)) (a0 146 22).toNat (a0 146 23).toNat) + k)) → jt (jxX E d 216 74 [some (.inr (.inr (.inl 146))), none, none, none, none] [] (jxSH, a, b0)) (jQ_X12_wordHere a0 b0)) ∧ (∀ (a : Nat → Nat → Int), (((((a 146 22) - (a 146 23)) - (a 146 25)) * 2) + 0).toNat ≤ n → iv a → jfr jW_X12_wordHere a0 a → 1 ≤ a 146 22 → (a 146 23) + (a 146 25) ≤ a 146 22 → a0 146 23 ≤ a 146 23 → (a 146 23) + (a 146 25) < a 146 22 → ((a0 146 23 < a0 146 22 ∧ ¬ a0 164 ((a0 146 23).toNat) = 32) → a 146 23 = a0 146 23) → (a 146 23 = ((SK (UB (a0 164)) (a0 146 22).toNat (a0 146 23).toNat) : Int)) → (∀ k : Nat, (k : Int) < a 146 25 → LT (UB (a0 164)) (a0 146 22).toNat ((SK (UB (a0 164)) (a0 146 22).toNat (a0 146 23).toNat) + k)) → (97 ≤ a 164 (jxw ((a 146 23) + (a 146 25))).toNat) → (a 146 23) + (a 146 25) < a 146 22 → jt (jxX E d 216 45 [some (.inr (.inr (.inl 146))), none, none, none, none] [] (jxSH, a, b0)) (jQ_X12_wordHere a0 b0)) ∧ (∀ (a : Nat → Nat → Int), (((((a 146 22) - (a 146 23)) - (a 146 25)) * 2) + 0).toNat ≤ n → iv a → jfr jW_X12_wordHere a0 a → (a 146 23) + (a 146 25) ≤ a 146 22 → a0 146 23 ≤ a 146 23 → ((a0 146 23 < a0 146 22 ∧ ¬ a0 164 ((a0 146 23).toNat) = 32) → a 146 23 = a0 146 23) → (a 146 23 = ((SK (UB (a0 164)) (a0 146 22).toNat (a0 146 23).toNat) : Int)) → (∀ k : Nat, (k : Int) < a 146 25 → LT (UB (a0 164)) (a0 146 22).toNat ((SK (UB (a0 164)) (a0 146 22).toNat (a0 146 23).toNat) + k)) → jt (jxX E d 216 10 [some (.inr (.inr (.inl 146))), none, none, none, none] [] (jxSH, a, b0)) (jQ_X12_wordHere a0 b0)) := by
  refine jx_ind fun n ih => ?_
  have ih74 : ∀ (a : Nat → Nat → Int), (((((a 146 22) - (a 146 23)) - (a 146 25)) * 2) + 1).toNat < n → iv a → jfr jW_X12_wordHere a0 a → 1 ≤ a 146 22 → 1 ≤ a 146 25 → (a 146 23) + (a 146 25) ≤ a 146 22 → a0 146 23 ≤ a 146 23 → ((a0 146 23 < a0 146 22 ∧ ¬ a0 164 ((a0 146 23).toNat) = 32) → a 146 23 = a0 146 23) → (a 146 23 = ((SK (UB (a0 164)) (a0 146 22).toNat (a0 146 23).toNat) : Int)) → (∀ k : Nat, (k : Int) < a 146 25 → LT (UB (a0 164)) (a0 146 22).toNat ((SK (UB (a0 164)) (a0 146 22).toNat (a0 146 23).toNat) + k)) → jt (jxX E d 216 74 [some (.inr (.inr (.inl 146))), none, none, none, none] [] (jxSH, a, b0)) (jQ_X12_wordHere a0 b0) := fun a hlt i0 i1 i2 i3 i4 i5 i6 i7 i8 => (ih _ hlt).1 a (Nat.le_refl _) i0 i1 i2 i3 i4 i5 i6 i7 i8
  have ih45 : ∀ (a : Nat → Nat → Int), (((((a 146 22) - (a 146 23)) - (a 146 25)) * 2) + 0).toNat < n → iv a → jfr jW_X12_wordHere a0 a → 1 ≤ a 146 22 → (a 146 23) + (a 146 25) ≤ a 146 22 → a0 146 23 ≤ a 146 23 → (a 146 23) + (a 146 25) < a 146 22 → ((a0 146 23 < a0 146 22 ∧ ¬ a0 164 ((a0 146 23).toNat) = 32) → a 146 23 = a0 146 23) → (a 146 23 = ((SK (UB (a0 164)) (a0 146 22).toNat (a0 146 23).toNat) : Int)) → (∀ k : Nat, (k : Int) < a 146 25 → LT (UB (a0 164)) (a0 146 22).toNat ((SK (UB (a0 164)) (a0 146 22).toNat (a0 146 23).toNat) + k)) → (97 ≤ a 164 (jxw ((a 146 23) + (a 146 25))).toNat) → (a 146 23) + (a 146 25) < a 146 22 → jt (jxX E d 216 45 [some (.inr (.inr (.inl 146))), none, none, none, none] [] (jxSH, a, b0)) (jQ_X12_wordHere a0 b0) := fun a hlt i0 i1 i2 i3 i4 i5 i6 i7 i8 i9 i10 => (ih _ hlt).2.1 a (Nat.le_refl _) i0 i1 i2 i3 i4 i5 i6 i7 i8 i9 i10
  have ih10 : ∀ (a : Nat → Nat → Int), (((((a 146 22) - (a 146 23)) - (a 146 25)) * 2) + 0).toNat < n → iv a → jfr jW_X12_wordHere a0 a → (a 146 23) + (a 146 25) ≤ a 146 22 → a0 146 23 ≤ a 146 23 → ((a0 146 23 < a0 146 22 ∧ ¬ a0 164 ((a0 146 23).toNat) = 32) → a 146 23 = a0 146 23) → (a 146 23 = ((SK (UB (a0 164)) (a0 146 22).toNat (a0 146 23).toNat) : Int)) → (∀ k : Nat, (k : Int) < a 146 25 → LT (UB (a0 164)) (a0 146 22).toNat ((SK (UB (a0 164)) (a0 146 22).toNat (a0 146 23).toNat) + k)) → jt (jxX E d 216 10 [some (.inr (.inr (.inl 146))), none, none, none, none] [] (jxSH, a, b0)) (jQ_X12_wordHere a0 b0) := fun a hlt i0 i1 i2 i3 i4 i5 i6 => (ih _ hlt).2.2 a (Nat.le_refl _) i0 i1 i2 i3 i4 i5 i6
  have hc74 : ∀ (a : Nat → Nat → Int), (((((a 146 22) - (a 146 23)) - (a 146 25)) * 2) + 1).toNat ≤ n → iv a → jfr jW_X12_wordHere a0 a → 1 ≤ a 146 22 → 1 ≤ a 146 25 → (a 146 23) + (a 146 25) ≤ a 146 22 → a0 146 23 ≤ a 146 23 → ((a0 146 23 < a0 146 22 ∧ ¬ a0 164 ((a0 146 23).toNat) = 32) → a 146 23 = a0 146 23) → (a 146 23 = ((SK (UB (a0 164)) (a0 146 22).toNat (a0 146 23).toNat) : Int)) → (∀ k : Nat, (k : Int) < a 146 25 → LT (UB (a0 164)) (a0 146 22).toNat ((SK (UB (a0 164)) (a0 146 22).toNat (a0 146 23).toNat) + k)) → jt (jxX E d 216 74 [some (.inr (.inr (.inl 146))), none, none, none, none] [] (jxSH, a, b0)) (jQ_X12_wordHere a0 b0) := by
    intro a hm hv hf hi0 hi1 hi2 hi3 hi4 hn hl
    refine jt_eq (bq_X12_wordHere_74 E d a b0) ?_
    have h240_ := iv_get hv (k := 146) (j := 22) (l := 0) (u := 200) rfl
    have h241_ : a 146 22 = a0 146 22 := hf 146 22 rfl
    have h242_ := iv_get hv0 (k := 146) (j := 22) (l := 0) (u := 200) rfl
    have h243_ := iv_get hv (k := 146) (j := 25) (l := 0) (u := 200) rfl
    have h244_ := iv_get hv (k := 146) (j := 23) (l := 0) (u := 200) rfl
    have h245_ := iv_get hv0 (k := 146) (j := 23) (l := 0) (u := 200) rfl
    have h246_ := iv_get hv0 (k := 164) (j := (a0 146 23).toNat) (l := (-128)) (u := 127) rfl
    have h4 : a 164 = a0 164 := funext fun j => hf 164 j rfl
    have h22 := hf 146 22 rfl
    exact ih10 a (show (((((a 146 22) - (a 146 23)) - (a 146 25)) * 2) + 0).toNat < n from by omega) hv hf (show (a 146 23) + (a 146 25) ≤ a 146 22 from by omega) (show a0 146 23 ≤ a 146 23 from by omega) (show ((a0 146 23 < a0 146 22 ∧ ¬ a0 164 ((a0 146 23).toNat) = 32) → a 146 23 = a0 146 23) from by omega) (by first | exact hn | (have e := hq0_4; exact e)) (by first | exact hl | exact (fun k hk => absurd hk (show ¬ (k : Int) < 0 by omega)) | exact lt_ext hl hl1 (by omega) (show jxw ((a 146 25) + 1) = a 146 25 + 1 by omega))
  have hc45 : ∀ (a : Nat → Nat → Int), (((((a 146 22) - (a 146 23)) - (a 146 25)) * 2) + 0).toNat ≤ n → iv a → jfr jW_X12_wordHere a0 a → 1 ≤ a 146 22 → (a 146 23) + (a 146 25) ≤ a 146 22 → a0 146 23 ≤ a 146 23 → (a 146 23) + (a 146 25) < a 146 22 → ((a0 146 23 < a0 146 22 ∧ ¬ a0 164 ((a0 146 23).toNat) = 32) → a 146 23 = a0 146 23) → (a 146 23 = ((SK (UB (a0 164)) (a0 146 22).toNat (a0 146 23).toNat) : Int)) → (∀ k : Nat, (k : Int) < a 146 25 → LT (UB (a0 164)) (a0 146 22).toNat ((SK (UB (a0 164)) (a0 146 22).toNat (a0 146 23).toNat) + k)) → (97 ≤ a 164 (jxw ((a 146 23) + (a 146 25))).toNat) → (a 146 23) + (a 146 25) < a 146 22 → jt (jxX E d 216 45 [some (.inr (.inr (.inl 146))), none, none, none, none] [] (jxSH, a, b0)) (jQ_X12_wordHere a0 b0) := by
    intro a hm hv hf hi0 hi1 hi2 hi3 hi4 hn hl h97 hi8
    refine jt_eq (bq_X12_wordHere_45 E d a b0) ?_
    have h247_ := iv_get hv (k := 146) (j := 22) (l := 0) (u := 200) rfl
    have h248_ : a 146 22 = a0 146 22 := hf 146 22 rfl
    have h249_ := iv_get hv0 (k := 146) (j := 22) (l := 0) (u := 200) rfl
    have h250_ := iv_get hv (k := 146) (j := 23) (l := 0) (u := 200) rfl
    have h251_ := iv_get hv (k := 146) (j := 25) (l := 0) (u := 200) rfl
    have h252_ := iv_get hv0 (k := 146) (j := 23) (l := 0) (u := 200) rfl
    have h253_ := iv_get hv0 (k := 164) (j := (a0 146 23).toNat) (l := (-128)) (u := 127) rfl
    have h4 : a 164 = a0 164 := funext fun j => hf 164 j rfl
    have h22 := hf 146 22 rfl
    have hub := UB_sp (g := a 164) (j := (jxw ((a 146 23) + (a 146 25))).toNat) (iv_get hv (k := 164) (j := (jxw ((a 146 23) + (a 146 25))).toNat) (l := -128) (u := 127) rfl).1 (iv_get hv (k := 164) (j := (jxw ((a 146 23) + (a 146 25))).toNat) (l := -128) (u := 127) rfl).2
    have h254_ : jxw ((a 146 23) + (a 146 25)) = (a 146 23) + (a 146 25) := jxw_id (by omega) (by omega)
    refine jt_grd (by omega) ?_
    have h255_ := iv_get hv (k := 164) (j := (jxw ((a 146 23) + (a 146 25))).toNat) (l := (-128)) (u := 127) rfl
    have h256_ : a 164 ((jxw ((a 146 23) + (a 146 25))).toNat) = a0 164 ((jxw ((a 146 23) + (a 146 25))).toNat) := hf 164 ((jxw ((a 146 23) + (a 146 25))).toNat) rfl
    have h257_ := iv_get hv0 (k := 164) (j := (jxw ((a 146 23) + (a 146 25))).toNat) (l := (-128)) (u := 127) rfl
    refine jt_ite (fun c258_ => ?_) (fun c258_ => ?_)
    ·
      exact cp_X12_wordHere_77 E d hd a0 b0 hv0 hp0 a hv hf (show (a 146 23) + (a 146 25) ≤ a 146 22 from by omega) (show a0 146 23 ≤ a 146 23 from by omega) (show ((a0 146 23 < a0 146 22 ∧ ¬ a0 164 ((a0 146 23).toNat) = 32) → a 146 23 = a0 146 23) from by omega) (by first | exact hn | (have e := hq0_4; exact e)) (by first | exact hl | exact (fun k hk => absurd hk (show ¬ (k : Int) < 0 by omega)) | exact lt_ext hl hl1 (by omega) (show jxw ((a 146 25) + 1) = a 146 25 + 1 by omega)) (by first | exact hnl | (rw [show (SK (UB (a0 164)) (a0 146 22).toNat (a0 146 23).toNat) + (a 146 25).toNat = (jxw ((a 146 23) + (a 146 25))).toNat from by omega, ← h4]; exact LT_no1 (by omega)))
    ·
      have h260_ : jxw ((a 146 25) + 1) = (a 146 25) + 1 := jxw_id (by omega) (by omega)
      have hv259_ : iv (jxu a 146 25 (jxw ((a 146 25) + 1))) := iv_put hv (l := 0) (u := 200) rfl (by omega) (by omega)
      have hf261_ : jfr jW_X12_wordHere a0 (jxu a 146 25 (jxw ((a 146 25) + 1))) := jfr_put hf rfl
      exact hc74 (jxu a 146 25 (jxw ((a 146 25) + 1))) (show (((((a 146 22) - (a 146 23)) - (jxw ((a 146 25) + 1))) * 2) + 1).toNat ≤ n from by omega) hv259_ hf261_ (show 1 ≤ a 146 22 from by omega) (show 1 ≤ jxw ((a 146 25) + 1) from by omega) (show (a 146 23) + (jxw ((a 146 25) + 1)) ≤ a 146 22 from by omega) (show a0 146 23 ≤ a 146 23 from by omega) (show ((a0 146 23 < a0 146 22 ∧ ¬ a0 164 ((a0 146 23).toNat) = 32) → a 146 23 = a0 146 23) from by omega) (by first | exact hn | (have e := hq0_4; exact e)) (lt_ext hl (by rw [show (SK (UB (a0 164)) (a0 146 22).toNat (a0 146 23).toNat) + (a 146 25).toNat = (jxw ((a 146 23) + (a 146 25))).toNat from by omega, ← h4]; exact ⟨by omega, by omega, by omega⟩) (by omega) (show jxw ((a 146 25) + 1) = a 146 25 + 1 by omega))
  have hc10 : ∀ (a : Nat → Nat → Int), (((((a 146 22) - (a 146 23)) - (a 146 25)) * 2) + 0).toNat ≤ n → iv a → jfr jW_X12_wordHere a0 a → (a 146 23) + (a 146 25) ≤ a 146 22 → a0 146 23 ≤ a 146 23 → ((a0 146 23 < a0 146 22 ∧ ¬ a0 164 ((a0 146 23).toNat) = 32) → a 146 23 = a0 146 23) → (a 146 23 = ((SK (UB (a0 164)) (a0 146 22).toNat (a0 146 23).toNat) : Int)) → (∀ k : Nat, (k : Int) < a 146 25 → LT (UB (a0 164)) (a0 146 22).toNat ((SK (UB (a0 164)) (a0 146 22).toNat (a0 146 23).toNat) + k)) → jt (jxX E d 216 10 [some (.inr (.inr (.inl 146))), none, none, none, none] [] (jxSH, a, b0)) (jQ_X12_wordHere a0 b0) := by
    intro a hm hv hf hi0 hi1 hi2 hn hl
    refine jt_eq (bq_X12_wordHere_10 E d a b0) ?_
    have h262_ := iv_get hv (k := 146) (j := 23) (l := 0) (u := 200) rfl
    have h263_ := iv_get hv (k := 146) (j := 25) (l := 0) (u := 200) rfl
    have h264_ := iv_get hv (k := 146) (j := 22) (l := 0) (u := 200) rfl
    have h265_ : a 146 22 = a0 146 22 := hf 146 22 rfl
    have h266_ := iv_get hv0 (k := 146) (j := 22) (l := 0) (u := 200) rfl
    have h267_ := iv_get hv0 (k := 146) (j := 23) (l := 0) (u := 200) rfl
    have h268_ := iv_get hv0 (k := 164) (j := (a0 146 23).toNat) (l := (-128)) (u := 127) rfl
    have h4 : a 164 = a0 164 := funext fun j => hf 164 j rfl
    have h22 := hf 146 22 rfl
    have hub := UB_sp (g := a 164) (j := (jxw ((a 146 23) + (a 146 25))).toNat) (iv_get hv (k := 164) (j := (jxw ((a 146 23) + (a 146 25))).toNat) (l := -128) (u := 127) rfl).1 (iv_get hv (k := 164) (j := (jxw ((a 146 23) + (a 146 25))).toNat) (l := -128) (u := 127) rfl).2
    have h269_ : jxw ((a 146 23) + (a 146 25)) = (a 146 23) + (a 146 25) := jxw_id (by omega) (by omega)
    refine jt_ite (fun c270_ => ?_) (fun c270_ => ?_)
    ·
      refine jt_grd (by omega) ?_
      have h271_ := iv_get hv (k := 164) (j := (jxw ((a 146 23) + (a 146 25))).toNat) (l := (-128)) (u := 127) rfl
      have h272_ : a 164 ((jxw ((a 146 23) + (a 146 25))).toNat) = a0 164 ((jxw ((a 146 23) + (a 146 25))).toNat) := hf 164 ((jxw ((a 146 23) + (a 146 25))).toNat) rfl
      have h273_ := iv_get hv0 (k := 164) (j := (jxw ((a 146 23) + (a 146 25))).toNat) (l := (-128)) (u := 127) rfl
      refine jt_ite (fun c274_ => ?_) (fun c274_ => ?_)
      ·
        exact cp_X12_wordHere_77 E d hd a0 b0 hv0 hp0 a hv hf (show (a 146 23) + (a 146 25) ≤ a 146 22 from by omega) (show a0 146 23 ≤ a 146 23 from by omega) (show ((a0 146 23 < a0 146 22 ∧ ¬ a0 164 ((a0 146 23).toNat) = 32) → a 146 23 = a0 146 23) from by omega) (by first | exact hn | (have e := hq0_4; exact e)) (by first | exact hl | exact (fun k hk => absurd hk (show ¬ (k : Int) < 0 by omega)) | exact lt_ext hl hl1 (by omega) (show jxw ((a 146 25) + 1) = a 146 25 + 1 by omega)) (by first | exact hnl | (rw [show (SK (UB (a0 164)) (a0 146 22).toNat (a0 146 23).toNat) + (a 146 25).toNat = (jxw ((a 146 23) + (a 146 25))).toNat from by omega, ← h4]; exact LT_no1 (by omega)))
      ·
        exact hc45 a (show (((((a 146 22) - (a 146 23)) - (a 146 25)) * 2) + 0).toNat ≤ n from by omega) hv hf (show 1 ≤ a 146 22 from by omega) (show (a 146 23) + (a 146 25) ≤ a 146 22 from by omega) (show a0 146 23 ≤ a 146 23 from by omega) (show (a 146 23) + (a 146 25) < a 146 22 from by omega) (show ((a0 146 23 < a0 146 22 ∧ ¬ a0 164 ((a0 146 23).toNat) = 32) → a 146 23 = a0 146 23) from by omega) (by first | exact hn | (have e := hq0_4; exact e)) (by first | exact hl | exact (fun k hk => absurd hk (show ¬ (k : Int) < 0 by omega)) | exact lt_ext hl hl1 (by omega) (show jxw ((a 146 25) + 1) = a 146 25 + 1 by omega)) (by omega) (show (a 146 23) + (a 146 25) < a 146 22 from by omega)
    ·
      exact cp_X12_wordHere_77 E d hd a0 b0 hv0 hp0 a hv hf (show (a 146 23) + (a 146 25) ≤ a 146 22 from by omega) (show a0 146 23 ≤ a 146 23 from by omega) (show ((a0 146 23 < a0 146 22 ∧ ¬ a0 164 ((a0 146 23).toNat) = 32) → a 146 23 = a0 146 23) from by omega) (by first | exact hn | (have e := hq0_4; exact e)) (by first | exact hl | exact (fun k hk => absurd hk (show ¬ (k : Int) < 0 by omega)) | exact lt_ext hl hl1 (by omega) (show jxw ((a 146 25) + 1) = a 146 25 + 1 by omega)) (by first | exact hnl | (rw [show (SK (UB (a0 164)) (a0 146 22).toNat (a0 146 23).toNat) + (a 146 25).toNat = (jxw ((a 146 23) + (a 146 25))).toNat from by omega, ← h4]; exact LT_no1 (by omega)))
  exact ⟨hc74, hc45, hc10⟩
theorem sp_X12_wordHere (E : jxE) (d : Nat) (hd : Nat.ble 2 d = true) (a0 b0 : Nat → Nat → Int) (hv0 : iv a0) (hp0 : a0 146 23 ≤ a0 146 22) : jt (jxC E d 216 [.inr (.inr (.inl 146))] (jxSH, a0, b0)) (jQ_X12_wordHere a0 b0) := by
  obtain ⟨d, rfl⟩ := jd_succ hd
  refine jt_eq (bq_X12_wordHere E d a0 b0) ?_
  have h275_ := iv_get hv0 (k := 146) (j := 23) (l := 0) (u := 200) rfl
  have h276_ := iv_get hv0 (k := 146) (j := 22) (l := 0) (u := 200) rfl
  refine jt_bI (sp_X12_see E d (jd_le hd rfl) a0 b0 hv0 (show a0 146 23 ≤ a0 146 22 from by omega)) (fun r277_ a277_ b277_ h277_ => ?_)
  obtain ⟨hv277_, hf277_, rfl, hq277_0, hq277_1, hq277_2, hq277_3, hq277_4, hq277_5⟩ := h277_
  have h278_ := iv_get hv277_ (k := 146) (j := 23) (l := 0) (u := 200) rfl
  have h279_ := iv_get hv277_ (k := 164) (j := (a277_ 146 23).toNat) (l := (-128)) (u := 127) rfl
  have h280_ : a277_ 164 ((a277_ 146 23).toNat) = a0 164 ((a277_ 146 23).toNat) := hf277_ 164 ((a277_ 146 23).toNat) rfl
  have h281_ := iv_get hv0 (k := 164) (j := (a277_ 146 23).toNat) (l := (-128)) (u := 127) rfl
  have h282_ := iv_get hv0 (k := 164) (j := (a0 146 23).toNat) (l := (-128)) (u := 127) rfl
  have hv283_ : iv (jxu a277_ 146 25 0) := iv_put hv277_ (l := 0) (u := 200) rfl (by omega) (by omega)
  have hf284_ : jfr jW_X12_wordHere a0 a277_ := jfr_tr (jfr_rf _ _) hf277_ rfl
  have hf285_ : jfr jW_X12_wordHere a0 (jxu a277_ 146 25 0) := jfr_put hf284_ rfl
  have h286_ := iv_get hv277_ (k := 146) (j := 22) (l := 0) (u := 200) rfl
  have h287_ : a277_ 146 22 = a0 146 22 := hf277_ 146 22 rfl
  exact (cp_X12_wordHere_10 E d hd a0 b0 hv0 hp0 _).2.2 (jxu a277_ 146 25 0) (Nat.le_refl _) hv283_ hf285_ (show (a277_ 146 23) + 0 ≤ a277_ 146 22 from by omega) (show a0 146 23 ≤ a277_ 146 23 from by omega) (show ((a0 146 23 < a0 146 22 ∧ ¬ a0 164 ((a0 146 23).toNat) = 32) → a277_ 146 23 = a0 146 23) from by omega) (by first | exact hn | (have e := hq277_4; exact e)) (by first | exact hl | exact (fun k hk => absurd hk (show ¬ (k : Int) < 0 by omega)) | exact lt_ext hl hl1 (by omega) (show jxw ((a 146 25) + 1) = a 146 25 + 1 by omega))
def jW_X12_writes : List (Nat × Nat) := [(146, 32), (168, 9999)]
abbrev jQ_X12_writes (x1 : Int) (a0 b0 : Nat → Nat → Int) : List jxV → (Nat → Nat → Int) → (Nat → Nat → Int) → Prop := rV (fun a b => (iv a) ∧ (jfr jW_X12_writes a0 a) ∧ (b0 = b) ∧ (a 146 32 = (a0 146 32) + 1) ∧ (a 168 (a0 146 32).toNat = x1) ∧ (∀ k, ¬ k = (a0 146 32).toNat → a 168 k = a0 168 k))
theorem sp_X12_writes (E : jxE) (d : Nat) (hd : Nat.ble 1 d = true) (x1 : Int) (a0 b0 : Nat → Nat → Int) (hv0 : iv a0) (hp0 : a0 146 32 < 64) : jt (jxC E d 218 [.inr (.inr (.inl 146)), .inl x1] (jxSH, a0, b0)) (jQ_X12_writes x1 a0 b0) := by
  obtain ⟨d, rfl⟩ := jd_succ hd
  refine jt_eq (bq_X12_writes E d x1 a0 b0) ?_
  have h288_ := iv_get hv0 (k := 146) (j := 32) (l := 0) (u := 64) rfl
  refine jt_grd (by omega) ?_
  have hv289_ : iv (jxu a0 168 ((a0 146 32).toNat) x1) := iv_putf hv0 rfl
  have h291_ : jxw ((a0 146 32) + 1) = (a0 146 32) + 1 := jxw_id (by omega) (by omega)
  have hv290_ : iv (jxu (jxu a0 168 ((a0 146 32).toNat) x1) 146 32 (jxw ((a0 146 32) + 1))) := iv_put hv289_ (l := 0) (u := 64) rfl (by omega) (by omega)
  have hf292_ : jfr jW_X12_writes a0 (jxu a0 168 ((a0 146 32).toNat) x1) := jfr_put (jfr_rf _ _) rfl
  have hf293_ : jfr jW_X12_writes a0 (jxu (jxu a0 168 ((a0 146 32).toNat) x1) 146 32 (jxw ((a0 146 32) + 1))) := jfr_put hf292_ rfl
  exact jt_rV ⟨hv290_, hf293_, rfl, (show jxw ((a0 146 32) + 1) = (a0 146 32) + 1 from by omega), (by simp [jxu]), (by intro k hk; simp [jxu, hk])⟩
def jWat : List (Nat × Nat) := [(146, 23), (146, 24), (146, 26), (146, 27), (146, 33)]
def jW_X12_atom : List (Nat × Nat) := [(146, 23), (146, 24), (146, 26), (146, 27), (146, 32), (146, 33), (168, 9999)]
abbrev jQ_X12_atom (x1 : Int) (a0 b0 : Nat → Nat → Int) : List jxV → (Nat → Nat → Int) → (Nat → Nat → Int) → Prop := rI (fun r a b => (iv a) ∧ (jfr jW_X12_atom a0 a) ∧ (b0 = b) ∧ ((0 ≤ r ∧ r ≤ 1)) ∧ (a0 146 23 ≤ a 146 23) ∧ (a 146 23 ≤ a 146 22) ∧ ((r = 1 → (a0 146 23) + 2 ≤ a 146 23)) ∧ (((r = 0 ∧ a 146 32 = a0 146 32) ∨ (r = 1 ∧ a 146 32 = (a0 146 32) + 1))) ∧ (r = 1 → 1024 ≤ a 168 (a0 146 32).toNat) ∧ (∀ k : Nat, (k : Int) < a0 146 32 → a 168 k = a0 168 k))
theorem cp_X12_atom_113 (E : jxE) (d : Nat) (hd : Nat.ble 3 (d + 1) = true) (x1 : Int) (a0 b0 : Nat → Nat → Int) (hv0 : iv a0) (hp0 : (a0 146 23) + (a0 146 25) ≤ a0 146 22) (hp1 : (0 ≤ x1 → 2 ≤ a0 146 25)) (hp2 : a0 146 32 < 64) (hp3 : x1 ≤ 15) (hp4 : 0 - 1 ≤ x1) : ∀ (y1 : Int) (a : Nat → Nat → Int), iv a → jfr jW_X12_atom a0 a → 3 ≤ y1 → y1 ≤ 9 → 1 ≤ a 146 33 → a 146 23 ≤ a 146 22 → (a0 146 23) + 2 ≤ a 146 23 → 3 ≤ y1 → y1 ≤ 9 → a 146 32 = a0 146 32 → (jfr jWat a0 a) → jt (jxX E d 220 113 [some (.inr (.inr (.inl 146))), some (.inl y1)] [] (jxSH, a, b0)) (jQ_X12_atom x1 a0 b0) := by
  intro y1 a hv hf hi0 hi1 hi2 hi3 hi4 hi5 hi6 hi7 hfat
  refine jt_eq (bq_X12_atom_113 E d y1 a b0) ?_
  have h294_ := iv_get hv (k := 146) (j := 33) (l := 0) (u := 12) rfl
  have h295_ := iv_get hv (k := 146) (j := 23) (l := 0) (u := 200) rfl
  have h296_ := iv_get hv (k := 146) (j := 22) (l := 0) (u := 200) rfl
  have h297_ : a 146 22 = a0 146 22 := hf 146 22 rfl
  have h298_ := iv_get hv0 (k := 146) (j := 22) (l := 0) (u := 200) rfl
  have h299_ := iv_get hv0 (k := 146) (j := 23) (l := 0) (u := 200) rfl
  have h300_ := iv_get hv (k := 146) (j := 32) (l := 0) (u := 64) rfl
  have h301_ := iv_get hv0 (k := 146) (j := 32) (l := 0) (u := 64) rfl
  refine jt_bV (sp_X12_writes E d (jd_le hd rfl) (jxw ((jxw (1024 * (jxw (1 + y1)))) + (a 146 26))) a b0 hv (show a 146 32 < 64 from by omega)) (fun a302_ b302_ h302_ => ?_)
  obtain ⟨hv302_, hf302_, rfl, hq302_0, hq302_1, hq302_2⟩ := h302_
  have h303_ := iv_get hv302_ (k := 146) (j := 32) (l := 0) (u := 64) rfl
  have i26_302 := iv_get hv (k := 146) (j := 26) (l := 0) (u := 999) rfl
  have hA302 : jxw ((jxw (1024 * (jxw (1 + y1)))) + (a 146 26)) = 1024 * (1 + y1) + a 146 26 := by
    have := iv_get hv (k := 146) (j := 26) (l := 0) (u := 999) rfl
    rw [jxw_id (x := 1 + y1) (by omega) (by omega), jxw_id (x := 1024 * (1 + y1)) (by omega) (by omega), jxw_id (by omega) (by omega)]
  have hf304_ : jfr jW_X12_atom a0 a302_ := jfr_tr hf hf302_ rfl
  have h305_ := iv_get hv302_ (k := 146) (j := 23) (l := 0) (u := 200) rfl
  have h306_ : a302_ 146 23 = a 146 23 := hf302_ 146 23 rfl
  have h307_ := iv_get hv302_ (k := 146) (j := 22) (l := 0) (u := 200) rfl
  have h308_ : a302_ 146 22 = a 146 22 := hf302_ 146 22 rfl
  exact jt_rI ⟨hv302_, hf304_, rfl, (show (0 ≤ 1 ∧ 1 ≤ 1) from by omega), (show a0 146 23 ≤ a302_ 146 23 from by omega), (show a302_ 146 23 ≤ a302_ 146 22 from by omega), (show (1 = 1 → (a0 146 23) + 2 ≤ a302_ 146 23) from by omega), (show ((1 = 0 ∧ a302_ 146 32 = a0 146 32) ∨ (1 = 1 ∧ a302_ 146 32 = (a0 146 32) + 1)) from by omega), (fun _ => by rw [show (a0 146 32).toNat = (a 146 32).toNat from (by omega), hq302_1, hA302]; omega), (fun k hk => by rw [hq302_2 k (by omega)]; exact hfat 168 k rfl)⟩
theorem cp_X12_atom_105 (E : jxE) (d : Nat) (hd : Nat.ble 3 (d + 1) = true) (x1 : Int) (a0 b0 : Nat → Nat → Int) (hv0 : iv a0) (hp0 : (a0 146 23) + (a0 146 25) ≤ a0 146 22) (hp1 : (0 ≤ x1 → 2 ≤ a0 146 25)) (hp2 : a0 146 32 < 64) (hp3 : x1 ≤ 15) (hp4 : 0 - 1 ≤ x1) : ∀ (y1 s1 s2 : Int) (a : Nat → Nat → Int), iv a → jfr jW_X12_atom a0 a → 3 ≤ y1 → y1 ≤ 8 → 0 ≤ s1 → s1 ≤ 0 → 15 ≤ s2 → s2 ≤ 999 → 1 ≤ a 146 33 → a 146 23 ≤ a 146 22 → (a0 146 23) + 2 ≤ a 146 23 → 3 ≤ y1 → y1 ≤ 9 → a 146 32 = a0 146 32 → (jfr jWat a0 a) → jt (jxX E d 220 105 [some (.inr (.inr (.inl 146))), some (.inl y1)] [.inl s2, .inl s1, .inr (.inr (.inl 146))] (jxSH, a, b0)) (jQ_X12_atom x1 a0 b0) := by
  intro y1 s1 s2 a hv hf hi0 hi1 hi2 hi3 hi4 hi5 hi6 hi7 hi8 hi9 hi10 hi11 hfat
  refine jt_eq (bq_X12_atom_105 E d y1 s1 s2 a b0) ?_
  have h309_ := iv_get hv (k := 146) (j := 33) (l := 0) (u := 12) rfl
  have h310_ := iv_get hv (k := 146) (j := 23) (l := 0) (u := 200) rfl
  have h311_ := iv_get hv (k := 146) (j := 22) (l := 0) (u := 200) rfl
  have h312_ : a 146 22 = a0 146 22 := hf 146 22 rfl
  have h313_ := iv_get hv0 (k := 146) (j := 22) (l := 0) (u := 200) rfl
  have h314_ := iv_get hv0 (k := 146) (j := 23) (l := 0) (u := 200) rfl
  have h315_ := iv_get hv (k := 146) (j := 32) (l := 0) (u := 64) rfl
  have h316_ := iv_get hv0 (k := 146) (j := 32) (l := 0) (u := 64) rfl
  refine jt_bI (sp_X12_number E d (jd_le hd rfl) s1 s2 a b0 hv (show a 146 23 ≤ a 146 22 from by omega)) (fun r317_ a317_ b317_ h317_ => ?_)
  obtain ⟨hv317_, hf317_, rfl, hq317_0, hq317_1, hq317_2, hq317_3, hq317_4, hq317_5⟩ := h317_
  have h318_ := iv_get hv317_ (k := 146) (j := 23) (l := 0) (u := 200) rfl
  have h319_ := iv_get hv317_ (k := 146) (j := 26) (l := 0) (u := 999) rfl
  refine jt_ite (fun c320_ => ?_) (fun c320_ => ?_)
  ·
    have hf321_ : jfr jW_X12_atom a0 a317_ := jfr_tr hf hf317_ rfl
    have h322_ := iv_get hv317_ (k := 146) (j := 22) (l := 0) (u := 200) rfl
    have h323_ : a317_ 146 22 = a 146 22 := hf317_ 146 22 rfl
    have h324_ := iv_get hv317_ (k := 146) (j := 32) (l := 0) (u := 64) rfl
    have h325_ : a317_ 146 32 = a 146 32 := hf317_ 146 32 rfl
    have hf326_ : jfr jWat a0 a317_ := jfr_tr hfat hf317_ rfl
    exact jt_rI ⟨hv317_, hf321_, rfl, (show (0 ≤ 0 ∧ 0 ≤ 1) from by omega), (show a0 146 23 ≤ a317_ 146 23 from by omega), (show a317_ 146 23 ≤ a317_ 146 22 from by omega), (show (0 = 1 → (a0 146 23) + 2 ≤ a317_ 146 23) from by omega), (show ((0 = 0 ∧ a317_ 146 32 = a0 146 32) ∨ (0 = 1 ∧ a317_ 146 32 = (a0 146 32) + 1)) from by omega), (fun h => by omega), (fun k _ => hf326_ 168 k rfl)⟩
  ·
    have hf327_ : jfr jW_X12_atom a0 a317_ := jfr_tr hf hf317_ rfl
    have h328_ := iv_get hv317_ (k := 146) (j := 33) (l := 0) (u := 12) rfl
    have h329_ : a317_ 146 33 = a 146 33 := hf317_ 146 33 rfl
    have h330_ := iv_get hv317_ (k := 146) (j := 22) (l := 0) (u := 200) rfl
    have h331_ : a317_ 146 22 = a 146 22 := hf317_ 146 22 rfl
    have h332_ := iv_get hv317_ (k := 146) (j := 32) (l := 0) (u := 64) rfl
    have h333_ : a317_ 146 32 = a 146 32 := hf317_ 146 32 rfl
    have hf334_ : jfr jWat a0 a317_ := jfr_tr hfat hf317_ rfl
    exact cp_X12_atom_113 E d hd x1 a0 b0 hv0 hp0 hp1 hp2 hp3 hp4 y1 a317_ hv317_ hf327_ (show 3 ≤ y1 from by omega) (show y1 ≤ 9 from by omega) (show 1 ≤ a317_ 146 33 from by omega) (show a317_ 146 23 ≤ a317_ 146 22 from by omega) (show (a0 146 23) + 2 ≤ a317_ 146 23 from by omega) (show 3 ≤ y1 from by omega) (show y1 ≤ 9 from by omega) (show a317_ 146 32 = a0 146 32 from by omega) hf334_
theorem cp_X12_atom_79 (E : jxE) (d : Nat) (hd : Nat.ble 3 (d + 1) = true) (x1 : Int) (a0 b0 : Nat → Nat → Int) (hv0 : iv a0) (hp0 : (a0 146 23) + (a0 146 25) ≤ a0 146 22) (hp1 : (0 ≤ x1 → 2 ≤ a0 146 25)) (hp2 : a0 146 32 < 64) (hp3 : x1 ≤ 15) (hp4 : 0 - 1 ≤ x1) : ∀ (y1 : Int) (a : Nat → Nat → Int), iv a → jfr jW_X12_atom a0 a → 3 ≤ y1 → y1 ≤ 8 → 1 ≤ a 146 33 → a 146 23 ≤ a 146 22 → (a0 146 23) + 2 ≤ a 146 23 → 3 ≤ y1 → y1 ≤ 9 → a 146 32 = a0 146 32 → (jfr jWat a0 a) → jt (jxX E d 220 79 [some (.inr (.inr (.inl 146))), some (.inl y1)] [] (jxSH, a, b0)) (jQ_X12_atom x1 a0 b0) := by
  intro y1 a hv hf hi0 hi1 hi2 hi3 hi4 hi5 hi6 hi7 hfat
  refine jt_eq (bq_X12_atom_79 E d y1 a b0) ?_
  have h335_ := iv_get hv (k := 146) (j := 33) (l := 0) (u := 12) rfl
  have h336_ := iv_get hv (k := 146) (j := 23) (l := 0) (u := 200) rfl
  have h337_ := iv_get hv (k := 146) (j := 22) (l := 0) (u := 200) rfl
  have h338_ : a 146 22 = a0 146 22 := hf 146 22 rfl
  have h339_ := iv_get hv0 (k := 146) (j := 22) (l := 0) (u := 200) rfl
  have h340_ := iv_get hv0 (k := 146) (j := 23) (l := 0) (u := 200) rfl
  have h341_ := iv_get hv (k := 146) (j := 32) (l := 0) (u := 64) rfl
  have h342_ := iv_get hv0 (k := 146) (j := 32) (l := 0) (u := 64) rfl
  refine jt_ite (fun c343_ => ?_) (fun c343_ => ?_)
  ·
    refine jt_ite (fun c344_ => ?_) (fun c344_ => ?_)
    ·
      exact cp_X12_atom_105 E d hd x1 a0 b0 hv0 hp0 hp1 hp2 hp3 hp4 y1 0 999 a hv hf (show 3 ≤ y1 from by omega) (show y1 ≤ 8 from by omega) (show 0 ≤ 0 from by omega) (show 0 ≤ 0 from by omega) (show 15 ≤ 999 from by omega) (show 999 ≤ 999 from by omega) (show 1 ≤ a 146 33 from by omega) (show a 146 23 ≤ a 146 22 from by omega) (show (a0 146 23) + 2 ≤ a 146 23 from by omega) (show 3 ≤ y1 from by omega) (show y1 ≤ 9 from by omega) (show a 146 32 = a0 146 32 from by omega) hfat
    ·
      exact cp_X12_atom_105 E d hd x1 a0 b0 hv0 hp0 hp1 hp2 hp3 hp4 y1 0 99 a hv hf (show 3 ≤ y1 from by omega) (show y1 ≤ 8 from by omega) (show 0 ≤ 0 from by omega) (show 0 ≤ 0 from by omega) (show 15 ≤ 99 from by omega) (show 99 ≤ 999 from by omega) (show 1 ≤ a 146 33 from by omega) (show a 146 23 ≤ a 146 22 from by omega) (show (a0 146 23) + 2 ≤ a 146 23 from by omega) (show 3 ≤ y1 from by omega) (show y1 ≤ 9 from by omega) (show a 146 32 = a0 146 32 from by omega) hfat
  ·
    exact cp_X12_atom_105 E d hd x1 a0 b0 hv0 hp0 hp1 hp2 hp3 hp4 y1 0 15 a hv hf (show 3 ≤ y1 from by omega) (show y1 ≤ 8 from by omega) (show 0 ≤ 0 from by omega) (show 0 ≤ 0 from by omega) (show 15 ≤ 15 from by omega) (show 15 ≤ 999 from by omega) (show 1 ≤ a 146 33 from by omega) (show a 146 23 ≤ a 146 22 from by omega) (show (a0 146 23) + 2 ≤ a 146 23 from by omega) (show 3 ≤ y1 from by omega) (show y1 ≤ 9 from by omega) (show a 146 32 = a0 146 32 from by omega) hfat
theorem cp_X12_atom_53 (E : jxE) (d : Nat) (hd : Nat.ble 3 (d + 1) = true) (x1 : Int) (a0 b0 : Nat → Nat → Int) (hv0 : iv a0) (hp0 : (a0 146 23) + (a0 146 25) ≤ a0 146 22) (hp1 : (0 ≤ x1 → 2 ≤ a0 146 25)) (hp2 : a0 146 32 < 64) (hp3 : x1 ≤ 15) (hp4 : 0 - 1 ≤ x1) : ∀ (y1 : Int) (a : Nat → Nat → Int), iv a → jfr jW_X12_atom a0 a → 3 ≤ y1 → y1 ≤ 9 → a 146 33 ≤ 11 → a 146 23 ≤ a 146 22 → (a0 146 23) + 2 ≤ a 146 23 → 3 ≤ y1 → y1 ≤ 9 → a 146 32 = a0 146 32 → (jfr jWat a0 a) → jt (jxX E d 220 53 [some (.inr (.inr (.inl 146))), some (.inl y1)] [] (jxSH, a, b0)) (jQ_X12_atom x1 a0 b0) := by
  intro y1 a hv hf hi0 hi1 hi2 hi3 hi4 hi5 hi6 hi7 hfat
  refine jt_eq (bq_X12_atom_53 E d y1 a b0) ?_
  have h345_ := iv_get hv (k := 146) (j := 33) (l := 0) (u := 12) rfl
  have h346_ := iv_get hv (k := 146) (j := 23) (l := 0) (u := 200) rfl
  have h347_ := iv_get hv (k := 146) (j := 22) (l := 0) (u := 200) rfl
  have h348_ : a 146 22 = a0 146 22 := hf 146 22 rfl
  have h349_ := iv_get hv0 (k := 146) (j := 22) (l := 0) (u := 200) rfl
  have h350_ := iv_get hv0 (k := 146) (j := 23) (l := 0) (u := 200) rfl
  have h351_ := iv_get hv (k := 146) (j := 32) (l := 0) (u := 64) rfl
  have h352_ := iv_get hv0 (k := 146) (j := 32) (l := 0) (u := 64) rfl
  refine jt_ite (fun c353_ => ?_) (fun c353_ => ?_)
  ·
    have h355_ : jxw ((a 146 33) + 1) = (a 146 33) + 1 := jxw_id (by omega) (by omega)
    have hv354_ : iv (jxu a 146 33 (jxw ((a 146 33) + 1))) := iv_put hv (l := 0) (u := 12) rfl (by omega) (by omega)
    have hv356_ : iv (jxu (jxu a 146 33 (jxw ((a 146 33) + 1))) 146 26 0) := iv_put hv354_ (l := 0) (u := 999) rfl (by omega) (by omega)
    have hf357_ : jfr jW_X12_atom a0 (jxu a 146 33 (jxw ((a 146 33) + 1))) := jfr_put hf rfl
    have hf358_ : jfr jW_X12_atom a0 (jxu (jxu a 146 33 (jxw ((a 146 33) + 1))) 146 26 0) := jfr_put hf357_ rfl
    have hf359_ : jfr jWat a0 (jxu a 146 33 (jxw ((a 146 33) + 1))) := jfr_put hfat rfl
    have hf360_ : jfr jWat a0 (jxu (jxu a 146 33 (jxw ((a 146 33) + 1))) 146 26 0) := jfr_put hf359_ rfl
    exact cp_X12_atom_113 E d hd x1 a0 b0 hv0 hp0 hp1 hp2 hp3 hp4 y1 (jxu (jxu a 146 33 (jxw ((a 146 33) + 1))) 146 26 0) hv356_ hf358_ (show 3 ≤ y1 from by omega) (show y1 ≤ 9 from by omega) (show 1 ≤ jxw ((a 146 33) + 1) from by omega) (show a 146 23 ≤ a 146 22 from by omega) (show (a0 146 23) + 2 ≤ a 146 23 from by omega) (show 3 ≤ y1 from by omega) (show y1 ≤ 9 from by omega) (show a 146 32 = a0 146 32 from by omega) hf360_
  ·
    refine jt_ite (fun c361_ => ?_) (fun c361_ => ?_)
    ·
      have h363_ : jxw ((a 146 33) + 1) = (a 146 33) + 1 := jxw_id (by omega) (by omega)
      have hv362_ : iv (jxu a 146 33 (jxw ((a 146 33) + 1))) := iv_put hv (l := 0) (u := 12) rfl (by omega) (by omega)
      have hv364_ : iv (jxu (jxu a 146 33 (jxw ((a 146 33) + 1))) 146 26 0) := iv_put hv362_ (l := 0) (u := 999) rfl (by omega) (by omega)
      have hf365_ : jfr jW_X12_atom a0 (jxu a 146 33 (jxw ((a 146 33) + 1))) := jfr_put hf rfl
      have hf366_ : jfr jW_X12_atom a0 (jxu (jxu a 146 33 (jxw ((a 146 33) + 1))) 146 26 0) := jfr_put hf365_ rfl
      have hf367_ : jfr jWat a0 (jxu a 146 33 (jxw ((a 146 33) + 1))) := jfr_put hfat rfl
      have hf368_ : jfr jWat a0 (jxu (jxu a 146 33 (jxw ((a 146 33) + 1))) 146 26 0) := jfr_put hf367_ rfl
      exact cp_X12_atom_113 E d hd x1 a0 b0 hv0 hp0 hp1 hp2 hp3 hp4 y1 (jxu (jxu a 146 33 (jxw ((a 146 33) + 1))) 146 26 0) hv364_ hf366_ (show 3 ≤ y1 from by omega) (show y1 ≤ 9 from by omega) (show 1 ≤ jxw ((a 146 33) + 1) from by omega) (show a 146 23 ≤ a 146 22 from by omega) (show (a0 146 23) + 2 ≤ a 146 23 from by omega) (show 3 ≤ y1 from by omega) (show y1 ≤ 9 from by omega) (show a 146 32 = a0 146 32 from by omega) hf368_
    ·
      have h370_ : jxw ((a 146 33) + 1) = (a 146 33) + 1 := jxw_id (by omega) (by omega)
      have hv369_ : iv (jxu a 146 33 (jxw ((a 146 33) + 1))) := iv_put hv (l := 0) (u := 12) rfl (by omega) (by omega)
      have hv371_ : iv (jxu (jxu a 146 33 (jxw ((a 146 33) + 1))) 146 26 0) := iv_put hv369_ (l := 0) (u := 999) rfl (by omega) (by omega)
      have hf372_ : jfr jW_X12_atom a0 (jxu a 146 33 (jxw ((a 146 33) + 1))) := jfr_put hf rfl
      have hf373_ : jfr jW_X12_atom a0 (jxu (jxu a 146 33 (jxw ((a 146 33) + 1))) 146 26 0) := jfr_put hf372_ rfl
      have hf374_ : jfr jWat a0 (jxu a 146 33 (jxw ((a 146 33) + 1))) := jfr_put hfat rfl
      have hf375_ : jfr jWat a0 (jxu (jxu a 146 33 (jxw ((a 146 33) + 1))) 146 26 0) := jfr_put hf374_ rfl
      exact cp_X12_atom_79 E d hd x1 a0 b0 hv0 hp0 hp1 hp2 hp3 hp4 y1 (jxu (jxu a 146 33 (jxw ((a 146 33) + 1))) 146 26 0) hv371_ hf373_ (show 3 ≤ y1 from by omega) (show y1 ≤ 8 from by omega) (show 1 ≤ jxw ((a 146 33) + 1) from by omega) (show a 146 23 ≤ a 146 22 from by omega) (show (a0 146 23) + 2 ≤ a 146 23 from by omega) (show 3 ≤ y1 from by omega) (show y1 ≤ 9 from by omega) (show a 146 32 = a0 146 32 from by omega) hf375_
theorem sp_X12_atom (E : jxE) (d : Nat) (hd : Nat.ble 3 d = true) (x1 : Int) (a0 b0 : Nat → Nat → Int) (hv0 : iv a0) (hp0 : (a0 146 23) + (a0 146 25) ≤ a0 146 22) (hp1 : (0 ≤ x1 → 2 ≤ a0 146 25)) (hp2 : a0 146 32 < 64) (hp3 : x1 ≤ 15) (hp4 : 0 - 1 ≤ x1) : jt (jxC E d 220 [.inr (.inr (.inl 146)), .inl x1] (jxSH, a0, b0)) (jQ_X12_atom x1 a0 b0) := by
  obtain ⟨d, rfl⟩ := jd_succ hd
  refine jt_eq (bq_X12_atom E d x1 a0 b0) ?_
  have h376_ := iv_get hv0 (k := 146) (j := 23) (l := 0) (u := 200) rfl
  have h377_ := iv_get hv0 (k := 146) (j := 25) (l := 0) (u := 200) rfl
  have h378_ := iv_get hv0 (k := 146) (j := 22) (l := 0) (u := 200) rfl
  have h379_ := iv_get hv0 (k := 146) (j := 32) (l := 0) (u := 64) rfl
  refine jt_ite (fun c380_ => ?_) (fun c380_ => ?_)
  ·
    refine jt_bI (sp_X12_fails E d (jd_le hd rfl) 0 (a0 146 23) a0 b0 hv0) (fun r381_ a381_ b381_ h381_ => ?_)
    obtain ⟨hv381_, hf381_, rfl, hq381_0, hq381_1, hq381_2, hq381_3⟩ := h381_
    refine jt_grd (by omega) ?_
    have hf382_ : jfr jW_X12_atom a0 a381_ := jfr_tr (jfr_rf _ _) hf381_ rfl
    have h383_ := iv_get hv381_ (k := 146) (j := 23) (l := 0) (u := 200) rfl
    have h384_ : a381_ 146 23 = a0 146 23 := hf381_ 146 23 rfl
    have h385_ := iv_get hv381_ (k := 146) (j := 22) (l := 0) (u := 200) rfl
    have h386_ : a381_ 146 22 = a0 146 22 := hf381_ 146 22 rfl
    have h387_ := iv_get hv381_ (k := 146) (j := 32) (l := 0) (u := 64) rfl
    have h388_ : a381_ 146 32 = a0 146 32 := hf381_ 146 32 rfl
    have hf389_ : jfr jWat a0 a381_ := jfr_tr (jfr_rf _ _) hf381_ rfl
    exact jt_rI ⟨hv381_, hf382_, rfl, (show (0 ≤ r381_ ∧ r381_ ≤ 1) from by omega), (show a0 146 23 ≤ a381_ 146 23 from by omega), (show a381_ 146 23 ≤ a381_ 146 22 from by omega), (show (r381_ = 1 → (a0 146 23) + 2 ≤ a381_ 146 23) from by omega), (show ((r381_ = 0 ∧ a381_ 146 32 = a0 146 32) ∨ (r381_ = 1 ∧ a381_ 146 32 = (a0 146 32) + 1)) from by omega), (fun h => by omega), (fun k _ => hf389_ 168 k rfl)⟩
  ·
    refine jt_ite (fun c390_ => ?_) (fun c390_ => ?_)
    ·
      refine jt_bI (sp_X12_fails E d (jd_le hd rfl) 0 (a0 146 23) a0 b0 hv0) (fun r391_ a391_ b391_ h391_ => ?_)
      obtain ⟨hv391_, hf391_, rfl, hq391_0, hq391_1, hq391_2, hq391_3⟩ := h391_
      refine jt_grd (by omega) ?_
      have hf392_ : jfr jW_X12_atom a0 a391_ := jfr_tr (jfr_rf _ _) hf391_ rfl
      have h393_ := iv_get hv391_ (k := 146) (j := 23) (l := 0) (u := 200) rfl
      have h394_ : a391_ 146 23 = a0 146 23 := hf391_ 146 23 rfl
      have h395_ := iv_get hv391_ (k := 146) (j := 22) (l := 0) (u := 200) rfl
      have h396_ : a391_ 146 22 = a0 146 22 := hf391_ 146 22 rfl
      have h397_ := iv_get hv391_ (k := 146) (j := 32) (l := 0) (u := 64) rfl
      have h398_ : a391_ 146 32 = a0 146 32 := hf391_ 146 32 rfl
      have hf399_ : jfr jWat a0 a391_ := jfr_tr (jfr_rf _ _) hf391_ rfl
      exact jt_rI ⟨hv391_, hf392_, rfl, (show (0 ≤ r391_ ∧ r391_ ≤ 1) from by omega), (show a0 146 23 ≤ a391_ 146 23 from by omega), (show a391_ 146 23 ≤ a391_ 146 22 from by omega), (show (r391_ = 1 → (a0 146 23) + 2 ≤ a391_ 146 23) from by omega), (show ((r391_ = 0 ∧ a391_ 146 32 = a0 146 32) ∨ (r391_ = 1 ∧ a391_ 146 32 = (a0 146 32) + 1)) from by omega), (fun h => by omega), (fun k _ => hf399_ 168 k rfl)⟩
    ·
      have h400_ := iv_get hv0 (k := 146) (j := 33) (l := 0) (u := 12) rfl
      refine jt_ite (fun c401_ => ?_) (fun c401_ => ?_)
      ·
        refine jt_bI (sp_X12_fails E d (jd_le hd rfl) 2 (a0 146 23) a0 b0 hv0) (fun r402_ a402_ b402_ h402_ => ?_)
        obtain ⟨hv402_, hf402_, rfl, hq402_0, hq402_1, hq402_2, hq402_3⟩ := h402_
        refine jt_grd (by omega) ?_
        have hf403_ : jfr jW_X12_atom a0 a402_ := jfr_tr (jfr_rf _ _) hf402_ rfl
        have h404_ := iv_get hv402_ (k := 146) (j := 23) (l := 0) (u := 200) rfl
        have h405_ : a402_ 146 23 = a0 146 23 := hf402_ 146 23 rfl
        have h406_ := iv_get hv402_ (k := 146) (j := 22) (l := 0) (u := 200) rfl
        have h407_ : a402_ 146 22 = a0 146 22 := hf402_ 146 22 rfl
        have h408_ := iv_get hv402_ (k := 146) (j := 32) (l := 0) (u := 64) rfl
        have h409_ : a402_ 146 32 = a0 146 32 := hf402_ 146 32 rfl
        have hf410_ : jfr jWat a0 a402_ := jfr_tr (jfr_rf _ _) hf402_ rfl
        exact jt_rI ⟨hv402_, hf403_, rfl, (show (0 ≤ r402_ ∧ r402_ ≤ 1) from by omega), (show a0 146 23 ≤ a402_ 146 23 from by omega), (show a402_ 146 23 ≤ a402_ 146 22 from by omega), (show (r402_ = 1 → (a0 146 23) + 2 ≤ a402_ 146 23) from by omega), (show ((r402_ = 0 ∧ a402_ 146 32 = a0 146 32) ∨ (r402_ = 1 ∧ a402_ 146 32 = (a0 146 32) + 1)) from by omega), (fun h => by omega), (fun k _ => hf410_ 168 k rfl)⟩
      ·
        have h412_ : jxw ((a0 146 23) + (a0 146 25)) = (a0 146 23) + (a0 146 25) := jxw_id (by omega) (by omega)
        have hv411_ : iv (jxu a0 146 23 (jxw ((a0 146 23) + (a0 146 25)))) := iv_put hv0 (l := 0) (u := 200) rfl (by omega) (by omega)
        have hf413_ : jfr jW_X12_atom a0 (jxu a0 146 23 (jxw ((a0 146 23) + (a0 146 25)))) := jfr_put (jfr_rf _ _) rfl
        have hf414_ : jfr jWat a0 (jxu a0 146 23 (jxw ((a0 146 23) + (a0 146 25)))) := jfr_put (jfr_rf _ _) rfl
        exact cp_X12_atom_53 E d hd x1 a0 b0 hv0 hp0 hp1 hp2 hp3 hp4 x1 (jxu a0 146 23 (jxw ((a0 146 23) + (a0 146 25)))) hv411_ hf413_ (show 3 ≤ x1 from by omega) (show x1 ≤ 9 from by omega) (show a0 146 33 ≤ 11 from by omega) (show jxw ((a0 146 23) + (a0 146 25)) ≤ a0 146 22 from by omega) (show (a0 146 23) + 2 ≤ jxw ((a0 146 23) + (a0 146 25)) from by omega) (show 3 ≤ x1 from by omega) (show x1 ≤ 9 from by omega) (show a0 146 32 = a0 146 32 from by omega) hf414_
def jW_X12_clause : List (Nat × Nat) := [(146, 23), (146, 24), (146, 25), (146, 26), (146, 27), (195, 9999)]
abbrev jQ_X12_clause (x1 : Int) (a0 b0 : Nat → Nat → Int) : List jxV → (Nat → Nat → Int) → (Nat → Nat → Int) → Prop := rI (fun r a b => (iv a) ∧ (jfr jW_X12_clause a0 a) ∧ (b0 = b) ∧ ((0 ≤ r ∧ r ≤ 1)) ∧ (a0 146 23 ≤ a 146 23) ∧ (a 146 23 ≤ a 146 22) ∧ ((r = 1 → (x1 < 12 ∧ (a0 146 23) + 2 ≤ a 146 23))) ∧ (((a0 146 22 = 0 ∧ a0 146 24 = 0) → (r = 0 ∧ a 146 24 = 1))) ∧ (r = 1 → (CF (UB (a0 164)) (a0 146 22).toNat (SK (UB (a0 164)) (a0 146 22).toNat (a0 146 23).toNat) x1 (LSr a0 (UB (a0 164)) (a0 146 22).toNat (SK (UB (a0 164)) (a0 146 22).toNat (a0 146 23).toNat) x1.toNat)) = 0 ∧ SK (UB (a0 164)) (a0 146 22).toNat (a 146 23).toNat = (C4 (UB (a0 164)) (a0 146 22).toNat (SK (UB (a0 164)) (a0 146 22).toNat (a0 146 23).toNat)) ∧ CLP a0 a (UB (a0 164)) (a0 146 22).toNat (SK (UB (a0 164)) (a0 146 22).toNat (a0 146 23).toNat) x1.toNat) ∧ (r = 0 → ¬ (CF (UB (a0 164)) (a0 146 22).toNat (SK (UB (a0 164)) (a0 146 22).toNat (a0 146 23).toNat) x1 (LSr a0 (UB (a0 164)) (a0 146 22).toNat (SK (UB (a0 164)) (a0 146 22).toNat (a0 146 23).toNat) x1.toNat)) = 0 ∧ a 146 24 = CF (UB (a0 164)) (a0 146 22).toNat (SK (UB (a0 164)) (a0 146 22).toNat (a0 146 23).toNat) x1 (LSr a0 (UB (a0 164)) (a0 146 22).toNat (SK (UB (a0 164)) (a0 146 22).toNat (a0 146 23).toNat) x1.toNat)) ∧ ((r = 1 → a 146 24 = 0)))
theorem cp_X12_clause_155 (E : jxE) (d : Nat) (hd : Nat.ble 3 (d + 1) = true) (x1 : Int) (a0 b0 : Nat → Nat → Int) (hv0 : iv a0) (hp0 : a0 146 23 ≤ a0 146 22) (hp1 : 0 ≤ x1) (hp2 : x1 ≤ 12) (hp3 : a0 146 24 = 0) : ∀ (a : Nat → Nat → Int), iv a → jfr jW_X12_clause a0 a → a0 146 23 ≤ a 146 23 → a 146 23 ≤ a 146 22 → (¬ (CF (UB (a0 164)) (a0 146 22).toNat (SK (UB (a0 164)) (a0 146 22).toNat (a0 146 23).toNat) x1 (LSr a0 (UB (a0 164)) (a0 146 22).toNat (SK (UB (a0 164)) (a0 146 22).toNat (a0 146 23).toNat) x1.toNat)) = 0 ∧ a 146 24 = CF (UB (a0 164)) (a0 146 22).toNat (SK (UB (a0 164)) (a0 146 22).toNat (a0 146 23).toNat) x1 (LSr a0 (UB (a0 164)) (a0 146 22).toNat (SK (UB (a0 164)) (a0 146 22).toNat (a0 146 23).toNat) x1.toNat)) → 1 ≤ a0 146 22 → jt (jxX E d 281 155 [none, none, none, none, none] [] (jxSH, a, b0)) (jQ_X12_clause x1 a0 b0) := by
  intro a hv hf hi0 hi1 hcf hi3
  refine jt_eq (bq_X12_clause_155 E d a b0) ?_
  have h415_ := iv_get hv0 (k := 146) (j := 23) (l := 0) (u := 200) rfl
  have h416_ := iv_get hv (k := 146) (j := 23) (l := 0) (u := 200) rfl
  have h417_ := iv_get hv (k := 146) (j := 22) (l := 0) (u := 200) rfl
  have h418_ : a 146 22 = a0 146 22 := hf 146 22 rfl
  have h419_ := iv_get hv0 (k := 146) (j := 22) (l := 0) (u := 200) rfl
  have h4 : a 164 = a0 164 := funext fun j => hf 164 j rfl
  have h22 := hf 146 22 rfl
  exact jt_rI ⟨hv, hf, rfl, (show (0 ≤ 0 ∧ 0 ≤ 1) from by omega), (show a0 146 23 ≤ a 146 23 from by omega), (show a 146 23 ≤ a 146 22 from by omega), (show (0 = 1 → (x1 < 12 ∧ (a0 146 23) + 2 ≤ a 146 23)) from by omega), (show ((a0 146 22 = 0 ∧ a0 146 24 = 0) → (0 = 0 ∧ a 146 24 = 1)) from by omega), (fun h => absurd h (by omega)), (fun _ => hcf), (show (0 = 1 → a 146 24 = 0) from by omega)⟩
theorem cp_X12_clause_157 (E : jxE) (d : Nat) (hd : Nat.ble 3 (d + 1) = true) (x1 : Int) (a0 b0 : Nat → Nat → Int) (hv0 : iv a0) (hp0 : a0 146 23 ≤ a0 146 22) (hp1 : 0 ≤ x1) (hp2 : x1 ≤ 12) (hp3 : a0 146 24 = 0) : ∀ (y1 : Int) (a : Nat → Nat → Int), iv a → jfr jW_X12_clause a0 a → 0 ≤ y1 → y1 ≤ 11 → a 146 23 ≤ a 146 22 → (a0 146 23) + 2 ≤ a 146 23 → y1 = x1 → y1 < 12 → 0 ≤ y1 → a 146 26 ≤ 900 → (y1 = x1) → x1 ≤ 11 → 0 ≤ x1 → ((CF (UB (a0 164)) (a0 146 22).toNat (SK (UB (a0 164)) (a0 146 22).toNat (a0 146 23).toNat) x1 (LSr a0 (UB (a0 164)) (a0 146 22).toNat (SK (UB (a0 164)) (a0 146 22).toNat (a0 146 23).toNat) x1.toNat)) = 0) → a 146 24 = 0 → (a 146 26 = NV (UB (a0 164)) (a0 146 22).toNat (C3 (UB (a0 164)) (a0 146 22).toNat (SK (UB (a0 164)) (a0 146 22).toNat (a0 146 23).toNat))) → (SK (UB (a0 164)) (a0 146 22).toNat (a 146 23).toNat = (C4 (UB (a0 164)) (a0 146 22).toNat (SK (UB (a0 164)) (a0 146 22).toNat (a0 146 23).toNat))) → (a 195 (3 * x1.toNat) = NV (UB (a0 164)) (a0 146 22).toNat (C1 (UB (a0 164)) (a0 146 22).toNat (SK (UB (a0 164)) (a0 146 22).toNat (a0 146 23).toNat)) ∧ a 195 (3 * x1.toNat + 1) = NV (UB (a0 164)) (a0 146 22).toNat (C2 (UB (a0 164)) (a0 146 22).toNat (SK (UB (a0 164)) (a0 146 22).toNat (a0 146 23).toNat)) ∧ ∀ j, j < 3 * x1.toNat → a 195 j = a0 195 j) → 1 ≤ a0 146 22 → jt (jxX E d 281 157 [some (.inr (.inr (.inl 146))), some (.inl y1), none, none, none] [] (jxSH, a, b0)) (jQ_X12_clause x1 a0 b0) := by
  intro y1 a hv hf hi0 hi1 hi2 hi3 hi4 hi5 hi6 hi7 hy1 hi9 hi10 hcf hi12 hsd hnx hr hi16
  refine jt_eq (bq_X12_clause_157 E d y1 a b0) ?_
  have h420_ := iv_get hv (k := 146) (j := 23) (l := 0) (u := 200) rfl
  have h421_ := iv_get hv (k := 146) (j := 22) (l := 0) (u := 200) rfl
  have h422_ : a 146 22 = a0 146 22 := hf 146 22 rfl
  have h423_ := iv_get hv0 (k := 146) (j := 22) (l := 0) (u := 200) rfl
  have h424_ := iv_get hv0 (k := 146) (j := 23) (l := 0) (u := 200) rfl
  have h425_ := iv_get hv (k := 146) (j := 26) (l := 0) (u := 999) rfl
  have h4 : a 164 = a0 164 := funext fun j => hf 164 j rfl
  have h22 := hf 146 22 rfl
  have hq : ∀ j, jxu a 195 ((jxw ((jxw (3 * y1)) + 2)).toNat) (a 146 26) 195 j = if j = 3 * x1.toNat + 2 then a 146 26 else a 195 j := fun j => by rw [show 3 * x1.toNat + 2 = (jxw ((jxw (3 * y1)) + 2)).toNat from (by rw [jxw_id (x := 3 * y1) (by omega) (by omega), jxw_id (by omega) (by omega)]; omega)]; simp only [jxu, if_true]
  have hr1 : jxu a 195 ((jxw ((jxw (3 * y1)) + 2)).toNat) (a 146 26) 195 (3 * x1.toNat) = NV (UB (a0 164)) (a0 146 22).toNat (C1 (UB (a0 164)) (a0 146 22).toNat (SK (UB (a0 164)) (a0 146 22).toNat (a0 146 23).toNat)) := by rw [hq, if_neg (by omega)]; exact hr.1
  have hr2 : jxu a 195 ((jxw ((jxw (3 * y1)) + 2)).toNat) (a 146 26) 195 (3 * x1.toNat + 1) = NV (UB (a0 164)) (a0 146 22).toNat (C2 (UB (a0 164)) (a0 146 22).toNat (SK (UB (a0 164)) (a0 146 22).toNat (a0 146 23).toNat)) := by rw [hq, if_neg (by omega)]; exact hr.2.1
  have hr3 : jxu a 195 ((jxw ((jxw (3 * y1)) + 2)).toNat) (a 146 26) 195 (3 * x1.toNat + 2) = NV (UB (a0 164)) (a0 146 22).toNat (C3 (UB (a0 164)) (a0 146 22).toNat (SK (UB (a0 164)) (a0 146 22).toNat (a0 146 23).toNat)) := by rw [hq, if_pos rfl]; exact hsd
  have hr4 : ∀ j, j < 3 * x1.toNat → jxu a 195 ((jxw ((jxw (3 * y1)) + 2)).toNat) (a 146 26) 195 j = a0 195 j := fun j hj => by rw [hq, if_neg (by omega)]; exact hr.2.2 j hj
  have h426_ : jxw (3 * y1) = 3 * y1 := jxw_id (by omega) (by omega)
  have h427_ : jxw ((jxw (3 * y1)) + 2) = (jxw (3 * y1)) + 2 := jxw_id (by omega) (by omega)
  refine jt_grd (by omega) ?_
  have hv428_ : iv (jxu a 195 ((jxw ((jxw (3 * y1)) + 2)).toNat) (a 146 26)) := iv_put hv (l := 0) (u := 900) rfl (by omega) (by omega)
  have hf429_ : jfr jW_X12_clause a0 (jxu a 195 ((jxw ((jxw (3 * y1)) + 2)).toNat) (a 146 26)) := jfr_put hf rfl
  exact jt_rI ⟨hv428_, hf429_, rfl, (show (0 ≤ 1 ∧ 1 ≤ 1) from by omega), (show a0 146 23 ≤ a 146 23 from by omega), (show a 146 23 ≤ a 146 22 from by omega), (show (1 = 1 → (x1 < 12 ∧ (a0 146 23) + 2 ≤ a 146 23)) from by omega), (show ((a0 146 22 = 0 ∧ a0 146 24 = 0) → (1 = 0 ∧ a 146 24 = 1)) from by omega), (fun _ => ⟨hcf, hnx, ⟨hr1, hr2, hr3, hr4⟩⟩), (fun h => absurd h (by decide)), (show (1 = 1 → a 146 24 = 0) from by omega)⟩
theorem cp_X12_clause_130 (E : jxE) (d : Nat) (hd : Nat.ble 3 (d + 1) = true) (x1 : Int) (a0 b0 : Nat → Nat → Int) (hv0 : iv a0) (hp0 : a0 146 23 ≤ a0 146 22) (hp1 : 0 ≤ x1) (hp2 : x1 ≤ 12) (hp3 : a0 146 24 = 0) : ∀ (y1 : Int) (a : Nat → Nat → Int), iv a → jfr jW_X12_clause a0 a → 0 ≤ y1 → y1 ≤ 11 → a 146 23 ≤ a 146 22 → (a0 146 23) + 2 ≤ a 146 23 → y1 = x1 → y1 < 12 → 0 ≤ y1 → a 146 26 ≤ 500 → (TW (UB (a0 164)) (a0 146 22).toNat (SK (UB (a0 164)) (a0 146 22).toNat (a0 146 23).toNat) 15) → (y1 = x1) → x1 ≤ 11 → 0 ≤ x1 → a 146 24 = 0 → (NF (UB (a0 164)) (a0 146 22).toNat (C1 (UB (a0 164)) (a0 146 22).toNat (SK (UB (a0 164)) (a0 146 22).toNat (a0 146 23).toNat)) 0 3 = 0) → (NF (UB (a0 164)) (a0 146 22).toNat (C2 (UB (a0 164)) (a0 146 22).toNat (SK (UB (a0 164)) (a0 146 22).toNat (a0 146 23).toNat)) (LSr a0 (UB (a0 164)) (a0 146 22).toNat (SK (UB (a0 164)) (a0 146 22).toNat (a0 146 23).toNat) x1.toNat + 1) 500 = 0) → (a 146 26 = NV (UB (a0 164)) (a0 146 22).toNat (C2 (UB (a0 164)) (a0 146 22).toNat (SK (UB (a0 164)) (a0 146 22).toNat (a0 146 23).toNat))) → (SK (UB (a0 164)) (a0 146 22).toNat (a 146 23).toNat = (C3 (UB (a0 164)) (a0 146 22).toNat (SK (UB (a0 164)) (a0 146 22).toNat (a0 146 23).toNat))) → (UP (a0 195) (a 195) (3 * x1.toNat) (NV (UB (a0 164)) (a0 146 22).toNat (C1 (UB (a0 164)) (a0 146 22).toNat (SK (UB (a0 164)) (a0 146 22).toNat (a0 146 23).toNat)))) → 1 ≤ a0 146 22 → jt (jxX E d 281 130 [some (.inr (.inr (.inl 146))), some (.inl y1), none, none, none] [] (jxSH, a, b0)) (jQ_X12_clause x1 a0 b0) := by
  intro y1 a hv hf hi0 hi1 hi2 hi3 hi4 hi5 hi6 hi7 htw hy1 hi10 hi11 hi12 h1z h2z hsd hnx hu hi18
  refine jt_eq (bq_X12_clause_130 E d y1 a b0) ?_
  have h430_ := iv_get hv (k := 146) (j := 23) (l := 0) (u := 200) rfl
  have h431_ := iv_get hv (k := 146) (j := 22) (l := 0) (u := 200) rfl
  have h432_ : a 146 22 = a0 146 22 := hf 146 22 rfl
  have h433_ := iv_get hv0 (k := 146) (j := 22) (l := 0) (u := 200) rfl
  have h434_ := iv_get hv0 (k := 146) (j := 23) (l := 0) (u := 200) rfl
  have h435_ := iv_get hv (k := 146) (j := 26) (l := 0) (u := 999) rfl
  have h4 : a 164 = a0 164 := funext fun j => hf 164 j rfl
  have h22 := hf 146 22 rfl
  have hP : SK (UB (a 164)) (a 146 22).toNat (a 146 23).toNat = C3 (UB (a0 164)) (a0 146 22).toNat (SK (UB (a0 164)) (a0 146 22).toNat (a0 146 23).toNat) := by rw [h4, h22]; exact hnx
  have h436_ : jxw (3 * y1) = 3 * y1 := jxw_id (by omega) (by omega)
  have h437_ : jxw ((jxw (3 * y1)) + 1) = (jxw (3 * y1)) + 1 := jxw_id (by omega) (by omega)
  refine jt_grd (by omega) ?_
  have hv438_ : iv (jxu a 195 ((jxw ((jxw (3 * y1)) + 1)).toNat) (a 146 26)) := iv_put hv (l := 0) (u := 900) rfl (by omega) (by omega)
  refine jt_bI (sp_X12_number E d (jd_le hd rfl) 1 900 (jxu a 195 ((jxw ((jxw (3 * y1)) + 1)).toNat) (a 146 26)) b0 hv438_ (show a 146 23 ≤ a 146 22 from by omega)) (fun r439_ a439_ b439_ h439_ => ?_)
  obtain ⟨hv439_, hf439_, rfl, hq439_0, hq439_1, hq439_2, hq439_3, hq439_4, hq439_5⟩ := h439_
  have h440_ := iv_get hv439_ (k := 146) (j := 23) (l := 0) (u := 200) rfl
  have h441_ : a 146 23 ≤ a439_ 146 23 := hq439_1
  have h442_ : a439_ 146 23 ≤ a 146 22 := hq439_2
  have h443_ := iv_get hv439_ (k := 146) (j := 26) (l := 0) (u := 999) rfl
  have h444_ : (r439_ = 1 → (1 ≤ a439_ 146 26 ∧ a439_ 146 26 ≤ 900)) := hq439_3
  refine jt_ite (fun c445_ => ?_) (fun c445_ => ?_)
  ·
    have hf446_ : jfr jW_X12_clause a0 (jxu a 195 ((jxw ((jxw (3 * y1)) + 1)).toNat) (a 146 26)) := jfr_put hf rfl
    have hf447_ : jfr jW_X12_clause a0 a439_ := jfr_tr hf446_ hf439_ rfl
    have h448_ := iv_get hv439_ (k := 146) (j := 22) (l := 0) (u := 200) rfl
    have h449_ : a439_ 146 22 = a 146 22 := hf439_ 146 22 rfl
    exact cp_X12_clause_155 E d hd x1 a0 b0 hv0 hp0 hp1 hp2 hp3 a439_ hv439_ hf447_ (show a0 146 23 ≤ a439_ 146 23 from by omega) (show a439_ 146 23 ≤ a439_ 146 22 from by omega) (by have p1 := hq439_4; have p2 := hq439_5; rw [show (jxu a 195 ((jxw ((jxw (3 * y1)) + 1)).toNat) (a 146 26)) 164 = a 164 from rfl, show (jxu a 195 ((jxw ((jxw (3 * y1)) + 1)).toNat) (a 146 26)) 146 22 = a 146 22 from rfl, show (jxu a 195 ((jxw ((jxw (3 * y1)) + 1)).toNat) (a 146 26)) 146 23 = a 146 23 from rfl, hP, h4, h22] at p1 p2; rw [CF_go htw (by omega), if_neg (fun h => h h1z), if_neg (fun h => h h2z)]; have q := p2 (by omega); rw [if_pos (show jxu a 195 ((jxw ((jxw (3 * y1)) + 1)).toNat) (a 146 26) 146 24 = 0 from (show a 146 24 = 0 by omega))] at q; exact q) (show 1 ≤ a0 146 22 from by omega)
  ·
    have hf450_ : jfr jW_X12_clause a0 (jxu a 195 ((jxw ((jxw (3 * y1)) + 1)).toNat) (a 146 26)) := jfr_put hf rfl
    have hf451_ : jfr jW_X12_clause a0 a439_ := jfr_tr hf450_ hf439_ rfl
    have h452_ := iv_get hv439_ (k := 146) (j := 22) (l := 0) (u := 200) rfl
    have h453_ : a439_ 146 22 = a 146 22 := hf439_ 146 22 rfl
    exact cp_X12_clause_157 E d hd x1 a0 b0 hv0 hp0 hp1 hp2 hp3 y1 a439_ hv439_ hf451_ (show 0 ≤ y1 from by omega) (show y1 ≤ 11 from by omega) (show a439_ 146 23 ≤ a439_ 146 22 from by omega) (show (a0 146 23) + 2 ≤ a439_ 146 23 from by omega) (show y1 = x1 from by omega) (show y1 < 12 from by omega) (show 0 ≤ y1 from by omega) (show a439_ 146 26 ≤ 900 from by omega) (by first | rfl | assumption) (show x1 ≤ 11 from by omega) (show 0 ≤ x1 from by omega) (by have p1 := hq439_4; have p2 := hq439_5; rw [show (jxu a 195 ((jxw ((jxw (3 * y1)) + 1)).toNat) (a 146 26)) 164 = a 164 from rfl, show (jxu a 195 ((jxw ((jxw (3 * y1)) + 1)).toNat) (a 146 26)) 146 22 = a 146 22 from rfl, show (jxu a 195 ((jxw ((jxw (3 * y1)) + 1)).toNat) (a 146 26)) 146 23 = a 146 23 from rfl, hP, h4, h22] at p1 p2; rw [CF_go htw (by omega), if_neg (fun h => h h1z), if_neg (fun h => h h2z)]; exact (p1 (by omega)).1) (show a439_ 146 24 = 0 from by omega) (by have p1 := hq439_4; have p2 := hq439_5; rw [show (jxu a 195 ((jxw ((jxw (3 * y1)) + 1)).toNat) (a 146 26)) 164 = a 164 from rfl, show (jxu a 195 ((jxw ((jxw (3 * y1)) + 1)).toNat) (a 146 26)) 146 22 = a 146 22 from rfl, show (jxu a 195 ((jxw ((jxw (3 * y1)) + 1)).toNat) (a 146 26)) 146 23 = a 146 23 from rfl, hP, h4, h22] at p1 p2; exact (p1 (by omega)).2.1) (by have p1 := hq439_4; have p2 := hq439_5; rw [show (jxu a 195 ((jxw ((jxw (3 * y1)) + 1)).toNat) (a 146 26)) 164 = a 164 from rfl, show (jxu a 195 ((jxw ((jxw (3 * y1)) + 1)).toNat) (a 146 26)) 146 22 = a 146 22 from rfl, show (jxu a 195 ((jxw ((jxw (3 * y1)) + 1)).toNat) (a 146 26)) 146 23 = a 146 23 from rfl, hP, h4, h22] at p1 p2; rw [(p1 (by omega)).2.2.1, Int.toNat_natCast]; rfl) (by have hq : ∀ j, a439_ 195 j = if j = 3 * x1.toNat + 1 then a 146 26 else a 195 j := (fun j => by rw [hf439_ 195 j rfl, show 3 * x1.toNat + 1 = (jxw ((jxw (3 * y1)) + 1)).toNat from by omega]; simp only [jxu, if_true]); refine ⟨by rw [hq, if_neg (by omega), hu _, if_pos rfl], by rw [hq, if_pos rfl]; exact hsd, fun j hj => by rw [hq, if_neg (by omega), hu _, if_neg (by omega)]⟩) (show 1 ≤ a0 146 22 from by omega)
theorem cp_X12_clause_69 (E : jxE) (d : Nat) (hd : Nat.ble 3 (d + 1) = true) (x1 : Int) (a0 b0 : Nat → Nat → Int) (hv0 : iv a0) (hp0 : a0 146 23 ≤ a0 146 22) (hp1 : 0 ≤ x1) (hp2 : x1 ≤ 12) (hp3 : a0 146 24 = 0) : ∀ n : Nat, (∀ (y1 y2 y3 y4 : Int) (a : Nat → Nat → Int), (((11 - y4) * 1) + 0).toNat ≤ n → iv a → jfr jW_X12_clause a0 a → 1 ≤ y1 → y1 ≤ 11 → 0 ≤ y2 → y2 ≤ 999 → 0 ≤ y3 → y3 ≤ 900 → 0 ≤ y4 → y4 ≤ 10 → a 146 23 ≤ a 146 22 → (a0 146 23) + 2 ≤ a 146 23 → y1 = x1 → y1 < 12 → 0 ≤ y1 → 0 ≤ y2 → y2 ≤ 3 → 0 ≤ y3 → y3 ≤ 900 → 0 ≤ y4 → y4 < y1 → (TW (UB (a0 164)) (a0 146 22).toNat (SK (UB (a0 164)) (a0 146 22).toNat (a0 146 23).toNat) 15) → (y1 = x1) → x1 ≤ 11 → 0 ≤ x1 → a 146 24 = 0 → (NF (UB (a0 164)) (a0 146 22).toNat (C1 (UB (a0 164)) (a0 146 22).toNat (SK (UB (a0 164)) (a0 146 22).toNat (a0 146 23).toNat)) 0 3 = 0) → (SK (UB (a0 164)) (a0 146 22).toNat (a 146 23).toNat = (C2 (UB (a0 164)) (a0 146 22).toNat (SK (UB (a0 164)) (a0 146 22).toNat (a0 146 23).toNat))) → (y2 = NV (UB (a0 164)) (a0 146 22).toNat (C1 (UB (a0 164)) (a0 146 22).toNat (SK (UB (a0 164)) (a0 146 22).toNat (a0 146 23).toNat))) → (∀ j, a 195 j = a0 195 j) → y4 < x1 → (y3 = LG (fun k => a0 195 (3 * k)) (fun k => a0 195 (3 * k + 1)) (NV (UB (a0 164)) (a0 146 22).toNat (C1 (UB (a0 164)) (a0 146 22).toNat (SK (UB (a0 164)) (a0 146 22).toNat (a0 146 23).toNat))) (y4.toNat + 1)) → 1 ≤ a0 146 22 → jt (jxX E d 281 100 [some (.inr (.inr (.inl 146))), some (.inl y1), some (.inl y2), some (.inl y3), some (.inl y4)] [] (jxSH, a, b0)) (jQ_X12_clause x1 a0 b0)) ∧ (∀ (y1 y2 y3 y4 : Int) (a : Nat → Nat → Int), (((11 - y4) * 1) + 0).toNat ≤ n → iv a → jfr jW_X12_clause a0 a → 0 ≤ y1 → y1 ≤ 11 → 0 ≤ y2 → y2 ≤ 999 → 0 ≤ y3 → y3 ≤ 900 → 0 ≤ y4 → y4 ≤ 11 → a 146 23 ≤ a 146 22 → (a0 146 23) + 2 ≤ a 146 23 → y1 = x1 → y1 < 12 → 0 ≤ y1 → 0 ≤ y2 → y2 ≤ 3 → 0 ≤ y3 → y3 ≤ 900 → 0 ≤ y4 → y4 ≤ y1 → (TW (UB (a0 164)) (a0 146 22).toNat (SK (UB (a0 164)) (a0 146 22).toNat (a0 146 23).toNat) 15) → (y1 = x1) → x1 ≤ 11 → 0 ≤ x1 → a 146 24 = 0 → (NF (UB (a0 164)) (a0 146 22).toNat (C1 (UB (a0 164)) (a0 146 22).toNat (SK (UB (a0 164)) (a0 146 22).toNat (a0 146 23).toNat)) 0 3 = 0) → (SK (UB (a0 164)) (a0 146 22).toNat (a 146 23).toNat = (C2 (UB (a0 164)) (a0 146 22).toNat (SK (UB (a0 164)) (a0 146 22).toNat (a0 146 23).toNat))) → (y2 = NV (UB (a0 164)) (a0 146 22).toNat (C1 (UB (a0 164)) (a0 146 22).toNat (SK (UB (a0 164)) (a0 146 22).toNat (a0 146 23).toNat))) → (∀ j, a 195 j = a0 195 j) → y4 ≤ x1 → (y3 = LG (fun k => a0 195 (3 * k)) (fun k => a0 195 (3 * k + 1)) (NV (UB (a0 164)) (a0 146 22).toNat (C1 (UB (a0 164)) (a0 146 22).toNat (SK (UB (a0 164)) (a0 146 22).toNat (a0 146 23).toNat))) y4.toNat) → 1 ≤ a0 146 22 → jt (jxX E d 281 69 [some (.inr (.inr (.inl 146))), some (.inl y1), some (.inl y2), some (.inl y3), some (.inl y4)] [] (jxSH, a, b0)) (jQ_X12_clause x1 a0 b0)) := by
  refine jx_ind fun n ih => ?_
  have ih100 : ∀ (y1 y2 y3 y4 : Int) (a : Nat → Nat → Int), (((11 - y4) * 1) + 0).toNat < n → iv a → jfr jW_X12_clause a0 a → 1 ≤ y1 → y1 ≤ 11 → 0 ≤ y2 → y2 ≤ 999 → 0 ≤ y3 → y3 ≤ 900 → 0 ≤ y4 → y4 ≤ 10 → a 146 23 ≤ a 146 22 → (a0 146 23) + 2 ≤ a 146 23 → y1 = x1 → y1 < 12 → 0 ≤ y1 → 0 ≤ y2 → y2 ≤ 3 → 0 ≤ y3 → y3 ≤ 900 → 0 ≤ y4 → y4 < y1 → (TW (UB (a0 164)) (a0 146 22).toNat (SK (UB (a0 164)) (a0 146 22).toNat (a0 146 23).toNat) 15) → (y1 = x1) → x1 ≤ 11 → 0 ≤ x1 → a 146 24 = 0 → (NF (UB (a0 164)) (a0 146 22).toNat (C1 (UB (a0 164)) (a0 146 22).toNat (SK (UB (a0 164)) (a0 146 22).toNat (a0 146 23).toNat)) 0 3 = 0) → (SK (UB (a0 164)) (a0 146 22).toNat (a 146 23).toNat = (C2 (UB (a0 164)) (a0 146 22).toNat (SK (UB (a0 164)) (a0 146 22).toNat (a0 146 23).toNat))) → (y2 = NV (UB (a0 164)) (a0 146 22).toNat (C1 (UB (a0 164)) (a0 146 22).toNat (SK (UB (a0 164)) (a0 146 22).toNat (a0 146 23).toNat))) → (∀ j, a 195 j = a0 195 j) → y4 < x1 → (y3 = LG (fun k => a0 195 (3 * k)) (fun k => a0 195 (3 * k + 1)) (NV (UB (a0 164)) (a0 146 22).toNat (C1 (UB (a0 164)) (a0 146 22).toNat (SK (UB (a0 164)) (a0 146 22).toNat (a0 146 23).toNat))) (y4.toNat + 1)) → 1 ≤ a0 146 22 → jt (jxX E d 281 100 [some (.inr (.inr (.inl 146))), some (.inl y1), some (.inl y2), some (.inl y3), some (.inl y4)] [] (jxSH, a, b0)) (jQ_X12_clause x1 a0 b0) := fun y1 y2 y3 y4 a hlt i0 i1 i2 i3 i4 i5 i6 i7 i8 i9 i10 i11 i12 i13 i14 i15 i16 i17 i18 i19 i20 i21 i22 i23 i24 i25 i26 i27 i28 i29 i30 i31 i32 => (ih _ hlt).1 y1 y2 y3 y4 a (Nat.le_refl _) i0 i1 i2 i3 i4 i5 i6 i7 i8 i9 i10 i11 i12 i13 i14 i15 i16 i17 i18 i19 i20 i21 i22 i23 i24 i25 i26 i27 i28 i29 i30 i31 i32
  have ih69 : ∀ (y1 y2 y3 y4 : Int) (a : Nat → Nat → Int), (((11 - y4) * 1) + 0).toNat < n → iv a → jfr jW_X12_clause a0 a → 0 ≤ y1 → y1 ≤ 11 → 0 ≤ y2 → y2 ≤ 999 → 0 ≤ y3 → y3 ≤ 900 → 0 ≤ y4 → y4 ≤ 11 → a 146 23 ≤ a 146 22 → (a0 146 23) + 2 ≤ a 146 23 → y1 = x1 → y1 < 12 → 0 ≤ y1 → 0 ≤ y2 → y2 ≤ 3 → 0 ≤ y3 → y3 ≤ 900 → 0 ≤ y4 → y4 ≤ y1 → (TW (UB (a0 164)) (a0 146 22).toNat (SK (UB (a0 164)) (a0 146 22).toNat (a0 146 23).toNat) 15) → (y1 = x1) → x1 ≤ 11 → 0 ≤ x1 → a 146 24 = 0 → (NF (UB (a0 164)) (a0 146 22).toNat (C1 (UB (a0 164)) (a0 146 22).toNat (SK (UB (a0 164)) (a0 146 22).toNat (a0 146 23).toNat)) 0 3 = 0) → (SK (UB (a0 164)) (a0 146 22).toNat (a 146 23).toNat = (C2 (UB (a0 164)) (a0 146 22).toNat (SK (UB (a0 164)) (a0 146 22).toNat (a0 146 23).toNat))) → (y2 = NV (UB (a0 164)) (a0 146 22).toNat (C1 (UB (a0 164)) (a0 146 22).toNat (SK (UB (a0 164)) (a0 146 22).toNat (a0 146 23).toNat))) → (∀ j, a 195 j = a0 195 j) → y4 ≤ x1 → (y3 = LG (fun k => a0 195 (3 * k)) (fun k => a0 195 (3 * k + 1)) (NV (UB (a0 164)) (a0 146 22).toNat (C1 (UB (a0 164)) (a0 146 22).toNat (SK (UB (a0 164)) (a0 146 22).toNat (a0 146 23).toNat))) y4.toNat) → 1 ≤ a0 146 22 → jt (jxX E d 281 69 [some (.inr (.inr (.inl 146))), some (.inl y1), some (.inl y2), some (.inl y3), some (.inl y4)] [] (jxSH, a, b0)) (jQ_X12_clause x1 a0 b0) := fun y1 y2 y3 y4 a hlt i0 i1 i2 i3 i4 i5 i6 i7 i8 i9 i10 i11 i12 i13 i14 i15 i16 i17 i18 i19 i20 i21 i22 i23 i24 i25 i26 i27 i28 i29 i30 i31 i32 => (ih _ hlt).2 y1 y2 y3 y4 a (Nat.le_refl _) i0 i1 i2 i3 i4 i5 i6 i7 i8 i9 i10 i11 i12 i13 i14 i15 i16 i17 i18 i19 i20 i21 i22 i23 i24 i25 i26 i27 i28 i29 i30 i31 i32
  have hc100 : ∀ (y1 y2 y3 y4 : Int) (a : Nat → Nat → Int), (((11 - y4) * 1) + 0).toNat ≤ n → iv a → jfr jW_X12_clause a0 a → 1 ≤ y1 → y1 ≤ 11 → 0 ≤ y2 → y2 ≤ 999 → 0 ≤ y3 → y3 ≤ 900 → 0 ≤ y4 → y4 ≤ 10 → a 146 23 ≤ a 146 22 → (a0 146 23) + 2 ≤ a 146 23 → y1 = x1 → y1 < 12 → 0 ≤ y1 → 0 ≤ y2 → y2 ≤ 3 → 0 ≤ y3 → y3 ≤ 900 → 0 ≤ y4 → y4 < y1 → (TW (UB (a0 164)) (a0 146 22).toNat (SK (UB (a0 164)) (a0 146 22).toNat (a0 146 23).toNat) 15) → (y1 = x1) → x1 ≤ 11 → 0 ≤ x1 → a 146 24 = 0 → (NF (UB (a0 164)) (a0 146 22).toNat (C1 (UB (a0 164)) (a0 146 22).toNat (SK (UB (a0 164)) (a0 146 22).toNat (a0 146 23).toNat)) 0 3 = 0) → (SK (UB (a0 164)) (a0 146 22).toNat (a 146 23).toNat = (C2 (UB (a0 164)) (a0 146 22).toNat (SK (UB (a0 164)) (a0 146 22).toNat (a0 146 23).toNat))) → (y2 = NV (UB (a0 164)) (a0 146 22).toNat (C1 (UB (a0 164)) (a0 146 22).toNat (SK (UB (a0 164)) (a0 146 22).toNat (a0 146 23).toNat))) → (∀ j, a 195 j = a0 195 j) → y4 < x1 → (y3 = LG (fun k => a0 195 (3 * k)) (fun k => a0 195 (3 * k + 1)) (NV (UB (a0 164)) (a0 146 22).toNat (C1 (UB (a0 164)) (a0 146 22).toNat (SK (UB (a0 164)) (a0 146 22).toNat (a0 146 23).toNat))) (y4.toNat + 1)) → 1 ≤ a0 146 22 → jt (jxX E d 281 100 [some (.inr (.inr (.inl 146))), some (.inl y1), some (.inl y2), some (.inl y3), some (.inl y4)] [] (jxSH, a, b0)) (jQ_X12_clause x1 a0 b0) := by
    intro y1 y2 y3 y4 a hm hv hf hi0 hi1 hi2 hi3 hi4 hi5 hi6 hi7 hi8 hi9 hi10 hi11 hi12 hi13 hi14 hi15 hi16 hi17 hi18 htw hy1 hi21 hi22 hi23 h1z hnx hz hs195 hi28 hlg hi30
    refine jt_eq (bq_X12_clause_100 E d y1 y2 y3 y4 a b0) ?_
    have h454_ := iv_get hv (k := 146) (j := 23) (l := 0) (u := 200) rfl
    have h455_ := iv_get hv (k := 146) (j := 22) (l := 0) (u := 200) rfl
    have h456_ : a 146 22 = a0 146 22 := hf 146 22 rfl
    have h457_ := iv_get hv0 (k := 146) (j := 22) (l := 0) (u := 200) rfl
    have h458_ := iv_get hv0 (k := 146) (j := 23) (l := 0) (u := 200) rfl
    have h4 : a 164 = a0 164 := funext fun j => hf 164 j rfl
    have h22 := hf 146 22 rfl
    have h459_ : jxw (y4 + 1) = y4 + 1 := jxw_id (by omega) (by omega)
    exact ih69 y1 y2 y3 (jxw (y4 + 1)) a (show (((11 - (jxw (y4 + 1))) * 1) + 0).toNat < n from by omega) hv hf (show 0 ≤ y1 from by omega) (show y1 ≤ 11 from by omega) (show 0 ≤ y2 from by omega) (show y2 ≤ 999 from by omega) (show 0 ≤ y3 from by omega) (show y3 ≤ 900 from by omega) (show 0 ≤ jxw (y4 + 1) from by omega) (show jxw (y4 + 1) ≤ 11 from by omega) (show a 146 23 ≤ a 146 22 from by omega) (show (a0 146 23) + 2 ≤ a 146 23 from by omega) (show y1 = x1 from by omega) (show y1 < 12 from by omega) (show 0 ≤ y1 from by omega) (show 0 ≤ y2 from by omega) (show y2 ≤ 3 from by omega) (show 0 ≤ y3 from by omega) (show y3 ≤ 900 from by omega) (show 0 ≤ jxw (y4 + 1) from by omega) (show jxw (y4 + 1) ≤ y1 from by omega) (by first | exact htw | exact (hq0_8 15 (by decide)).2 (by omega)) (by first | rfl | assumption) (show x1 ≤ 11 from by omega) (show 0 ≤ x1 from by omega) (show a 146 24 = 0 from by omega) (by first | exact h1z | (have p1 := hq0_4; have p2 := hq0_5; rw [hP, h4, h22] at p1 p2; exact (p1 (by omega)).1)) (by first | exact hnx | (have p1 := hq0_4; have p2 := hq0_5; rw [hP, h4, h22] at p1 p2; rw [(p1 (by omega)).2.2.1, Int.toNat_natCast]; rfl)) (by first | exact hz | (have p1 := hq0_4; have p2 := hq0_5; rw [hP, h4, h22] at p1 p2; exact (p1 (by omega)).2.1)) (fun j => (rfl).trans (hs195 j)) (show jxw (y4 + 1) ≤ x1 from by omega) (by first | rfl | (rw [show (jxw (y4 + 1)).toNat = y4.toNat + 1 from by omega]; exact hlg)) (show 1 ≤ a0 146 22 from by omega)
  have hc69 : ∀ (y1 y2 y3 y4 : Int) (a : Nat → Nat → Int), (((11 - y4) * 1) + 0).toNat ≤ n → iv a → jfr jW_X12_clause a0 a → 0 ≤ y1 → y1 ≤ 11 → 0 ≤ y2 → y2 ≤ 999 → 0 ≤ y3 → y3 ≤ 900 → 0 ≤ y4 → y4 ≤ 11 → a 146 23 ≤ a 146 22 → (a0 146 23) + 2 ≤ a 146 23 → y1 = x1 → y1 < 12 → 0 ≤ y1 → 0 ≤ y2 → y2 ≤ 3 → 0 ≤ y3 → y3 ≤ 900 → 0 ≤ y4 → y4 ≤ y1 → (TW (UB (a0 164)) (a0 146 22).toNat (SK (UB (a0 164)) (a0 146 22).toNat (a0 146 23).toNat) 15) → (y1 = x1) → x1 ≤ 11 → 0 ≤ x1 → a 146 24 = 0 → (NF (UB (a0 164)) (a0 146 22).toNat (C1 (UB (a0 164)) (a0 146 22).toNat (SK (UB (a0 164)) (a0 146 22).toNat (a0 146 23).toNat)) 0 3 = 0) → (SK (UB (a0 164)) (a0 146 22).toNat (a 146 23).toNat = (C2 (UB (a0 164)) (a0 146 22).toNat (SK (UB (a0 164)) (a0 146 22).toNat (a0 146 23).toNat))) → (y2 = NV (UB (a0 164)) (a0 146 22).toNat (C1 (UB (a0 164)) (a0 146 22).toNat (SK (UB (a0 164)) (a0 146 22).toNat (a0 146 23).toNat))) → (∀ j, a 195 j = a0 195 j) → y4 ≤ x1 → (y3 = LG (fun k => a0 195 (3 * k)) (fun k => a0 195 (3 * k + 1)) (NV (UB (a0 164)) (a0 146 22).toNat (C1 (UB (a0 164)) (a0 146 22).toNat (SK (UB (a0 164)) (a0 146 22).toNat (a0 146 23).toNat))) y4.toNat) → 1 ≤ a0 146 22 → jt (jxX E d 281 69 [some (.inr (.inr (.inl 146))), some (.inl y1), some (.inl y2), some (.inl y3), some (.inl y4)] [] (jxSH, a, b0)) (jQ_X12_clause x1 a0 b0) := by
    intro y1 y2 y3 y4 a hm hv hf hi0 hi1 hi2 hi3 hi4 hi5 hi6 hi7 hi8 hi9 hi10 hi11 hi12 hi13 hi14 hi15 hi16 hi17 hi18 htw hy1 hi21 hi22 hi23 h1z hnx hz hs195 hi28 hlg hi30
    refine jt_eq (bq_X12_clause_69 E d y1 y2 y3 y4 a b0) ?_
    have h460_ := iv_get hv (k := 146) (j := 23) (l := 0) (u := 200) rfl
    have h461_ := iv_get hv (k := 146) (j := 22) (l := 0) (u := 200) rfl
    have h462_ : a 146 22 = a0 146 22 := hf 146 22 rfl
    have h463_ := iv_get hv0 (k := 146) (j := 22) (l := 0) (u := 200) rfl
    have h464_ := iv_get hv0 (k := 146) (j := 23) (l := 0) (u := 200) rfl
    have h4 : a 164 = a0 164 := funext fun j => hf 164 j rfl
    have h22 := hf 146 22 rfl
    have hP : SK (UB (a 164)) (a 146 22).toNat (a 146 23).toNat = C2 (UB (a0 164)) (a0 146 22).toNat (SK (UB (a0 164)) (a0 146 22).toNat (a0 146 23).toNat) := by rw [h4, h22]; exact hnx
    have hla : ¬ y4 < y1 → y3 = LSr a0 (UB (a0 164)) (a0 146 22).toNat (SK (UB (a0 164)) (a0 146 22).toNat (a0 146 23).toNat) x1.toNat := fun h => by rw [hlg, show y4.toNat = x1.toNat from by omega]; rfl
    refine jt_ite (fun c465_ => ?_) (fun c465_ => ?_)
    ·
      have h466_ : jxw (3 * y4) = 3 * y4 := jxw_id (by omega) (by omega)
      refine jt_grd (by omega) ?_
      have h467_ := iv_get hv (k := 195) (j := (jxw (3 * y4)).toNat) (l := 0) (u := 900) rfl
      refine jt_ite (fun c468_ => ?_) (fun c468_ => ?_)
      ·
        have h469_ : jxw ((jxw (3 * y4)) + 1) = (jxw (3 * y4)) + 1 := jxw_id (by omega) (by omega)
        refine jt_grd (by omega) ?_
        have h470_ := iv_get hv (k := 195) (j := (jxw ((jxw (3 * y4)) + 1)).toNat) (l := 0) (u := 900) rfl
        exact hc100 y1 y2 (a 195 ((jxw ((jxw (3 * y4)) + 1)).toNat)) y4 a (show (((11 - y4) * 1) + 0).toNat ≤ n from by omega) hv hf (show 1 ≤ y1 from by omega) (show y1 ≤ 11 from by omega) (show 0 ≤ y2 from by omega) (show y2 ≤ 999 from by omega) (show 0 ≤ a 195 ((jxw ((jxw (3 * y4)) + 1)).toNat) from by omega) (show a 195 ((jxw ((jxw (3 * y4)) + 1)).toNat) ≤ 900 from by omega) (show 0 ≤ y4 from by omega) (show y4 ≤ 10 from by omega) (show a 146 23 ≤ a 146 22 from by omega) (show (a0 146 23) + 2 ≤ a 146 23 from by omega) (show y1 = x1 from by omega) (show y1 < 12 from by omega) (show 0 ≤ y1 from by omega) (show 0 ≤ y2 from by omega) (show y2 ≤ 3 from by omega) (show 0 ≤ a 195 ((jxw ((jxw (3 * y4)) + 1)).toNat) from by omega) (show a 195 ((jxw ((jxw (3 * y4)) + 1)).toNat) ≤ 900 from by omega) (show 0 ≤ y4 from by omega) (show y4 < y1 from by omega) (by first | exact htw | exact (hq0_8 15 (by decide)).2 (by omega)) (by first | rfl | assumption) (show x1 ≤ 11 from by omega) (show 0 ≤ x1 from by omega) (show a 146 24 = 0 from by omega) (by first | exact h1z | (have p1 := hq0_4; have p2 := hq0_5; rw [hP, h4, h22] at p1 p2; exact (p1 (by omega)).1)) (by first | exact hnx | (have p1 := hq0_4; have p2 := hq0_5; rw [hP, h4, h22] at p1 p2; rw [(p1 (by omega)).2.2.1, Int.toNat_natCast]; rfl)) (by first | exact hz | (have p1 := hq0_4; have p2 := hq0_5; rw [hP, h4, h22] at p1 p2; exact (p1 (by omega)).2.1)) (fun j => (rfl).trans (hs195 j)) (show y4 < x1 from by omega) (by first | (rw [LG_s1 (by rw [← hz, ← hs195, ← (show (jxw (3 * y4)).toNat = 3 * y4.toNat from by omega)]; assumption), (show (jxw ((jxw (3 * y4)) + 1)).toNat = 3 * y4.toNat + 1 from by omega), hs195]) | (rw [LG_s2 (by rw [← hz, ← hs195, ← (show (jxw (3 * y4)).toNat = 3 * y4.toNat from by omega)]; assumption)]; exact hlg)) (show 1 ≤ a0 146 22 from by omega)
      ·
        exact hc100 y1 y2 y3 y4 a (show (((11 - y4) * 1) + 0).toNat ≤ n from by omega) hv hf (show 1 ≤ y1 from by omega) (show y1 ≤ 11 from by omega) (show 0 ≤ y2 from by omega) (show y2 ≤ 999 from by omega) (show 0 ≤ y3 from by omega) (show y3 ≤ 900 from by omega) (show 0 ≤ y4 from by omega) (show y4 ≤ 10 from by omega) (show a 146 23 ≤ a 146 22 from by omega) (show (a0 146 23) + 2 ≤ a 146 23 from by omega) (show y1 = x1 from by omega) (show y1 < 12 from by omega) (show 0 ≤ y1 from by omega) (show 0 ≤ y2 from by omega) (show y2 ≤ 3 from by omega) (show 0 ≤ y3 from by omega) (show y3 ≤ 900 from by omega) (show 0 ≤ y4 from by omega) (show y4 < y1 from by omega) (by first | exact htw | exact (hq0_8 15 (by decide)).2 (by omega)) (by first | rfl | assumption) (show x1 ≤ 11 from by omega) (show 0 ≤ x1 from by omega) (show a 146 24 = 0 from by omega) (by first | exact h1z | (have p1 := hq0_4; have p2 := hq0_5; rw [hP, h4, h22] at p1 p2; exact (p1 (by omega)).1)) (by first | exact hnx | (have p1 := hq0_4; have p2 := hq0_5; rw [hP, h4, h22] at p1 p2; rw [(p1 (by omega)).2.2.1, Int.toNat_natCast]; rfl)) (by first | exact hz | (have p1 := hq0_4; have p2 := hq0_5; rw [hP, h4, h22] at p1 p2; exact (p1 (by omega)).2.1)) (fun j => (rfl).trans (hs195 j)) (show y4 < x1 from by omega) (by first | (rw [LG_s1 (by rw [← hz, ← hs195, ← (show (jxw (3 * y4)).toNat = 3 * y4.toNat from by omega)]; assumption), (show (jxw ((jxw (3 * y4)) + 1)).toNat = 3 * y4.toNat + 1 from by omega), hs195]) | (rw [LG_s2 (by rw [← hz, ← hs195, ← (show (jxw (3 * y4)).toNat = 3 * y4.toNat from by omega)]; assumption)]; exact hlg)) (show 1 ≤ a0 146 22 from by omega)
    ·
      refine jt_bI (sp_X12_number E d (jd_le hd rfl) (jxw (y3 + 1)) 500 a b0 hv (show a 146 23 ≤ a 146 22 from by omega)) (fun r471_ a471_ b471_ h471_ => ?_)
      obtain ⟨hv471_, hf471_, rfl, hq471_0, hq471_1, hq471_2, hq471_3, hq471_4, hq471_5⟩ := h471_
      have h472_ := iv_get hv471_ (k := 146) (j := 23) (l := 0) (u := 200) rfl
      have h473_ : jxw (y3 + 1) = y3 + 1 := jxw_id (by omega) (by omega)
      have h474_ := iv_get hv471_ (k := 146) (j := 26) (l := 0) (u := 999) rfl
      refine jt_ite (fun c475_ => ?_) (fun c475_ => ?_)
      ·
        have hf476_ : jfr jW_X12_clause a0 a471_ := jfr_tr hf hf471_ rfl
        have h477_ := iv_get hv471_ (k := 146) (j := 22) (l := 0) (u := 200) rfl
        have h478_ : a471_ 146 22 = a 146 22 := hf471_ 146 22 rfl
        exact jt_rI ⟨hv471_, hf476_, rfl, (show (0 ≤ 0 ∧ 0 ≤ 1) from by omega), (show a0 146 23 ≤ a471_ 146 23 from by omega), (show a471_ 146 23 ≤ a471_ 146 22 from by omega), (show (0 = 1 → (x1 < 12 ∧ (a0 146 23) + 2 ≤ a471_ 146 23)) from by omega), (show ((a0 146 22 = 0 ∧ a0 146 24 = 0) → (0 = 0 ∧ a471_ 146 24 = 1)) from by omega), (fun h => absurd h (by omega)), (fun _ => (by have hj : jxw (y3 + 1) = y3 + 1 := (by omega); have p1 := hq471_4; have p2 := hq471_5; rw [hP, h4, h22, hj, hla (by omega)] at p1 p2; rw [CF_go htw (by omega), if_neg (fun h => h h1z), if_pos (p2 (by omega)).1]; have q := p2 (by omega); rw [if_pos (by omega)] at q; exact q)), (show (0 = 1 → a471_ 146 24 = 0) from by omega)⟩
      ·
        have h479_ : jxw (3 * y1) = 3 * y1 := jxw_id (by omega) (by omega)
        refine jt_grd (by omega) ?_
        have hv480_ : iv (jxu a471_ 195 ((jxw (3 * y1)).toNat) y2) := iv_put hv471_ (l := 0) (u := 900) rfl (by omega) (by omega)
        have hf481_ : jfr jW_X12_clause a0 a471_ := jfr_tr hf hf471_ rfl
        have hf482_ : jfr jW_X12_clause a0 (jxu a471_ 195 ((jxw (3 * y1)).toNat) y2) := jfr_put hf481_ rfl
        have h483_ := iv_get hv471_ (k := 146) (j := 22) (l := 0) (u := 200) rfl
        have h484_ : a471_ 146 22 = a 146 22 := hf471_ 146 22 rfl
        exact cp_X12_clause_130 E d hd x1 a0 b0 hv0 hp0 hp1 hp2 hp3 y1 (jxu a471_ 195 ((jxw (3 * y1)).toNat) y2) hv480_ hf482_ (show 0 ≤ y1 from by omega) (show y1 ≤ 11 from by omega) (show a471_ 146 23 ≤ a471_ 146 22 from by omega) (show (a0 146 23) + 2 ≤ a471_ 146 23 from by omega) (show y1 = x1 from by omega) (show y1 < 12 from by omega) (show 0 ≤ y1 from by omega) (show a471_ 146 26 ≤ 500 from by omega) (by first | exact htw | exact (hq471_8 15 (by decide)).2 (by omega)) (by first | rfl | assumption) (show x1 ≤ 11 from by omega) (show 0 ≤ x1 from by omega) (show a471_ 146 24 = 0 from by omega) (by first | exact h1z | (have p1 := hq471_4; have p2 := hq471_5; rw [hP, h4, h22] at p1 p2; exact (p1 (by omega)).1)) (by have hj : jxw (y3 + 1) = y3 + 1 := (by omega); have p1 := hq471_4; have p2 := hq471_5; rw [hP, h4, h22, hj, hla (by omega)] at p1 p2; exact (p1 (by omega)).1) (by have hj : jxw (y3 + 1) = y3 + 1 := (by omega); have p1 := hq471_4; have p2 := hq471_5; rw [hP, h4, h22, hj, hla (by omega)] at p1 p2; exact (p1 (by omega)).2.1) (by have hj : jxw (y3 + 1) = y3 + 1 := (by omega); have p1 := hq471_4; have p2 := hq471_5; rw [hP, h4, h22, hj, hla (by omega)] at p1 p2; show SK _ _ (a471_ 146 23).toNat = _; rw [(p1 (by omega)).2.2.1, Int.toNat_natCast]; rfl) (by rw [show 3 * x1.toNat = (jxw (3 * y1)).toNat from by omega, ← hz]; exact UP_put (fun j => (hf471_ 195 j rfl).trans (hs195 j))) (show 1 ≤ a0 146 22 from by omega)
  exact ⟨hc100, hc69⟩
theorem cp_X12_clause_48 (E : jxE) (d : Nat) (hd : Nat.ble 3 (d + 1) = true) (x1 : Int) (a0 b0 : Nat → Nat → Int) (hv0 : iv a0) (hp0 : a0 146 23 ≤ a0 146 22) (hp1 : 0 ≤ x1) (hp2 : x1 ≤ 12) (hp3 : a0 146 24 = 0) : ∀ (y1 : Int) (a : Nat → Nat → Int), iv a → jfr jW_X12_clause a0 a → 0 ≤ y1 → y1 ≤ 11 → a 146 23 ≤ a 146 22 → (a0 146 23) + 2 ≤ a 146 23 → y1 = x1 → y1 < 12 → 0 ≤ y1 → (TW (UB (a0 164)) (a0 146 22).toNat (SK (UB (a0 164)) (a0 146 22).toNat (a0 146 23).toNat) 15) → (y1 = x1) → x1 ≤ 11 → 0 ≤ x1 → a 146 24 = 0 → (a 146 23 = ((SK (UB (a0 164)) (a0 146 22).toNat (a0 146 23).toNat) : Int) + 4) → (∀ j, a 195 j = a0 195 j) → 1 ≤ a0 146 22 → jt (jxX E d 281 48 [some (.inr (.inr (.inl 146))), some (.inl y1), none, none, none] [] (jxSH, a, b0)) (jQ_X12_clause x1 a0 b0) := by
  intro y1 a hv hf hi0 hi1 hi2 hi3 hi4 hi5 hi6 htw hy1 hi9 hi10 hi11 hnx hs195 hi14
  refine jt_eq (bq_X12_clause_48 E d y1 a b0) ?_
  have h485_ := iv_get hv (k := 146) (j := 23) (l := 0) (u := 200) rfl
  have h486_ := iv_get hv (k := 146) (j := 22) (l := 0) (u := 200) rfl
  have h487_ : a 146 22 = a0 146 22 := hf 146 22 rfl
  have h488_ := iv_get hv0 (k := 146) (j := 22) (l := 0) (u := 200) rfl
  have h489_ := iv_get hv0 (k := 146) (j := 23) (l := 0) (u := 200) rfl
  have h4 : a 164 = a0 164 := funext fun j => hf 164 j rfl
  have h22 := hf 146 22 rfl
  have hP : SK (UB (a 164)) (a 146 22).toNat (a 146 23).toNat = C1 (UB (a0 164)) (a0 146 22).toNat (SK (UB (a0 164)) (a0 146 22).toNat (a0 146 23).toNat) := by rw [h4, h22, show (a 146 23).toNat = (SK (UB (a0 164)) (a0 146 22).toNat (a0 146 23).toNat) + 4 from by omega]; rfl
  refine jt_bI (sp_X12_number E d (jd_le hd rfl) 0 3 a b0 hv (show a 146 23 ≤ a 146 22 from by omega)) (fun r490_ a490_ b490_ h490_ => ?_)
  obtain ⟨hv490_, hf490_, rfl, hq490_0, hq490_1, hq490_2, hq490_3, hq490_4, hq490_5⟩ := h490_
  have h491_ := iv_get hv490_ (k := 146) (j := 23) (l := 0) (u := 200) rfl
  have h492_ := iv_get hv490_ (k := 146) (j := 26) (l := 0) (u := 999) rfl
  refine jt_ite (fun c493_ => ?_) (fun c493_ => ?_)
  ·
    have hf494_ : jfr jW_X12_clause a0 a490_ := jfr_tr hf hf490_ rfl
    have h495_ := iv_get hv490_ (k := 146) (j := 22) (l := 0) (u := 200) rfl
    have h496_ : a490_ 146 22 = a 146 22 := hf490_ 146 22 rfl
    exact jt_rI ⟨hv490_, hf494_, rfl, (show (0 ≤ 0 ∧ 0 ≤ 1) from by omega), (show a0 146 23 ≤ a490_ 146 23 from by omega), (show a490_ 146 23 ≤ a490_ 146 22 from by omega), (show (0 = 1 → (x1 < 12 ∧ (a0 146 23) + 2 ≤ a490_ 146 23)) from by omega), (show ((a0 146 22 = 0 ∧ a0 146 24 = 0) → (0 = 0 ∧ a490_ 146 24 = 1)) from by omega), (fun h => absurd h (by omega)), (fun _ => by have p1 := hq490_4; have p2 := hq490_5; rw [hP, h4, h22] at p1 p2; rw [CF_go htw (by omega), if_pos (p2 (by omega)).1]; have q := p2 (by omega); rw [if_pos (by omega)] at q; exact q), (show (0 = 1 → a490_ 146 24 = 0) from by omega)⟩
  ·
    have hf497_ : jfr jW_X12_clause a0 a490_ := jfr_tr hf hf490_ rfl
    have h498_ := iv_get hv490_ (k := 146) (j := 22) (l := 0) (u := 200) rfl
    have h499_ : a490_ 146 22 = a 146 22 := hf490_ 146 22 rfl
    exact (cp_X12_clause_69 E d hd x1 a0 b0 hv0 hp0 hp1 hp2 hp3 _).2 y1 (a490_ 146 26) 0 0 a490_ (Nat.le_refl _) hv490_ hf497_ (show 0 ≤ y1 from by omega) (show y1 ≤ 11 from by omega) (show 0 ≤ a490_ 146 26 from by omega) (show a490_ 146 26 ≤ 999 from by omega) (show 0 ≤ 0 from by omega) (show 0 ≤ 900 from by omega) (show 0 ≤ 0 from by omega) (show 0 ≤ 11 from by omega) (show a490_ 146 23 ≤ a490_ 146 22 from by omega) (show (a0 146 23) + 2 ≤ a490_ 146 23 from by omega) (show y1 = x1 from by omega) (show y1 < 12 from by omega) (show 0 ≤ y1 from by omega) (show 0 ≤ a490_ 146 26 from by omega) (show a490_ 146 26 ≤ 3 from by omega) (show 0 ≤ 0 from by omega) (show 0 ≤ 900 from by omega) (show 0 ≤ 0 from by omega) (show 0 ≤ y1 from by omega) (by first | exact htw | exact (hq490_8 15 (by decide)).2 (by omega)) (by first | rfl | assumption) (show x1 ≤ 11 from by omega) (show 0 ≤ x1 from by omega) (show a490_ 146 24 = 0 from by omega) (by first | exact h1z | (have p1 := hq490_4; have p2 := hq490_5; rw [hP, h4, h22] at p1 p2; exact (p1 (by omega)).1)) (by first | exact hnx | (have p1 := hq490_4; have p2 := hq490_5; rw [hP, h4, h22] at p1 p2; rw [(p1 (by omega)).2.2.1, Int.toNat_natCast]; rfl)) (by first | exact hz | (have p1 := hq490_4; have p2 := hq490_5; rw [hP, h4, h22] at p1 p2; exact (p1 (by omega)).2.1)) (fun j => ((hf490_ 195 j rfl)).trans (hs195 j)) (show 0 ≤ x1 from by omega) (by first | rfl | (rw [show (jxw (y4 + 1)).toNat = y4.toNat + 1 from by omega]; exact hlg)) (show 1 ≤ a0 146 22 from by omega)
theorem sp_X12_clause (E : jxE) (d : Nat) (hd : Nat.ble 3 d = true) (x1 : Int) (a0 b0 : Nat → Nat → Int) (hv0 : iv a0) (hp0 : a0 146 23 ≤ a0 146 22) (hp1 : 0 ≤ x1) (hp2 : x1 ≤ 12) (hp3 : a0 146 24 = 0) : jt (jxC E d 281 [.inr (.inr (.inl 146)), .inl x1] (jxSH, a0, b0)) (jQ_X12_clause x1 a0 b0) := by
  obtain ⟨d, rfl⟩ := jd_succ hd
  refine jt_eq (bq_X12_clause E d x1 a0 b0) ?_
  have h500_ := iv_get hv0 (k := 146) (j := 23) (l := 0) (u := 200) rfl
  have h501_ := iv_get hv0 (k := 146) (j := 22) (l := 0) (u := 200) rfl
  refine jt_bI (sp_X12_wordHere E d (jd_le hd rfl) a0 b0 hv0 (show a0 146 23 ≤ a0 146 22 from by omega)) (fun r502_ a502_ b502_ h502_ => ?_)
  obtain ⟨hv502_, hf502_, rfl, hq502_0, hq502_1, hq502_2, hq502_3, hq502_4, hq502_5, hq502_6, hq502_7, hq502_8, hq502_9⟩ := h502_
  have h503_ := iv_get hv502_ (k := 146) (j := 23) (l := 0) (u := 200) rfl
  have h504_ := iv_get hv502_ (k := 146) (j := 25) (l := 0) (u := 200) rfl
  have h505_ := iv_get hv502_ (k := 146) (j := 22) (l := 0) (u := 200) rfl
  have h506_ : a502_ 146 22 = a0 146 22 := hf502_ 146 22 rfl
  have h507_ := iv_get hv0 (k := 164) (j := (a0 146 23).toNat) (l := (-128)) (u := 127) rfl
  have hwq502 := hq502_7
  have hws502 : r502_ = 15 → a502_ 146 25 = 4 := fun h => by have q := hq502_9 (by omega); rw [h] at q; exact q
  have h24_502 := hf502_ 146 24 rfl
  have h22_502 := hf502_ 146 22 rfl
  refine jt_ite (fun c508_ => ?_) (fun c508_ => ?_)
  ·
    refine jt_ite (fun c509_ => ?_) (fun c509_ => ?_)
    ·
      refine jt_bI (sp_X12_fails E d (jd_le hd rfl) 2 (a502_ 146 23) a502_ b0 hv502_) (fun r510_ a510_ b510_ h510_ => ?_)
      obtain ⟨hv510_, hf510_, rfl, hq510_0, hq510_1, hq510_2, hq510_3⟩ := h510_
      have h511_ : a502_ 146 24 = a0 146 24 := hf502_ 146 24 rfl
      refine jt_grd (by omega) ?_
      have hf512_ : jfr jW_X12_clause a0 a502_ := jfr_tr (jfr_rf _ _) hf502_ rfl
      have hf513_ : jfr jW_X12_clause a0 a510_ := jfr_tr hf512_ hf510_ rfl
      have h514_ := iv_get hv510_ (k := 146) (j := 23) (l := 0) (u := 200) rfl
      have h515_ : a510_ 146 23 = a502_ 146 23 := hf510_ 146 23 rfl
      have h516_ := iv_get hv510_ (k := 146) (j := 22) (l := 0) (u := 200) rfl
      have h517_ : a510_ 146 22 = a502_ 146 22 := hf510_ 146 22 rfl
      exact jt_rI ⟨hv510_, hf513_, rfl, (show (0 ≤ r510_ ∧ r510_ ≤ 1) from by omega), (show a0 146 23 ≤ a510_ 146 23 from by omega), (show a510_ 146 23 ≤ a510_ 146 22 from by omega), (show (r510_ = 1 → (x1 < 12 ∧ (a0 146 23) + 2 ≤ a510_ 146 23)) from by omega), (show ((a0 146 22 = 0 ∧ a0 146 24 = 0) → (r510_ = 0 ∧ a510_ 146 24 = 1)) from by omega), (fun h => absurd h (by omega)), (fun _ => by have q := hwq502; first | (rw [CF_no (fun t => by have w := (hq502_8 15 (by decide)).1 t; omega)]; exact ⟨by omega, by omega⟩) | (rw [CF_12 ((hq502_8 15 (by decide)).2 (by omega)) (by omega)]; exact ⟨by omega, by omega⟩)), (show (r510_ = 1 → a510_ 146 24 = 0) from by omega)⟩
    ·
      have h519_ : jxw ((a502_ 146 23) + (a502_ 146 25)) = (a502_ 146 23) + (a502_ 146 25) := jxw_id (by omega) (by omega)
      have hv518_ : iv (jxu a502_ 146 23 (jxw ((a502_ 146 23) + (a502_ 146 25)))) := iv_put hv502_ (l := 0) (u := 200) rfl (by omega) (by omega)
      have hf520_ : jfr jW_X12_clause a0 a502_ := jfr_tr (jfr_rf _ _) hf502_ rfl
      have hf521_ : jfr jW_X12_clause a0 (jxu a502_ 146 23 (jxw ((a502_ 146 23) + (a502_ 146 25)))) := jfr_put hf520_ rfl
      have h522_ : a502_ 146 24 = a0 146 24 := hf502_ 146 24 rfl
      exact cp_X12_clause_48 E d hd x1 a0 b0 hv0 hp0 hp1 hp2 hp3 x1 (jxu a502_ 146 23 (jxw ((a502_ 146 23) + (a502_ 146 25)))) hv518_ hf521_ (show 0 ≤ x1 from by omega) (show x1 ≤ 11 from by omega) (show jxw ((a502_ 146 23) + (a502_ 146 25)) ≤ a502_ 146 22 from by omega) (show (a0 146 23) + 2 ≤ jxw ((a502_ 146 23) + (a502_ 146 25)) from by omega) (show x1 = x1 from by omega) (show x1 < 12 from by omega) (show 0 ≤ x1 from by omega) (by first | exact htw | exact (hq502_8 15 (by decide)).2 (by omega)) (by first | rfl | assumption) (show x1 ≤ 11 from by omega) (show 0 ≤ x1 from by omega) (show a502_ 146 24 = 0 from by omega) (by show jxw _ = _; have q := hwq502; omega) (fun j => (hf502_ 195 j rfl)) (show 1 ≤ a0 146 22 from by omega)
  ·
    refine jt_bI (sp_X12_fails E d (jd_le hd rfl) 0 (a502_ 146 23) a502_ b0 hv502_) (fun r523_ a523_ b523_ h523_ => ?_)
    obtain ⟨hv523_, hf523_, rfl, hq523_0, hq523_1, hq523_2, hq523_3⟩ := h523_
    have h524_ : a502_ 146 24 = a0 146 24 := hf502_ 146 24 rfl
    refine jt_grd (by omega) ?_
    have hf525_ : jfr jW_X12_clause a0 a502_ := jfr_tr (jfr_rf _ _) hf502_ rfl
    have hf526_ : jfr jW_X12_clause a0 a523_ := jfr_tr hf525_ hf523_ rfl
    have h527_ := iv_get hv523_ (k := 146) (j := 23) (l := 0) (u := 200) rfl
    have h528_ : a523_ 146 23 = a502_ 146 23 := hf523_ 146 23 rfl
    have h529_ := iv_get hv523_ (k := 146) (j := 22) (l := 0) (u := 200) rfl
    have h530_ : a523_ 146 22 = a502_ 146 22 := hf523_ 146 22 rfl
    exact jt_rI ⟨hv523_, hf526_, rfl, (show (0 ≤ r523_ ∧ r523_ ≤ 1) from by omega), (show a0 146 23 ≤ a523_ 146 23 from by omega), (show a523_ 146 23 ≤ a523_ 146 22 from by omega), (show (r523_ = 1 → (x1 < 12 ∧ (a0 146 23) + 2 ≤ a523_ 146 23)) from by omega), (show ((a0 146 22 = 0 ∧ a0 146 24 = 0) → (r523_ = 0 ∧ a523_ 146 24 = 1)) from by omega), (fun h => absurd h (by omega)), (fun _ => by have q := hwq502; first | (rw [CF_no (fun t => by have w := (hq502_8 15 (by decide)).1 t; omega)]; exact ⟨by omega, by omega⟩) | (rw [CF_12 ((hq502_8 15 (by decide)).2 (by omega)) (by omega)]; exact ⟨by omega, by omega⟩)), (show (r523_ = 1 → a523_ 146 24 = 0) from by omega)⟩
def jW_X12_rules : List (Nat × Nat) := [(146, 22), (146, 23), (146, 24), (146, 25), (146, 26), (146, 27), (171, 9999), (172, 9999)]
abbrev jQ_X12_rules (a0 b0 : Nat → Nat → Int) : List jxV → (Nat → Nat → Int) → (Nat → Nat → Int) → Prop := rI (fun r a b => (iv a) ∧ (jfr jW_X12_rules a0 a) ∧ (b0 = b) ∧ ((a0 146 22 = 0 → r = 0)) ∧ ((a0 146 22 ≤ 100 → a 146 22 = 0)) ∧ ((100 < a0 146 22 → a 146 22 = a0 146 22)))
theorem cp_X12_rules_301 (E : jxE) (d : Nat) (hd : Nat.ble 3 (d + 1) = true) (a0 b0 : Nat → Nat → Int) (hv0 : iv a0) : ∀ n : Nat, (∀ (y2 y5 : Int) (a : Nat → Nat → Int), (((5 - y5) * 1) + 0).toNat ≤ n → iv a → jfr jW_X12_rules a0 a → 0 ≤ y5 → y5 ≤ 5 → a 146 22 ≤ 0 → (a0 146 22 = 0 → y2 = 0) → a 146 22 = 0 → a0 146 22 ≤ 100 → jt (jxX E d 232 301 [some (.inr (.inr (.inl 146))), none, some (.inl y2), none, none, some (.inl y5)] [] (jxSH, a, b0)) (jQ_X12_rules a0 b0)) := by
  refine jx_ind fun n ih => ?_
  have ih301 : ∀ (y2 y5 : Int) (a : Nat → Nat → Int), (((5 - y5) * 1) + 0).toNat < n → iv a → jfr jW_X12_rules a0 a → 0 ≤ y5 → y5 ≤ 5 → a 146 22 ≤ 0 → (a0 146 22 = 0 → y2 = 0) → a 146 22 = 0 → a0 146 22 ≤ 100 → jt (jxX E d 232 301 [some (.inr (.inr (.inl 146))), none, some (.inl y2), none, none, some (.inl y5)] [] (jxSH, a, b0)) (jQ_X12_rules a0 b0) := fun y2 y5 a hlt i0 i1 i2 i3 i4 i5 i6 i7 => (ih _ hlt) y2 y5 a (Nat.le_refl _) i0 i1 i2 i3 i4 i5 i6 i7
  have hc301 : ∀ (y2 y5 : Int) (a : Nat → Nat → Int), (((5 - y5) * 1) + 0).toNat ≤ n → iv a → jfr jW_X12_rules a0 a → 0 ≤ y5 → y5 ≤ 5 → a 146 22 ≤ 0 → (a0 146 22 = 0 → y2 = 0) → a 146 22 = 0 → a0 146 22 ≤ 100 → jt (jxX E d 232 301 [some (.inr (.inr (.inl 146))), none, some (.inl y2), none, none, some (.inl y5)] [] (jxSH, a, b0)) (jQ_X12_rules a0 b0) := by
    intro y2 y5 a hm hv hf hi0 hi1 hi2 hi3 hi4 hi5
    refine jt_eq (bq_X12_rules_301 E d y2 y5 a b0) ?_
    have h531_ := iv_get hv (k := 146) (j := 22) (l := 0) (u := 200) rfl
    have h532_ := iv_get hv0 (k := 146) (j := 22) (l := 0) (u := 200) rfl
    refine jt_ite (fun c533_ => ?_) (fun c533_ => ?_)
    ·
      refine jt_grd (by omega) ?_
      refine jt_grd (by omega) ?_
      have hv534_ : iv (jxu a 171 (y5.toNat) (a 172 (y5.toNat))) := iv_putf hv rfl
      have hf535_ : jfr jW_X12_rules a0 (jxu a 171 (y5.toNat) (a 172 (y5.toNat))) := jfr_put hf rfl
      have h536_ : jxw (y5 + 1) = y5 + 1 := jxw_id (by omega) (by omega)
      exact ih301 y2 (jxw (y5 + 1)) (jxu a 171 (y5.toNat) (a 172 (y5.toNat))) (show (((5 - (jxw (y5 + 1))) * 1) + 0).toNat < n from by omega) hv534_ hf535_ (show 0 ≤ jxw (y5 + 1) from by omega) (show jxw (y5 + 1) ≤ 5 from by omega) (show a 146 22 ≤ 0 from by omega) (show (a0 146 22 = 0 → y2 = 0) from by omega) (show a 146 22 = 0 from by omega) (show a0 146 22 ≤ 100 from by omega)
    ·
      exact jt_rI ⟨hv, hf, rfl, (show (a0 146 22 = 0 → y2 = 0) from by omega), (show (a0 146 22 ≤ 100 → a 146 22 = 0) from by omega), (show (100 < a0 146 22 → a 146 22 = a0 146 22) from by omega)⟩
  exact hc301
theorem cp_X12_rules_281 (E : jxE) (d : Nat) (hd : Nat.ble 3 (d + 1) = true) (a0 b0 : Nat → Nat → Int) (hv0 : iv a0) : ∀ (y2 y3 : Int) (a : Nat → Nat → Int), iv a → jfr jW_X12_rules a0 a → 0 ≤ y3 → y3 ≤ 1 → a 146 22 ≤ 100 → 0 ≤ y3 → y3 ≤ 1 → a 146 22 = a0 146 22 → (a0 146 22 = 0 → (y2 = 0 ∧ ¬ y3 = 0)) → a0 146 22 ≤ 100 → jt (jxX E d 232 281 [some (.inr (.inr (.inl 146))), none, some (.inl y2), some (.inl y3), none, none] [] (jxSH, a, b0)) (jQ_X12_rules a0 b0) := by
  intro y2 y3 a hv hf hi0 hi1 hi2 hi3 hi4 hi5 hi6 hi7
  refine jt_eq (bq_X12_rules_281 E d y2 y3 a b0) ?_
  have h537_ := iv_get hv (k := 146) (j := 22) (l := 0) (u := 200) rfl
  have h538_ := iv_get hv0 (k := 146) (j := 22) (l := 0) (u := 200) rfl
  refine jt_ite (fun c539_ => ?_) (fun c539_ => ?_)
  ·
    have hv540_ : iv (jxu a 146 22 0) := iv_put hv (l := 0) (u := 200) rfl (by omega) (by omega)
    have hf541_ : jfr jW_X12_rules a0 (jxu a 146 22 0) := jfr_put hf rfl
    have h542_ := jxw_im ((-2) - (a 146 24))
    have h543_ := jxw_rg ((-2) - (a 146 24))
    exact jt_rI ⟨hv540_, hf541_, rfl, (show (a0 146 22 = 0 → jxw ((-2) - (a 146 24)) = 0) from by omega), (show (a0 146 22 ≤ 100 → 0 = 0) from by omega), (show (100 < a0 146 22 → 0 = a0 146 22) from by omega)⟩
  ·
    have hv544_ : iv (jxu a 146 22 0) := iv_put hv (l := 0) (u := 200) rfl (by omega) (by omega)
    have hf545_ : jfr jW_X12_rules a0 (jxu a 146 22 0) := jfr_put hf rfl
    exact (cp_X12_rules_301 E d hd a0 b0 hv0 _) y2 0 (jxu a 146 22 0) (Nat.le_refl _) hv544_ hf545_ (show 0 ≤ 0 from by omega) (show 0 ≤ 5 from by omega) (show 0 ≤ 0 from by omega) (show (a0 146 22 = 0 → y2 = 0) from by omega) (show 0 = 0 from by omega) (show a0 146 22 ≤ 100 from by omega)
theorem cp_X12_rules_65 (E : jxE) (d : Nat) (hd : Nat.ble 3 (d + 1) = true) (a0 b0 : Nat → Nat → Int) (hv0 : iv a0) : ∀ n : Nat, (∀ (y1 y2 y3 y4 : Int) (a : Nat → Nat → Int), (((((a 146 22) - (a 146 23)) + (2 * y3)) + y4) + 1).toNat ≤ n → iv a → jfr jW_X12_rules a0 a → 0 ≤ y3 → y3 ≤ 1 → 0 ≤ y4 → y4 ≤ 1 → a 146 22 ≤ 100 → a 146 23 ≤ a 146 22 → 0 ≤ y2 → y2 ≤ a 146 23 → 0 ≤ y3 → 0 ≤ y4 → y3 ≤ 1 → y4 ≤ 1 → a 146 22 = a0 146 22 → 1 ≤ a0 146 22 → a0 146 22 ≤ 100 → jt (jxX E d 232 278 [some (.inr (.inr (.inl 146))), some (.inl y1), some (.inl y2), some (.inl y3), some (.inl y4), none] [] (jxSH, a, b0)) (jQ_X12_rules a0 b0)) ∧ (∀ (y1 y2 y3 y4 : Int) (a : Nat → Nat → Int), (((((a 146 22) - (a 146 23)) + (2 * y3)) + y4) + 1).toNat ≤ n → iv a → jfr jW_X12_rules a0 a → 0 ≤ y3 → y3 ≤ 1 → 0 ≤ y4 → y4 ≤ 1 → a 146 22 ≤ 100 → a 146 23 ≤ a 146 22 → 0 ≤ y2 → y2 ≤ a 146 23 → 0 ≤ y3 → 0 ≤ y4 → y3 ≤ 1 → y4 ≤ 1 → a 146 22 = a0 146 22 → 1 ≤ a0 146 22 → a0 146 22 ≤ 100 → jt (jxX E d 232 251 [some (.inr (.inr (.inl 146))), some (.inl y1), some (.inl y2), some (.inl y3), some (.inl y4), none] [] (jxSH, a, b0)) (jQ_X12_rules a0 b0)) ∧ (∀ (y1 y2 y3 y4 : Int) (a : Nat → Nat → Int), (((((a 146 22) - (a 146 23)) + (2 * y3)) + y4) + 1).toNat ≤ n → iv a → jfr jW_X12_rules a0 a → 0 ≤ y3 → y3 ≤ 1 → 0 ≤ y4 → y4 ≤ 1 → a 146 22 ≤ 100 → a 146 23 ≤ a 146 22 → 0 ≤ y2 → y2 ≤ a 146 23 → 0 ≤ y3 → 0 ≤ y4 → y3 ≤ 1 → y4 ≤ 1 → (y4 = 1 → a 146 23 < a 146 22) → a 146 22 = a0 146 22 → 1 ≤ a0 146 22 → a0 146 22 ≤ 100 → jt (jxX E d 232 236 [some (.inr (.inr (.inl 146))), some (.inl y1), some (.inl y2), some (.inl y3), some (.inl y4), none] [] (jxSH, a, b0)) (jQ_X12_rules a0 b0)) ∧ (∀ (y1 y2 y3 s0 : Int) (a : Nat → Nat → Int), (((((a 146 22) - (a 146 23)) + (2 * y3)) + s0) + 1).toNat ≤ n → iv a → jfr jW_X12_rules a0 a → 0 ≤ y3 → y3 ≤ 1 → 0 ≤ s0 → s0 ≤ 1 → a 146 22 ≤ 100 → a 146 23 ≤ a 146 22 → 0 ≤ y2 → y2 ≤ a 146 23 → 0 ≤ y3 → 0 ≤ s0 → y3 ≤ 1 → s0 ≤ 1 → (s0 = 1 → (a 146 23 < a 146 22 ∧ ¬ a 164 ((a 146 23).toNat) = 32)) → a 146 22 = a0 146 22 → 1 ≤ a0 146 22 → a0 146 22 ≤ 100 → jt (jxX E d 232 210 [some (.inr (.inr (.inl 146))), some (.inl y1), some (.inl y2), some (.inl y3), none, none] [.inl s0] (jxSH, a, b0)) (jQ_X12_rules a0 b0)) ∧ (∀ (y1 y2 y3 : Int) (a : Nat → Nat → Int), ((((a 146 22) - (a 146 23)) + (2 * y3)) + 2).toNat ≤ n → iv a → jfr jW_X12_rules a0 a → 1 ≤ y3 → y3 ≤ 1 → a 146 22 ≤ 100 → a 146 23 ≤ a 146 22 → 0 ≤ y2 → y2 ≤ a 146 23 → 0 ≤ y3 → y3 ≤ 1 → a 146 23 < a 146 22 → ¬ a 164 ((a 146 23).toNat) = 32 → a 146 22 = a0 146 22 → 1 ≤ a0 146 22 → a0 146 22 ≤ 100 → jt (jxX E d 232 205 [some (.inr (.inr (.inl 146))), some (.inl y1), some (.inl y2), some (.inl y3), none, none] [] (jxSH, a, b0)) (jQ_X12_rules a0 b0)) ∧ (∀ (y1 y2 y3 : Int) (a : Nat → Nat → Int), ((((a 146 22) - (a 146 23)) + (2 * y3)) + 1).toNat ≤ n → iv a → jfr jW_X12_rules a0 a → 0 ≤ y3 → y3 ≤ 1 → a 146 22 ≤ 100 → a 146 23 ≤ a 146 22 → 0 ≤ y2 → y2 ≤ a 146 23 → 0 ≤ y3 → y3 ≤ 1 → a 146 22 = a0 146 22 → 1 ≤ a0 146 22 → a0 146 22 ≤ 100 → jt (jxX E d 232 209 [some (.inr (.inr (.inl 146))), some (.inl y1), some (.inl y2), some (.inl y3), none, none] [] (jxSH, a, b0)) (jQ_X12_rules a0 b0)) ∧ (∀ (y1 y2 y5 s1 : Int) (a : Nat → Nat → Int), (((a 146 22) - (a 146 23)) + 4).toNat ≤ n → iv a → jfr jW_X12_rules a0 a → 0 - 11 ≤ y5 → y5 ≤ 5 → 0 ≤ s1 → s1 ≤ 1 → a 146 22 ≤ 100 → a 146 23 ≤ a 146 22 → 0 ≤ y2 → y2 + 2 ≤ a 146 23 → 0 ≤ y5 → y5 ≤ 4 → a 146 22 = a0 146 22 → 1 ≤ a0 146 22 → a0 146 22 ≤ 100 → jt (jxX E d 232 170 [some (.inr (.inr (.inl 146))), some (.inl y1), some (.inl y2), none, none, some (.inl y5)] [.inl s1, .inr (.inr (.inl 146))] (jxSH, a, b0)) (jQ_X12_rules a0 b0)) ∧ (∀ (y1 y2 y5 : Int) (a : Nat → Nat → Int), (((a 146 22) - (a 146 23)) + 4).toNat ≤ n → iv a → jfr jW_X12_rules a0 a → 0 ≤ y5 → y5 ≤ 3 → a 146 22 ≤ 100 → a 146 23 ≤ a 146 22 → 0 ≤ y2 → y2 + 2 ≤ a 146 23 → 0 ≤ y5 → y5 ≤ 4 → a 146 22 = a0 146 22 → 1 ≤ a0 146 22 → a0 146 22 ≤ 100 → jt (jxX E d 232 165 [some (.inr (.inr (.inl 146))), some (.inl y1), some (.inl y2), none, none, some (.inl y5)] [.inr (.inr (.inl 146))] (jxSH, a, b0)) (jQ_X12_rules a0 b0)) ∧ (∀ (y1 y2 y5 : Int) (a : Nat → Nat → Int), (((a 146 22) - (a 146 23)) + 4).toNat ≤ n → iv a → jfr jW_X12_rules a0 a → 0 - 11 ≤ y5 → y5 ≤ 5 → a 146 22 ≤ 100 → a 146 23 ≤ a 146 22 → 0 ≤ y2 → y2 + 2 ≤ a 146 23 → 0 ≤ y5 → y5 ≤ 4 → a 146 22 = a0 146 22 → 1 ≤ a0 146 22 → a0 146 22 ≤ 100 → jt (jxX E d 232 153 [some (.inr (.inr (.inl 146))), some (.inl y1), some (.inl y2), none, none, some (.inl y5)] [] (jxSH, a, b0)) (jQ_X12_rules a0 b0)) ∧ (∀ (y1 y2 y3 y5 : Int) (a : Nat → Nat → Int), (((a 146 22) - (a 146 23)) + 2).toNat ≤ n → iv a → jfr jW_X12_rules a0 a → 0 ≤ y3 → y3 ≤ 1 → 0 - 11 ≤ y5 → y5 ≤ 5 → a 146 22 ≤ 100 → a 146 23 ≤ a 146 22 → 0 ≤ y2 → y2 ≤ a 146 23 → (a 146 23) + (a 146 25) ≤ a 146 22 → 0 ≤ y3 → y3 ≤ 1 → (y3 = 1 → ((0 ≤ y5 ∧ y5 ≤ 4) ∧ 2 ≤ a 146 25)) → a 146 22 = a0 146 22 → 1 ≤ a0 146 22 → a0 146 22 ≤ 100 → jt (jxX E d 232 126 [some (.inr (.inr (.inl 146))), some (.inl y1), some (.inl y2), some (.inl y3), none, some (.inl y5)] [] (jxSH, a, b0)) (jQ_X12_rules a0 b0)) ∧ (∀ (y1 y2 y5 : Int) (a : Nat → Nat → Int), (((a 146 22) - (a 146 23)) + 2).toNat ≤ n → iv a → jfr jW_X12_rules a0 a → 0 - 11 ≤ y5 → y5 ≤ 5 → a 146 22 ≤ 100 → a 146 23 ≤ a 146 22 → 0 ≤ y2 → y2 ≤ a 146 23 → (a 146 23) + (a 146 25) ≤ a 146 22 → a 146 22 = a0 146 22 → 1 ≤ a0 146 22 → a0 146 22 ≤ 100 → jt (jxX E d 232 93 [some (.inr (.inr (.inl 146))), some (.inl y1), some (.inl y2), none, none, some (.inl y5)] [] (jxSH, a, b0)) (jQ_X12_rules a0 b0)) ∧ (∀ (y1 y2 y3 y5 : Int) (a : Nat → Nat → Int), (((a 146 22) - (a 146 23)) + 2).toNat ≤ n → iv a → jfr jW_X12_rules a0 a → 1 ≤ y3 → y3 ≤ 1 → 0 ≤ y5 → y5 ≤ 4 → a 146 22 ≤ 100 → a 146 23 ≤ a 146 22 → 0 ≤ y2 → y2 ≤ a 146 23 → (a 146 23) + (a 146 25) ≤ a 146 22 → 0 ≤ y3 → y3 ≤ 1 → 0 ≤ y5 → y5 ≤ 4 → 2 ≤ a 146 25 → a 146 22 = a0 146 22 → 1 ≤ a0 146 22 → a0 146 22 ≤ 100 → jt (jxX E d 232 106 [some (.inr (.inr (.inl 146))), some (.inl y1), some (.inl y2), some (.inl y3), none, some (.inl y5)] [] (jxSH, a, b0)) (jQ_X12_rules a0 b0)) ∧ (∀ (y1 y2 y3 y4 : Int) (a : Nat → Nat → Int), ((((a 146 22) - (a 146 23)) + y3) + y4).toNat ≤ n → iv a → jfr jW_X12_rules a0 a → 0 ≤ y3 → y3 ≤ 1 → 0 ≤ y4 → y4 ≤ 1 → a 146 22 ≤ 100 → a 146 23 ≤ a 146 22 → 0 ≤ y2 → y2 ≤ a 146 23 → 0 ≤ y3 → 0 ≤ y4 → y3 ≤ 1 → y4 ≤ 1 → a 146 22 = a0 146 22 → (a0 146 22 = 0 → ((y2 = 0 ∧ ¬ y3 = 0) ∧ y4 = 0)) → a0 146 22 ≤ 100 → jt (jxX E d 232 65 [some (.inr (.inr (.inl 146))), some (.inl y1), some (.inl y2), some (.inl y3), some (.inl y4), none] [] (jxSH, a, b0)) (jQ_X12_rules a0 b0)) := by
  refine jx_ind fun n ih => ?_
  have ih278 : ∀ (y1 y2 y3 y4 : Int) (a : Nat → Nat → Int), (((((a 146 22) - (a 146 23)) + (2 * y3)) + y4) + 1).toNat < n → iv a → jfr jW_X12_rules a0 a → 0 ≤ y3 → y3 ≤ 1 → 0 ≤ y4 → y4 ≤ 1 → a 146 22 ≤ 100 → a 146 23 ≤ a 146 22 → 0 ≤ y2 → y2 ≤ a 146 23 → 0 ≤ y3 → 0 ≤ y4 → y3 ≤ 1 → y4 ≤ 1 → a 146 22 = a0 146 22 → 1 ≤ a0 146 22 → a0 146 22 ≤ 100 → jt (jxX E d 232 278 [some (.inr (.inr (.inl 146))), some (.inl y1), some (.inl y2), some (.inl y3), some (.inl y4), none] [] (jxSH, a, b0)) (jQ_X12_rules a0 b0) := fun y1 y2 y3 y4 a hlt i0 i1 i2 i3 i4 i5 i6 i7 i8 i9 i10 i11 i12 i13 i14 i15 i16 => (ih _ hlt).1 y1 y2 y3 y4 a (Nat.le_refl _) i0 i1 i2 i3 i4 i5 i6 i7 i8 i9 i10 i11 i12 i13 i14 i15 i16
  have ih251 : ∀ (y1 y2 y3 y4 : Int) (a : Nat → Nat → Int), (((((a 146 22) - (a 146 23)) + (2 * y3)) + y4) + 1).toNat < n → iv a → jfr jW_X12_rules a0 a → 0 ≤ y3 → y3 ≤ 1 → 0 ≤ y4 → y4 ≤ 1 → a 146 22 ≤ 100 → a 146 23 ≤ a 146 22 → 0 ≤ y2 → y2 ≤ a 146 23 → 0 ≤ y3 → 0 ≤ y4 → y3 ≤ 1 → y4 ≤ 1 → a 146 22 = a0 146 22 → 1 ≤ a0 146 22 → a0 146 22 ≤ 100 → jt (jxX E d 232 251 [some (.inr (.inr (.inl 146))), some (.inl y1), some (.inl y2), some (.inl y3), some (.inl y4), none] [] (jxSH, a, b0)) (jQ_X12_rules a0 b0) := fun y1 y2 y3 y4 a hlt i0 i1 i2 i3 i4 i5 i6 i7 i8 i9 i10 i11 i12 i13 i14 i15 i16 => (ih _ hlt).2.1 y1 y2 y3 y4 a (Nat.le_refl _) i0 i1 i2 i3 i4 i5 i6 i7 i8 i9 i10 i11 i12 i13 i14 i15 i16
  have ih236 : ∀ (y1 y2 y3 y4 : Int) (a : Nat → Nat → Int), (((((a 146 22) - (a 146 23)) + (2 * y3)) + y4) + 1).toNat < n → iv a → jfr jW_X12_rules a0 a → 0 ≤ y3 → y3 ≤ 1 → 0 ≤ y4 → y4 ≤ 1 → a 146 22 ≤ 100 → a 146 23 ≤ a 146 22 → 0 ≤ y2 → y2 ≤ a 146 23 → 0 ≤ y3 → 0 ≤ y4 → y3 ≤ 1 → y4 ≤ 1 → (y4 = 1 → a 146 23 < a 146 22) → a 146 22 = a0 146 22 → 1 ≤ a0 146 22 → a0 146 22 ≤ 100 → jt (jxX E d 232 236 [some (.inr (.inr (.inl 146))), some (.inl y1), some (.inl y2), some (.inl y3), some (.inl y4), none] [] (jxSH, a, b0)) (jQ_X12_rules a0 b0) := fun y1 y2 y3 y4 a hlt i0 i1 i2 i3 i4 i5 i6 i7 i8 i9 i10 i11 i12 i13 i14 i15 i16 i17 => (ih _ hlt).2.2.1 y1 y2 y3 y4 a (Nat.le_refl _) i0 i1 i2 i3 i4 i5 i6 i7 i8 i9 i10 i11 i12 i13 i14 i15 i16 i17
  have ih210 : ∀ (y1 y2 y3 s0 : Int) (a : Nat → Nat → Int), (((((a 146 22) - (a 146 23)) + (2 * y3)) + s0) + 1).toNat < n → iv a → jfr jW_X12_rules a0 a → 0 ≤ y3 → y3 ≤ 1 → 0 ≤ s0 → s0 ≤ 1 → a 146 22 ≤ 100 → a 146 23 ≤ a 146 22 → 0 ≤ y2 → y2 ≤ a 146 23 → 0 ≤ y3 → 0 ≤ s0 → y3 ≤ 1 → s0 ≤ 1 → (s0 = 1 → (a 146 23 < a 146 22 ∧ ¬ a 164 ((a 146 23).toNat) = 32)) → a 146 22 = a0 146 22 → 1 ≤ a0 146 22 → a0 146 22 ≤ 100 → jt (jxX E d 232 210 [some (.inr (.inr (.inl 146))), some (.inl y1), some (.inl y2), some (.inl y3), none, none] [.inl s0] (jxSH, a, b0)) (jQ_X12_rules a0 b0) := fun y1 y2 y3 s0 a hlt i0 i1 i2 i3 i4 i5 i6 i7 i8 i9 i10 i11 i12 i13 i14 i15 i16 i17 => (ih _ hlt).2.2.2.1 y1 y2 y3 s0 a (Nat.le_refl _) i0 i1 i2 i3 i4 i5 i6 i7 i8 i9 i10 i11 i12 i13 i14 i15 i16 i17
  have ih205 : ∀ (y1 y2 y3 : Int) (a : Nat → Nat → Int), ((((a 146 22) - (a 146 23)) + (2 * y3)) + 2).toNat < n → iv a → jfr jW_X12_rules a0 a → 1 ≤ y3 → y3 ≤ 1 → a 146 22 ≤ 100 → a 146 23 ≤ a 146 22 → 0 ≤ y2 → y2 ≤ a 146 23 → 0 ≤ y3 → y3 ≤ 1 → a 146 23 < a 146 22 → ¬ a 164 ((a 146 23).toNat) = 32 → a 146 22 = a0 146 22 → 1 ≤ a0 146 22 → a0 146 22 ≤ 100 → jt (jxX E d 232 205 [some (.inr (.inr (.inl 146))), some (.inl y1), some (.inl y2), some (.inl y3), none, none] [] (jxSH, a, b0)) (jQ_X12_rules a0 b0) := fun y1 y2 y3 a hlt i0 i1 i2 i3 i4 i5 i6 i7 i8 i9 i10 i11 i12 i13 i14 => (ih _ hlt).2.2.2.2.1 y1 y2 y3 a (Nat.le_refl _) i0 i1 i2 i3 i4 i5 i6 i7 i8 i9 i10 i11 i12 i13 i14
  have ih209 : ∀ (y1 y2 y3 : Int) (a : Nat → Nat → Int), ((((a 146 22) - (a 146 23)) + (2 * y3)) + 1).toNat < n → iv a → jfr jW_X12_rules a0 a → 0 ≤ y3 → y3 ≤ 1 → a 146 22 ≤ 100 → a 146 23 ≤ a 146 22 → 0 ≤ y2 → y2 ≤ a 146 23 → 0 ≤ y3 → y3 ≤ 1 → a 146 22 = a0 146 22 → 1 ≤ a0 146 22 → a0 146 22 ≤ 100 → jt (jxX E d 232 209 [some (.inr (.inr (.inl 146))), some (.inl y1), some (.inl y2), some (.inl y3), none, none] [] (jxSH, a, b0)) (jQ_X12_rules a0 b0) := fun y1 y2 y3 a hlt i0 i1 i2 i3 i4 i5 i6 i7 i8 i9 i10 i11 i12 => (ih _ hlt).2.2.2.2.2.1 y1 y2 y3 a (Nat.le_refl _) i0 i1 i2 i3 i4 i5 i6 i7 i8 i9 i10 i11 i12
  have ih170 : ∀ (y1 y2 y5 s1 : Int) (a : Nat → Nat → Int), (((a 146 22) - (a 146 23)) + 4).toNat < n → iv a → jfr jW_X12_rules a0 a → 0 - 11 ≤ y5 → y5 ≤ 5 → 0 ≤ s1 → s1 ≤ 1 → a 146 22 ≤ 100 → a 146 23 ≤ a 146 22 → 0 ≤ y2 → y2 + 2 ≤ a 146 23 → 0 ≤ y5 → y5 ≤ 4 → a 146 22 = a0 146 22 → 1 ≤ a0 146 22 → a0 146 22 ≤ 100 → jt (jxX E d 232 170 [some (.inr (.inr (.inl 146))), some (.inl y1), some (.inl y2), none, none, some (.inl y5)] [.inl s1, .inr (.inr (.inl 146))] (jxSH, a, b0)) (jQ_X12_rules a0 b0) := fun y1 y2 y5 s1 a hlt i0 i1 i2 i3 i4 i5 i6 i7 i8 i9 i10 i11 i12 i13 i14 => (ih _ hlt).2.2.2.2.2.2.1 y1 y2 y5 s1 a (Nat.le_refl _) i0 i1 i2 i3 i4 i5 i6 i7 i8 i9 i10 i11 i12 i13 i14
  have ih165 : ∀ (y1 y2 y5 : Int) (a : Nat → Nat → Int), (((a 146 22) - (a 146 23)) + 4).toNat < n → iv a → jfr jW_X12_rules a0 a → 0 ≤ y5 → y5 ≤ 3 → a 146 22 ≤ 100 → a 146 23 ≤ a 146 22 → 0 ≤ y2 → y2 + 2 ≤ a 146 23 → 0 ≤ y5 → y5 ≤ 4 → a 146 22 = a0 146 22 → 1 ≤ a0 146 22 → a0 146 22 ≤ 100 → jt (jxX E d 232 165 [some (.inr (.inr (.inl 146))), some (.inl y1), some (.inl y2), none, none, some (.inl y5)] [.inr (.inr (.inl 146))] (jxSH, a, b0)) (jQ_X12_rules a0 b0) := fun y1 y2 y5 a hlt i0 i1 i2 i3 i4 i5 i6 i7 i8 i9 i10 i11 i12 => (ih _ hlt).2.2.2.2.2.2.2.1 y1 y2 y5 a (Nat.le_refl _) i0 i1 i2 i3 i4 i5 i6 i7 i8 i9 i10 i11 i12
  have ih153 : ∀ (y1 y2 y5 : Int) (a : Nat → Nat → Int), (((a 146 22) - (a 146 23)) + 4).toNat < n → iv a → jfr jW_X12_rules a0 a → 0 - 11 ≤ y5 → y5 ≤ 5 → a 146 22 ≤ 100 → a 146 23 ≤ a 146 22 → 0 ≤ y2 → y2 + 2 ≤ a 146 23 → 0 ≤ y5 → y5 ≤ 4 → a 146 22 = a0 146 22 → 1 ≤ a0 146 22 → a0 146 22 ≤ 100 → jt (jxX E d 232 153 [some (.inr (.inr (.inl 146))), some (.inl y1), some (.inl y2), none, none, some (.inl y5)] [] (jxSH, a, b0)) (jQ_X12_rules a0 b0) := fun y1 y2 y5 a hlt i0 i1 i2 i3 i4 i5 i6 i7 i8 i9 i10 i11 i12 => (ih _ hlt).2.2.2.2.2.2.2.2.1 y1 y2 y5 a (Nat.le_refl _) i0 i1 i2 i3 i4 i5 i6 i7 i8 i9 i10 i11 i12
  have ih126 : ∀ (y1 y2 y3 y5 : Int) (a : Nat → Nat → Int), (((a 146 22) - (a 146 23)) + 2).toNat < n → iv a → jfr jW_X12_rules a0 a → 0 ≤ y3 → y3 ≤ 1 → 0 - 11 ≤ y5 → y5 ≤ 5 → a 146 22 ≤ 100 → a 146 23 ≤ a 146 22 → 0 ≤ y2 → y2 ≤ a 146 23 → (a 146 23) + (a 146 25) ≤ a 146 22 → 0 ≤ y3 → y3 ≤ 1 → (y3 = 1 → ((0 ≤ y5 ∧ y5 ≤ 4) ∧ 2 ≤ a 146 25)) → a 146 22 = a0 146 22 → 1 ≤ a0 146 22 → a0 146 22 ≤ 100 → jt (jxX E d 232 126 [some (.inr (.inr (.inl 146))), some (.inl y1), some (.inl y2), some (.inl y3), none, some (.inl y5)] [] (jxSH, a, b0)) (jQ_X12_rules a0 b0) := fun y1 y2 y3 y5 a hlt i0 i1 i2 i3 i4 i5 i6 i7 i8 i9 i10 i11 i12 i13 i14 i15 i16 => (ih _ hlt).2.2.2.2.2.2.2.2.2.1 y1 y2 y3 y5 a (Nat.le_refl _) i0 i1 i2 i3 i4 i5 i6 i7 i8 i9 i10 i11 i12 i13 i14 i15 i16
  have ih93 : ∀ (y1 y2 y5 : Int) (a : Nat → Nat → Int), (((a 146 22) - (a 146 23)) + 2).toNat < n → iv a → jfr jW_X12_rules a0 a → 0 - 11 ≤ y5 → y5 ≤ 5 → a 146 22 ≤ 100 → a 146 23 ≤ a 146 22 → 0 ≤ y2 → y2 ≤ a 146 23 → (a 146 23) + (a 146 25) ≤ a 146 22 → a 146 22 = a0 146 22 → 1 ≤ a0 146 22 → a0 146 22 ≤ 100 → jt (jxX E d 232 93 [some (.inr (.inr (.inl 146))), some (.inl y1), some (.inl y2), none, none, some (.inl y5)] [] (jxSH, a, b0)) (jQ_X12_rules a0 b0) := fun y1 y2 y5 a hlt i0 i1 i2 i3 i4 i5 i6 i7 i8 i9 i10 i11 => (ih _ hlt).2.2.2.2.2.2.2.2.2.2.1 y1 y2 y5 a (Nat.le_refl _) i0 i1 i2 i3 i4 i5 i6 i7 i8 i9 i10 i11
  have ih106 : ∀ (y1 y2 y3 y5 : Int) (a : Nat → Nat → Int), (((a 146 22) - (a 146 23)) + 2).toNat < n → iv a → jfr jW_X12_rules a0 a → 1 ≤ y3 → y3 ≤ 1 → 0 ≤ y5 → y5 ≤ 4 → a 146 22 ≤ 100 → a 146 23 ≤ a 146 22 → 0 ≤ y2 → y2 ≤ a 146 23 → (a 146 23) + (a 146 25) ≤ a 146 22 → 0 ≤ y3 → y3 ≤ 1 → 0 ≤ y5 → y5 ≤ 4 → 2 ≤ a 146 25 → a 146 22 = a0 146 22 → 1 ≤ a0 146 22 → a0 146 22 ≤ 100 → jt (jxX E d 232 106 [some (.inr (.inr (.inl 146))), some (.inl y1), some (.inl y2), some (.inl y3), none, some (.inl y5)] [] (jxSH, a, b0)) (jQ_X12_rules a0 b0) := fun y1 y2 y3 y5 a hlt i0 i1 i2 i3 i4 i5 i6 i7 i8 i9 i10 i11 i12 i13 i14 i15 i16 i17 i18 => (ih _ hlt).2.2.2.2.2.2.2.2.2.2.2.1 y1 y2 y3 y5 a (Nat.le_refl _) i0 i1 i2 i3 i4 i5 i6 i7 i8 i9 i10 i11 i12 i13 i14 i15 i16 i17 i18
  have ih65 : ∀ (y1 y2 y3 y4 : Int) (a : Nat → Nat → Int), ((((a 146 22) - (a 146 23)) + y3) + y4).toNat < n → iv a → jfr jW_X12_rules a0 a → 0 ≤ y3 → y3 ≤ 1 → 0 ≤ y4 → y4 ≤ 1 → a 146 22 ≤ 100 → a 146 23 ≤ a 146 22 → 0 ≤ y2 → y2 ≤ a 146 23 → 0 ≤ y3 → 0 ≤ y4 → y3 ≤ 1 → y4 ≤ 1 → a 146 22 = a0 146 22 → (a0 146 22 = 0 → ((y2 = 0 ∧ ¬ y3 = 0) ∧ y4 = 0)) → a0 146 22 ≤ 100 → jt (jxX E d 232 65 [some (.inr (.inr (.inl 146))), some (.inl y1), some (.inl y2), some (.inl y3), some (.inl y4), none] [] (jxSH, a, b0)) (jQ_X12_rules a0 b0) := fun y1 y2 y3 y4 a hlt i0 i1 i2 i3 i4 i5 i6 i7 i8 i9 i10 i11 i12 i13 i14 i15 i16 => (ih _ hlt).2.2.2.2.2.2.2.2.2.2.2.2 y1 y2 y3 y4 a (Nat.le_refl _) i0 i1 i2 i3 i4 i5 i6 i7 i8 i9 i10 i11 i12 i13 i14 i15 i16
  have hc278 : ∀ (y1 y2 y3 y4 : Int) (a : Nat → Nat → Int), (((((a 146 22) - (a 146 23)) + (2 * y3)) + y4) + 1).toNat ≤ n → iv a → jfr jW_X12_rules a0 a → 0 ≤ y3 → y3 ≤ 1 → 0 ≤ y4 → y4 ≤ 1 → a 146 22 ≤ 100 → a 146 23 ≤ a 146 22 → 0 ≤ y2 → y2 ≤ a 146 23 → 0 ≤ y3 → 0 ≤ y4 → y3 ≤ 1 → y4 ≤ 1 → a 146 22 = a0 146 22 → 1 ≤ a0 146 22 → a0 146 22 ≤ 100 → jt (jxX E d 232 278 [some (.inr (.inr (.inl 146))), some (.inl y1), some (.inl y2), some (.inl y3), some (.inl y4), none] [] (jxSH, a, b0)) (jQ_X12_rules a0 b0) := by
    intro y1 y2 y3 y4 a hm hv hf hi0 hi1 hi2 hi3 hi4 hi5 hi6 hi7 hi8 hi9 hi10 hi11 hi12 hi13 hi14
    refine jt_eq (bq_X12_rules_278 E d y1 y2 y3 y4 a b0) ?_
    have h546_ := iv_get hv (k := 146) (j := 22) (l := 0) (u := 200) rfl
    have h547_ := iv_get hv (k := 146) (j := 23) (l := 0) (u := 200) rfl
    have h548_ := iv_get hv0 (k := 146) (j := 22) (l := 0) (u := 200) rfl
    exact ih65 y1 y2 y3 y4 a (show ((((a 146 22) - (a 146 23)) + y3) + y4).toNat < n from by omega) hv hf (show 0 ≤ y3 from by omega) (show y3 ≤ 1 from by omega) (show 0 ≤ y4 from by omega) (show y4 ≤ 1 from by omega) (show a 146 22 ≤ 100 from by omega) (show a 146 23 ≤ a 146 22 from by omega) (show 0 ≤ y2 from by omega) (show y2 ≤ a 146 23 from by omega) (show 0 ≤ y3 from by omega) (show 0 ≤ y4 from by omega) (show y3 ≤ 1 from by omega) (show y4 ≤ 1 from by omega) (show a 146 22 = a0 146 22 from by omega) (show (a0 146 22 = 0 → ((y2 = 0 ∧ ¬ y3 = 0) ∧ y4 = 0)) from by omega) (show a0 146 22 ≤ 100 from by omega)
  have hc251 : ∀ (y1 y2 y3 y4 : Int) (a : Nat → Nat → Int), (((((a 146 22) - (a 146 23)) + (2 * y3)) + y4) + 1).toNat ≤ n → iv a → jfr jW_X12_rules a0 a → 0 ≤ y3 → y3 ≤ 1 → 0 ≤ y4 → y4 ≤ 1 → a 146 22 ≤ 100 → a 146 23 ≤ a 146 22 → 0 ≤ y2 → y2 ≤ a 146 23 → 0 ≤ y3 → 0 ≤ y4 → y3 ≤ 1 → y4 ≤ 1 → a 146 22 = a0 146 22 → 1 ≤ a0 146 22 → a0 146 22 ≤ 100 → jt (jxX E d 232 251 [some (.inr (.inr (.inl 146))), some (.inl y1), some (.inl y2), some (.inl y3), some (.inl y4), none] [] (jxSH, a, b0)) (jQ_X12_rules a0 b0) := by
    intro y1 y2 y3 y4 a hm hv hf hi0 hi1 hi2 hi3 hi4 hi5 hi6 hi7 hi8 hi9 hi10 hi11 hi12 hi13 hi14
    refine jt_eq (bq_X12_rules_251 E d y1 y2 y3 y4 a b0) ?_
    have h549_ := iv_get hv (k := 146) (j := 22) (l := 0) (u := 200) rfl
    have h550_ := iv_get hv (k := 146) (j := 23) (l := 0) (u := 200) rfl
    have h551_ := iv_get hv0 (k := 146) (j := 22) (l := 0) (u := 200) rfl
    refine jt_ite (fun c552_ => ?_) (fun c552_ => ?_)
    ·
      exact hc278 y1 y2 y3 y4 a (show (((((a 146 22) - (a 146 23)) + (2 * y3)) + y4) + 1).toNat ≤ n from by omega) hv hf (show 0 ≤ y3 from by omega) (show y3 ≤ 1 from by omega) (show 0 ≤ y4 from by omega) (show y4 ≤ 1 from by omega) (show a 146 22 ≤ 100 from by omega) (show a 146 23 ≤ a 146 22 from by omega) (show 0 ≤ y2 from by omega) (show y2 ≤ a 146 23 from by omega) (show 0 ≤ y3 from by omega) (show 0 ≤ y4 from by omega) (show y3 ≤ 1 from by omega) (show y4 ≤ 1 from by omega) (show a 146 22 = a0 146 22 from by omega) (show 1 ≤ a0 146 22 from by omega) (show a0 146 22 ≤ 100 from by omega)
    ·
      refine jt_ite (fun c553_ => ?_) (fun c553_ => ?_)
      ·
        exact hc278 y1 y2 y3 y4 a (show (((((a 146 22) - (a 146 23)) + (2 * y3)) + y4) + 1).toNat ≤ n from by omega) hv hf (show 0 ≤ y3 from by omega) (show y3 ≤ 1 from by omega) (show 0 ≤ y4 from by omega) (show y4 ≤ 1 from by omega) (show a 146 22 ≤ 100 from by omega) (show a 146 23 ≤ a 146 22 from by omega) (show 0 ≤ y2 from by omega) (show y2 ≤ a 146 23 from by omega) (show 0 ≤ y3 from by omega) (show 0 ≤ y4 from by omega) (show y3 ≤ 1 from by omega) (show y4 ≤ 1 from by omega) (show a 146 22 = a0 146 22 from by omega) (show 1 ≤ a0 146 22 from by omega) (show a0 146 22 ≤ 100 from by omega)
      ·
        refine jt_bI (sp_X12_see E d (jd_le hd rfl) a b0 hv (show a 146 23 ≤ a 146 22 from by omega)) (fun r554_ a554_ b554_ h554_ => ?_)
        obtain ⟨hv554_, hf554_, rfl, hq554_0, hq554_1, hq554_2, hq554_3, hq554_4, hq554_5⟩ := h554_
        have h555_ := iv_get hv554_ (k := 146) (j := 23) (l := 0) (u := 200) rfl
        have h556_ := iv_get hv554_ (k := 164) (j := (a554_ 146 23).toNat) (l := (-128)) (u := 127) rfl
        have h557_ : a554_ 164 ((a554_ 146 23).toNat) = a 164 ((a554_ 146 23).toNat) := hf554_ 164 ((a554_ 146 23).toNat) rfl
        have h558_ := iv_get hv (k := 164) (j := (a554_ 146 23).toNat) (l := (-128)) (u := 127) rfl
        have h559_ : a 164 ((a554_ 146 23).toNat) = a0 164 ((a554_ 146 23).toNat) := hf 164 ((a554_ 146 23).toNat) rfl
        have h560_ := iv_get hv0 (k := 164) (j := (a554_ 146 23).toNat) (l := (-128)) (u := 127) rfl
        have h561_ := iv_get hv (k := 164) (j := (a 146 23).toNat) (l := (-128)) (u := 127) rfl
        have h562_ : a 164 ((a 146 23).toNat) = a0 164 ((a 146 23).toNat) := hf 164 ((a 146 23).toNat) rfl
        have h563_ := iv_get hv0 (k := 164) (j := (a 146 23).toNat) (l := (-128)) (u := 127) rfl
        refine jt_ite (fun c564_ => ?_) (fun c564_ => ?_)
        ·
          refine jt_bI (sp_X12_fails E d (jd_le hd rfl) 0 (a554_ 146 23) a554_ b0 hv554_) (fun r565_ a565_ b565_ h565_ => ?_)
          obtain ⟨hv565_, hf565_, rfl, hq565_0, hq565_1, hq565_2, hq565_3⟩ := h565_
          have h566_ : a554_ 146 24 = a 146 24 := hf554_ 146 24 rfl
          have hf567_ : jfr jW_X12_rules a0 a554_ := jfr_tr hf hf554_ rfl
          have hf568_ : jfr jW_X12_rules a0 a565_ := jfr_tr hf567_ hf565_ rfl
          have h569_ := iv_get hv565_ (k := 146) (j := 22) (l := 0) (u := 200) rfl
          have h570_ : a565_ 146 22 = a554_ 146 22 := hf565_ 146 22 rfl
          have h571_ := iv_get hv554_ (k := 146) (j := 22) (l := 0) (u := 200) rfl
          have h572_ : a554_ 146 22 = a 146 22 := hf554_ 146 22 rfl
          have h573_ := iv_get hv565_ (k := 146) (j := 23) (l := 0) (u := 200) rfl
          have h574_ : a565_ 146 23 = a554_ 146 23 := hf565_ 146 23 rfl
          exact hc278 y1 y2 r565_ y4 a565_ (show (((((a565_ 146 22) - (a565_ 146 23)) + (2 * r565_)) + y4) + 1).toNat ≤ n from by omega) hv565_ hf568_ (show 0 ≤ r565_ from by omega) (show r565_ ≤ 1 from by omega) (show 0 ≤ y4 from by omega) (show y4 ≤ 1 from by omega) (show a565_ 146 22 ≤ 100 from by omega) (show a565_ 146 23 ≤ a565_ 146 22 from by omega) (show 0 ≤ y2 from by omega) (show y2 ≤ a565_ 146 23 from by omega) (show 0 ≤ r565_ from by omega) (show 0 ≤ y4 from by omega) (show r565_ ≤ 1 from by omega) (show y4 ≤ 1 from by omega) (show a565_ 146 22 = a0 146 22 from by omega) (show 1 ≤ a0 146 22 from by omega) (show a0 146 22 ≤ 100 from by omega)
        ·
          have hf575_ : jfr jW_X12_rules a0 a554_ := jfr_tr hf hf554_ rfl
          have h576_ := iv_get hv554_ (k := 146) (j := 22) (l := 0) (u := 200) rfl
          have h577_ : a554_ 146 22 = a 146 22 := hf554_ 146 22 rfl
          exact hc278 y1 y2 y3 y4 a554_ (show (((((a554_ 146 22) - (a554_ 146 23)) + (2 * y3)) + y4) + 1).toNat ≤ n from by omega) hv554_ hf575_ (show 0 ≤ y3 from by omega) (show y3 ≤ 1 from by omega) (show 0 ≤ y4 from by omega) (show y4 ≤ 1 from by omega) (show a554_ 146 22 ≤ 100 from by omega) (show a554_ 146 23 ≤ a554_ 146 22 from by omega) (show 0 ≤ y2 from by omega) (show y2 ≤ a554_ 146 23 from by omega) (show 0 ≤ y3 from by omega) (show 0 ≤ y4 from by omega) (show y3 ≤ 1 from by omega) (show y4 ≤ 1 from by omega) (show a554_ 146 22 = a0 146 22 from by omega) (show 1 ≤ a0 146 22 from by omega) (show a0 146 22 ≤ 100 from by omega)
  have hc236 : ∀ (y1 y2 y3 y4 : Int) (a : Nat → Nat → Int), (((((a 146 22) - (a 146 23)) + (2 * y3)) + y4) + 1).toNat ≤ n → iv a → jfr jW_X12_rules a0 a → 0 ≤ y3 → y3 ≤ 1 → 0 ≤ y4 → y4 ≤ 1 → a 146 22 ≤ 100 → a 146 23 ≤ a 146 22 → 0 ≤ y2 → y2 ≤ a 146 23 → 0 ≤ y3 → 0 ≤ y4 → y3 ≤ 1 → y4 ≤ 1 → (y4 = 1 → a 146 23 < a 146 22) → a 146 22 = a0 146 22 → 1 ≤ a0 146 22 → a0 146 22 ≤ 100 → jt (jxX E d 232 236 [some (.inr (.inr (.inl 146))), some (.inl y1), some (.inl y2), some (.inl y3), some (.inl y4), none] [] (jxSH, a, b0)) (jQ_X12_rules a0 b0) := by
    intro y1 y2 y3 y4 a hm hv hf hi0 hi1 hi2 hi3 hi4 hi5 hi6 hi7 hi8 hi9 hi10 hi11 hi12 hi13 hi14 hi15
    refine jt_eq (bq_X12_rules_236 E d y1 y2 y3 y4 a b0) ?_
    have h578_ := iv_get hv (k := 146) (j := 22) (l := 0) (u := 200) rfl
    have h579_ := iv_get hv (k := 146) (j := 23) (l := 0) (u := 200) rfl
    have h580_ := iv_get hv0 (k := 146) (j := 22) (l := 0) (u := 200) rfl
    refine jt_ite (fun c581_ => ?_) (fun c581_ => ?_)
    ·
      exact hc251 y1 y2 y3 y4 a (show (((((a 146 22) - (a 146 23)) + (2 * y3)) + y4) + 1).toNat ≤ n from by omega) hv hf (show 0 ≤ y3 from by omega) (show y3 ≤ 1 from by omega) (show 0 ≤ y4 from by omega) (show y4 ≤ 1 from by omega) (show a 146 22 ≤ 100 from by omega) (show a 146 23 ≤ a 146 22 from by omega) (show 0 ≤ y2 from by omega) (show y2 ≤ a 146 23 from by omega) (show 0 ≤ y3 from by omega) (show 0 ≤ y4 from by omega) (show y3 ≤ 1 from by omega) (show y4 ≤ 1 from by omega) (show a 146 22 = a0 146 22 from by omega) (show 1 ≤ a0 146 22 from by omega) (show a0 146 22 ≤ 100 from by omega)
    ·
      have h583_ : jxw ((a 146 23) + 1) = (a 146 23) + 1 := jxw_id (by omega) (by omega)
      have hv582_ : iv (jxu a 146 23 (jxw ((a 146 23) + 1))) := iv_put hv (l := 0) (u := 200) rfl (by omega) (by omega)
      have hf584_ : jfr jW_X12_rules a0 (jxu a 146 23 (jxw ((a 146 23) + 1))) := jfr_put hf rfl
      exact hc251 y1 y2 y3 y4 (jxu a 146 23 (jxw ((a 146 23) + 1))) (show (((((a 146 22) - (jxw ((a 146 23) + 1))) + (2 * y3)) + y4) + 1).toNat ≤ n from by omega) hv582_ hf584_ (show 0 ≤ y3 from by omega) (show y3 ≤ 1 from by omega) (show 0 ≤ y4 from by omega) (show y4 ≤ 1 from by omega) (show a 146 22 ≤ 100 from by omega) (show jxw ((a 146 23) + 1) ≤ a 146 22 from by omega) (show 0 ≤ y2 from by omega) (show y2 ≤ jxw ((a 146 23) + 1) from by omega) (show 0 ≤ y3 from by omega) (show 0 ≤ y4 from by omega) (show y3 ≤ 1 from by omega) (show y4 ≤ 1 from by omega) (show a 146 22 = a0 146 22 from by omega) (show 1 ≤ a0 146 22 from by omega) (show a0 146 22 ≤ 100 from by omega)
  have hc210 : ∀ (y1 y2 y3 s0 : Int) (a : Nat → Nat → Int), (((((a 146 22) - (a 146 23)) + (2 * y3)) + s0) + 1).toNat ≤ n → iv a → jfr jW_X12_rules a0 a → 0 ≤ y3 → y3 ≤ 1 → 0 ≤ s0 → s0 ≤ 1 → a 146 22 ≤ 100 → a 146 23 ≤ a 146 22 → 0 ≤ y2 → y2 ≤ a 146 23 → 0 ≤ y3 → 0 ≤ s0 → y3 ≤ 1 → s0 ≤ 1 → (s0 = 1 → (a 146 23 < a 146 22 ∧ ¬ a 164 ((a 146 23).toNat) = 32)) → a 146 22 = a0 146 22 → 1 ≤ a0 146 22 → a0 146 22 ≤ 100 → jt (jxX E d 232 210 [some (.inr (.inr (.inl 146))), some (.inl y1), some (.inl y2), some (.inl y3), none, none] [.inl s0] (jxSH, a, b0)) (jQ_X12_rules a0 b0) := by
    intro y1 y2 y3 s0 a hm hv hf hi0 hi1 hi2 hi3 hi4 hi5 hi6 hi7 hi8 hi9 hi10 hi11 hi12 hi13 hi14 hi15
    refine jt_eq (bq_X12_rules_210 E d y1 y2 y3 s0 a b0) ?_
    have h585_ := iv_get hv (k := 146) (j := 22) (l := 0) (u := 200) rfl
    have h586_ := iv_get hv (k := 146) (j := 23) (l := 0) (u := 200) rfl
    have h587_ := iv_get hv (k := 164) (j := (a 146 23).toNat) (l := (-128)) (u := 127) rfl
    have h588_ : a 164 ((a 146 23).toNat) = a0 164 ((a 146 23).toNat) := hf 164 ((a 146 23).toNat) rfl
    have h589_ := iv_get hv0 (k := 164) (j := (a 146 23).toNat) (l := (-128)) (u := 127) rfl
    have h590_ := iv_get hv0 (k := 146) (j := 22) (l := 0) (u := 200) rfl
    refine jt_ite (fun c591_ => ?_) (fun c591_ => ?_)
    ·
      exact hc236 y1 y2 y3 s0 a (show (((((a 146 22) - (a 146 23)) + (2 * y3)) + s0) + 1).toNat ≤ n from by omega) hv hf (show 0 ≤ y3 from by omega) (show y3 ≤ 1 from by omega) (show 0 ≤ s0 from by omega) (show s0 ≤ 1 from by omega) (show a 146 22 ≤ 100 from by omega) (show a 146 23 ≤ a 146 22 from by omega) (show 0 ≤ y2 from by omega) (show y2 ≤ a 146 23 from by omega) (show 0 ≤ y3 from by omega) (show 0 ≤ s0 from by omega) (show y3 ≤ 1 from by omega) (show s0 ≤ 1 from by omega) (show (s0 = 1 → a 146 23 < a 146 22) from by omega) (show a 146 22 = a0 146 22 from by omega) (show 1 ≤ a0 146 22 from by omega) (show a0 146 22 ≤ 100 from by omega)
    ·
      refine jt_bI (sp_X12_see E d (jd_le hd rfl) a b0 hv (show a 146 23 ≤ a 146 22 from by omega)) (fun r592_ a592_ b592_ h592_ => ?_)
      obtain ⟨hv592_, hf592_, rfl, hq592_0, hq592_1, hq592_2, hq592_3, hq592_4, hq592_5⟩ := h592_
      have h593_ := iv_get hv592_ (k := 146) (j := 23) (l := 0) (u := 200) rfl
      have h594_ := iv_get hv592_ (k := 164) (j := (a592_ 146 23).toNat) (l := (-128)) (u := 127) rfl
      have h595_ : a592_ 164 ((a592_ 146 23).toNat) = a 164 ((a592_ 146 23).toNat) := hf592_ 164 ((a592_ 146 23).toNat) rfl
      have h596_ := iv_get hv (k := 164) (j := (a592_ 146 23).toNat) (l := (-128)) (u := 127) rfl
      have h597_ : a 164 ((a592_ 146 23).toNat) = a0 164 ((a592_ 146 23).toNat) := hf 164 ((a592_ 146 23).toNat) rfl
      have h598_ := iv_get hv0 (k := 164) (j := (a592_ 146 23).toNat) (l := (-128)) (u := 127) rfl
      refine jt_ite (fun c599_ => ?_) (fun c599_ => ?_)
      ·
        have hf600_ : jfr jW_X12_rules a0 a592_ := jfr_tr hf hf592_ rfl
        have h601_ := iv_get hv592_ (k := 146) (j := 22) (l := 0) (u := 200) rfl
        have h602_ : a592_ 146 22 = a 146 22 := hf592_ 146 22 rfl
        exact hc236 y1 y2 y3 s0 a592_ (show (((((a592_ 146 22) - (a592_ 146 23)) + (2 * y3)) + s0) + 1).toNat ≤ n from by omega) hv592_ hf600_ (show 0 ≤ y3 from by omega) (show y3 ≤ 1 from by omega) (show 0 ≤ s0 from by omega) (show s0 ≤ 1 from by omega) (show a592_ 146 22 ≤ 100 from by omega) (show a592_ 146 23 ≤ a592_ 146 22 from by omega) (show 0 ≤ y2 from by omega) (show y2 ≤ a592_ 146 23 from by omega) (show 0 ≤ y3 from by omega) (show 0 ≤ s0 from by omega) (show y3 ≤ 1 from by omega) (show s0 ≤ 1 from by omega) (show (s0 = 1 → a592_ 146 23 < a592_ 146 22) from by omega) (show a592_ 146 22 = a0 146 22 from by omega) (show 1 ≤ a0 146 22 from by omega) (show a0 146 22 ≤ 100 from by omega)
      ·
        refine jt_bI (sp_X12_fails E d (jd_le hd rfl) 0 (a592_ 146 23) a592_ b0 hv592_) (fun r603_ a603_ b603_ h603_ => ?_)
        obtain ⟨hv603_, hf603_, rfl, hq603_0, hq603_1, hq603_2, hq603_3⟩ := h603_
        have h604_ : a592_ 146 24 = a 146 24 := hf592_ 146 24 rfl
        have hf605_ : jfr jW_X12_rules a0 a592_ := jfr_tr hf hf592_ rfl
        have hf606_ : jfr jW_X12_rules a0 a603_ := jfr_tr hf605_ hf603_ rfl
        have h607_ := iv_get hv603_ (k := 146) (j := 22) (l := 0) (u := 200) rfl
        have h608_ : a603_ 146 22 = a592_ 146 22 := hf603_ 146 22 rfl
        have h609_ := iv_get hv592_ (k := 146) (j := 22) (l := 0) (u := 200) rfl
        have h610_ : a592_ 146 22 = a 146 22 := hf592_ 146 22 rfl
        have h611_ := iv_get hv603_ (k := 146) (j := 23) (l := 0) (u := 200) rfl
        have h612_ : a603_ 146 23 = a592_ 146 23 := hf603_ 146 23 rfl
        exact hc236 y1 y2 r603_ s0 a603_ (show (((((a603_ 146 22) - (a603_ 146 23)) + (2 * r603_)) + s0) + 1).toNat ≤ n from by omega) hv603_ hf606_ (show 0 ≤ r603_ from by omega) (show r603_ ≤ 1 from by omega) (show 0 ≤ s0 from by omega) (show s0 ≤ 1 from by omega) (show a603_ 146 22 ≤ 100 from by omega) (show a603_ 146 23 ≤ a603_ 146 22 from by omega) (show 0 ≤ y2 from by omega) (show y2 ≤ a603_ 146 23 from by omega) (show 0 ≤ r603_ from by omega) (show 0 ≤ s0 from by omega) (show r603_ ≤ 1 from by omega) (show s0 ≤ 1 from by omega) (show (s0 = 1 → a603_ 146 23 < a603_ 146 22) from by omega) (show a603_ 146 22 = a0 146 22 from by omega) (show 1 ≤ a0 146 22 from by omega) (show a0 146 22 ≤ 100 from by omega)
  have hc205 : ∀ (y1 y2 y3 : Int) (a : Nat → Nat → Int), ((((a 146 22) - (a 146 23)) + (2 * y3)) + 2).toNat ≤ n → iv a → jfr jW_X12_rules a0 a → 1 ≤ y3 → y3 ≤ 1 → a 146 22 ≤ 100 → a 146 23 ≤ a 146 22 → 0 ≤ y2 → y2 ≤ a 146 23 → 0 ≤ y3 → y3 ≤ 1 → a 146 23 < a 146 22 → ¬ a 164 ((a 146 23).toNat) = 32 → a 146 22 = a0 146 22 → 1 ≤ a0 146 22 → a0 146 22 ≤ 100 → jt (jxX E d 232 205 [some (.inr (.inr (.inl 146))), some (.inl y1), some (.inl y2), some (.inl y3), none, none] [] (jxSH, a, b0)) (jQ_X12_rules a0 b0) := by
    intro y1 y2 y3 a hm hv hf hi0 hi1 hi2 hi3 hi4 hi5 hi6 hi7 hi8 hi9 hi10 hi11 hi12
    refine jt_eq (bq_X12_rules_205 E d y1 y2 y3 a b0) ?_
    have h613_ := iv_get hv (k := 146) (j := 22) (l := 0) (u := 200) rfl
    have h614_ := iv_get hv (k := 146) (j := 23) (l := 0) (u := 200) rfl
    have h615_ := iv_get hv (k := 164) (j := (a 146 23).toNat) (l := (-128)) (u := 127) rfl
    have h616_ : a 164 ((a 146 23).toNat) = a0 164 ((a 146 23).toNat) := hf 164 ((a 146 23).toNat) rfl
    have h617_ := iv_get hv0 (k := 164) (j := (a 146 23).toNat) (l := (-128)) (u := 127) rfl
    have h618_ := iv_get hv0 (k := 146) (j := 22) (l := 0) (u := 200) rfl
    exact hc210 y1 y2 y3 1 a (show (((((a 146 22) - (a 146 23)) + (2 * y3)) + 1) + 1).toNat ≤ n from by omega) hv hf (show 0 ≤ y3 from by omega) (show y3 ≤ 1 from by omega) (show 0 ≤ 1 from by omega) (show 1 ≤ 1 from by omega) (show a 146 22 ≤ 100 from by omega) (show a 146 23 ≤ a 146 22 from by omega) (show 0 ≤ y2 from by omega) (show y2 ≤ a 146 23 from by omega) (show 0 ≤ y3 from by omega) (show 0 ≤ 1 from by omega) (show y3 ≤ 1 from by omega) (show 1 ≤ 1 from by omega) (show (1 = 1 → (a 146 23 < a 146 22 ∧ ¬ a 164 ((a 146 23).toNat) = 32)) from by omega) (show a 146 22 = a0 146 22 from by omega) (show 1 ≤ a0 146 22 from by omega) (show a0 146 22 ≤ 100 from by omega)
  have hc209 : ∀ (y1 y2 y3 : Int) (a : Nat → Nat → Int), ((((a 146 22) - (a 146 23)) + (2 * y3)) + 1).toNat ≤ n → iv a → jfr jW_X12_rules a0 a → 0 ≤ y3 → y3 ≤ 1 → a 146 22 ≤ 100 → a 146 23 ≤ a 146 22 → 0 ≤ y2 → y2 ≤ a 146 23 → 0 ≤ y3 → y3 ≤ 1 → a 146 22 = a0 146 22 → 1 ≤ a0 146 22 → a0 146 22 ≤ 100 → jt (jxX E d 232 209 [some (.inr (.inr (.inl 146))), some (.inl y1), some (.inl y2), some (.inl y3), none, none] [] (jxSH, a, b0)) (jQ_X12_rules a0 b0) := by
    intro y1 y2 y3 a hm hv hf hi0 hi1 hi2 hi3 hi4 hi5 hi6 hi7 hi8 hi9 hi10
    refine jt_eq (bq_X12_rules_209 E d y1 y2 y3 a b0) ?_
    have h619_ := iv_get hv (k := 146) (j := 22) (l := 0) (u := 200) rfl
    have h620_ := iv_get hv (k := 146) (j := 23) (l := 0) (u := 200) rfl
    have h621_ := iv_get hv0 (k := 146) (j := 22) (l := 0) (u := 200) rfl
    have h622_ := iv_get hv (k := 164) (j := (a 146 23).toNat) (l := (-128)) (u := 127) rfl
    have h623_ : a 164 ((a 146 23).toNat) = a0 164 ((a 146 23).toNat) := hf 164 ((a 146 23).toNat) rfl
    have h624_ := iv_get hv0 (k := 164) (j := (a 146 23).toNat) (l := (-128)) (u := 127) rfl
    exact hc210 y1 y2 y3 0 a (show (((((a 146 22) - (a 146 23)) + (2 * y3)) + 0) + 1).toNat ≤ n from by omega) hv hf (show 0 ≤ y3 from by omega) (show y3 ≤ 1 from by omega) (show 0 ≤ 0 from by omega) (show 0 ≤ 1 from by omega) (show a 146 22 ≤ 100 from by omega) (show a 146 23 ≤ a 146 22 from by omega) (show 0 ≤ y2 from by omega) (show y2 ≤ a 146 23 from by omega) (show 0 ≤ y3 from by omega) (show 0 ≤ 0 from by omega) (show y3 ≤ 1 from by omega) (show 0 ≤ 1 from by omega) (show (0 = 1 → (a 146 23 < a 146 22 ∧ ¬ a 164 ((a 146 23).toNat) = 32)) from by omega) (show a 146 22 = a0 146 22 from by omega) (show 1 ≤ a0 146 22 from by omega) (show a0 146 22 ≤ 100 from by omega)
  have hc170 : ∀ (y1 y2 y5 s1 : Int) (a : Nat → Nat → Int), (((a 146 22) - (a 146 23)) + 4).toNat ≤ n → iv a → jfr jW_X12_rules a0 a → 0 - 11 ≤ y5 → y5 ≤ 5 → 0 ≤ s1 → s1 ≤ 1 → a 146 22 ≤ 100 → a 146 23 ≤ a 146 22 → 0 ≤ y2 → y2 + 2 ≤ a 146 23 → 0 ≤ y5 → y5 ≤ 4 → a 146 22 = a0 146 22 → 1 ≤ a0 146 22 → a0 146 22 ≤ 100 → jt (jxX E d 232 170 [some (.inr (.inr (.inl 146))), some (.inl y1), some (.inl y2), none, none, some (.inl y5)] [.inl s1, .inr (.inr (.inl 146))] (jxSH, a, b0)) (jQ_X12_rules a0 b0) := by
    intro y1 y2 y5 s1 a hm hv hf hi0 hi1 hi2 hi3 hi4 hi5 hi6 hi7 hi8 hi9 hi10 hi11 hi12
    refine jt_eq (bq_X12_rules_170 E d y1 y2 y5 s1 a b0) ?_
    have h625_ := iv_get hv (k := 146) (j := 22) (l := 0) (u := 200) rfl
    have h626_ := iv_get hv (k := 146) (j := 23) (l := 0) (u := 200) rfl
    have h627_ := iv_get hv0 (k := 146) (j := 22) (l := 0) (u := 200) rfl
    refine jt_eI (eq_X12_mostOf E d (jd_le hd rfl) y5 a b0) ?_
    refine jt_bI (sp_X12_number E d (jd_le hd rfl) s1 (f_X12_mostOf a b0 y5) a b0 hv (show a 146 23 ≤ a 146 22 from by omega)) (fun r628_ a628_ b628_ h628_ => ?_)
    obtain ⟨hv628_, hf628_, rfl, hq628_0, hq628_1, hq628_2, hq628_3, hq628_4, hq628_5⟩ := h628_
    have h629_ := iv_get hv628_ (k := 146) (j := 23) (l := 0) (u := 200) rfl
    have h630_ := iv_get hv628_ (k := 146) (j := 26) (l := 0) (u := 999) rfl
    have h631_ := f_X12_mostOf_eq a b0 y5
    refine jt_grd (by omega) ?_
    refine jt_ite (fun c632_ => ?_) (fun c632_ => ?_)
    ·
      have hv633_ : iv (jxu a628_ 172 (y5.toNat) (a628_ 146 26)) := iv_putf hv628_ rfl
      have hf634_ : jfr jW_X12_rules a0 a628_ := jfr_tr hf hf628_ rfl
      have hf635_ : jfr jW_X12_rules a0 (jxu a628_ 172 (y5.toNat) (a628_ 146 26)) := jfr_put hf634_ rfl
      have h636_ := iv_get hv628_ (k := 146) (j := 22) (l := 0) (u := 200) rfl
      have h637_ : a628_ 146 22 = a 146 22 := hf628_ 146 22 rfl
      have h638_ := jxw_im (y2 + 1)
      have h639_ := jxw_rg (y2 + 1)
      exact hc209 y1 (jxw (y2 + 1)) r628_ (jxu a628_ 172 (y5.toNat) (a628_ 146 26)) (show ((((a628_ 146 22) - (a628_ 146 23)) + (2 * r628_)) + 1).toNat ≤ n from by omega) hv633_ hf635_ (show 0 ≤ r628_ from by omega) (show r628_ ≤ 1 from by omega) (show a628_ 146 22 ≤ 100 from by omega) (show a628_ 146 23 ≤ a628_ 146 22 from by omega) (show 0 ≤ jxw (y2 + 1) from by omega) (show jxw (y2 + 1) ≤ a628_ 146 23 from by omega) (show 0 ≤ r628_ from by omega) (show r628_ ≤ 1 from by omega) (show a628_ 146 22 = a0 146 22 from by omega) (show 1 ≤ a0 146 22 from by omega) (show a0 146 22 ≤ 100 from by omega)
    ·
      have hv640_ : iv (jxu a628_ 172 (y5.toNat) (a628_ 146 26)) := iv_putf hv628_ rfl
      have h641_ := iv_get hv628_ (k := 146) (j := 22) (l := 0) (u := 200) rfl
      have h642_ : a628_ 146 22 = a 146 22 := hf628_ 146 22 rfl
      refine jt_bI (sp_X12_see E d (jd_le hd rfl) (jxu a628_ 172 (y5.toNat) (a628_ 146 26)) b0 hv640_ (show a628_ 146 23 ≤ a628_ 146 22 from by omega)) (fun r643_ a643_ b643_ h643_ => ?_)
      obtain ⟨hv643_, hf643_, rfl, hq643_0, hq643_1, hq643_2, hq643_3, hq643_4, hq643_5⟩ := h643_
      have h644_ := iv_get hv643_ (k := 146) (j := 23) (l := 0) (u := 200) rfl
      have h645_ : a628_ 146 23 ≤ a643_ 146 23 := hq643_0
      have h646_ : a643_ 146 23 ≤ a628_ 146 22 := hq643_1
      have h647_ := iv_get hv643_ (k := 164) (j := (a643_ 146 23).toNat) (l := (-128)) (u := 127) rfl
      have h648_ : a643_ 164 ((a643_ 146 23).toNat) = a628_ 164 ((a643_ 146 23).toNat) := hf643_ 164 ((a643_ 146 23).toNat) rfl
      have h649_ := iv_get hv628_ (k := 164) (j := (a643_ 146 23).toNat) (l := (-128)) (u := 127) rfl
      have h650_ : a628_ 164 ((a643_ 146 23).toNat) = a 164 ((a643_ 146 23).toNat) := hf628_ 164 ((a643_ 146 23).toNat) rfl
      have h651_ := iv_get hv (k := 164) (j := (a643_ 146 23).toNat) (l := (-128)) (u := 127) rfl
      have h652_ : a 164 ((a643_ 146 23).toNat) = a0 164 ((a643_ 146 23).toNat) := hf 164 ((a643_ 146 23).toNat) rfl
      have h653_ := iv_get hv0 (k := 164) (j := (a643_ 146 23).toNat) (l := (-128)) (u := 127) rfl
      have h654_ : ((r643_ = 0 - 1 ∧ a643_ 146 23 = a628_ 146 22) ∨ (((0 ≤ r643_ ∧ r643_ ≤ 255) ∧ a643_ 146 23 < a628_ 146 22) ∧ ¬ a643_ 164 ((a643_ 146 23).toNat) = 32)) := hq643_2
      have h655_ := iv_get hv628_ (k := 164) (j := (a628_ 146 23).toNat) (l := (-128)) (u := 127) rfl
      have h656_ : a628_ 164 ((a628_ 146 23).toNat) = a 164 ((a628_ 146 23).toNat) := hf628_ 164 ((a628_ 146 23).toNat) rfl
      have h657_ := iv_get hv (k := 164) (j := (a628_ 146 23).toNat) (l := (-128)) (u := 127) rfl
      have h658_ : a 164 ((a628_ 146 23).toNat) = a0 164 ((a628_ 146 23).toNat) := hf 164 ((a628_ 146 23).toNat) rfl
      have h659_ := iv_get hv0 (k := 164) (j := (a628_ 146 23).toNat) (l := (-128)) (u := 127) rfl
      have h660_ : ((a628_ 146 23 < a628_ 146 22 ∧ ¬ a628_ 164 ((a628_ 146 23).toNat) = 32) → a643_ 146 23 = a628_ 146 23) := hq643_3
      refine jt_ite (fun c661_ => ?_) (fun c661_ => ?_)
      ·
        have hf662_ : jfr jW_X12_rules a0 a628_ := jfr_tr hf hf628_ rfl
        have hf663_ : jfr jW_X12_rules a0 (jxu a628_ 172 (y5.toNat) (a628_ 146 26)) := jfr_put hf662_ rfl
        have hf664_ : jfr jW_X12_rules a0 a643_ := jfr_tr hf663_ hf643_ rfl
        have h665_ := iv_get hv643_ (k := 146) (j := 22) (l := 0) (u := 200) rfl
        have h666_ : a643_ 146 22 = a628_ 146 22 := hf643_ 146 22 rfl
        have h667_ := jxw_im (y2 + 1)
        have h668_ := jxw_rg (y2 + 1)
        exact hc209 y1 (jxw (y2 + 1)) r628_ a643_ (show ((((a643_ 146 22) - (a643_ 146 23)) + (2 * r628_)) + 1).toNat ≤ n from by omega) hv643_ hf664_ (show 0 ≤ r628_ from by omega) (show r628_ ≤ 1 from by omega) (show a643_ 146 22 ≤ 100 from by omega) (show a643_ 146 23 ≤ a643_ 146 22 from by omega) (show 0 ≤ jxw (y2 + 1) from by omega) (show jxw (y2 + 1) ≤ a643_ 146 23 from by omega) (show 0 ≤ r628_ from by omega) (show r628_ ≤ 1 from by omega) (show a643_ 146 22 = a0 146 22 from by omega) (show 1 ≤ a0 146 22 from by omega) (show a0 146 22 ≤ 100 from by omega)
      ·
        have hf669_ : jfr jW_X12_rules a0 a628_ := jfr_tr hf hf628_ rfl
        have hf670_ : jfr jW_X12_rules a0 (jxu a628_ 172 (y5.toNat) (a628_ 146 26)) := jfr_put hf669_ rfl
        have hf671_ : jfr jW_X12_rules a0 a643_ := jfr_tr hf670_ hf643_ rfl
        have h672_ := iv_get hv643_ (k := 146) (j := 22) (l := 0) (u := 200) rfl
        have h673_ : a643_ 146 22 = a628_ 146 22 := hf643_ 146 22 rfl
        have h674_ := jxw_im (y2 + 1)
        have h675_ := jxw_rg (y2 + 1)
        exact hc205 y1 (jxw (y2 + 1)) r628_ a643_ (show ((((a643_ 146 22) - (a643_ 146 23)) + (2 * r628_)) + 2).toNat ≤ n from by omega) hv643_ hf671_ (show 1 ≤ r628_ from by omega) (show r628_ ≤ 1 from by omega) (show a643_ 146 22 ≤ 100 from by omega) (show a643_ 146 23 ≤ a643_ 146 22 from by omega) (show 0 ≤ jxw (y2 + 1) from by omega) (show jxw (y2 + 1) ≤ a643_ 146 23 from by omega) (show 0 ≤ r628_ from by omega) (show r628_ ≤ 1 from by omega) (show a643_ 146 23 < a643_ 146 22 from by omega) (show ¬ a643_ 164 ((a643_ 146 23).toNat) = 32 from by omega) (show a643_ 146 22 = a0 146 22 from by omega) (show 1 ≤ a0 146 22 from by omega) (show a0 146 22 ≤ 100 from by omega)
  have hc165 : ∀ (y1 y2 y5 : Int) (a : Nat → Nat → Int), (((a 146 22) - (a 146 23)) + 4).toNat ≤ n → iv a → jfr jW_X12_rules a0 a → 0 ≤ y5 → y5 ≤ 3 → a 146 22 ≤ 100 → a 146 23 ≤ a 146 22 → 0 ≤ y2 → y2 + 2 ≤ a 146 23 → 0 ≤ y5 → y5 ≤ 4 → a 146 22 = a0 146 22 → 1 ≤ a0 146 22 → a0 146 22 ≤ 100 → jt (jxX E d 232 165 [some (.inr (.inr (.inl 146))), some (.inl y1), some (.inl y2), none, none, some (.inl y5)] [.inr (.inr (.inl 146))] (jxSH, a, b0)) (jQ_X12_rules a0 b0) := by
    intro y1 y2 y5 a hm hv hf hi0 hi1 hi2 hi3 hi4 hi5 hi6 hi7 hi8 hi9 hi10
    refine jt_eq (bq_X12_rules_165 E d y1 y2 y5 a b0) ?_
    have h676_ := iv_get hv (k := 146) (j := 22) (l := 0) (u := 200) rfl
    have h677_ := iv_get hv (k := 146) (j := 23) (l := 0) (u := 200) rfl
    have h678_ := iv_get hv0 (k := 146) (j := 22) (l := 0) (u := 200) rfl
    exact hc170 y1 y2 y5 1 a (show (((a 146 22) - (a 146 23)) + 4).toNat ≤ n from by omega) hv hf (show 0 - 11 ≤ y5 from by omega) (show y5 ≤ 5 from by omega) (show 0 ≤ 1 from by omega) (show 1 ≤ 1 from by omega) (show a 146 22 ≤ 100 from by omega) (show a 146 23 ≤ a 146 22 from by omega) (show 0 ≤ y2 from by omega) (show y2 + 2 ≤ a 146 23 from by omega) (show 0 ≤ y5 from by omega) (show y5 ≤ 4 from by omega) (show a 146 22 = a0 146 22 from by omega) (show 1 ≤ a0 146 22 from by omega) (show a0 146 22 ≤ 100 from by omega)
  have hc153 : ∀ (y1 y2 y5 : Int) (a : Nat → Nat → Int), (((a 146 22) - (a 146 23)) + 4).toNat ≤ n → iv a → jfr jW_X12_rules a0 a → 0 - 11 ≤ y5 → y5 ≤ 5 → a 146 22 ≤ 100 → a 146 23 ≤ a 146 22 → 0 ≤ y2 → y2 + 2 ≤ a 146 23 → 0 ≤ y5 → y5 ≤ 4 → a 146 22 = a0 146 22 → 1 ≤ a0 146 22 → a0 146 22 ≤ 100 → jt (jxX E d 232 153 [some (.inr (.inr (.inl 146))), some (.inl y1), some (.inl y2), none, none, some (.inl y5)] [] (jxSH, a, b0)) (jQ_X12_rules a0 b0) := by
    intro y1 y2 y5 a hm hv hf hi0 hi1 hi2 hi3 hi4 hi5 hi6 hi7 hi8 hi9 hi10
    refine jt_eq (bq_X12_rules_153 E d y1 y2 y5 a b0) ?_
    have h679_ := iv_get hv (k := 146) (j := 22) (l := 0) (u := 200) rfl
    have h680_ := iv_get hv (k := 146) (j := 23) (l := 0) (u := 200) rfl
    have h681_ := iv_get hv0 (k := 146) (j := 22) (l := 0) (u := 200) rfl
    refine jt_ite (fun c682_ => ?_) (fun c682_ => ?_)
    ·
      exact hc165 y1 y2 y5 a (show (((a 146 22) - (a 146 23)) + 4).toNat ≤ n from by omega) hv hf (show 0 ≤ y5 from by omega) (show y5 ≤ 3 from by omega) (show a 146 22 ≤ 100 from by omega) (show a 146 23 ≤ a 146 22 from by omega) (show 0 ≤ y2 from by omega) (show y2 + 2 ≤ a 146 23 from by omega) (show 0 ≤ y5 from by omega) (show y5 ≤ 4 from by omega) (show a 146 22 = a0 146 22 from by omega) (show 1 ≤ a0 146 22 from by omega) (show a0 146 22 ≤ 100 from by omega)
    ·
      refine jt_ite (fun c683_ => ?_) (fun c683_ => ?_)
      ·
        exact hc165 y1 y2 y5 a (show (((a 146 22) - (a 146 23)) + 4).toNat ≤ n from by omega) hv hf (show 0 ≤ y5 from by omega) (show y5 ≤ 3 from by omega) (show a 146 22 ≤ 100 from by omega) (show a 146 23 ≤ a 146 22 from by omega) (show 0 ≤ y2 from by omega) (show y2 + 2 ≤ a 146 23 from by omega) (show 0 ≤ y5 from by omega) (show y5 ≤ 4 from by omega) (show a 146 22 = a0 146 22 from by omega) (show 1 ≤ a0 146 22 from by omega) (show a0 146 22 ≤ 100 from by omega)
      ·
        exact hc170 y1 y2 y5 0 a (show (((a 146 22) - (a 146 23)) + 4).toNat ≤ n from by omega) hv hf (show 0 - 11 ≤ y5 from by omega) (show y5 ≤ 5 from by omega) (show 0 ≤ 0 from by omega) (show 0 ≤ 1 from by omega) (show a 146 22 ≤ 100 from by omega) (show a 146 23 ≤ a 146 22 from by omega) (show 0 ≤ y2 from by omega) (show y2 + 2 ≤ a 146 23 from by omega) (show 0 ≤ y5 from by omega) (show y5 ≤ 4 from by omega) (show a 146 22 = a0 146 22 from by omega) (show 1 ≤ a0 146 22 from by omega) (show a0 146 22 ≤ 100 from by omega)
  have hc126 : ∀ (y1 y2 y3 y5 : Int) (a : Nat → Nat → Int), (((a 146 22) - (a 146 23)) + 2).toNat ≤ n → iv a → jfr jW_X12_rules a0 a → 0 ≤ y3 → y3 ≤ 1 → 0 - 11 ≤ y5 → y5 ≤ 5 → a 146 22 ≤ 100 → a 146 23 ≤ a 146 22 → 0 ≤ y2 → y2 ≤ a 146 23 → (a 146 23) + (a 146 25) ≤ a 146 22 → 0 ≤ y3 → y3 ≤ 1 → (y3 = 1 → ((0 ≤ y5 ∧ y5 ≤ 4) ∧ 2 ≤ a 146 25)) → a 146 22 = a0 146 22 → 1 ≤ a0 146 22 → a0 146 22 ≤ 100 → jt (jxX E d 232 126 [some (.inr (.inr (.inl 146))), some (.inl y1), some (.inl y2), some (.inl y3), none, some (.inl y5)] [] (jxSH, a, b0)) (jQ_X12_rules a0 b0) := by
    intro y1 y2 y3 y5 a hm hv hf hi0 hi1 hi2 hi3 hi4 hi5 hi6 hi7 hi8 hi9 hi10 hi11 hi12 hi13 hi14
    refine jt_eq (bq_X12_rules_126 E d y1 y2 y3 y5 a b0) ?_
    have h684_ := iv_get hv (k := 146) (j := 22) (l := 0) (u := 200) rfl
    have h685_ := iv_get hv (k := 146) (j := 23) (l := 0) (u := 200) rfl
    have h686_ := iv_get hv (k := 146) (j := 25) (l := 0) (u := 200) rfl
    have h687_ := iv_get hv0 (k := 146) (j := 22) (l := 0) (u := 200) rfl
    refine jt_ite (fun c688_ => ?_) (fun c688_ => ?_)
    ·
      exact cp_X12_rules_281 E d hd a0 b0 hv0 y2 y3 a hv hf (show 0 ≤ y3 from by omega) (show y3 ≤ 1 from by omega) (show a 146 22 ≤ 100 from by omega) (show 0 ≤ y3 from by omega) (show y3 ≤ 1 from by omega) (show a 146 22 = a0 146 22 from by omega) (show (a0 146 22 = 0 → (y2 = 0 ∧ ¬ y3 = 0)) from by omega) (show a0 146 22 ≤ 100 from by omega)
    ·
      have h690_ : jxw ((a 146 23) + (a 146 25)) = (a 146 23) + (a 146 25) := jxw_id (by omega) (by omega)
      have hv689_ : iv (jxu a 146 23 (jxw ((a 146 23) + (a 146 25)))) := iv_put hv (l := 0) (u := 200) rfl (by omega) (by omega)
      have hf691_ : jfr jW_X12_rules a0 (jxu a 146 23 (jxw ((a 146 23) + (a 146 25)))) := jfr_put hf rfl
      exact hc153 (jxor y1 (jxshl 1 y5)) y2 y5 (jxu a 146 23 (jxw ((a 146 23) + (a 146 25)))) (show (((a 146 22) - (jxw ((a 146 23) + (a 146 25)))) + 4).toNat ≤ n from by omega) hv689_ hf691_ (show 0 - 11 ≤ y5 from by omega) (show y5 ≤ 5 from by omega) (show a 146 22 ≤ 100 from by omega) (show jxw ((a 146 23) + (a 146 25)) ≤ a 146 22 from by omega) (show 0 ≤ y2 from by omega) (show y2 + 2 ≤ jxw ((a 146 23) + (a 146 25)) from by omega) (show 0 ≤ y5 from by omega) (show y5 ≤ 4 from by omega) (show a 146 22 = a0 146 22 from by omega) (show 1 ≤ a0 146 22 from by omega) (show a0 146 22 ≤ 100 from by omega)
  have hc93 : ∀ (y1 y2 y5 : Int) (a : Nat → Nat → Int), (((a 146 22) - (a 146 23)) + 2).toNat ≤ n → iv a → jfr jW_X12_rules a0 a → 0 - 11 ≤ y5 → y5 ≤ 5 → a 146 22 ≤ 100 → a 146 23 ≤ a 146 22 → 0 ≤ y2 → y2 ≤ a 146 23 → (a 146 23) + (a 146 25) ≤ a 146 22 → a 146 22 = a0 146 22 → 1 ≤ a0 146 22 → a0 146 22 ≤ 100 → jt (jxX E d 232 93 [some (.inr (.inr (.inl 146))), some (.inl y1), some (.inl y2), none, none, some (.inl y5)] [] (jxSH, a, b0)) (jQ_X12_rules a0 b0) := by
    intro y1 y2 y5 a hm hv hf hi0 hi1 hi2 hi3 hi4 hi5 hi6 hi7 hi8 hi9
    refine jt_eq (bq_X12_rules_93 E d y1 y2 y5 a b0) ?_
    have h692_ := iv_get hv (k := 146) (j := 22) (l := 0) (u := 200) rfl
    have h693_ := iv_get hv (k := 146) (j := 23) (l := 0) (u := 200) rfl
    have h694_ := iv_get hv (k := 146) (j := 25) (l := 0) (u := 200) rfl
    have h695_ := iv_get hv0 (k := 146) (j := 22) (l := 0) (u := 200) rfl
    refine jt_bI (sp_X12_fails E d (jd_le hd rfl) 0 (a 146 23) a b0 hv) (fun r696_ a696_ b696_ h696_ => ?_)
    obtain ⟨hv696_, hf696_, rfl, hq696_0, hq696_1, hq696_2, hq696_3⟩ := h696_
    have hf697_ : jfr jW_X12_rules a0 a696_ := jfr_tr hf hf696_ rfl
    have h698_ := iv_get hv696_ (k := 146) (j := 22) (l := 0) (u := 200) rfl
    have h699_ : a696_ 146 22 = a 146 22 := hf696_ 146 22 rfl
    have h700_ := iv_get hv696_ (k := 146) (j := 23) (l := 0) (u := 200) rfl
    have h701_ : a696_ 146 23 = a 146 23 := hf696_ 146 23 rfl
    have h702_ := iv_get hv696_ (k := 146) (j := 25) (l := 0) (u := 200) rfl
    have h703_ : a696_ 146 25 = a 146 25 := hf696_ 146 25 rfl
    exact hc126 y1 y2 r696_ y5 a696_ (show (((a696_ 146 22) - (a696_ 146 23)) + 2).toNat ≤ n from by omega) hv696_ hf697_ (show 0 ≤ r696_ from by omega) (show r696_ ≤ 1 from by omega) (show 0 - 11 ≤ y5 from by omega) (show y5 ≤ 5 from by omega) (show a696_ 146 22 ≤ 100 from by omega) (show a696_ 146 23 ≤ a696_ 146 22 from by omega) (show 0 ≤ y2 from by omega) (show y2 ≤ a696_ 146 23 from by omega) (show (a696_ 146 23) + (a696_ 146 25) ≤ a696_ 146 22 from by omega) (show 0 ≤ r696_ from by omega) (show r696_ ≤ 1 from by omega) (show (r696_ = 1 → ((0 ≤ y5 ∧ y5 ≤ 4) ∧ 2 ≤ a696_ 146 25)) from by omega) (show a696_ 146 22 = a0 146 22 from by omega) (show 1 ≤ a0 146 22 from by omega) (show a0 146 22 ≤ 100 from by omega)
  have hc106 : ∀ (y1 y2 y3 y5 : Int) (a : Nat → Nat → Int), (((a 146 22) - (a 146 23)) + 2).toNat ≤ n → iv a → jfr jW_X12_rules a0 a → 1 ≤ y3 → y3 ≤ 1 → 0 ≤ y5 → y5 ≤ 4 → a 146 22 ≤ 100 → a 146 23 ≤ a 146 22 → 0 ≤ y2 → y2 ≤ a 146 23 → (a 146 23) + (a 146 25) ≤ a 146 22 → 0 ≤ y3 → y3 ≤ 1 → 0 ≤ y5 → y5 ≤ 4 → 2 ≤ a 146 25 → a 146 22 = a0 146 22 → 1 ≤ a0 146 22 → a0 146 22 ≤ 100 → jt (jxX E d 232 106 [some (.inr (.inr (.inl 146))), some (.inl y1), some (.inl y2), some (.inl y3), none, some (.inl y5)] [] (jxSH, a, b0)) (jQ_X12_rules a0 b0) := by
    intro y1 y2 y3 y5 a hm hv hf hi0 hi1 hi2 hi3 hi4 hi5 hi6 hi7 hi8 hi9 hi10 hi11 hi12 hi13 hi14 hi15 hi16
    refine jt_eq (bq_X12_rules_106 E d y1 y2 y3 y5 a b0) ?_
    have h704_ := iv_get hv (k := 146) (j := 22) (l := 0) (u := 200) rfl
    have h705_ := iv_get hv (k := 146) (j := 23) (l := 0) (u := 200) rfl
    have h706_ := iv_get hv (k := 146) (j := 25) (l := 0) (u := 200) rfl
    have h707_ := iv_get hv0 (k := 146) (j := 22) (l := 0) (u := 200) rfl
    have h708_ := jxshr_b y1 y5
    have h709_ := jxand_r (jxshr y1 y5) 1 (by decide) (by decide)
    refine jt_ite (fun c710_ => ?_) (fun c710_ => ?_)
    ·
      refine jt_bI (sp_X12_fails E d (jd_le hd rfl) 2 (a 146 23) a b0 hv) (fun r711_ a711_ b711_ h711_ => ?_)
      obtain ⟨hv711_, hf711_, rfl, hq711_0, hq711_1, hq711_2, hq711_3⟩ := h711_
      have hf712_ : jfr jW_X12_rules a0 a711_ := jfr_tr hf hf711_ rfl
      have h713_ := iv_get hv711_ (k := 146) (j := 22) (l := 0) (u := 200) rfl
      have h714_ : a711_ 146 22 = a 146 22 := hf711_ 146 22 rfl
      have h715_ := iv_get hv711_ (k := 146) (j := 23) (l := 0) (u := 200) rfl
      have h716_ : a711_ 146 23 = a 146 23 := hf711_ 146 23 rfl
      have h717_ := iv_get hv711_ (k := 146) (j := 25) (l := 0) (u := 200) rfl
      have h718_ : a711_ 146 25 = a 146 25 := hf711_ 146 25 rfl
      exact hc126 y1 y2 r711_ y5 a711_ (show (((a711_ 146 22) - (a711_ 146 23)) + 2).toNat ≤ n from by omega) hv711_ hf712_ (show 0 ≤ r711_ from by omega) (show r711_ ≤ 1 from by omega) (show 0 - 11 ≤ y5 from by omega) (show y5 ≤ 5 from by omega) (show a711_ 146 22 ≤ 100 from by omega) (show a711_ 146 23 ≤ a711_ 146 22 from by omega) (show 0 ≤ y2 from by omega) (show y2 ≤ a711_ 146 23 from by omega) (show (a711_ 146 23) + (a711_ 146 25) ≤ a711_ 146 22 from by omega) (show 0 ≤ r711_ from by omega) (show r711_ ≤ 1 from by omega) (show (r711_ = 1 → ((0 ≤ y5 ∧ y5 ≤ 4) ∧ 2 ≤ a711_ 146 25)) from by omega) (show a711_ 146 22 = a0 146 22 from by omega) (show 1 ≤ a0 146 22 from by omega) (show a0 146 22 ≤ 100 from by omega)
    ·
      exact hc126 y1 y2 y3 y5 a (show (((a 146 22) - (a 146 23)) + 2).toNat ≤ n from by omega) hv hf (show 0 ≤ y3 from by omega) (show y3 ≤ 1 from by omega) (show 0 - 11 ≤ y5 from by omega) (show y5 ≤ 5 from by omega) (show a 146 22 ≤ 100 from by omega) (show a 146 23 ≤ a 146 22 from by omega) (show 0 ≤ y2 from by omega) (show y2 ≤ a 146 23 from by omega) (show (a 146 23) + (a 146 25) ≤ a 146 22 from by omega) (show 0 ≤ y3 from by omega) (show y3 ≤ 1 from by omega) (show (y3 = 1 → ((0 ≤ y5 ∧ y5 ≤ 4) ∧ 2 ≤ a 146 25)) from by omega) (show a 146 22 = a0 146 22 from by omega) (show 1 ≤ a0 146 22 from by omega) (show a0 146 22 ≤ 100 from by omega)
  have hc65 : ∀ (y1 y2 y3 y4 : Int) (a : Nat → Nat → Int), ((((a 146 22) - (a 146 23)) + y3) + y4).toNat ≤ n → iv a → jfr jW_X12_rules a0 a → 0 ≤ y3 → y3 ≤ 1 → 0 ≤ y4 → y4 ≤ 1 → a 146 22 ≤ 100 → a 146 23 ≤ a 146 22 → 0 ≤ y2 → y2 ≤ a 146 23 → 0 ≤ y3 → 0 ≤ y4 → y3 ≤ 1 → y4 ≤ 1 → a 146 22 = a0 146 22 → (a0 146 22 = 0 → ((y2 = 0 ∧ ¬ y3 = 0) ∧ y4 = 0)) → a0 146 22 ≤ 100 → jt (jxX E d 232 65 [some (.inr (.inr (.inl 146))), some (.inl y1), some (.inl y2), some (.inl y3), some (.inl y4), none] [] (jxSH, a, b0)) (jQ_X12_rules a0 b0) := by
    intro y1 y2 y3 y4 a hm hv hf hi0 hi1 hi2 hi3 hi4 hi5 hi6 hi7 hi8 hi9 hi10 hi11 hi12 hi13 hi14
    refine jt_eq (bq_X12_rules_65 E d y1 y2 y3 y4 a b0) ?_
    have h719_ := iv_get hv (k := 146) (j := 22) (l := 0) (u := 200) rfl
    have h720_ := iv_get hv (k := 146) (j := 23) (l := 0) (u := 200) rfl
    have h721_ := iv_get hv0 (k := 146) (j := 22) (l := 0) (u := 200) rfl
    refine jt_ite (fun c722_ => ?_) (fun c722_ => ?_)
    ·
      exact cp_X12_rules_281 E d hd a0 b0 hv0 y2 y3 a hv hf (show 0 ≤ y3 from by omega) (show y3 ≤ 1 from by omega) (show a 146 22 ≤ 100 from by omega) (show 0 ≤ y3 from by omega) (show y3 ≤ 1 from by omega) (show a 146 22 = a0 146 22 from by omega) (show (a0 146 22 = 0 → (y2 = 0 ∧ ¬ y3 = 0)) from by omega) (show a0 146 22 ≤ 100 from by omega)
    ·
      refine jt_ite (fun c723_ => ?_) (fun c723_ => ?_)
      ·
        exact cp_X12_rules_281 E d hd a0 b0 hv0 y2 y3 a hv hf (show 0 ≤ y3 from by omega) (show y3 ≤ 1 from by omega) (show a 146 22 ≤ 100 from by omega) (show 0 ≤ y3 from by omega) (show y3 ≤ 1 from by omega) (show a 146 22 = a0 146 22 from by omega) (show (a0 146 22 = 0 → (y2 = 0 ∧ ¬ y3 = 0)) from by omega) (show a0 146 22 ≤ 100 from by omega)
      ·
        refine jt_bI (sp_X12_wordHere E d (jd_le hd rfl) a b0 hv (show a 146 23 ≤ a 146 22 from by omega)) (fun r724_ a724_ b724_ h724_ => ?_)
        obtain ⟨hv724_, hf724_, rfl, hq724_0, hq724_1, hq724_2, hq724_3, hq724_4, hq724_5, hq724_6, hq724_7, hq724_8, hq724_9⟩ := h724_
        have h725_ := iv_get hv724_ (k := 146) (j := 23) (l := 0) (u := 200) rfl
        have h726_ := iv_get hv724_ (k := 146) (j := 25) (l := 0) (u := 200) rfl
        have h727_ := iv_get hv724_ (k := 146) (j := 22) (l := 0) (u := 200) rfl
        have h728_ : a724_ 146 22 = a 146 22 := hf724_ 146 22 rfl
        have h729_ := iv_get hv (k := 164) (j := (a 146 23).toNat) (l := (-128)) (u := 127) rfl
        have h730_ : a 164 ((a 146 23).toNat) = a0 164 ((a 146 23).toNat) := hf 164 ((a 146 23).toNat) rfl
        have h731_ := iv_get hv0 (k := 164) (j := (a 146 23).toNat) (l := (-128)) (u := 127) rfl
        refine jt_eI (eq_X12_in E d (jd_le hd rfl) (jxw (r724_ - 10)) 0 4 a724_ b0) ?_
        have h732_ : jxw (r724_ - 10) = r724_ - 10 := jxw_id (by omega) (by omega)
        have h733_ := f_X12_in_eq a724_ b0 (jxw (r724_ - 10)) 0 4
        refine jt_ite (fun c734_ => ?_) (fun c734_ => ?_)
        ·
          have hf735_ : jfr jW_X12_rules a0 a724_ := jfr_tr hf hf724_ rfl
          exact hc93 y1 y2 (jxw (r724_ - 10)) a724_ (show (((a724_ 146 22) - (a724_ 146 23)) + 2).toNat ≤ n from by omega) hv724_ hf735_ (show 0 - 11 ≤ jxw (r724_ - 10) from by omega) (show jxw (r724_ - 10) ≤ 5 from by omega) (show a724_ 146 22 ≤ 100 from by omega) (show a724_ 146 23 ≤ a724_ 146 22 from by omega) (show 0 ≤ y2 from by omega) (show y2 ≤ a724_ 146 23 from by omega) (show (a724_ 146 23) + (a724_ 146 25) ≤ a724_ 146 22 from by omega) (show a724_ 146 22 = a0 146 22 from by omega) (show 1 ≤ a0 146 22 from by omega) (show a0 146 22 ≤ 100 from by omega)
        ·
          have hf736_ : jfr jW_X12_rules a0 a724_ := jfr_tr hf hf724_ rfl
          exact hc106 y1 y2 y3 (jxw (r724_ - 10)) a724_ (show (((a724_ 146 22) - (a724_ 146 23)) + 2).toNat ≤ n from by omega) hv724_ hf736_ (show 1 ≤ y3 from by omega) (show y3 ≤ 1 from by omega) (show 0 ≤ jxw (r724_ - 10) from by omega) (show jxw (r724_ - 10) ≤ 4 from by omega) (show a724_ 146 22 ≤ 100 from by omega) (show a724_ 146 23 ≤ a724_ 146 22 from by omega) (show 0 ≤ y2 from by omega) (show y2 ≤ a724_ 146 23 from by omega) (show (a724_ 146 23) + (a724_ 146 25) ≤ a724_ 146 22 from by omega) (show 0 ≤ y3 from by omega) (show y3 ≤ 1 from by omega) (show 0 ≤ jxw (r724_ - 10) from by omega) (show jxw (r724_ - 10) ≤ 4 from by omega) (show 2 ≤ a724_ 146 25 from by omega) (show a724_ 146 22 = a0 146 22 from by omega) (show 1 ≤ a0 146 22 from by omega) (show a0 146 22 ≤ 100 from by omega)
  exact ⟨hc278, hc251, hc236, hc210, hc205, hc209, hc170, hc165, hc153, hc126, hc93, hc106, hc65⟩
theorem cp_X12_rules_27 (E : jxE) (d : Nat) (hd : Nat.ble 3 (d + 1) = true) (a0 b0 : Nat → Nat → Int) (hv0 : iv a0) : ∀ n : Nat, (∀ (y1 y2 y3 : Int) (a : Nat → Nat → Int), (((5 - y3) * 1) + 0).toNat ≤ n → iv a → jfr jW_X12_rules a0 a → 0 ≤ y1 → y1 ≤ 0 → 0 ≤ y2 → y2 ≤ 0 → 0 ≤ y3 → y3 ≤ 5 → a 146 22 ≤ 100 → a 146 23 ≤ a 146 22 → y2 = 0 → a 146 22 = a0 146 22 → a0 146 22 ≤ 100 → jt (jxX E d 232 27 [some (.inr (.inr (.inl 146))), some (.inl y1), some (.inl y2), some (.inl y3), none, none] [] (jxSH, a, b0)) (jQ_X12_rules a0 b0)) := by
  refine jx_ind fun n ih => ?_
  have ih27 : ∀ (y1 y2 y3 : Int) (a : Nat → Nat → Int), (((5 - y3) * 1) + 0).toNat < n → iv a → jfr jW_X12_rules a0 a → 0 ≤ y1 → y1 ≤ 0 → 0 ≤ y2 → y2 ≤ 0 → 0 ≤ y3 → y3 ≤ 5 → a 146 22 ≤ 100 → a 146 23 ≤ a 146 22 → y2 = 0 → a 146 22 = a0 146 22 → a0 146 22 ≤ 100 → jt (jxX E d 232 27 [some (.inr (.inr (.inl 146))), some (.inl y1), some (.inl y2), some (.inl y3), none, none] [] (jxSH, a, b0)) (jQ_X12_rules a0 b0) := fun y1 y2 y3 a hlt i0 i1 i2 i3 i4 i5 i6 i7 i8 i9 i10 i11 i12 => (ih _ hlt) y1 y2 y3 a (Nat.le_refl _) i0 i1 i2 i3 i4 i5 i6 i7 i8 i9 i10 i11 i12
  have hc27 : ∀ (y1 y2 y3 : Int) (a : Nat → Nat → Int), (((5 - y3) * 1) + 0).toNat ≤ n → iv a → jfr jW_X12_rules a0 a → 0 ≤ y1 → y1 ≤ 0 → 0 ≤ y2 → y2 ≤ 0 → 0 ≤ y3 → y3 ≤ 5 → a 146 22 ≤ 100 → a 146 23 ≤ a 146 22 → y2 = 0 → a 146 22 = a0 146 22 → a0 146 22 ≤ 100 → jt (jxX E d 232 27 [some (.inr (.inr (.inl 146))), some (.inl y1), some (.inl y2), some (.inl y3), none, none] [] (jxSH, a, b0)) (jQ_X12_rules a0 b0) := by
    intro y1 y2 y3 a hm hv hf hi0 hi1 hi2 hi3 hi4 hi5 hi6 hi7 hi8 hi9 hi10
    refine jt_eq (bq_X12_rules_27 E d y1 y2 y3 a b0) ?_
    have h737_ := iv_get hv (k := 146) (j := 22) (l := 0) (u := 200) rfl
    have h738_ := iv_get hv (k := 146) (j := 23) (l := 0) (u := 200) rfl
    have h739_ := iv_get hv0 (k := 146) (j := 22) (l := 0) (u := 200) rfl
    refine jt_ite (fun c740_ => ?_) (fun c740_ => ?_)
    ·
      refine jt_eI (eq_X12_without E d (jd_le hd rfl) y3 a b0) ?_
      refine jt_grd (by omega) ?_
      have hv741_ : iv (jxu a 172 (y3.toNat) (f_X12_without a b0 y3)) := iv_putf hv rfl
      have hf742_ : jfr jW_X12_rules a0 (jxu a 172 (y3.toNat) (f_X12_without a b0 y3)) := jfr_put hf rfl
      have h743_ : jxw (y3 + 1) = y3 + 1 := jxw_id (by omega) (by omega)
      exact ih27 y1 y2 (jxw (y3 + 1)) (jxu a 172 (y3.toNat) (f_X12_without a b0 y3)) (show (((5 - (jxw (y3 + 1))) * 1) + 0).toNat < n from by omega) hv741_ hf742_ (show 0 ≤ y1 from by omega) (show y1 ≤ 0 from by omega) (show 0 ≤ y2 from by omega) (show y2 ≤ 0 from by omega) (show 0 ≤ jxw (y3 + 1) from by omega) (show jxw (y3 + 1) ≤ 5 from by omega) (show a 146 22 ≤ 100 from by omega) (show a 146 23 ≤ a 146 22 from by omega) (show y2 = 0 from by omega) (show a 146 22 = a0 146 22 from by omega) (show a0 146 22 ≤ 100 from by omega)
    ·
      refine jt_bI (sp_X12_see E d (jd_le hd rfl) a b0 hv (show a 146 23 ≤ a 146 22 from by omega)) (fun r744_ a744_ b744_ h744_ => ?_)
      obtain ⟨hv744_, hf744_, rfl, hq744_0, hq744_1, hq744_2, hq744_3, hq744_4, hq744_5⟩ := h744_
      have h745_ := iv_get hv744_ (k := 146) (j := 23) (l := 0) (u := 200) rfl
      have h746_ := iv_get hv744_ (k := 164) (j := (a744_ 146 23).toNat) (l := (-128)) (u := 127) rfl
      have h747_ : a744_ 164 ((a744_ 146 23).toNat) = a 164 ((a744_ 146 23).toNat) := hf744_ 164 ((a744_ 146 23).toNat) rfl
      have h748_ := iv_get hv (k := 164) (j := (a744_ 146 23).toNat) (l := (-128)) (u := 127) rfl
      have h749_ : a 164 ((a744_ 146 23).toNat) = a0 164 ((a744_ 146 23).toNat) := hf 164 ((a744_ 146 23).toNat) rfl
      have h750_ := iv_get hv0 (k := 164) (j := (a744_ 146 23).toNat) (l := (-128)) (u := 127) rfl
      have h751_ := iv_get hv (k := 164) (j := (a 146 23).toNat) (l := (-128)) (u := 127) rfl
      have h752_ : a 164 ((a 146 23).toNat) = a0 164 ((a 146 23).toNat) := hf 164 ((a 146 23).toNat) rfl
      have h753_ := iv_get hv0 (k := 164) (j := (a 146 23).toNat) (l := (-128)) (u := 127) rfl
      refine jt_ite (fun c754_ => ?_) (fun c754_ => ?_)
      ·
        have hf755_ : jfr jW_X12_rules a0 a744_ := jfr_tr hf hf744_ rfl
        have h756_ := iv_get hv744_ (k := 146) (j := 22) (l := 0) (u := 200) rfl
        have h757_ : a744_ 146 22 = a 146 22 := hf744_ 146 22 rfl
        exact (cp_X12_rules_65 E d hd a0 b0 hv0 _).2.2.2.2.2.2.2.2.2.2.2.2 y1 y2 1 0 a744_ (Nat.le_refl _) hv744_ hf755_ (show 0 ≤ 1 from by omega) (show 1 ≤ 1 from by omega) (show 0 ≤ 0 from by omega) (show 0 ≤ 1 from by omega) (show a744_ 146 22 ≤ 100 from by omega) (show a744_ 146 23 ≤ a744_ 146 22 from by omega) (show 0 ≤ y2 from by omega) (show y2 ≤ a744_ 146 23 from by omega) (show 0 ≤ 1 from by omega) (show 0 ≤ 0 from by omega) (show 1 ≤ 1 from by omega) (show 0 ≤ 1 from by omega) (show a744_ 146 22 = a0 146 22 from by omega) (show (a0 146 22 = 0 → ((y2 = 0 ∧ ¬ 1 = 0) ∧ 0 = 0)) from by omega) (show a0 146 22 ≤ 100 from by omega)
      ·
        have hf758_ : jfr jW_X12_rules a0 a744_ := jfr_tr hf hf744_ rfl
        have h759_ := iv_get hv744_ (k := 146) (j := 22) (l := 0) (u := 200) rfl
        have h760_ : a744_ 146 22 = a 146 22 := hf744_ 146 22 rfl
        exact (cp_X12_rules_65 E d hd a0 b0 hv0 _).2.2.2.2.2.2.2.2.2.2.2.2 y1 y2 1 1 a744_ (Nat.le_refl _) hv744_ hf758_ (show 0 ≤ 1 from by omega) (show 1 ≤ 1 from by omega) (show 0 ≤ 1 from by omega) (show 1 ≤ 1 from by omega) (show a744_ 146 22 ≤ 100 from by omega) (show a744_ 146 23 ≤ a744_ 146 22 from by omega) (show 0 ≤ y2 from by omega) (show y2 ≤ a744_ 146 23 from by omega) (show 0 ≤ 1 from by omega) (show 0 ≤ 1 from by omega) (show 1 ≤ 1 from by omega) (show 1 ≤ 1 from by omega) (show a744_ 146 22 = a0 146 22 from by omega) (show (a0 146 22 = 0 → ((y2 = 0 ∧ ¬ 1 = 0) ∧ 1 = 0)) from by omega) (show a0 146 22 ≤ 100 from by omega)
  exact hc27
theorem cp_X12_rules_25 (E : jxE) (d : Nat) (hd : Nat.ble 3 (d + 1) = true) (a0 b0 : Nat → Nat → Int) (hv0 : iv a0) : ∀ (y1 y2 : Int) (a : Nat → Nat → Int), iv a → jfr jW_X12_rules a0 a → 0 ≤ y1 → y1 ≤ 0 → 0 ≤ y2 → y2 ≤ 0 → a 146 22 ≤ 100 → a 146 23 ≤ a 146 22 → y2 = 0 → a 146 22 = a0 146 22 → a0 146 22 ≤ 100 → jt (jxX E d 232 25 [some (.inr (.inr (.inl 146))), some (.inl y1), some (.inl y2), none, none, none] [] (jxSH, a, b0)) (jQ_X12_rules a0 b0) := by
  intro y1 y2 a hv hf hi0 hi1 hi2 hi3 hi4 hi5 hi6 hi7 hi8
  refine jt_eq (bq_X12_rules_25 E d y1 y2 a b0) ?_
  have h761_ := iv_get hv (k := 146) (j := 22) (l := 0) (u := 200) rfl
  have h762_ := iv_get hv (k := 146) (j := 23) (l := 0) (u := 200) rfl
  have h763_ := iv_get hv0 (k := 146) (j := 22) (l := 0) (u := 200) rfl
  exact (cp_X12_rules_27 E d hd a0 b0 hv0 _) y1 y2 0 a (Nat.le_refl _) hv hf (show 0 ≤ y1 from by omega) (show y1 ≤ 0 from by omega) (show 0 ≤ y2 from by omega) (show y2 ≤ 0 from by omega) (show 0 ≤ 0 from by omega) (show 0 ≤ 5 from by omega) (show a 146 22 ≤ 100 from by omega) (show a 146 23 ≤ a 146 22 from by omega) (show y2 = 0 from by omega) (show a 146 22 = a0 146 22 from by omega) (show a0 146 22 ≤ 100 from by omega)
theorem sp_X12_rules (E : jxE) (d : Nat) (hd : Nat.ble 3 d = true) (a0 b0 : Nat → Nat → Int) (hv0 : iv a0) : jt (jxC E d 232 [.inr (.inr (.inl 146))] (jxSH, a0, b0)) (jQ_X12_rules a0 b0) := by
  obtain ⟨d, rfl⟩ := jd_succ hd
  refine jt_eq (bq_X12_rules E d a0 b0) ?_
  have h764_ := iv_get hv0 (k := 146) (j := 22) (l := 0) (u := 200) rfl
  refine jt_ite (fun c765_ => ?_) (fun c765_ => ?_)
  ·
    exact jt_rI ⟨hv0, (jfr_rf _ _), rfl, (show (a0 146 22 = 0 → (-1) = 0) from by omega), (show (a0 146 22 ≤ 100 → a0 146 22 = 0) from by omega), (show (100 < a0 146 22 → a0 146 22 = a0 146 22) from by omega)⟩
  ·
    have hv766_ : iv (jxu a0 146 23 0) := iv_put hv0 (l := 0) (u := 200) rfl (by omega) (by omega)
    have hv767_ : iv (jxu (jxu a0 146 23 0) 146 24 0) := iv_putf hv766_ rfl
    have hf768_ : jfr jW_X12_rules a0 (jxu a0 146 23 0) := jfr_put (jfr_rf _ _) rfl
    have hf769_ : jfr jW_X12_rules a0 (jxu (jxu a0 146 23 0) 146 24 0) := jfr_put hf768_ rfl
    exact cp_X12_rules_25 E d hd a0 b0 hv0 0 0 (jxu (jxu a0 146 23 0) 146 24 0) hv767_ hf769_ (show 0 ≤ 0 from by omega) (show 0 ≤ 0 from by omega) (show 0 ≤ 0 from by omega) (show 0 ≤ 0 from by omega) (show a0 146 22 ≤ 100 from by omega) (show 0 ≤ a0 146 22 from by omega) (show 0 = 0 from by omega) (show a0 146 22 = a0 146 22 from by omega) (show a0 146 22 ≤ 100 from by omega)
def jW_X12_rates : List (Nat × Nat) := [(146, 22), (146, 23), (146, 24), (146, 25), (146, 26), (146, 27), (146, 68), (192, 9999), (193, 9999), (194, 9999), (195, 9999)]
abbrev jQ_X12_rates (x1 : Int) (a0 b0 : Nat → Nat → Int) : List jxV → (Nat → Nat → Int) → (Nat → Nat → Int) → Prop := rI (fun r a b => (iv a) ∧ (jfr jW_X12_rates a0 a) ∧ (b0 = b) ∧ (((a0 146 22 = 0 ∧ a0 146 68 = 0) → (((0 ≤ x1 ∧ x1 ≤ 1999) ∧ r = 0 - 3) ∨ ((x1 < 0 ∨ 1999 < x1) ∧ r = 0 - 1)))) ∧ (0 ≤ x1 ∧ x1 ≤ 1999 ∧ a0 146 68 ≤ 9 → RTR (UB (a0 164)) (a0 146 22).toNat r ∧ ((1 ≤ r ∧ a 146 68 = a0 146 68 + 1) ∨ (r < 0 ∧ a 146 68 = a0 146 68))) ∧ (1 ≤ r → R194 a (UB (a0 164)) (a0 146 22).toNat (a0 146 68).toNat r.toNat ∧ UP (a0 192) (a 192) (a0 146 68).toNat x1 ∧ UP (a0 193) (a 193) (a0 146 68).toNat r ∧ ∀ j, j < 36 * (a0 146 68).toNat → a 194 j = a0 194 j) ∧ (r < 0 → ∀ j, a 192 j = a0 192 j ∧ a 193 j = a0 193 j ∧ a 194 j = a0 194 j) ∧ ((((x1 < 0 ∨ 1999 < x1) ∨ 9 < a0 146 68) → ((r = 0 - 1 ∧ a 146 68 = a0 146 68) ∧ a 146 22 = a0 146 22))) ∧ ((((0 ≤ x1 ∧ x1 ≤ 1999) ∧ a0 146 68 ≤ 9) → a 146 22 = 0)))
theorem cp_X12_rates_154 (E : jxE) (d : Nat) (hd : Nat.ble 4 (d + 1) = true) (x1 : Int) (a0 b0 : Nat → Nat → Int) (hv0 : iv a0) : ∀ n : Nat, (∀ (y2 y5 : Int) (a : Nat → Nat → Int), (((36 - y5) * 1) + 0).toNat ≤ n → iv a → jfr jW_X12_rates a0 a → 0 ≤ y5 → y5 ≤ 35 → a 146 68 ≤ 9 → 0 ≤ y2 → y2 ≤ 12 → 0 ≤ y5 → y5 < 3 * y2 → a 146 68 ≤ 9 → 1 ≤ a0 146 22 → a 146 68 = a0 146 68 → a 146 68 ≤ 9 → a 146 68 = a0 146 68 → (1 ≤ y2 ∧ RTR (UB (a0 164)) (a0 146 22).toNat y2) → (R195 a (UB (a0 164)) (a0 146 22).toNat y2.toNat) → (UP (a0 192) (a 192) (a0 146 68).toNat x1) → (UP (a0 193) (a 193) (a0 146 68).toNat y2) → (∀ j, j < 36 * (a0 146 68).toNat → a 194 j = a0 194 j) → (∀ j : Nat, (j : Int) < y5 + 1 → a 194 (36 * (a0 146 68).toNat + j) = a 195 j) → jt (jxX E d 282 184 [some (.inr (.inr (.inl 146))), none, some (.inl y2), none, none, some (.inl y5)] [] (jxSH, a, b0)) (jQ_X12_rates x1 a0 b0)) ∧ (∀ (y2 y5 : Int) (a : Nat → Nat → Int), (((36 - y5) * 1) + 0).toNat ≤ n → iv a → jfr jW_X12_rates a0 a → 0 ≤ y5 → y5 ≤ 36 → a 146 68 ≤ 9 → 0 ≤ y2 → y2 ≤ 12 → 0 ≤ y5 → a 146 68 ≤ 9 → 1 ≤ a0 146 22 → a 146 68 = a0 146 68 → a 146 68 ≤ 9 → a 146 68 = a0 146 68 → (1 ≤ y2 ∧ RTR (UB (a0 164)) (a0 146 22).toNat y2) → (R195 a (UB (a0 164)) (a0 146 22).toNat y2.toNat) → (UP (a0 192) (a 192) (a0 146 68).toNat x1) → (UP (a0 193) (a 193) (a0 146 68).toNat y2) → (∀ j, j < 36 * (a0 146 68).toNat → a 194 j = a0 194 j) → (∀ j : Nat, (j : Int) < y5 → a 194 (36 * (a0 146 68).toNat + j) = a 195 j) → 0 ≤ y5 → y5 ≤ 3 * y2 → jt (jxX E d 282 154 [some (.inr (.inr (.inl 146))), none, some (.inl y2), none, none, some (.inl y5)] [] (jxSH, a, b0)) (jQ_X12_rates x1 a0 b0)) := by
  refine jx_ind fun n ih => ?_
  have ih184 : ∀ (y2 y5 : Int) (a : Nat → Nat → Int), (((36 - y5) * 1) + 0).toNat < n → iv a → jfr jW_X12_rates a0 a → 0 ≤ y5 → y5 ≤ 35 → a 146 68 ≤ 9 → 0 ≤ y2 → y2 ≤ 12 → 0 ≤ y5 → y5 < 3 * y2 → a 146 68 ≤ 9 → 1 ≤ a0 146 22 → a 146 68 = a0 146 68 → a 146 68 ≤ 9 → a 146 68 = a0 146 68 → (1 ≤ y2 ∧ RTR (UB (a0 164)) (a0 146 22).toNat y2) → (R195 a (UB (a0 164)) (a0 146 22).toNat y2.toNat) → (UP (a0 192) (a 192) (a0 146 68).toNat x1) → (UP (a0 193) (a 193) (a0 146 68).toNat y2) → (∀ j, j < 36 * (a0 146 68).toNat → a 194 j = a0 194 j) → (∀ j : Nat, (j : Int) < y5 + 1 → a 194 (36 * (a0 146 68).toNat + j) = a 195 j) → jt (jxX E d 282 184 [some (.inr (.inr (.inl 146))), none, some (.inl y2), none, none, some (.inl y5)] [] (jxSH, a, b0)) (jQ_X12_rates x1 a0 b0) := fun y2 y5 a hlt i0 i1 i2 i3 i4 i5 i6 i7 i8 i9 i10 i11 i12 i13 i14 i15 i16 i17 i18 i19 => (ih _ hlt).1 y2 y5 a (Nat.le_refl _) i0 i1 i2 i3 i4 i5 i6 i7 i8 i9 i10 i11 i12 i13 i14 i15 i16 i17 i18 i19
  have ih154 : ∀ (y2 y5 : Int) (a : Nat → Nat → Int), (((36 - y5) * 1) + 0).toNat < n → iv a → jfr jW_X12_rates a0 a → 0 ≤ y5 → y5 ≤ 36 → a 146 68 ≤ 9 → 0 ≤ y2 → y2 ≤ 12 → 0 ≤ y5 → a 146 68 ≤ 9 → 1 ≤ a0 146 22 → a 146 68 = a0 146 68 → a 146 68 ≤ 9 → a 146 68 = a0 146 68 → (1 ≤ y2 ∧ RTR (UB (a0 164)) (a0 146 22).toNat y2) → (R195 a (UB (a0 164)) (a0 146 22).toNat y2.toNat) → (UP (a0 192) (a 192) (a0 146 68).toNat x1) → (UP (a0 193) (a 193) (a0 146 68).toNat y2) → (∀ j, j < 36 * (a0 146 68).toNat → a 194 j = a0 194 j) → (∀ j : Nat, (j : Int) < y5 → a 194 (36 * (a0 146 68).toNat + j) = a 195 j) → 0 ≤ y5 → y5 ≤ 3 * y2 → jt (jxX E d 282 154 [some (.inr (.inr (.inl 146))), none, some (.inl y2), none, none, some (.inl y5)] [] (jxSH, a, b0)) (jQ_X12_rates x1 a0 b0) := fun y2 y5 a hlt i0 i1 i2 i3 i4 i5 i6 i7 i8 i9 i10 i11 i12 i13 i14 i15 i16 i17 i18 i19 i20 => (ih _ hlt).2 y2 y5 a (Nat.le_refl _) i0 i1 i2 i3 i4 i5 i6 i7 i8 i9 i10 i11 i12 i13 i14 i15 i16 i17 i18 i19 i20
  have hc184 : ∀ (y2 y5 : Int) (a : Nat → Nat → Int), (((36 - y5) * 1) + 0).toNat ≤ n → iv a → jfr jW_X12_rates a0 a → 0 ≤ y5 → y5 ≤ 35 → a 146 68 ≤ 9 → 0 ≤ y2 → y2 ≤ 12 → 0 ≤ y5 → y5 < 3 * y2 → a 146 68 ≤ 9 → 1 ≤ a0 146 22 → a 146 68 = a0 146 68 → a 146 68 ≤ 9 → a 146 68 = a0 146 68 → (1 ≤ y2 ∧ RTR (UB (a0 164)) (a0 146 22).toNat y2) → (R195 a (UB (a0 164)) (a0 146 22).toNat y2.toNat) → (UP (a0 192) (a 192) (a0 146 68).toNat x1) → (UP (a0 193) (a 193) (a0 146 68).toNat y2) → (∀ j, j < 36 * (a0 146 68).toNat → a 194 j = a0 194 j) → (∀ j : Nat, (j : Int) < y5 + 1 → a 194 (36 * (a0 146 68).toNat + j) = a 195 j) → jt (jxX E d 282 184 [some (.inr (.inr (.inl 146))), none, some (.inl y2), none, none, some (.inl y5)] [] (jxSH, a, b0)) (jQ_X12_rates x1 a0 b0) := by
    intro y2 y5 a hm hv hf hi0 hi1 hi2 hi3 hi4 hi5 hi6 hi7 hi8 hi9 hi10 hi11 hY hR hu192 hu193 hk4 hcp
    refine jt_eq (bq_X12_rates_184 E d y2 y5 a b0) ?_
    have h770_ := iv_get hv (k := 146) (j := 68) (l := 0) (u := 10) rfl
    have h771_ := iv_get hv0 (k := 146) (j := 22) (l := 0) (u := 200) rfl
    have h772_ := iv_get hv0 (k := 146) (j := 68) (l := 0) (u := 10) rfl
    have h4 : a 164 = a0 164 := funext fun j => hf 164 j rfl
    have h773_ : jxw (y5 + 1) = y5 + 1 := jxw_id (by omega) (by omega)
    exact ih154 y2 (jxw (y5 + 1)) a (show (((36 - (jxw (y5 + 1))) * 1) + 0).toNat < n from by omega) hv hf (show 0 ≤ jxw (y5 + 1) from by omega) (show jxw (y5 + 1) ≤ 36 from by omega) (show a 146 68 ≤ 9 from by omega) (show 0 ≤ y2 from by omega) (show y2 ≤ 12 from by omega) (show 0 ≤ jxw (y5 + 1) from by omega) (show a 146 68 ≤ 9 from by omega) (show 1 ≤ a0 146 22 from by omega) (show a 146 68 = a0 146 68 from by omega) (show a 146 68 ≤ 9 from by omega) (show a 146 68 = a0 146 68 from by omega) (by first | exact hY | exact ⟨(hC (by assumption)).1, (hC (by assumption)).2.1⟩) (by first | exact hR | exact (hC (by assumption)).2.2) (by first | exact hu192 | (rw [show (a0 146 68).toNat = (a 146 68).toNat from by omega, ← hy1]; exact UP_put hs192)) (by first | exact hu193 | (rw [show (a0 146 68).toNat = (a 146 68).toNat from by omega]; exact UP_put hs193)) (by first | exact hk4 | exact (fun j hj => by show (if j = (jxw ((jxw (36 * (a 146 68))) + y5)).toNat then a 195 (y5.toNat) else a 194 j) = _; rw [hix, if_neg (by omega)]; exact hk4 j hj)) (by first | exact (fun j hj => absurd hj (by omega)) | (rw [show jxw (y5 + 1) = y5 + 1 from by omega]; exact hcp)) (show 0 ≤ jxw (y5 + 1) from by omega) (show jxw (y5 + 1) ≤ 3 * y2 from by omega)
  have hc154 : ∀ (y2 y5 : Int) (a : Nat → Nat → Int), (((36 - y5) * 1) + 0).toNat ≤ n → iv a → jfr jW_X12_rates a0 a → 0 ≤ y5 → y5 ≤ 36 → a 146 68 ≤ 9 → 0 ≤ y2 → y2 ≤ 12 → 0 ≤ y5 → a 146 68 ≤ 9 → 1 ≤ a0 146 22 → a 146 68 = a0 146 68 → a 146 68 ≤ 9 → a 146 68 = a0 146 68 → (1 ≤ y2 ∧ RTR (UB (a0 164)) (a0 146 22).toNat y2) → (R195 a (UB (a0 164)) (a0 146 22).toNat y2.toNat) → (UP (a0 192) (a 192) (a0 146 68).toNat x1) → (UP (a0 193) (a 193) (a0 146 68).toNat y2) → (∀ j, j < 36 * (a0 146 68).toNat → a 194 j = a0 194 j) → (∀ j : Nat, (j : Int) < y5 → a 194 (36 * (a0 146 68).toNat + j) = a 195 j) → 0 ≤ y5 → y5 ≤ 3 * y2 → jt (jxX E d 282 154 [some (.inr (.inr (.inl 146))), none, some (.inl y2), none, none, some (.inl y5)] [] (jxSH, a, b0)) (jQ_X12_rates x1 a0 b0) := by
    intro y2 y5 a hm hv hf hi0 hi1 hi2 hi3 hi4 hi5 hi6 hi7 hi8 hi9 hi10 hY hR hu192 hu193 hk4 hcp hi17 hi18
    refine jt_eq (bq_X12_rates_154 E d y2 y5 a b0) ?_
    have h774_ := iv_get hv (k := 146) (j := 68) (l := 0) (u := 10) rfl
    have h775_ := iv_get hv0 (k := 146) (j := 22) (l := 0) (u := 200) rfl
    have h776_ := iv_get hv0 (k := 146) (j := 68) (l := 0) (u := 10) rfl
    have h4 : a 164 = a0 164 := funext fun j => hf 164 j rfl
    have hix : (jxw ((jxw (36 * (a 146 68))) + y5)).toNat = 36 * (a0 146 68).toNat + y5.toNat := by omega
    have h777_ : jxw (3 * y2) = 3 * y2 := jxw_id (by omega) (by omega)
    refine jt_ite (fun c778_ => ?_) (fun c778_ => ?_)
    ·
      refine jt_grd (by omega) ?_
      have h779_ : jxw (36 * (a 146 68)) = 36 * (a 146 68) := jxw_id (by omega) (by omega)
      have h780_ : jxw ((jxw (36 * (a 146 68))) + y5) = (jxw (36 * (a 146 68))) + y5 := jxw_id (by omega) (by omega)
      refine jt_grd (by omega) ?_
      have h782_ := iv_get hv (k := 195) (j := y5.toNat) (l := 0) (u := 900) rfl
      have hv781_ : iv (jxu a 194 ((jxw ((jxw (36 * (a 146 68))) + y5)).toNat) (a 195 (y5.toNat))) := iv_put hv (l := 0) (u := 900) rfl (by omega) (by omega)
      have hf783_ : jfr jW_X12_rates a0 (jxu a 194 ((jxw ((jxw (36 * (a 146 68))) + y5)).toNat) (a 195 (y5.toNat))) := jfr_put hf rfl
      exact hc184 y2 y5 (jxu a 194 ((jxw ((jxw (36 * (a 146 68))) + y5)).toNat) (a 195 (y5.toNat))) (show (((36 - y5) * 1) + 0).toNat ≤ n from by omega) hv781_ hf783_ (show 0 ≤ y5 from by omega) (show y5 ≤ 35 from by omega) (show a 146 68 ≤ 9 from by omega) (show 0 ≤ y2 from by omega) (show y2 ≤ 12 from by omega) (show 0 ≤ y5 from by omega) (show y5 < 3 * y2 from by omega) (show a 146 68 ≤ 9 from by omega) (show 1 ≤ a0 146 22 from by omega) (show a 146 68 = a0 146 68 from by omega) (show a 146 68 ≤ 9 from by omega) (show a 146 68 = a0 146 68 from by omega) (by first | exact hY | exact ⟨(hC (by assumption)).1, (hC (by assumption)).2.1⟩) (by first | exact hR | exact (hC (by assumption)).2.2) (by first | exact hu192 | (rw [show (a0 146 68).toNat = (a 146 68).toNat from by omega, ← hy1]; exact UP_put hs192)) (by first | exact hu193 | (rw [show (a0 146 68).toNat = (a 146 68).toNat from by omega]; exact UP_put hs193)) (by first | exact hk4 | exact (fun j hj => by show (if j = (jxw ((jxw (36 * (a 146 68))) + y5)).toNat then a 195 (y5.toNat) else a 194 j) = _; rw [hix, if_neg (by omega)]; exact hk4 j hj)) (fun j hj => by show (if 36 * (a0 146 68).toNat + j = (jxw ((jxw (36 * (a 146 68))) + y5)).toNat then a 195 (y5.toNat) else a 194 (36 * (a0 146 68).toNat + j)) = a 195 j; rw [hix]; by_cases e : j = y5.toNat <;> first | (rw [if_pos (by omega), e]) | (rw [if_neg (by omega)]; exact hcp j (by omega)))
    ·
      have h785_ : jxw ((a 146 68) + 1) = (a 146 68) + 1 := jxw_id (by omega) (by omega)
      have hv784_ : iv (jxu a 146 68 (jxw ((a 146 68) + 1))) := iv_put hv (l := 0) (u := 10) rfl (by omega) (by omega)
      have hf786_ : jfr jW_X12_rates a0 (jxu a 146 68 (jxw ((a 146 68) + 1))) := jfr_put hf rfl
      have h787_ := iv_get hv (k := 146) (j := 22) (l := 0) (u := 200) rfl
      exact jt_rI ⟨hv784_, hf786_, rfl, (show ((a0 146 22 = 0 ∧ a0 146 68 = 0) → (((0 ≤ x1 ∧ x1 ≤ 1999) ∧ y2 = 0 - 3) ∨ ((x1 < 0 ∨ 1999 < x1) ∧ y2 = 0 - 1))) from by omega), (fun _ => ⟨hY.2, Or.inl ⟨hY.1, show jxw ((a 146 68) + 1) = _ from by omega⟩⟩), (fun _ => ⟨R194_of hR (fun j hj => hcp j (by omega)), hu192, hu193, hk4⟩), (fun h => absurd h (by have q := hY.1; omega)), (show (((x1 < 0 ∨ 1999 < x1) ∨ 9 < a0 146 68) → ((y2 = 0 - 1 ∧ jxw ((a 146 68) + 1) = a0 146 68) ∧ a 146 22 = a0 146 22)) from by omega), (show (((0 ≤ x1 ∧ x1 ≤ 1999) ∧ a0 146 68 ≤ 9) → a 146 22 = 0) from by omega)⟩
  exact ⟨hc184, hc154⟩
theorem cp_X12_rates_151 (E : jxE) (d : Nat) (hd : Nat.ble 4 (d + 1) = true) (x1 : Int) (a0 b0 : Nat → Nat → Int) (hv0 : iv a0) : ∀ (y2 : Int) (a : Nat → Nat → Int), iv a → jfr jW_X12_rates a0 a → a 146 68 ≤ 9 → 0 ≤ y2 → y2 ≤ 12 → a 146 68 ≤ 9 → 1 ≤ a0 146 22 → a 146 68 = a0 146 68 → a 146 68 ≤ 9 → a 146 68 = a0 146 68 → (1 ≤ y2 ∧ RTR (UB (a0 164)) (a0 146 22).toNat y2) → (R195 a (UB (a0 164)) (a0 146 22).toNat y2.toNat) → (UP (a0 192) (a 192) (a0 146 68).toNat x1) → (UP (a0 193) (a 193) (a0 146 68).toNat y2) → (∀ j, j < 36 * (a0 146 68).toNat → a 194 j = a0 194 j) → jt (jxX E d 282 151 [some (.inr (.inr (.inl 146))), none, some (.inl y2), none, none, none] [] (jxSH, a, b0)) (jQ_X12_rates x1 a0 b0) := by
  intro y2 a hv hf hi0 hi1 hi2 hi3 hi4 hi5 hi6 hi7 hY hR hu192 hu193 hk4
  refine jt_eq (bq_X12_rates_151 E d y2 a b0) ?_
  have h788_ := iv_get hv (k := 146) (j := 68) (l := 0) (u := 10) rfl
  have h789_ := iv_get hv0 (k := 146) (j := 22) (l := 0) (u := 200) rfl
  have h790_ := iv_get hv0 (k := 146) (j := 68) (l := 0) (u := 10) rfl
  have h4 : a 164 = a0 164 := funext fun j => hf 164 j rfl
  exact (cp_X12_rates_154 E d hd x1 a0 b0 hv0 _).2 y2 0 a (Nat.le_refl _) hv hf (show 0 ≤ 0 from by omega) (show 0 ≤ 36 from by omega) (show a 146 68 ≤ 9 from by omega) (show 0 ≤ y2 from by omega) (show y2 ≤ 12 from by omega) (show 0 ≤ 0 from by omega) (show a 146 68 ≤ 9 from by omega) (show 1 ≤ a0 146 22 from by omega) (show a 146 68 = a0 146 68 from by omega) (show a 146 68 ≤ 9 from by omega) (show a 146 68 = a0 146 68 from by omega) (by first | exact hY | exact ⟨(hC (by assumption)).1, (hC (by assumption)).2.1⟩) (by first | exact hR | exact (hC (by assumption)).2.2) (by first | exact hu192 | (rw [show (a0 146 68).toNat = (a 146 68).toNat from by omega, ← hy1]; exact UP_put hs192)) (by first | exact hu193 | (rw [show (a0 146 68).toNat = (a 146 68).toNat from by omega]; exact UP_put hs193)) (by first | exact hk4 | exact (fun j hj => by show (if j = (jxw ((jxw (36 * (a 146 68))) + y5)).toNat then a 195 (y5.toNat) else a 194 j) = _; rw [hix, if_neg (by omega)]; exact hk4 j hj)) (by first | exact (fun j hj => absurd hj (by omega)) | (rw [show jxw (y5 + 1) = y5 + 1 from by omega]; exact hcp)) (show 0 ≤ 0 from by omega) (show 0 ≤ 3 * y2 from by omega)
theorem cp_X12_rates_114 (E : jxE) (d : Nat) (hd : Nat.ble 4 (d + 1) = true) (x1 : Int) (a0 b0 : Nat → Nat → Int) (hv0 : iv a0) : ∀ (y1 y2 y3 : Int) (a : Nat → Nat → Int), iv a → jfr jW_X12_rates a0 a → 0 ≤ y1 → y1 ≤ 1999 → 0 ≤ y3 → y3 ≤ 1 → a 146 68 ≤ 9 → a 146 23 ≤ a 146 22 → 0 ≤ y2 → y2 ≤ 13 → (y3 = 1 → y2 ≤ 12) → 0 ≤ y3 → y3 ≤ 1 → a 146 22 = a0 146 22 → (0 ≤ x1 ∧ x1 ≤ 1999) → (a0 146 22 = 0 → (y3 = 0 ∧ a 146 24 = 1)) → a 146 68 = a0 146 68 → a 146 68 ≤ 9 → a 146 68 = a0 146 68 → (y1 = x1) → (∀ j, a 192 j = a0 192 j) → (∀ j, a 193 j = a0 193 j) → (∀ j, a 194 j = a0 194 j) → (y3 = 0 → RFX a0 a) → (¬ y3 = 0 → RFY a0 a y2) → jt (jxX E d 282 114 [some (.inr (.inr (.inl 146))), some (.inl y1), some (.inl y2), some (.inl y3), none, none] [] (jxSH, a, b0)) (jQ_X12_rates x1 a0 b0) := by
  intro y1 y2 y3 a hv hf hi0 hi1 hi2 hi3 hi4 hi5 hi6 hi7 hi8 hi9 hi10 hi11 hi12 hi13 hi14 hi15 hi16 hy1 hs192 hs193 hs194 hB hC
  refine jt_eq (bq_X12_rates_114 E d y1 y2 y3 a b0) ?_
  have h791_ := iv_get hv (k := 146) (j := 68) (l := 0) (u := 10) rfl
  have h792_ := iv_get hv (k := 146) (j := 23) (l := 0) (u := 200) rfl
  have h793_ := iv_get hv (k := 146) (j := 22) (l := 0) (u := 200) rfl
  have h794_ := iv_get hv0 (k := 146) (j := 22) (l := 0) (u := 200) rfl
  have h795_ := iv_get hv0 (k := 146) (j := 68) (l := 0) (u := 10) rfl
  have h4 : a 164 = a0 164 := funext fun j => hf 164 j rfl
  refine jt_ite (fun c796_ => ?_) (fun c796_ => ?_)
  ·
    have hv797_ : iv (jxu a 146 22 0) := iv_put hv (l := 0) (u := 200) rfl (by omega) (by omega)
    have hf798_ : jfr jW_X12_rates a0 (jxu a 146 22 0) := jfr_put hf rfl
    have h799_ := jxw_im ((-2) - (a 146 24))
    have h800_ := jxw_rg ((-2) - (a 146 24))
    exact jt_rI ⟨hv797_, hf798_, rfl, (show ((a0 146 22 = 0 ∧ a0 146 68 = 0) → (((0 ≤ x1 ∧ x1 ≤ 1999) ∧ jxw ((-2) - (a 146 24)) = 0 - 3) ∨ ((x1 < 0 ∨ 1999 < x1) ∧ jxw ((-2) - (a 146 24)) = 0 - 1))) from by omega), (fun _ => by have q := hB (by assumption); rw [show jxw ((-2) - (a 146 24)) = -2 - a 146 24 from (by have q1 := q.1; have q2 := RTR_bd q.2 (tr200 hv0); omega)]; exact ⟨q.2, Or.inr ⟨by have q1 := q.1; omega, by show a 146 68 = _; omega⟩⟩), (fun h => absurd h (by have q := hB (by assumption); have q1 := q.1; have q2 := RTR_bd q.2 (tr200 hv0); omega)), (fun _ j => ⟨hs192 j, hs193 j, hs194 j⟩), (show (((x1 < 0 ∨ 1999 < x1) ∨ 9 < a0 146 68) → ((jxw ((-2) - (a 146 24)) = 0 - 1 ∧ a 146 68 = a0 146 68) ∧ 0 = a0 146 22)) from by omega), (show (((0 ≤ x1 ∧ x1 ≤ 1999) ∧ a0 146 68 ≤ 9) → 0 = 0) from by omega)⟩
  ·
    refine jt_grd (by omega) ?_
    refine jt_grd (by omega) ?_
    have hv801_ : iv (jxu a 146 22 0) := iv_put hv (l := 0) (u := 200) rfl (by omega) (by omega)
    have hv802_ : iv (jxu (jxu a 146 22 0) 192 ((a 146 68).toNat) y1) := iv_putf hv801_ rfl
    have hv803_ : iv (jxu (jxu (jxu a 146 22 0) 192 ((a 146 68).toNat) y1) 193 ((a 146 68).toNat) y2) := iv_put hv802_ (l := 0) (u := 12) rfl (by omega) (by omega)
    have hf804_ : jfr jW_X12_rates a0 (jxu a 146 22 0) := jfr_put hf rfl
    have hf805_ : jfr jW_X12_rates a0 (jxu (jxu a 146 22 0) 192 ((a 146 68).toNat) y1) := jfr_put hf804_ rfl
    have hf806_ : jfr jW_X12_rates a0 (jxu (jxu (jxu a 146 22 0) 192 ((a 146 68).toNat) y1) 193 ((a 146 68).toNat) y2) := jfr_put hf805_ rfl
    exact cp_X12_rates_151 E d hd x1 a0 b0 hv0 y2 (jxu (jxu (jxu a 146 22 0) 192 ((a 146 68).toNat) y1) 193 ((a 146 68).toNat) y2) hv803_ hf806_ (show a 146 68 ≤ 9 from by omega) (show 0 ≤ y2 from by omega) (show y2 ≤ 12 from by omega) (show a 146 68 ≤ 9 from by omega) (show 1 ≤ a0 146 22 from by omega) (show a 146 68 = a0 146 68 from by omega) (show a 146 68 ≤ 9 from by omega) (show a 146 68 = a0 146 68 from by omega) (by first | exact hY | exact ⟨(hC (by assumption)).1, (hC (by assumption)).2.1⟩) (by first | exact hR | exact (hC (by assumption)).2.2) (by first | exact hu192 | (rw [show (a0 146 68).toNat = (a 146 68).toNat from by omega, ← hy1]; exact UP_put hs192)) (by first | exact hu193 | (rw [show (a0 146 68).toNat = (a 146 68).toNat from by omega]; exact UP_put hs193)) (fun j _ => hs194 j)
theorem cp_X12_rates_35 (E : jxE) (d : Nat) (hd : Nat.ble 4 (d + 1) = true) (x1 : Int) (a0 b0 : Nat → Nat → Int) (hv0 : iv a0) : ∀ n : Nat, (∀ (y1 y2 y3 y4 : Int) (a : Nat → Nat → Int), (((((a 146 22) - (a 146 23)) + (2 * y3)) + y4) + 1).toNat ≤ n → iv a → jfr jW_X12_rates a0 a → 0 ≤ y1 → y1 ≤ 1999 → 0 ≤ y3 → y3 ≤ 1 → 0 ≤ y4 → y4 ≤ 1 → a 146 68 ≤ 9 → a 146 23 ≤ a 146 22 → 0 ≤ y2 → y2 ≤ 13 → (y3 = 1 → y2 ≤ 12) → 0 ≤ y3 → 0 ≤ y4 → y3 ≤ 1 → y4 ≤ 1 → (y4 = 1 → a 146 23 < a 146 22) → a 146 22 = a0 146 22 → (0 ≤ x1 ∧ x1 ≤ 1999) → (a0 146 22 = 0 → (y3 = 0 ∧ a 146 24 = 1)) → a 146 68 = a0 146 68 → a 146 68 ≤ 9 → a 146 68 = a0 146 68 → (y1 = x1) → (∀ j, a 192 j = a0 192 j) → (∀ j, a 193 j = a0 193 j) → (∀ j, a 194 j = a0 194 j) → (y3 = 0 → RFX a0 a) → (¬ y3 = 0 → y4 = 0 → RFY a0 a y2) → (¬ y3 = 0 → ¬ y4 = 0 → RFL a0 (jxu a 146 23 (jxw ((a 146 23) + 1))) y2.toNat) → jt (jxX E d 282 96 [some (.inr (.inr (.inl 146))), some (.inl y1), some (.inl y2), some (.inl y3), some (.inl y4), none] [] (jxSH, a, b0)) (jQ_X12_rates x1 a0 b0)) ∧ (∀ (y1 y2 y3 s0 : Int) (a : Nat → Nat → Int), (((((a 146 22) - (a 146 23)) + (2 * y3)) + s0) + 1).toNat ≤ n → iv a → jfr jW_X12_rates a0 a → 0 ≤ y1 → y1 ≤ 1999 → 0 ≤ y3 → y3 ≤ 1 → 0 ≤ s0 → s0 ≤ 1 → a 146 68 ≤ 9 → a 146 23 ≤ a 146 22 → 0 ≤ y2 → y2 ≤ 13 → (y3 = 1 → y2 ≤ 12) → 0 ≤ y3 → 0 ≤ s0 → y3 ≤ 1 → s0 ≤ 1 → (s0 = 1 → (a 146 23 < a 146 22 ∧ ¬ a 164 ((a 146 23).toNat) = 32)) → a 146 22 = a0 146 22 → (0 ≤ x1 ∧ x1 ≤ 1999) → (a0 146 22 = 0 → (y3 = 0 ∧ a 146 24 = 1)) → a 146 68 = a0 146 68 → a 146 68 ≤ 9 → a 146 68 = a0 146 68 → (y1 = x1) → (∀ j, a 192 j = a0 192 j) → (∀ j, a 193 j = a0 193 j) → (∀ j, a 194 j = a0 194 j) → (s0 = 0 → y3 = 0 → RFX a0 a) → (s0 = 0 → ¬ y3 = 0 → RFY a0 a y2) → (¬ s0 = 0 → ¬ y3 = 0 ∧ 1 ≤ y2 ∧ RFM a0 a (y2 - 1).toNat) → jt (jxX E d 282 70 [some (.inr (.inr (.inl 146))), some (.inl y1), some (.inl y2), some (.inl y3), none, none] [.inl s0] (jxSH, a, b0)) (jQ_X12_rates x1 a0 b0)) ∧ (∀ (y1 y2 y3 : Int) (a : Nat → Nat → Int), ((((a 146 22) - (a 146 23)) + (2 * y3)) + 2).toNat ≤ n → iv a → jfr jW_X12_rates a0 a → 0 ≤ y1 → y1 ≤ 1999 → 1 ≤ y3 → y3 ≤ 1 → a 146 68 ≤ 9 → a 146 23 ≤ a 146 22 → 0 ≤ y2 → y2 ≤ 13 → (y3 = 1 → y2 ≤ 12) → 0 ≤ y3 → y3 ≤ 1 → a 146 23 < a 146 22 → ¬ a 164 ((a 146 23).toNat) = 32 → a 146 22 = a0 146 22 → (0 ≤ x1 ∧ x1 ≤ 1999) → 1 ≤ a0 146 22 → a 146 68 = a0 146 68 → a 146 68 ≤ 9 → a 146 68 = a0 146 68 → (y1 = x1) → (∀ j, a 192 j = a0 192 j) → (∀ j, a 193 j = a0 193 j) → (∀ j, a 194 j = a0 194 j) → (RFM a0 a (y2 - 1).toNat) → 1 ≤ y2 → 1 ≤ y3 → jt (jxX E d 282 65 [some (.inr (.inr (.inl 146))), some (.inl y1), some (.inl y2), some (.inl y3), none, none] [] (jxSH, a, b0)) (jQ_X12_rates x1 a0 b0)) ∧ (∀ (y1 y2 y3 : Int) (a : Nat → Nat → Int), ((((a 146 22) - (a 146 23)) + (2 * y3)) + 1).toNat ≤ n → iv a → jfr jW_X12_rates a0 a → 0 ≤ y1 → y1 ≤ 1999 → 0 ≤ y3 → y3 ≤ 1 → a 146 68 ≤ 9 → a 146 23 ≤ a 146 22 → 0 ≤ y2 → y2 ≤ 13 → (y3 = 1 → y2 ≤ 12) → 0 ≤ y3 → y3 ≤ 1 → a 146 22 = a0 146 22 → (0 ≤ x1 ∧ x1 ≤ 1999) → (a0 146 22 = 0 → (y3 = 0 ∧ a 146 24 = 1)) → a 146 68 = a0 146 68 → a 146 68 ≤ 9 → a 146 68 = a0 146 68 → (y1 = x1) → (∀ j, a 192 j = a0 192 j) → (∀ j, a 193 j = a0 193 j) → (∀ j, a 194 j = a0 194 j) → (y3 = 0 → RFX a0 a) → (¬ y3 = 0 → RFY a0 a y2) → jt (jxX E d 282 69 [some (.inr (.inr (.inl 146))), some (.inl y1), some (.inl y2), some (.inl y3), none, none] [] (jxSH, a, b0)) (jQ_X12_rates x1 a0 b0)) ∧ (∀ (y1 y2 y3 y4 : Int) (a : Nat → Nat → Int), ((((a 146 22) - (a 146 23)) + y3) + y4).toNat ≤ n → iv a → jfr jW_X12_rates a0 a → 0 ≤ y1 → y1 ≤ 1999 → 0 ≤ y3 → y3 ≤ 1 → 0 ≤ y4 → y4 ≤ 1 → a 146 68 ≤ 9 → a 146 23 ≤ a 146 22 → 0 ≤ y2 → y2 ≤ 13 → (y3 = 1 → y2 ≤ 12) → 0 ≤ y3 → 0 ≤ y4 → y3 ≤ 1 → y4 ≤ 1 → a 146 22 = a0 146 22 → (0 ≤ x1 ∧ x1 ≤ 1999) → (a0 146 22 = 0 → (((a 146 24 = 0 ∧ ¬ y3 = 0) ∧ ¬ y4 = 0) ∨ (y3 = 0 ∧ a 146 24 = 1))) → a 146 68 = a0 146 68 → a 146 68 ≤ 9 → a 146 68 = a0 146 68 → (y1 = x1) → (∀ j, a 192 j = a0 192 j) → (∀ j, a 193 j = a0 193 j) → (∀ j, a 194 j = a0 194 j) → (¬ y3 = 0 → ¬ y4 = 0 → RFL a0 a y2.toNat) → (y3 = 0 → RFX a0 a) → (¬ y3 = 0 → y4 = 0 → RFY a0 a y2) → jt (jxX E d 282 35 [some (.inr (.inr (.inl 146))), some (.inl y1), some (.inl y2), some (.inl y3), some (.inl y4), none] [] (jxSH, a, b0)) (jQ_X12_rates x1 a0 b0)) := by
  refine jx_ind fun n ih => ?_
  have ih96 : ∀ (y1 y2 y3 y4 : Int) (a : Nat → Nat → Int), (((((a 146 22) - (a 146 23)) + (2 * y3)) + y4) + 1).toNat < n → iv a → jfr jW_X12_rates a0 a → 0 ≤ y1 → y1 ≤ 1999 → 0 ≤ y3 → y3 ≤ 1 → 0 ≤ y4 → y4 ≤ 1 → a 146 68 ≤ 9 → a 146 23 ≤ a 146 22 → 0 ≤ y2 → y2 ≤ 13 → (y3 = 1 → y2 ≤ 12) → 0 ≤ y3 → 0 ≤ y4 → y3 ≤ 1 → y4 ≤ 1 → (y4 = 1 → a 146 23 < a 146 22) → a 146 22 = a0 146 22 → (0 ≤ x1 ∧ x1 ≤ 1999) → (a0 146 22 = 0 → (y3 = 0 ∧ a 146 24 = 1)) → a 146 68 = a0 146 68 → a 146 68 ≤ 9 → a 146 68 = a0 146 68 → (y1 = x1) → (∀ j, a 192 j = a0 192 j) → (∀ j, a 193 j = a0 193 j) → (∀ j, a 194 j = a0 194 j) → (y3 = 0 → RFX a0 a) → (¬ y3 = 0 → y4 = 0 → RFY a0 a y2) → (¬ y3 = 0 → ¬ y4 = 0 → RFL a0 (jxu a 146 23 (jxw ((a 146 23) + 1))) y2.toNat) → jt (jxX E d 282 96 [some (.inr (.inr (.inl 146))), some (.inl y1), some (.inl y2), some (.inl y3), some (.inl y4), none] [] (jxSH, a, b0)) (jQ_X12_rates x1 a0 b0) := fun y1 y2 y3 y4 a hlt i0 i1 i2 i3 i4 i5 i6 i7 i8 i9 i10 i11 i12 i13 i14 i15 i16 i17 i18 i19 i20 i21 i22 i23 i24 i25 i26 i27 i28 i29 i30 => (ih _ hlt).1 y1 y2 y3 y4 a (Nat.le_refl _) i0 i1 i2 i3 i4 i5 i6 i7 i8 i9 i10 i11 i12 i13 i14 i15 i16 i17 i18 i19 i20 i21 i22 i23 i24 i25 i26 i27 i28 i29 i30
  have ih70 : ∀ (y1 y2 y3 s0 : Int) (a : Nat → Nat → Int), (((((a 146 22) - (a 146 23)) + (2 * y3)) + s0) + 1).toNat < n → iv a → jfr jW_X12_rates a0 a → 0 ≤ y1 → y1 ≤ 1999 → 0 ≤ y3 → y3 ≤ 1 → 0 ≤ s0 → s0 ≤ 1 → a 146 68 ≤ 9 → a 146 23 ≤ a 146 22 → 0 ≤ y2 → y2 ≤ 13 → (y3 = 1 → y2 ≤ 12) → 0 ≤ y3 → 0 ≤ s0 → y3 ≤ 1 → s0 ≤ 1 → (s0 = 1 → (a 146 23 < a 146 22 ∧ ¬ a 164 ((a 146 23).toNat) = 32)) → a 146 22 = a0 146 22 → (0 ≤ x1 ∧ x1 ≤ 1999) → (a0 146 22 = 0 → (y3 = 0 ∧ a 146 24 = 1)) → a 146 68 = a0 146 68 → a 146 68 ≤ 9 → a 146 68 = a0 146 68 → (y1 = x1) → (∀ j, a 192 j = a0 192 j) → (∀ j, a 193 j = a0 193 j) → (∀ j, a 194 j = a0 194 j) → (s0 = 0 → y3 = 0 → RFX a0 a) → (s0 = 0 → ¬ y3 = 0 → RFY a0 a y2) → (¬ s0 = 0 → ¬ y3 = 0 ∧ 1 ≤ y2 ∧ RFM a0 a (y2 - 1).toNat) → jt (jxX E d 282 70 [some (.inr (.inr (.inl 146))), some (.inl y1), some (.inl y2), some (.inl y3), none, none] [.inl s0] (jxSH, a, b0)) (jQ_X12_rates x1 a0 b0) := fun y1 y2 y3 s0 a hlt i0 i1 i2 i3 i4 i5 i6 i7 i8 i9 i10 i11 i12 i13 i14 i15 i16 i17 i18 i19 i20 i21 i22 i23 i24 i25 i26 i27 i28 i29 i30 => (ih _ hlt).2.1 y1 y2 y3 s0 a (Nat.le_refl _) i0 i1 i2 i3 i4 i5 i6 i7 i8 i9 i10 i11 i12 i13 i14 i15 i16 i17 i18 i19 i20 i21 i22 i23 i24 i25 i26 i27 i28 i29 i30
  have ih65 : ∀ (y1 y2 y3 : Int) (a : Nat → Nat → Int), ((((a 146 22) - (a 146 23)) + (2 * y3)) + 2).toNat < n → iv a → jfr jW_X12_rates a0 a → 0 ≤ y1 → y1 ≤ 1999 → 1 ≤ y3 → y3 ≤ 1 → a 146 68 ≤ 9 → a 146 23 ≤ a 146 22 → 0 ≤ y2 → y2 ≤ 13 → (y3 = 1 → y2 ≤ 12) → 0 ≤ y3 → y3 ≤ 1 → a 146 23 < a 146 22 → ¬ a 164 ((a 146 23).toNat) = 32 → a 146 22 = a0 146 22 → (0 ≤ x1 ∧ x1 ≤ 1999) → 1 ≤ a0 146 22 → a 146 68 = a0 146 68 → a 146 68 ≤ 9 → a 146 68 = a0 146 68 → (y1 = x1) → (∀ j, a 192 j = a0 192 j) → (∀ j, a 193 j = a0 193 j) → (∀ j, a 194 j = a0 194 j) → (RFM a0 a (y2 - 1).toNat) → 1 ≤ y2 → 1 ≤ y3 → jt (jxX E d 282 65 [some (.inr (.inr (.inl 146))), some (.inl y1), some (.inl y2), some (.inl y3), none, none] [] (jxSH, a, b0)) (jQ_X12_rates x1 a0 b0) := fun y1 y2 y3 a hlt i0 i1 i2 i3 i4 i5 i6 i7 i8 i9 i10 i11 i12 i13 i14 i15 i16 i17 i18 i19 i20 i21 i22 i23 i24 i25 i26 i27 => (ih _ hlt).2.2.1 y1 y2 y3 a (Nat.le_refl _) i0 i1 i2 i3 i4 i5 i6 i7 i8 i9 i10 i11 i12 i13 i14 i15 i16 i17 i18 i19 i20 i21 i22 i23 i24 i25 i26 i27
  have ih69 : ∀ (y1 y2 y3 : Int) (a : Nat → Nat → Int), ((((a 146 22) - (a 146 23)) + (2 * y3)) + 1).toNat < n → iv a → jfr jW_X12_rates a0 a → 0 ≤ y1 → y1 ≤ 1999 → 0 ≤ y3 → y3 ≤ 1 → a 146 68 ≤ 9 → a 146 23 ≤ a 146 22 → 0 ≤ y2 → y2 ≤ 13 → (y3 = 1 → y2 ≤ 12) → 0 ≤ y3 → y3 ≤ 1 → a 146 22 = a0 146 22 → (0 ≤ x1 ∧ x1 ≤ 1999) → (a0 146 22 = 0 → (y3 = 0 ∧ a 146 24 = 1)) → a 146 68 = a0 146 68 → a 146 68 ≤ 9 → a 146 68 = a0 146 68 → (y1 = x1) → (∀ j, a 192 j = a0 192 j) → (∀ j, a 193 j = a0 193 j) → (∀ j, a 194 j = a0 194 j) → (y3 = 0 → RFX a0 a) → (¬ y3 = 0 → RFY a0 a y2) → jt (jxX E d 282 69 [some (.inr (.inr (.inl 146))), some (.inl y1), some (.inl y2), some (.inl y3), none, none] [] (jxSH, a, b0)) (jQ_X12_rates x1 a0 b0) := fun y1 y2 y3 a hlt i0 i1 i2 i3 i4 i5 i6 i7 i8 i9 i10 i11 i12 i13 i14 i15 i16 i17 i18 i19 i20 i21 i22 i23 i24 => (ih _ hlt).2.2.2.1 y1 y2 y3 a (Nat.le_refl _) i0 i1 i2 i3 i4 i5 i6 i7 i8 i9 i10 i11 i12 i13 i14 i15 i16 i17 i18 i19 i20 i21 i22 i23 i24
  have ih35 : ∀ (y1 y2 y3 y4 : Int) (a : Nat → Nat → Int), ((((a 146 22) - (a 146 23)) + y3) + y4).toNat < n → iv a → jfr jW_X12_rates a0 a → 0 ≤ y1 → y1 ≤ 1999 → 0 ≤ y3 → y3 ≤ 1 → 0 ≤ y4 → y4 ≤ 1 → a 146 68 ≤ 9 → a 146 23 ≤ a 146 22 → 0 ≤ y2 → y2 ≤ 13 → (y3 = 1 → y2 ≤ 12) → 0 ≤ y3 → 0 ≤ y4 → y3 ≤ 1 → y4 ≤ 1 → a 146 22 = a0 146 22 → (0 ≤ x1 ∧ x1 ≤ 1999) → (a0 146 22 = 0 → (((a 146 24 = 0 ∧ ¬ y3 = 0) ∧ ¬ y4 = 0) ∨ (y3 = 0 ∧ a 146 24 = 1))) → a 146 68 = a0 146 68 → a 146 68 ≤ 9 → a 146 68 = a0 146 68 → (y1 = x1) → (∀ j, a 192 j = a0 192 j) → (∀ j, a 193 j = a0 193 j) → (∀ j, a 194 j = a0 194 j) → (¬ y3 = 0 → ¬ y4 = 0 → RFL a0 a y2.toNat) → (y3 = 0 → RFX a0 a) → (¬ y3 = 0 → y4 = 0 → RFY a0 a y2) → jt (jxX E d 282 35 [some (.inr (.inr (.inl 146))), some (.inl y1), some (.inl y2), some (.inl y3), some (.inl y4), none] [] (jxSH, a, b0)) (jQ_X12_rates x1 a0 b0) := fun y1 y2 y3 y4 a hlt i0 i1 i2 i3 i4 i5 i6 i7 i8 i9 i10 i11 i12 i13 i14 i15 i16 i17 i18 i19 i20 i21 i22 i23 i24 i25 i26 i27 i28 i29 => (ih _ hlt).2.2.2.2 y1 y2 y3 y4 a (Nat.le_refl _) i0 i1 i2 i3 i4 i5 i6 i7 i8 i9 i10 i11 i12 i13 i14 i15 i16 i17 i18 i19 i20 i21 i22 i23 i24 i25 i26 i27 i28 i29
  have hc96 : ∀ (y1 y2 y3 y4 : Int) (a : Nat → Nat → Int), (((((a 146 22) - (a 146 23)) + (2 * y3)) + y4) + 1).toNat ≤ n → iv a → jfr jW_X12_rates a0 a → 0 ≤ y1 → y1 ≤ 1999 → 0 ≤ y3 → y3 ≤ 1 → 0 ≤ y4 → y4 ≤ 1 → a 146 68 ≤ 9 → a 146 23 ≤ a 146 22 → 0 ≤ y2 → y2 ≤ 13 → (y3 = 1 → y2 ≤ 12) → 0 ≤ y3 → 0 ≤ y4 → y3 ≤ 1 → y4 ≤ 1 → (y4 = 1 → a 146 23 < a 146 22) → a 146 22 = a0 146 22 → (0 ≤ x1 ∧ x1 ≤ 1999) → (a0 146 22 = 0 → (y3 = 0 ∧ a 146 24 = 1)) → a 146 68 = a0 146 68 → a 146 68 ≤ 9 → a 146 68 = a0 146 68 → (y1 = x1) → (∀ j, a 192 j = a0 192 j) → (∀ j, a 193 j = a0 193 j) → (∀ j, a 194 j = a0 194 j) → (y3 = 0 → RFX a0 a) → (¬ y3 = 0 → y4 = 0 → RFY a0 a y2) → (¬ y3 = 0 → ¬ y4 = 0 → RFL a0 (jxu a 146 23 (jxw ((a 146 23) + 1))) y2.toNat) → jt (jxX E d 282 96 [some (.inr (.inr (.inl 146))), some (.inl y1), some (.inl y2), some (.inl y3), some (.inl y4), none] [] (jxSH, a, b0)) (jQ_X12_rates x1 a0 b0) := by
    intro y1 y2 y3 y4 a hm hv hf hi0 hi1 hi2 hi3 hi4 hi5 hi6 hi7 hi8 hi9 hi10 hi11 hi12 hi13 hi14 hi15 hi16 hi17 hi18 hi19 hi20 hi21 hy1 hs192 hs193 hs194 hB hC hN
    refine jt_eq (bq_X12_rates_96 E d y1 y2 y3 y4 a b0) ?_
    have h807_ := iv_get hv (k := 146) (j := 68) (l := 0) (u := 10) rfl
    have h808_ := iv_get hv (k := 146) (j := 23) (l := 0) (u := 200) rfl
    have h809_ := iv_get hv (k := 146) (j := 22) (l := 0) (u := 200) rfl
    have h810_ := iv_get hv0 (k := 146) (j := 22) (l := 0) (u := 200) rfl
    have h811_ := iv_get hv0 (k := 146) (j := 68) (l := 0) (u := 10) rfl
    have h4 : a 164 = a0 164 := funext fun j => hf 164 j rfl
    refine jt_ite (fun c812_ => ?_) (fun c812_ => ?_)
    ·
      exact ih35 y1 y2 y3 y4 a (show ((((a 146 22) - (a 146 23)) + y3) + y4).toNat < n from by omega) hv hf (show 0 ≤ y1 from by omega) (show y1 ≤ 1999 from by omega) (show 0 ≤ y3 from by omega) (show y3 ≤ 1 from by omega) (show 0 ≤ y4 from by omega) (show y4 ≤ 1 from by omega) (show a 146 68 ≤ 9 from by omega) (show a 146 23 ≤ a 146 22 from by omega) (show 0 ≤ y2 from by omega) (show y2 ≤ 13 from by omega) (show (y3 = 1 → y2 ≤ 12) from by omega) (show 0 ≤ y3 from by omega) (show 0 ≤ y4 from by omega) (show y3 ≤ 1 from by omega) (show y4 ≤ 1 from by omega) (show a 146 22 = a0 146 22 from by omega) (show (0 ≤ x1 ∧ x1 ≤ 1999) from by omega) (show (a0 146 22 = 0 → (((a 146 24 = 0 ∧ ¬ y3 = 0) ∧ ¬ y4 = 0) ∨ (y3 = 0 ∧ a 146 24 = 1))) from by omega) (show a 146 68 = a0 146 68 from by omega) (show a 146 68 ≤ 9 from by omega) (show a 146 68 = a0 146 68 from by omega) (by first | rfl | assumption) (fun j => (rfl).trans (hs192 j)) (fun j => (rfl).trans (hs193 j)) (fun j => (rfl).trans (hs194 j)) (by first | exact (fun _ _ => ⟨by omega, by rw [show (a 146 23).toNat = 0 from by omega]; rfl, fun k hk => absurd hk (by omega), fun k hk => absurd hk (by omega)⟩) | exact (fun h1 h2 => absurd (by omega : False) id) | exact (fun h1 h2 => hN h1 h2)) (by first | exact hB | exact (fun h => absurd h (by omega))) (by first | exact (fun _ h => absurd h (by omega)) | exact (fun h _ => hC h (by assumption)) | exact (fun h1 h2 => absurd h2 (by assumption)))
    ·
      have h814_ : jxw ((a 146 23) + 1) = (a 146 23) + 1 := jxw_id (by omega) (by omega)
      have hv813_ : iv (jxu a 146 23 (jxw ((a 146 23) + 1))) := iv_put hv (l := 0) (u := 200) rfl (by omega) (by omega)
      have hf815_ : jfr jW_X12_rates a0 (jxu a 146 23 (jxw ((a 146 23) + 1))) := jfr_put hf rfl
      exact ih35 y1 y2 y3 y4 (jxu a 146 23 (jxw ((a 146 23) + 1))) (show ((((a 146 22) - (jxw ((a 146 23) + 1))) + y3) + y4).toNat < n from by omega) hv813_ hf815_ (show 0 ≤ y1 from by omega) (show y1 ≤ 1999 from by omega) (show 0 ≤ y3 from by omega) (show y3 ≤ 1 from by omega) (show 0 ≤ y4 from by omega) (show y4 ≤ 1 from by omega) (show a 146 68 ≤ 9 from by omega) (show jxw ((a 146 23) + 1) ≤ a 146 22 from by omega) (show 0 ≤ y2 from by omega) (show y2 ≤ 13 from by omega) (show (y3 = 1 → y2 ≤ 12) from by omega) (show 0 ≤ y3 from by omega) (show 0 ≤ y4 from by omega) (show y3 ≤ 1 from by omega) (show y4 ≤ 1 from by omega) (show a 146 22 = a0 146 22 from by omega) (show (0 ≤ x1 ∧ x1 ≤ 1999) from by omega) (show (a0 146 22 = 0 → (((a 146 24 = 0 ∧ ¬ y3 = 0) ∧ ¬ y4 = 0) ∨ (y3 = 0 ∧ a 146 24 = 1))) from by omega) (show a 146 68 = a0 146 68 from by omega) (show a 146 68 ≤ 9 from by omega) (show a 146 68 = a0 146 68 from by omega) (by first | rfl | assumption) (fun j => (rfl).trans (hs192 j)) (fun j => (rfl).trans (hs193 j)) (fun j => (rfl).trans (hs194 j)) (by first | exact (fun _ _ => ⟨by omega, by rw [show (a 146 23).toNat = 0 from by omega]; rfl, fun k hk => absurd hk (by omega), fun k hk => absurd hk (by omega)⟩) | exact (fun h1 h2 => absurd (by omega : False) id) | exact (fun h1 h2 => hN h1 h2)) (by first | exact hB | exact (fun h => absurd h (by omega))) (by first | exact (fun _ h => absurd h (by omega)) | exact (fun h _ => hC h (by assumption)) | exact (fun h1 h2 => absurd h2 (by assumption)))
  have hc70 : ∀ (y1 y2 y3 s0 : Int) (a : Nat → Nat → Int), (((((a 146 22) - (a 146 23)) + (2 * y3)) + s0) + 1).toNat ≤ n → iv a → jfr jW_X12_rates a0 a → 0 ≤ y1 → y1 ≤ 1999 → 0 ≤ y3 → y3 ≤ 1 → 0 ≤ s0 → s0 ≤ 1 → a 146 68 ≤ 9 → a 146 23 ≤ a 146 22 → 0 ≤ y2 → y2 ≤ 13 → (y3 = 1 → y2 ≤ 12) → 0 ≤ y3 → 0 ≤ s0 → y3 ≤ 1 → s0 ≤ 1 → (s0 = 1 → (a 146 23 < a 146 22 ∧ ¬ a 164 ((a 146 23).toNat) = 32)) → a 146 22 = a0 146 22 → (0 ≤ x1 ∧ x1 ≤ 1999) → (a0 146 22 = 0 → (y3 = 0 ∧ a 146 24 = 1)) → a 146 68 = a0 146 68 → a 146 68 ≤ 9 → a 146 68 = a0 146 68 → (y1 = x1) → (∀ j, a 192 j = a0 192 j) → (∀ j, a 193 j = a0 193 j) → (∀ j, a 194 j = a0 194 j) → (s0 = 0 → y3 = 0 → RFX a0 a) → (s0 = 0 → ¬ y3 = 0 → RFY a0 a y2) → (¬ s0 = 0 → ¬ y3 = 0 ∧ 1 ≤ y2 ∧ RFM a0 a (y2 - 1).toNat) → jt (jxX E d 282 70 [some (.inr (.inr (.inl 146))), some (.inl y1), some (.inl y2), some (.inl y3), none, none] [.inl s0] (jxSH, a, b0)) (jQ_X12_rates x1 a0 b0) := by
    intro y1 y2 y3 s0 a hm hv hf hi0 hi1 hi2 hi3 hi4 hi5 hi6 hi7 hi8 hi9 hi10 hi11 hi12 hi13 hi14 hi15 hi16 hi17 hi18 hi19 hi20 hi21 hy1 hs192 hs193 hs194 hB hC hM
    refine jt_eq (bq_X12_rates_70 E d y1 y2 y3 s0 a b0) ?_
    have h816_ := iv_get hv (k := 146) (j := 68) (l := 0) (u := 10) rfl
    have h817_ := iv_get hv (k := 146) (j := 23) (l := 0) (u := 200) rfl
    have h818_ := iv_get hv (k := 146) (j := 22) (l := 0) (u := 200) rfl
    have h819_ := iv_get hv (k := 164) (j := (a 146 23).toNat) (l := (-128)) (u := 127) rfl
    have h820_ : a 164 ((a 146 23).toNat) = a0 164 ((a 146 23).toNat) := hf 164 ((a 146 23).toNat) rfl
    have h821_ := iv_get hv0 (k := 164) (j := (a 146 23).toNat) (l := (-128)) (u := 127) rfl
    have h822_ := iv_get hv0 (k := 146) (j := 22) (l := 0) (u := 200) rfl
    have h823_ := iv_get hv0 (k := 146) (j := 68) (l := 0) (u := 10) rfl
    have h4 : a 164 = a0 164 := funext fun j => hf 164 j rfl
    refine jt_ite (fun c824_ => ?_) (fun c824_ => ?_)
    ·
      exact hc96 y1 y2 y3 s0 a (show (((((a 146 22) - (a 146 23)) + (2 * y3)) + s0) + 1).toNat ≤ n from by omega) hv hf (show 0 ≤ y1 from by omega) (show y1 ≤ 1999 from by omega) (show 0 ≤ y3 from by omega) (show y3 ≤ 1 from by omega) (show 0 ≤ s0 from by omega) (show s0 ≤ 1 from by omega) (show a 146 68 ≤ 9 from by omega) (show a 146 23 ≤ a 146 22 from by omega) (show 0 ≤ y2 from by omega) (show y2 ≤ 13 from by omega) (show (y3 = 1 → y2 ≤ 12) from by omega) (show 0 ≤ y3 from by omega) (show 0 ≤ s0 from by omega) (show y3 ≤ 1 from by omega) (show s0 ≤ 1 from by omega) (show (s0 = 1 → a 146 23 < a 146 22) from by omega) (show a 146 22 = a0 146 22 from by omega) (show (0 ≤ x1 ∧ x1 ≤ 1999) from by omega) (show (a0 146 22 = 0 → (y3 = 0 ∧ a 146 24 = 1)) from by omega) (show a 146 68 = a0 146 68 from by omega) (show a 146 68 ≤ 9 from by omega) (show a 146 68 = a0 146 68 from by omega) (by first | rfl | assumption) (fun j => (rfl).trans (hs192 j)) (fun j => (rfl).trans (hs193 j)) (fun j => (rfl).trans (hs194 j)) (hB (by assumption)) (by first | exact (fun h _ => hC (by assumption) h) | exact (fun _ h => absurd h (by assumption))) (by first | exact (fun _ h => absurd (by assumption) h) | exact (fun h => absurd (by omega) h))
    ·
      refine jt_bI (sp_X12_see E d (jd_le hd rfl) a b0 hv (show a 146 23 ≤ a 146 22 from by omega)) (fun r825_ a825_ b825_ h825_ => ?_)
      obtain ⟨hv825_, hf825_, rfl, hq825_0, hq825_1, hq825_2, hq825_3, hq825_4, hq825_5⟩ := h825_
      have h826_ := iv_get hv825_ (k := 146) (j := 23) (l := 0) (u := 200) rfl
      have h827_ := iv_get hv825_ (k := 164) (j := (a825_ 146 23).toNat) (l := (-128)) (u := 127) rfl
      have h828_ : a825_ 164 ((a825_ 146 23).toNat) = a 164 ((a825_ 146 23).toNat) := hf825_ 164 ((a825_ 146 23).toNat) rfl
      have h829_ := iv_get hv (k := 164) (j := (a825_ 146 23).toNat) (l := (-128)) (u := 127) rfl
      have h830_ : a 164 ((a825_ 146 23).toNat) = a0 164 ((a825_ 146 23).toNat) := hf 164 ((a825_ 146 23).toNat) rfl
      have h831_ := iv_get hv0 (k := 164) (j := (a825_ 146 23).toNat) (l := (-128)) (u := 127) rfl
      refine jt_ite (fun c832_ => ?_) (fun c832_ => ?_)
      ·
        have hf833_ : jfr jW_X12_rates a0 a825_ := jfr_tr hf hf825_ rfl
        have h834_ := iv_get hv825_ (k := 146) (j := 68) (l := 0) (u := 10) rfl
        have h835_ : a825_ 146 68 = a 146 68 := hf825_ 146 68 rfl
        have h836_ := iv_get hv825_ (k := 146) (j := 22) (l := 0) (u := 200) rfl
        have h837_ : a825_ 146 22 = a 146 22 := hf825_ 146 22 rfl
        have h838_ : a825_ 146 24 = a 146 24 := hf825_ 146 24 rfl
        exact hc96 y1 y2 y3 s0 a825_ (show (((((a825_ 146 22) - (a825_ 146 23)) + (2 * y3)) + s0) + 1).toNat ≤ n from by omega) hv825_ hf833_ (show 0 ≤ y1 from by omega) (show y1 ≤ 1999 from by omega) (show 0 ≤ y3 from by omega) (show y3 ≤ 1 from by omega) (show 0 ≤ s0 from by omega) (show s0 ≤ 1 from by omega) (show a825_ 146 68 ≤ 9 from by omega) (show a825_ 146 23 ≤ a825_ 146 22 from by omega) (show 0 ≤ y2 from by omega) (show y2 ≤ 13 from by omega) (show (y3 = 1 → y2 ≤ 12) from by omega) (show 0 ≤ y3 from by omega) (show 0 ≤ s0 from by omega) (show y3 ≤ 1 from by omega) (show s0 ≤ 1 from by omega) (show (s0 = 1 → a825_ 146 23 < a825_ 146 22) from by omega) (show a825_ 146 22 = a0 146 22 from by omega) (show (0 ≤ x1 ∧ x1 ≤ 1999) from by omega) (show (a0 146 22 = 0 → (y3 = 0 ∧ a825_ 146 24 = 1)) from by omega) (show a825_ 146 68 = a0 146 68 from by omega) (show a825_ 146 68 ≤ 9 from by omega) (show a825_ 146 68 = a0 146 68 from by omega) (by first | rfl | assumption) (fun j => ((hf825_ 192 j rfl)).trans (hs192 j)) (fun j => ((hf825_ 193 j rfl)).trans (hs193 j)) (fun j => ((hf825_ 194 j rfl)).trans (hs194 j)) (fun h => absurd h (hM (by assumption)).1) (by first | exact (fun h _ => hC (by assumption) h) | exact (fun _ h => absurd h (by assumption))) (fun _ _ => by have e4 : a 164 = a0 164 := h4; have e := hq825_4; rw [e4, show a 146 22 = a0 146 22 from by omega] at e; have hM2 := hM (by assumption); have hm := RFM_fr hM2.2.2 (hf825_ 146 24 rfl) (by rw [e, Int.toNat_natCast, SK_idem]) (fun j => hf825_ 195 j rfl); have hsk : SK (UB (a0 164)) (a0 146 22).toNat (a825_ 146 23).toNat = (a825_ 146 23).toNat := (by rw [e, Int.toNat_natCast, SK_idem]); have h5 := hq825_5 (by omega); rw [e4] at h5; have hn := RF_next (a1 := jxu a825_ 146 23 (jxw ((a825_ 146 23) + 1))) hm hsk (by omega) (by omega) (show (jxw ((a825_ 146 23) + 1)).toNat = _ from by omega) rfl (fun _ => rfl); rw [show (y2 - 1).toNat + 1 = y2.toNat from by omega] at hn; exact hn)
      ·
        refine jt_bI (sp_X12_fails E d (jd_le hd rfl) 0 (a825_ 146 23) a825_ b0 hv825_) (fun r839_ a839_ b839_ h839_ => ?_)
        obtain ⟨hv839_, hf839_, rfl, hq839_0, hq839_1, hq839_2, hq839_3⟩ := h839_
        have h840_ : a825_ 146 24 = a 146 24 := hf825_ 146 24 rfl
        have hf841_ : jfr jW_X12_rates a0 a825_ := jfr_tr hf hf825_ rfl
        have hf842_ : jfr jW_X12_rates a0 a839_ := jfr_tr hf841_ hf839_ rfl
        have h843_ := iv_get hv839_ (k := 146) (j := 68) (l := 0) (u := 10) rfl
        have h844_ : a839_ 146 68 = a825_ 146 68 := hf839_ 146 68 rfl
        have h845_ := iv_get hv825_ (k := 146) (j := 68) (l := 0) (u := 10) rfl
        have h846_ : a825_ 146 68 = a 146 68 := hf825_ 146 68 rfl
        have h847_ := iv_get hv839_ (k := 146) (j := 23) (l := 0) (u := 200) rfl
        have h848_ : a839_ 146 23 = a825_ 146 23 := hf839_ 146 23 rfl
        have h849_ := iv_get hv839_ (k := 146) (j := 22) (l := 0) (u := 200) rfl
        have h850_ : a839_ 146 22 = a825_ 146 22 := hf839_ 146 22 rfl
        have h851_ := iv_get hv825_ (k := 146) (j := 22) (l := 0) (u := 200) rfl
        have h852_ : a825_ 146 22 = a 146 22 := hf825_ 146 22 rfl
        exact hc96 y1 y2 r839_ s0 a839_ (show (((((a839_ 146 22) - (a839_ 146 23)) + (2 * r839_)) + s0) + 1).toNat ≤ n from by omega) hv839_ hf842_ (show 0 ≤ y1 from by omega) (show y1 ≤ 1999 from by omega) (show 0 ≤ r839_ from by omega) (show r839_ ≤ 1 from by omega) (show 0 ≤ s0 from by omega) (show s0 ≤ 1 from by omega) (show a839_ 146 68 ≤ 9 from by omega) (show a839_ 146 23 ≤ a839_ 146 22 from by omega) (show 0 ≤ y2 from by omega) (show y2 ≤ 13 from by omega) (show (r839_ = 1 → y2 ≤ 12) from by omega) (show 0 ≤ r839_ from by omega) (show 0 ≤ s0 from by omega) (show r839_ ≤ 1 from by omega) (show s0 ≤ 1 from by omega) (show (s0 = 1 → a839_ 146 23 < a839_ 146 22) from by omega) (show a839_ 146 22 = a0 146 22 from by omega) (show (0 ≤ x1 ∧ x1 ≤ 1999) from by omega) (show (a0 146 22 = 0 → (r839_ = 0 ∧ a839_ 146 24 = 1)) from by omega) (show a839_ 146 68 = a0 146 68 from by omega) (show a839_ 146 68 ≤ 9 from by omega) (show a839_ 146 68 = a0 146 68 from by omega) (by first | rfl | assumption) (fun j => (((hf839_ 192 j rfl).trans (hf825_ 192 j rfl))).trans (hs192 j)) (fun j => (((hf839_ 193 j rfl).trans (hf825_ 193 j rfl))).trans (hs193 j)) (fun j => (((hf839_ 194 j rfl).trans (hf825_ 194 j rfl))).trans (hs194 j)) (fun _ => by have e4 : a 164 = a0 164 := h4; have e := hq825_4; rw [e4, show a 146 22 = a0 146 22 from by omega] at e; have hM2 := hM (by assumption); have hm := RFM_fr hM2.2.2 (hf825_ 146 24 rfl) (by rw [e, Int.toNat_natCast, SK_idem]) (fun j => hf825_ 195 j rfl); have hsk : SK (UB (a0 164)) (a0 146 22).toNat (a825_ 146 23).toNat = (a825_ 146 23).toNat := (by rw [e, Int.toNat_natCast, SK_idem]); have h5 := hq825_5 (by omega); rw [e4] at h5; have q := RF_sep (v := a839_ 146 24) hm hsk (by omega) (by omega) (by have f := hq839_2; have f24 := hf825_ 146 24 rfl; have z := hM2.2.2.1; omega); exact q) (by first | exact (fun h _ => hC (by assumption) h) | exact (fun _ h => absurd h (by assumption))) (by first | exact (fun _ h => absurd (by assumption) h) | exact (fun h => absurd (by omega) h))
  have hc65 : ∀ (y1 y2 y3 : Int) (a : Nat → Nat → Int), ((((a 146 22) - (a 146 23)) + (2 * y3)) + 2).toNat ≤ n → iv a → jfr jW_X12_rates a0 a → 0 ≤ y1 → y1 ≤ 1999 → 1 ≤ y3 → y3 ≤ 1 → a 146 68 ≤ 9 → a 146 23 ≤ a 146 22 → 0 ≤ y2 → y2 ≤ 13 → (y3 = 1 → y2 ≤ 12) → 0 ≤ y3 → y3 ≤ 1 → a 146 23 < a 146 22 → ¬ a 164 ((a 146 23).toNat) = 32 → a 146 22 = a0 146 22 → (0 ≤ x1 ∧ x1 ≤ 1999) → 1 ≤ a0 146 22 → a 146 68 = a0 146 68 → a 146 68 ≤ 9 → a 146 68 = a0 146 68 → (y1 = x1) → (∀ j, a 192 j = a0 192 j) → (∀ j, a 193 j = a0 193 j) → (∀ j, a 194 j = a0 194 j) → (RFM a0 a (y2 - 1).toNat) → 1 ≤ y2 → 1 ≤ y3 → jt (jxX E d 282 65 [some (.inr (.inr (.inl 146))), some (.inl y1), some (.inl y2), some (.inl y3), none, none] [] (jxSH, a, b0)) (jQ_X12_rates x1 a0 b0) := by
    intro y1 y2 y3 a hm hv hf hi0 hi1 hi2 hi3 hi4 hi5 hi6 hi7 hi8 hi9 hi10 hi11 hi12 hi13 hi14 hi15 hi16 hi17 hi18 hy1 hs192 hs193 hs194 hM hi24 hi25
    refine jt_eq (bq_X12_rates_65 E d y1 y2 y3 a b0) ?_
    have h853_ := iv_get hv (k := 146) (j := 68) (l := 0) (u := 10) rfl
    have h854_ := iv_get hv (k := 146) (j := 23) (l := 0) (u := 200) rfl
    have h855_ := iv_get hv (k := 146) (j := 22) (l := 0) (u := 200) rfl
    have h856_ := iv_get hv (k := 164) (j := (a 146 23).toNat) (l := (-128)) (u := 127) rfl
    have h857_ : a 164 ((a 146 23).toNat) = a0 164 ((a 146 23).toNat) := hf 164 ((a 146 23).toNat) rfl
    have h858_ := iv_get hv0 (k := 164) (j := (a 146 23).toNat) (l := (-128)) (u := 127) rfl
    have h859_ := iv_get hv0 (k := 146) (j := 22) (l := 0) (u := 200) rfl
    have h860_ := iv_get hv0 (k := 146) (j := 68) (l := 0) (u := 10) rfl
    have h4 : a 164 = a0 164 := funext fun j => hf 164 j rfl
    exact hc70 y1 y2 y3 1 a (show (((((a 146 22) - (a 146 23)) + (2 * y3)) + 1) + 1).toNat ≤ n from by omega) hv hf (show 0 ≤ y1 from by omega) (show y1 ≤ 1999 from by omega) (show 0 ≤ y3 from by omega) (show y3 ≤ 1 from by omega) (show 0 ≤ 1 from by omega) (show 1 ≤ 1 from by omega) (show a 146 68 ≤ 9 from by omega) (show a 146 23 ≤ a 146 22 from by omega) (show 0 ≤ y2 from by omega) (show y2 ≤ 13 from by omega) (show (y3 = 1 → y2 ≤ 12) from by omega) (show 0 ≤ y3 from by omega) (show 0 ≤ 1 from by omega) (show y3 ≤ 1 from by omega) (show 1 ≤ 1 from by omega) (show (1 = 1 → (a 146 23 < a 146 22 ∧ ¬ a 164 ((a 146 23).toNat) = 32)) from by omega) (show a 146 22 = a0 146 22 from by omega) (show (0 ≤ x1 ∧ x1 ≤ 1999) from by omega) (show (a0 146 22 = 0 → (y3 = 0 ∧ a 146 24 = 1)) from by omega) (show a 146 68 = a0 146 68 from by omega) (show a 146 68 ≤ 9 from by omega) (show a 146 68 = a0 146 68 from by omega) (by first | rfl | assumption) (fun j => (rfl).trans (hs192 j)) (fun j => (rfl).trans (hs193 j)) (fun j => (rfl).trans (hs194 j)) (by first | exact (fun _ => hB) | exact (fun h => absurd h (by omega))) (by first | exact (fun _ => hC) | exact (fun h => absurd h (by omega))) (by first | exact (fun _ => ⟨by omega, by omega, hM⟩) | exact (fun h => absurd rfl h))
  have hc69 : ∀ (y1 y2 y3 : Int) (a : Nat → Nat → Int), ((((a 146 22) - (a 146 23)) + (2 * y3)) + 1).toNat ≤ n → iv a → jfr jW_X12_rates a0 a → 0 ≤ y1 → y1 ≤ 1999 → 0 ≤ y3 → y3 ≤ 1 → a 146 68 ≤ 9 → a 146 23 ≤ a 146 22 → 0 ≤ y2 → y2 ≤ 13 → (y3 = 1 → y2 ≤ 12) → 0 ≤ y3 → y3 ≤ 1 → a 146 22 = a0 146 22 → (0 ≤ x1 ∧ x1 ≤ 1999) → (a0 146 22 = 0 → (y3 = 0 ∧ a 146 24 = 1)) → a 146 68 = a0 146 68 → a 146 68 ≤ 9 → a 146 68 = a0 146 68 → (y1 = x1) → (∀ j, a 192 j = a0 192 j) → (∀ j, a 193 j = a0 193 j) → (∀ j, a 194 j = a0 194 j) → (y3 = 0 → RFX a0 a) → (¬ y3 = 0 → RFY a0 a y2) → jt (jxX E d 282 69 [some (.inr (.inr (.inl 146))), some (.inl y1), some (.inl y2), some (.inl y3), none, none] [] (jxSH, a, b0)) (jQ_X12_rates x1 a0 b0) := by
    intro y1 y2 y3 a hm hv hf hi0 hi1 hi2 hi3 hi4 hi5 hi6 hi7 hi8 hi9 hi10 hi11 hi12 hi13 hi14 hi15 hi16 hy1 hs192 hs193 hs194 hB hC
    refine jt_eq (bq_X12_rates_69 E d y1 y2 y3 a b0) ?_
    have h861_ := iv_get hv (k := 146) (j := 68) (l := 0) (u := 10) rfl
    have h862_ := iv_get hv (k := 146) (j := 23) (l := 0) (u := 200) rfl
    have h863_ := iv_get hv (k := 146) (j := 22) (l := 0) (u := 200) rfl
    have h864_ := iv_get hv0 (k := 146) (j := 22) (l := 0) (u := 200) rfl
    have h865_ := iv_get hv0 (k := 146) (j := 68) (l := 0) (u := 10) rfl
    have h4 : a 164 = a0 164 := funext fun j => hf 164 j rfl
    have h866_ := iv_get hv (k := 164) (j := (a 146 23).toNat) (l := (-128)) (u := 127) rfl
    have h867_ : a 164 ((a 146 23).toNat) = a0 164 ((a 146 23).toNat) := hf 164 ((a 146 23).toNat) rfl
    have h868_ := iv_get hv0 (k := 164) (j := (a 146 23).toNat) (l := (-128)) (u := 127) rfl
    exact hc70 y1 y2 y3 0 a (show (((((a 146 22) - (a 146 23)) + (2 * y3)) + 0) + 1).toNat ≤ n from by omega) hv hf (show 0 ≤ y1 from by omega) (show y1 ≤ 1999 from by omega) (show 0 ≤ y3 from by omega) (show y3 ≤ 1 from by omega) (show 0 ≤ 0 from by omega) (show 0 ≤ 1 from by omega) (show a 146 68 ≤ 9 from by omega) (show a 146 23 ≤ a 146 22 from by omega) (show 0 ≤ y2 from by omega) (show y2 ≤ 13 from by omega) (show (y3 = 1 → y2 ≤ 12) from by omega) (show 0 ≤ y3 from by omega) (show 0 ≤ 0 from by omega) (show y3 ≤ 1 from by omega) (show 0 ≤ 1 from by omega) (show (0 = 1 → (a 146 23 < a 146 22 ∧ ¬ a 164 ((a 146 23).toNat) = 32)) from by omega) (show a 146 22 = a0 146 22 from by omega) (show (0 ≤ x1 ∧ x1 ≤ 1999) from by omega) (show (a0 146 22 = 0 → (y3 = 0 ∧ a 146 24 = 1)) from by omega) (show a 146 68 = a0 146 68 from by omega) (show a 146 68 ≤ 9 from by omega) (show a 146 68 = a0 146 68 from by omega) (by first | rfl | assumption) (fun j => (rfl).trans (hs192 j)) (fun j => (rfl).trans (hs193 j)) (fun j => (rfl).trans (hs194 j)) (by first | exact (fun _ => hB) | exact (fun h => absurd h (by omega))) (by first | exact (fun _ => hC) | exact (fun h => absurd h (by omega))) (by first | exact (fun _ => ⟨by omega, by omega, hM⟩) | exact (fun h => absurd rfl h))
  have hc35 : ∀ (y1 y2 y3 y4 : Int) (a : Nat → Nat → Int), ((((a 146 22) - (a 146 23)) + y3) + y4).toNat ≤ n → iv a → jfr jW_X12_rates a0 a → 0 ≤ y1 → y1 ≤ 1999 → 0 ≤ y3 → y3 ≤ 1 → 0 ≤ y4 → y4 ≤ 1 → a 146 68 ≤ 9 → a 146 23 ≤ a 146 22 → 0 ≤ y2 → y2 ≤ 13 → (y3 = 1 → y2 ≤ 12) → 0 ≤ y3 → 0 ≤ y4 → y3 ≤ 1 → y4 ≤ 1 → a 146 22 = a0 146 22 → (0 ≤ x1 ∧ x1 ≤ 1999) → (a0 146 22 = 0 → (((a 146 24 = 0 ∧ ¬ y3 = 0) ∧ ¬ y4 = 0) ∨ (y3 = 0 ∧ a 146 24 = 1))) → a 146 68 = a0 146 68 → a 146 68 ≤ 9 → a 146 68 = a0 146 68 → (y1 = x1) → (∀ j, a 192 j = a0 192 j) → (∀ j, a 193 j = a0 193 j) → (∀ j, a 194 j = a0 194 j) → (¬ y3 = 0 → ¬ y4 = 0 → RFL a0 a y2.toNat) → (y3 = 0 → RFX a0 a) → (¬ y3 = 0 → y4 = 0 → RFY a0 a y2) → jt (jxX E d 282 35 [some (.inr (.inr (.inl 146))), some (.inl y1), some (.inl y2), some (.inl y3), some (.inl y4), none] [] (jxSH, a, b0)) (jQ_X12_rates x1 a0 b0) := by
    intro y1 y2 y3 y4 a hm hv hf hi0 hi1 hi2 hi3 hi4 hi5 hi6 hi7 hi8 hi9 hi10 hi11 hi12 hi13 hi14 hi15 hi16 hi17 hi18 hi19 hi20 hy1 hs192 hs193 hs194 hA hB hC
    refine jt_eq (bq_X12_rates_35 E d y1 y2 y3 y4 a b0) ?_
    have h869_ := iv_get hv (k := 146) (j := 68) (l := 0) (u := 10) rfl
    have h870_ := iv_get hv (k := 146) (j := 23) (l := 0) (u := 200) rfl
    have h871_ := iv_get hv (k := 146) (j := 22) (l := 0) (u := 200) rfl
    have h872_ := iv_get hv0 (k := 146) (j := 22) (l := 0) (u := 200) rfl
    have h873_ := iv_get hv0 (k := 146) (j := 68) (l := 0) (u := 10) rfl
    have h4 : a 164 = a0 164 := funext fun j => hf 164 j rfl
    have hz24 : ¬ y3 = 0 → ¬ y4 = 0 → a 146 24 = 0 := fun h1 h2 => (hA h1 h2).1
    refine jt_ite (fun c874_ => ?_) (fun c874_ => ?_)
    ·
      exact cp_X12_rates_114 E d hd x1 a0 b0 hv0 y1 y2 y3 a hv hf (show 0 ≤ y1 from by omega) (show y1 ≤ 1999 from by omega) (show 0 ≤ y3 from by omega) (show y3 ≤ 1 from by omega) (show a 146 68 ≤ 9 from by omega) (show a 146 23 ≤ a 146 22 from by omega) (show 0 ≤ y2 from by omega) (show y2 ≤ 13 from by omega) (show (y3 = 1 → y2 ≤ 12) from by omega) (show 0 ≤ y3 from by omega) (show y3 ≤ 1 from by omega) (show a 146 22 = a0 146 22 from by omega) (show (0 ≤ x1 ∧ x1 ≤ 1999) from by omega) (show (a0 146 22 = 0 → (y3 = 0 ∧ a 146 24 = 1)) from by omega) (show a 146 68 = a0 146 68 from by omega) (show a 146 68 ≤ 9 from by omega) (show a 146 68 = a0 146 68 from by omega) (by first | rfl | assumption) (fun j => (rfl).trans (hs192 j)) (fun j => (rfl).trans (hs193 j)) (fun j => (rfl).trans (hs194 j)) (by first | exact hB | exact (fun h => absurd (by assumption) h)) (by first | exact (fun h => absurd (by assumption) h) | exact (fun h => hC h (by assumption)))
    ·
      refine jt_ite (fun c875_ => ?_) (fun c875_ => ?_)
      ·
        exact cp_X12_rates_114 E d hd x1 a0 b0 hv0 y1 y2 y3 a hv hf (show 0 ≤ y1 from by omega) (show y1 ≤ 1999 from by omega) (show 0 ≤ y3 from by omega) (show y3 ≤ 1 from by omega) (show a 146 68 ≤ 9 from by omega) (show a 146 23 ≤ a 146 22 from by omega) (show 0 ≤ y2 from by omega) (show y2 ≤ 13 from by omega) (show (y3 = 1 → y2 ≤ 12) from by omega) (show 0 ≤ y3 from by omega) (show y3 ≤ 1 from by omega) (show a 146 22 = a0 146 22 from by omega) (show (0 ≤ x1 ∧ x1 ≤ 1999) from by omega) (show (a0 146 22 = 0 → (y3 = 0 ∧ a 146 24 = 1)) from by omega) (show a 146 68 = a0 146 68 from by omega) (show a 146 68 ≤ 9 from by omega) (show a 146 68 = a0 146 68 from by omega) (by first | rfl | assumption) (fun j => (rfl).trans (hs192 j)) (fun j => (rfl).trans (hs193 j)) (fun j => (rfl).trans (hs194 j)) (by first | exact hB | exact (fun h => absurd (by assumption) h)) (by first | exact (fun h => absurd (by assumption) h) | exact (fun h => hC h (by assumption)))
      ·
        refine jt_bI (sp_X12_clause E d (jd_le hd rfl) y2 a b0 hv (show a 146 23 ≤ a 146 22 from by omega) (show 0 ≤ y2 from by omega) (show y2 ≤ 12 from by omega) (show a 146 24 = 0 from by omega)) (fun r876_ a876_ b876_ h876_ => ?_)
        obtain ⟨hv876_, hf876_, rfl, hq876_0, hq876_1, hq876_2, hq876_3, hq876_4, hq876_5, hq876_6, hq876_7⟩ := h876_
        have h877_ := iv_get hv876_ (k := 146) (j := 23) (l := 0) (u := 200) rfl
        have h878_ := iv_get hv876_ (k := 146) (j := 22) (l := 0) (u := 200) rfl
        have h879_ : a876_ 146 22 = a 146 22 := hf876_ 146 22 rfl
        have h195_876 : True := trivial
        refine jt_ite (fun c880_ => ?_) (fun c880_ => ?_)
        ·
          have hf881_ : jfr jW_X12_rates a0 a876_ := jfr_tr hf hf876_ rfl
          have h882_ := iv_get hv876_ (k := 146) (j := 68) (l := 0) (u := 10) rfl
          have h883_ : a876_ 146 68 = a 146 68 := hf876_ 146 68 rfl
          have h884_ : jxw (y2 + 1) = y2 + 1 := jxw_id (by omega) (by omega)
          exact hc69 y1 (jxw (y2 + 1)) r876_ a876_ (show ((((a876_ 146 22) - (a876_ 146 23)) + (2 * r876_)) + 1).toNat ≤ n from by omega) hv876_ hf881_ (show 0 ≤ y1 from by omega) (show y1 ≤ 1999 from by omega) (show 0 ≤ r876_ from by omega) (show r876_ ≤ 1 from by omega) (show a876_ 146 68 ≤ 9 from by omega) (show a876_ 146 23 ≤ a876_ 146 22 from by omega) (show 0 ≤ jxw (y2 + 1) from by omega) (show jxw (y2 + 1) ≤ 13 from by omega) (show (r876_ = 1 → jxw (y2 + 1) ≤ 12) from by omega) (show 0 ≤ r876_ from by omega) (show r876_ ≤ 1 from by omega) (show a876_ 146 22 = a0 146 22 from by omega) (show (0 ≤ x1 ∧ x1 ≤ 1999) from by omega) (show (a0 146 22 = 0 → (r876_ = 0 ∧ a876_ 146 24 = 1)) from by omega) (show a876_ 146 68 = a0 146 68 from by omega) (show a876_ 146 68 ≤ 9 from by omega) (show a876_ 146 68 = a0 146 68 from by omega) (by first | rfl | assumption) (fun j => ((hf876_ 192 j rfl)).trans (hs192 j)) (fun j => ((hf876_ 193 j rfl)).trans (hs193 j)) (fun j => ((hf876_ 194 j rfl)).trans (hs194 j)) (fun _ => RF_bad (c := y2) (by omega) (hA (by assumption) (by assumption)) h4 (by omega) (hq876_6 (by omega))) (fun h => absurd (by assumption) h)
        ·
          refine jt_bI (sp_X12_see E d (jd_le hd rfl) a876_ b0 hv876_ (show a876_ 146 23 ≤ a876_ 146 22 from by omega)) (fun r885_ a885_ b885_ h885_ => ?_)
          obtain ⟨hv885_, hf885_, rfl, hq885_0, hq885_1, hq885_2, hq885_3, hq885_4, hq885_5⟩ := h885_
          have h886_ := iv_get hv885_ (k := 146) (j := 23) (l := 0) (u := 200) rfl
          have h887_ := iv_get hv885_ (k := 164) (j := (a885_ 146 23).toNat) (l := (-128)) (u := 127) rfl
          have h888_ : a885_ 164 ((a885_ 146 23).toNat) = a876_ 164 ((a885_ 146 23).toNat) := hf885_ 164 ((a885_ 146 23).toNat) rfl
          have h889_ := iv_get hv876_ (k := 164) (j := (a885_ 146 23).toNat) (l := (-128)) (u := 127) rfl
          have h890_ : a876_ 164 ((a885_ 146 23).toNat) = a 164 ((a885_ 146 23).toNat) := hf876_ 164 ((a885_ 146 23).toNat) rfl
          have h891_ := iv_get hv (k := 164) (j := (a885_ 146 23).toNat) (l := (-128)) (u := 127) rfl
          have h892_ : a 164 ((a885_ 146 23).toNat) = a0 164 ((a885_ 146 23).toNat) := hf 164 ((a885_ 146 23).toNat) rfl
          have h893_ := iv_get hv0 (k := 164) (j := (a885_ 146 23).toNat) (l := (-128)) (u := 127) rfl
          have h894_ := iv_get hv876_ (k := 164) (j := (a876_ 146 23).toNat) (l := (-128)) (u := 127) rfl
          have h895_ : a876_ 164 ((a876_ 146 23).toNat) = a 164 ((a876_ 146 23).toNat) := hf876_ 164 ((a876_ 146 23).toNat) rfl
          have h896_ := iv_get hv (k := 164) (j := (a876_ 146 23).toNat) (l := (-128)) (u := 127) rfl
          have h897_ : a 164 ((a876_ 146 23).toNat) = a0 164 ((a876_ 146 23).toNat) := hf 164 ((a876_ 146 23).toNat) rfl
          have h898_ := iv_get hv0 (k := 164) (j := (a876_ 146 23).toNat) (l := (-128)) (u := 127) rfl
          refine jt_ite (fun c899_ => ?_) (fun c899_ => ?_)
          ·
            have hf900_ : jfr jW_X12_rates a0 a876_ := jfr_tr hf hf876_ rfl
            have hf901_ : jfr jW_X12_rates a0 a885_ := jfr_tr hf900_ hf885_ rfl
            have h902_ := iv_get hv885_ (k := 146) (j := 68) (l := 0) (u := 10) rfl
            have h903_ : a885_ 146 68 = a876_ 146 68 := hf885_ 146 68 rfl
            have h904_ := iv_get hv876_ (k := 146) (j := 68) (l := 0) (u := 10) rfl
            have h905_ : a876_ 146 68 = a 146 68 := hf876_ 146 68 rfl
            have h906_ := iv_get hv885_ (k := 146) (j := 22) (l := 0) (u := 200) rfl
            have h907_ : a885_ 146 22 = a876_ 146 22 := hf885_ 146 22 rfl
            have h908_ : jxw (y2 + 1) = y2 + 1 := jxw_id (by omega) (by omega)
            have h909_ : a885_ 146 24 = a876_ 146 24 := hf885_ 146 24 rfl
            exact hc69 y1 (jxw (y2 + 1)) r876_ a885_ (show ((((a885_ 146 22) - (a885_ 146 23)) + (2 * r876_)) + 1).toNat ≤ n from by omega) hv885_ hf901_ (show 0 ≤ y1 from by omega) (show y1 ≤ 1999 from by omega) (show 0 ≤ r876_ from by omega) (show r876_ ≤ 1 from by omega) (show a885_ 146 68 ≤ 9 from by omega) (show a885_ 146 23 ≤ a885_ 146 22 from by omega) (show 0 ≤ jxw (y2 + 1) from by omega) (show jxw (y2 + 1) ≤ 13 from by omega) (show (r876_ = 1 → jxw (y2 + 1) ≤ 12) from by omega) (show 0 ≤ r876_ from by omega) (show r876_ ≤ 1 from by omega) (show a885_ 146 22 = a0 146 22 from by omega) (show (0 ≤ x1 ∧ x1 ≤ 1999) from by omega) (show (a0 146 22 = 0 → (r876_ = 0 ∧ a885_ 146 24 = 1)) from by omega) (show a885_ 146 68 = a0 146 68 from by omega) (show a885_ 146 68 ≤ 9 from by omega) (show a885_ 146 68 = a0 146 68 from by omega) (by first | rfl | assumption) (fun j => (((hf885_ 192 j rfl).trans (hf876_ 192 j rfl))).trans (hs192 j)) (fun j => (((hf885_ 193 j rfl).trans (hf876_ 193 j rfl))).trans (hs193 j)) (fun j => (((hf885_ 194 j rfl).trans (hf876_ 194 j rfl))).trans (hs194 j)) (fun h => absurd h (by omega)) (fun _ => by rw [show jxw (y2 + 1) = (y2.toNat : Int) + 1 from by omega]; exact RF_end (RFM_fr (RF_good (a1 := a876_) (c := y2) (by omega) (hA (by assumption) (by assumption)) h4 (by omega) (hq876_7 (by omega)) (hq876_5 (by omega))) (hf885_ 146 24 rfl) (by have e := hq885_4; have e4 : a876_ 164 = a0 164 := (funext fun j => (hf876_ 164 j rfl).trans (congrFun h4 j)); have e22 : a876_ 146 22 = a0 146 22 := (hf876_ 146 22 rfl).trans (by omega); rw [e4, e22] at e; rw [e, Int.toNat_natCast, SK_idem]) (fun j => hf885_ 195 j rfl)) (by have e := hq885_4; have e4 : a876_ 164 = a0 164 := (funext fun j => (hf876_ 164 j rfl).trans (congrFun h4 j)); have e22 : a876_ 146 22 = a0 146 22 := (hf876_ 146 22 rfl).trans (by omega); rw [e4, e22] at e; rw [e, Int.toNat_natCast, SK_idem]; omega))
          ·
            have hf910_ : jfr jW_X12_rates a0 a876_ := jfr_tr hf hf876_ rfl
            have hf911_ : jfr jW_X12_rates a0 a885_ := jfr_tr hf910_ hf885_ rfl
            have h912_ := iv_get hv885_ (k := 146) (j := 68) (l := 0) (u := 10) rfl
            have h913_ : a885_ 146 68 = a876_ 146 68 := hf885_ 146 68 rfl
            have h914_ := iv_get hv876_ (k := 146) (j := 68) (l := 0) (u := 10) rfl
            have h915_ : a876_ 146 68 = a 146 68 := hf876_ 146 68 rfl
            have h916_ := iv_get hv885_ (k := 146) (j := 22) (l := 0) (u := 200) rfl
            have h917_ : a885_ 146 22 = a876_ 146 22 := hf885_ 146 22 rfl
            have h918_ : jxw (y2 + 1) = y2 + 1 := jxw_id (by omega) (by omega)
            exact hc65 y1 (jxw (y2 + 1)) r876_ a885_ (show ((((a885_ 146 22) - (a885_ 146 23)) + (2 * r876_)) + 2).toNat ≤ n from by omega) hv885_ hf911_ (show 0 ≤ y1 from by omega) (show y1 ≤ 1999 from by omega) (show 1 ≤ r876_ from by omega) (show r876_ ≤ 1 from by omega) (show a885_ 146 68 ≤ 9 from by omega) (show a885_ 146 23 ≤ a885_ 146 22 from by omega) (show 0 ≤ jxw (y2 + 1) from by omega) (show jxw (y2 + 1) ≤ 13 from by omega) (show (r876_ = 1 → jxw (y2 + 1) ≤ 12) from by omega) (show 0 ≤ r876_ from by omega) (show r876_ ≤ 1 from by omega) (show a885_ 146 23 < a885_ 146 22 from by omega) (show ¬ a885_ 164 ((a885_ 146 23).toNat) = 32 from by omega) (show a885_ 146 22 = a0 146 22 from by omega) (show (0 ≤ x1 ∧ x1 ≤ 1999) from by omega) (show 1 ≤ a0 146 22 from by omega) (show a885_ 146 68 = a0 146 68 from by omega) (show a885_ 146 68 ≤ 9 from by omega) (show a885_ 146 68 = a0 146 68 from by omega) (by first | rfl | assumption) (fun j => (((hf885_ 192 j rfl).trans (hf876_ 192 j rfl))).trans (hs192 j)) (fun j => (((hf885_ 193 j rfl).trans (hf876_ 193 j rfl))).trans (hs193 j)) (fun j => (((hf885_ 194 j rfl).trans (hf876_ 194 j rfl))).trans (hs194 j)) (by rw [show (jxw (y2 + 1) - 1).toNat = y2.toNat from by omega]; exact (RFM_fr (RF_good (a1 := a876_) (c := y2) (by omega) (hA (by assumption) (by assumption)) h4 (by omega) (hq876_7 (by omega)) (hq876_5 (by omega))) (hf885_ 146 24 rfl) (by have e := hq885_4; have e4 : a876_ 164 = a0 164 := (funext fun j => (hf876_ 164 j rfl).trans (congrFun h4 j)); have e22 : a876_ 146 22 = a0 146 22 := (hf876_ 146 22 rfl).trans (by omega); rw [e4, e22] at e; rw [e, Int.toNat_natCast, SK_idem]) (fun j => hf885_ 195 j rfl))) (show 1 ≤ jxw (y2 + 1) from by omega) (show 1 ≤ r876_ from by omega)
  exact ⟨hc96, hc70, hc65, hc69, hc35⟩
theorem cp_X12_rates_30 (E : jxE) (d : Nat) (hd : Nat.ble 4 (d + 1) = true) (x1 : Int) (a0 b0 : Nat → Nat → Int) (hv0 : iv a0) : ∀ (y1 y2 : Int) (a : Nat → Nat → Int), iv a → jfr jW_X12_rates a0 a → 0 ≤ y1 → y1 ≤ 1999 → 0 ≤ y2 → y2 ≤ 0 → a 146 68 ≤ 9 → a 146 23 ≤ a 146 22 → a 146 22 = a0 146 22 → a 146 24 = 0 → (0 ≤ x1 ∧ x1 ≤ 1999) → a 146 68 = a0 146 68 → a 146 68 ≤ 9 → a 146 68 = a0 146 68 → (y1 = x1) → (∀ j, a 192 j = a0 192 j) → (∀ j, a 193 j = a0 193 j) → (∀ j, a 194 j = a0 194 j) → a 146 23 = 0 → jt (jxX E d 282 30 [some (.inr (.inr (.inl 146))), some (.inl y1), some (.inl y2), none, none, none] [] (jxSH, a, b0)) (jQ_X12_rates x1 a0 b0) := by
  intro y1 y2 a hv hf hi0 hi1 hi2 hi3 hi4 hi5 hi6 hi7 hi8 hi9 hi10 hi11 hy1 hs192 hs193 hs194 hi16
  refine jt_eq (bq_X12_rates_30 E d y1 y2 a b0) ?_
  have h919_ := iv_get hv (k := 146) (j := 68) (l := 0) (u := 10) rfl
  have h920_ := iv_get hv (k := 146) (j := 23) (l := 0) (u := 200) rfl
  have h921_ := iv_get hv (k := 146) (j := 22) (l := 0) (u := 200) rfl
  have h922_ := iv_get hv0 (k := 146) (j := 22) (l := 0) (u := 200) rfl
  have h923_ := iv_get hv0 (k := 146) (j := 68) (l := 0) (u := 10) rfl
  have h4 : a 164 = a0 164 := funext fun j => hf 164 j rfl
  exact (cp_X12_rates_35 E d hd x1 a0 b0 hv0 _).2.2.2.2 y1 y2 1 1 a (Nat.le_refl _) hv hf (show 0 ≤ y1 from by omega) (show y1 ≤ 1999 from by omega) (show 0 ≤ 1 from by omega) (show 1 ≤ 1 from by omega) (show 0 ≤ 1 from by omega) (show 1 ≤ 1 from by omega) (show a 146 68 ≤ 9 from by omega) (show a 146 23 ≤ a 146 22 from by omega) (show 0 ≤ y2 from by omega) (show y2 ≤ 13 from by omega) (show (1 = 1 → y2 ≤ 12) from by omega) (show 0 ≤ 1 from by omega) (show 0 ≤ 1 from by omega) (show 1 ≤ 1 from by omega) (show 1 ≤ 1 from by omega) (show a 146 22 = a0 146 22 from by omega) (show (0 ≤ x1 ∧ x1 ≤ 1999) from by omega) (show (a0 146 22 = 0 → (((a 146 24 = 0 ∧ ¬ 1 = 0) ∧ ¬ 1 = 0) ∨ (1 = 0 ∧ a 146 24 = 1))) from by omega) (show a 146 68 = a0 146 68 from by omega) (show a 146 68 ≤ 9 from by omega) (show a 146 68 = a0 146 68 from by omega) (by first | rfl | assumption) (fun j => (rfl).trans (hs192 j)) (fun j => (rfl).trans (hs193 j)) (fun j => (rfl).trans (hs194 j)) (by first | exact (fun _ _ => ⟨by omega, by rw [show (a 146 23).toNat = 0 from by omega]; rfl, fun k hk => absurd hk (by omega), fun k hk => absurd hk (by omega)⟩) | exact (fun h1 h2 => absurd (by omega : False) id) | exact (fun h1 h2 => hN h1 h2)) (by first | exact hB | exact (fun h => absurd h (by omega))) (by first | exact (fun _ h => absurd h (by omega)) | exact (fun h _ => hC h (by assumption)) | exact (fun h1 h2 => absurd h2 (by assumption)))
theorem sp_X12_rates (E : jxE) (d : Nat) (hd : Nat.ble 4 d = true) (x1 : Int) (a0 b0 : Nat → Nat → Int) (hv0 : iv a0) : jt (jxC E d 282 [.inr (.inr (.inl 146)), .inl x1] (jxSH, a0, b0)) (jQ_X12_rates x1 a0 b0) := by
  obtain ⟨d, rfl⟩ := jd_succ hd
  refine jt_eq (bq_X12_rates E d x1 a0 b0) ?_
  have h924_ := iv_get hv0 (k := 146) (j := 68) (l := 0) (u := 10) rfl
  refine jt_ite (fun c925_ => ?_) (fun c925_ => ?_)
  ·
    have h926_ := iv_get hv0 (k := 146) (j := 22) (l := 0) (u := 200) rfl
    exact jt_rI ⟨hv0, (jfr_rf _ _), rfl, (show ((a0 146 22 = 0 ∧ a0 146 68 = 0) → (((0 ≤ x1 ∧ x1 ≤ 1999) ∧ (-1) = 0 - 3) ∨ ((x1 < 0 ∨ 1999 < x1) ∧ (-1) = 0 - 1))) from by omega), (fun h => absurd h (by omega)), (fun h => absurd h (by decide)), (fun _ j => ⟨rfl, rfl, rfl⟩), (show (((x1 < 0 ∨ 1999 < x1) ∨ 9 < a0 146 68) → (((-1) = 0 - 1 ∧ a0 146 68 = a0 146 68) ∧ a0 146 22 = a0 146 22)) from by omega), (show (((0 ≤ x1 ∧ x1 ≤ 1999) ∧ a0 146 68 ≤ 9) → a0 146 22 = 0) from by omega)⟩
  ·
    refine jt_eI (eq_X12_isDay E d (jd_le hd rfl) x1 a0 b0) ?_
    have h927_ := f_X12_isDay_eq a0 b0 x1
    have h928_ := f_X12_in_eq a0 b0 x1 0 1999
    refine jt_ite (fun c929_ => ?_) (fun c929_ => ?_)
    ·
      have h930_ := iv_get hv0 (k := 146) (j := 22) (l := 0) (u := 200) rfl
      exact jt_rI ⟨hv0, (jfr_rf _ _), rfl, (show ((a0 146 22 = 0 ∧ a0 146 68 = 0) → (((0 ≤ x1 ∧ x1 ≤ 1999) ∧ (-1) = 0 - 3) ∨ ((x1 < 0 ∨ 1999 < x1) ∧ (-1) = 0 - 1))) from by omega), (fun h => absurd h (by omega)), (fun h => absurd h (by decide)), (fun _ j => ⟨rfl, rfl, rfl⟩), (show (((x1 < 0 ∨ 1999 < x1) ∨ 9 < a0 146 68) → (((-1) = 0 - 1 ∧ a0 146 68 = a0 146 68) ∧ a0 146 22 = a0 146 22)) from by omega), (show (((0 ≤ x1 ∧ x1 ≤ 1999) ∧ a0 146 68 ≤ 9) → a0 146 22 = 0) from by omega)⟩
    ·
      have hv931_ : iv (jxu a0 146 23 0) := iv_put hv0 (l := 0) (u := 200) rfl (by omega) (by omega)
      have hv932_ : iv (jxu (jxu a0 146 23 0) 146 24 0) := iv_putf hv931_ rfl
      have hf933_ : jfr jW_X12_rates a0 (jxu a0 146 23 0) := jfr_put (jfr_rf _ _) rfl
      have hf934_ : jfr jW_X12_rates a0 (jxu (jxu a0 146 23 0) 146 24 0) := jfr_put hf933_ rfl
      have h935_ := iv_get hv0 (k := 146) (j := 22) (l := 0) (u := 200) rfl
      exact cp_X12_rates_30 E d hd x1 a0 b0 hv0 x1 0 (jxu (jxu a0 146 23 0) 146 24 0) hv932_ hf934_ (show 0 ≤ x1 from by omega) (show x1 ≤ 1999 from by omega) (show 0 ≤ 0 from by omega) (show 0 ≤ 0 from by omega) (show a0 146 68 ≤ 9 from by omega) (show 0 ≤ a0 146 22 from by omega) (show a0 146 22 = a0 146 22 from by omega) (show 0 = 0 from by omega) (show (0 ≤ x1 ∧ x1 ≤ 1999) from by omega) (show a0 146 68 = a0 146 68 from by omega) (show a0 146 68 ≤ 9 from by omega) (show a0 146 68 = a0 146 68 from by omega) (by first | rfl | assumption) (fun j => rfl) (fun j => rfl) (fun j => rfl) (show 0 = 0 from by omega)
