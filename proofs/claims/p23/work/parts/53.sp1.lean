def jW_X8_noteFault : List (Nat × Nat) := [(2, 3)]
abbrev jQ_X8_noteFault (x1 x2 : Int) (a0 b0 : Nat → Nat → Int) : List jxV → (Nat → Nat → Int) → (Nat → Nat → Int) → Prop := rV (fun a b => (iv a) ∧ (jfr jW_X8_noteFault a0 a) ∧ (b0 = b) ∧ ((((((a0 2 3 = 0 ∧ 0 ≤ x1) ∧ x1 ≤ 200) ∧ 0 ≤ x2) ∧ x2 ≤ 7) → a 2 3 = (1 + (8 * x1)) + x2)) ∧ ((¬ a0 2 3 = 0 → a 2 3 = a0 2 3)))
theorem sp_X8_noteFault (E : jxE) (d : Nat) (hd : Nat.ble 1 d = true) (x1 x2 : Int) (a0 b0 : Nat → Nat → Int) (hv0 : iv a0) : jt (jxC E d 124 [.inr (.inr (.inl 2)), .inl x1, .inl x2] (jxSH, a0, b0)) (jQ_X8_noteFault x1 x2 a0 b0) := by
  obtain ⟨d, rfl⟩ := jd_succ hd
  refine jt_eq (bq_X8_noteFault E d x1 x2 a0 b0) ?_
  refine jt_ite (fun c1_ => ?_) (fun c1_ => ?_)
  ·
    have hv2_ : iv (jxu a0 2 3 (jxw ((jxw (1 + (jxw (8 * x1)))) + x2))) := iv_putf hv0 rfl
    have hf3_ : jfr jW_X8_noteFault a0 (jxu a0 2 3 (jxw ((jxw (1 + (jxw (8 * x1)))) + x2))) := jfr_put (jfr_rf _ _) rfl
    have h4_ := jxw_im (8 * x1)
    have h5_ := jxw_rg (8 * x1)
    have h6_ := jxw_im (1 + (jxw (8 * x1)))
    have h7_ := jxw_rg (1 + (jxw (8 * x1)))
    have h8_ := jxw_im ((jxw (1 + (jxw (8 * x1)))) + x2)
    have h9_ := jxw_rg ((jxw (1 + (jxw (8 * x1)))) + x2)
    exact jt_rV ⟨hv2_, hf3_, rfl, (show (((((a0 2 3 = 0 ∧ 0 ≤ x1) ∧ x1 ≤ 200) ∧ 0 ≤ x2) ∧ x2 ≤ 7) → jxw ((jxw (1 + (jxw (8 * x1)))) + x2) = (1 + (8 * x1)) + x2) from by omega), (show (¬ a0 2 3 = 0 → jxw ((jxw (1 + (jxw (8 * x1)))) + x2) = a0 2 3) from by omega)⟩
  ·
    exact jt_rV ⟨hv0, (jfr_rf _ _), rfl, (show (((((a0 2 3 = 0 ∧ 0 ≤ x1) ∧ x1 ≤ 200) ∧ 0 ≤ x2) ∧ x2 ≤ 7) → a0 2 3 = (1 + (8 * x1)) + x2) from by omega), (show (¬ a0 2 3 = 0 → a0 2 3 = a0 2 3) from by omega)⟩
def jW_X8_noteCannotStand : List (Nat × Nat) := [(2, 3)]
abbrev jQ_X8_noteCannotStand (a0 b0 : Nat → Nat → Int) : List jxV → (Nat → Nat → Int) → (Nat → Nat → Int) → Prop := rV (fun a b => (iv a) ∧ (jfr jW_X8_noteCannotStand a0 a) ∧ (b0 = b) ∧ ((a0 2 3 = 0 → a 2 3 = 1 + (8 * (a0 2 2)))) ∧ ((¬ a0 2 3 = 0 → a 2 3 = a0 2 3)))
theorem sp_X8_noteCannotStand (E : jxE) (d : Nat) (hd : Nat.ble 2 d = true) (a0 b0 : Nat → Nat → Int) (hv0 : iv a0) : jt (jxC E d 125 [.inr (.inr (.inl 2))] (jxSH, a0, b0)) (jQ_X8_noteCannotStand a0 b0) := by
  obtain ⟨d, rfl⟩ := jd_succ hd
  refine jt_eq (bq_X8_noteCannotStand E d a0 b0) ?_
  refine jt_bV (sp_X8_noteFault E d (jd_le hd rfl) (a0 2 2) 0 a0 b0 hv0) (fun a10_ b10_ h10_ => ?_)
  obtain ⟨hv10_, hf10_, rfl, hq10_0, hq10_1⟩ := h10_
  have h11_ := iv_get hv0 (k := 2) (j := 2) (l := 0) (u := 200) rfl
  have hf12_ : jfr jW_X8_noteCannotStand a0 a10_ := jfr_tr (jfr_rf _ _) hf10_ rfl
  exact jt_rV ⟨hv10_, hf12_, rfl, (show (a0 2 3 = 0 → a10_ 2 3 = 1 + (8 * (a0 2 2))) from by omega), (show (¬ a0 2 3 = 0 → a10_ 2 3 = a0 2 3) from by omega)⟩
def jW_X8_skipBlanks : List (Nat × Nat) := [(2, 2)]
abbrev jQ_X8_skipBlanks (a0 b0 : Nat → Nat → Int) : List jxV → (Nat → Nat → Int) → (Nat → Nat → Int) → Prop := rV (fun a b => (iv a) ∧ (jfr jW_X8_skipBlanks a0 a) ∧ (b0 = b) ∧ ((a0 2 1 ≤ a0 2 2 → a 2 2 = a0 2 2)) ∧ (a 2 2 = ((SK (a0 3) (a0 2 1).toNat (a0 2 2).toNat : Nat) : Int)))
theorem cp_X8_skipBlanks_0 (E : jxE) (d : Nat) (hd : Nat.ble 1 (d + 1) = true) (a0 b0 : Nat → Nat → Int) (hv0 : iv a0) : ∀ n : Nat, (∀ (a : Nat → Nat → Int), ((((a 2 1) - (a 2 2)) * 2) + 1).toNat ≤ n → iv a → jfr jW_X8_skipBlanks a0 a → 1 ≤ a 2 1 → 1 ≤ a 2 2 → a 2 2 ≤ a 2 1 → a0 2 2 < a0 2 1 → (SK (a 3) (a 2 1).toNat (a 2 2).toNat = SK (a0 3) (a0 2 1).toNat (a0 2 2).toNat) → jt (jxX E d 131 35 [some (.inr (.inr (.inl 2)))] [] (jxSH, a, b0)) (jQ_X8_skipBlanks a0 b0)) ∧ (∀ (a : Nat → Nat → Int), ((((a 2 1) - (a 2 2)) * 2) + 0).toNat ≤ n → iv a → jfr jW_X8_skipBlanks a0 a → 1 ≤ a 2 1 → 1 ≤ a 2 2 → a0 2 2 < a0 2 1 → (SK (a 3) (a 2 1).toNat (a 2 2).toNat = SK (a0 3) (a0 2 1).toNat (a0 2 2).toNat) → jt (jxX E d 131 0 [some (.inr (.inr (.inl 2)))] [] (jxSH, a, b0)) (jQ_X8_skipBlanks a0 b0)) := by
  refine jx_ind fun n ih => ?_
  have ih35 : ∀ (a : Nat → Nat → Int), ((((a 2 1) - (a 2 2)) * 2) + 1).toNat < n → iv a → jfr jW_X8_skipBlanks a0 a → 1 ≤ a 2 1 → 1 ≤ a 2 2 → a 2 2 ≤ a 2 1 → a0 2 2 < a0 2 1 → (SK (a 3) (a 2 1).toNat (a 2 2).toNat = SK (a0 3) (a0 2 1).toNat (a0 2 2).toNat) → jt (jxX E d 131 35 [some (.inr (.inr (.inl 2)))] [] (jxSH, a, b0)) (jQ_X8_skipBlanks a0 b0) := fun a hlt i0 i1 i2 i3 i4 i5 i6 => (ih _ hlt).1 a (Nat.le_refl _) i0 i1 i2 i3 i4 i5 i6
  have ih0 : ∀ (a : Nat → Nat → Int), ((((a 2 1) - (a 2 2)) * 2) + 0).toNat < n → iv a → jfr jW_X8_skipBlanks a0 a → 1 ≤ a 2 1 → 1 ≤ a 2 2 → a0 2 2 < a0 2 1 → (SK (a 3) (a 2 1).toNat (a 2 2).toNat = SK (a0 3) (a0 2 1).toNat (a0 2 2).toNat) → jt (jxX E d 131 0 [some (.inr (.inr (.inl 2)))] [] (jxSH, a, b0)) (jQ_X8_skipBlanks a0 b0) := fun a hlt i0 i1 i2 i3 i4 i5 => (ih _ hlt).2 a (Nat.le_refl _) i0 i1 i2 i3 i4 i5
  have hc35 : ∀ (a : Nat → Nat → Int), ((((a 2 1) - (a 2 2)) * 2) + 1).toNat ≤ n → iv a → jfr jW_X8_skipBlanks a0 a → 1 ≤ a 2 1 → 1 ≤ a 2 2 → a 2 2 ≤ a 2 1 → a0 2 2 < a0 2 1 → (SK (a 3) (a 2 1).toNat (a 2 2).toNat = SK (a0 3) (a0 2 1).toNat (a0 2 2).toNat) → jt (jxX E d 131 35 [some (.inr (.inr (.inl 2)))] [] (jxSH, a, b0)) (jQ_X8_skipBlanks a0 b0) := by
    intro a hm hv hf hi0 hi1 hi2 hi3 hk
    refine jt_eq (bq_X8_skipBlanks_35 E d a b0) ?_
    have h13_ := iv_get hv (k := 2) (j := 1) (l := 0) (u := 200) rfl
    have h14_ : a 2 1 = a0 2 1 := hf 2 1 rfl
    have h15_ := iv_get hv0 (k := 2) (j := 1) (l := 0) (u := 200) rfl
    have h16_ := iv_get hv (k := 2) (j := 2) (l := 0) (u := 200) rfl
    have h17_ := iv_get hv0 (k := 2) (j := 2) (l := 0) (u := 200) rfl
    exact ih0 a (show ((((a 2 1) - (a 2 2)) * 2) + 0).toNat < n from by omega) hv hf (show 1 ≤ a 2 1 from by omega) (show 1 ≤ a 2 2 from by omega) (show a0 2 2 < a0 2 1 from by omega) hk
  have hc0 : ∀ (a : Nat → Nat → Int), ((((a 2 1) - (a 2 2)) * 2) + 0).toNat ≤ n → iv a → jfr jW_X8_skipBlanks a0 a → 1 ≤ a 2 1 → 1 ≤ a 2 2 → a0 2 2 < a0 2 1 → (SK (a 3) (a 2 1).toNat (a 2 2).toNat = SK (a0 3) (a0 2 1).toNat (a0 2 2).toNat) → jt (jxX E d 131 0 [some (.inr (.inr (.inl 2)))] [] (jxSH, a, b0)) (jQ_X8_skipBlanks a0 b0) := by
    intro a hm hv hf hi0 hi1 hi2 hk
    refine jt_eq (bq_X8_skipBlanks_0 E d a b0) ?_
    have h18_ := iv_get hv (k := 2) (j := 1) (l := 0) (u := 200) rfl
    have h19_ : a 2 1 = a0 2 1 := hf 2 1 rfl
    have h20_ := iv_get hv0 (k := 2) (j := 1) (l := 0) (u := 200) rfl
    have h21_ := iv_get hv (k := 2) (j := 2) (l := 0) (u := 200) rfl
    have h22_ := iv_get hv0 (k := 2) (j := 2) (l := 0) (u := 200) rfl
    refine jt_ite (fun c23_ => ?_) (fun c23_ => ?_)
    ·
      refine jt_grd (by omega) ?_
      have h24_ := iv_get hv (k := 3) (j := (a 2 2).toNat) (l := 0) (u := 255) rfl
      have h25_ : a 3 ((a 2 2).toNat) = a0 3 ((a 2 2).toNat) := hf 3 ((a 2 2).toNat) rfl
      have h26_ := iv_get hv0 (k := 3) (j := (a 2 2).toNat) (l := 0) (u := 255) rfl
      refine jt_ite (fun c27_ => ?_) (fun c27_ => ?_)
      ·
        have h29_ : jxw ((a 2 2) + 1) = (a 2 2) + 1 := jxw_id (by omega) (by omega)
        have hv28_ : iv (jxu a 2 2 (jxw ((a 2 2) + 1))) := iv_put hv (l := 0) (u := 200) rfl (by omega) (by omega)
        have hf30_ : jfr jW_X8_skipBlanks a0 (jxu a 2 2 (jxw ((a 2 2) + 1))) := jfr_put hf rfl
        exact hc35 (jxu a 2 2 (jxw ((a 2 2) + 1))) (show ((((a 2 1) - (jxw ((a 2 2) + 1))) * 2) + 1).toNat ≤ n from by omega) hv28_ hf30_ (show 1 ≤ a 2 1 from by omega) (show 1 ≤ jxw ((a 2 2) + 1) from by omega) (show jxw ((a 2 2) + 1) ≤ a 2 1 from by omega) (show a0 2 2 < a0 2 1 from by omega) (by have e : (jxw ((a 2 2) + 1)).toNat = (a 2 2).toNat + 1 := (by omega); show SK (a 3) (a 2 1).toNat (jxw ((a 2 2) + 1)).toNat = _; rw [e, ← SK_step (by omega) (by assumption)]; exact hk)
      ·
        exact jt_rV ⟨hv, hf, rfl, (show (a0 2 1 ≤ a0 2 2 → a 2 2 = a0 2 2) from by omega), (by first | (rw [← hk, SK_end (by omega)]; omega) | (rw [← hk, SK_stay (by assumption)]; omega) | (rw [SK_end (by omega)]; omega) | (rw [SK_stay (by assumption)]; omega))⟩
    ·
      exact jt_rV ⟨hv, hf, rfl, (show (a0 2 1 ≤ a0 2 2 → a 2 2 = a0 2 2) from by omega), (by first | (rw [← hk, SK_end (by omega)]; omega) | (rw [← hk, SK_stay (by assumption)]; omega) | (rw [SK_end (by omega)]; omega) | (rw [SK_stay (by assumption)]; omega))⟩
  exact ⟨hc35, hc0⟩
theorem sp_X8_skipBlanks (E : jxE) (d : Nat) (hd : Nat.ble 1 d = true) (a0 b0 : Nat → Nat → Int) (hv0 : iv a0) : jt (jxC E d 131 [.inr (.inr (.inl 2))] (jxSH, a0, b0)) (jQ_X8_skipBlanks a0 b0) := by
  obtain ⟨d, rfl⟩ := jd_succ hd
  refine jt_eq (bq_X8_skipBlanks E d a0 b0) ?_
  have h31_ := iv_get hv0 (k := 2) (j := 2) (l := 0) (u := 200) rfl
  have h32_ := iv_get hv0 (k := 2) (j := 1) (l := 0) (u := 200) rfl
  refine jt_ite (fun c33_ => ?_) (fun c33_ => ?_)
  ·
    refine jt_grd (by omega) ?_
    have h34_ := iv_get hv0 (k := 3) (j := (a0 2 2).toNat) (l := 0) (u := 255) rfl
    refine jt_ite (fun c35_ => ?_) (fun c35_ => ?_)
    ·
      have h37_ : jxw ((a0 2 2) + 1) = (a0 2 2) + 1 := jxw_id (by omega) (by omega)
      have hv36_ : iv (jxu a0 2 2 (jxw ((a0 2 2) + 1))) := iv_put hv0 (l := 0) (u := 200) rfl (by omega) (by omega)
      have hf38_ : jfr jW_X8_skipBlanks a0 (jxu a0 2 2 (jxw ((a0 2 2) + 1))) := jfr_put (jfr_rf _ _) rfl
      exact (cp_X8_skipBlanks_0 E d hd a0 b0 hv0 _).1 (jxu a0 2 2 (jxw ((a0 2 2) + 1))) (Nat.le_refl _) hv36_ hf38_ (show 1 ≤ a0 2 1 from by omega) (show 1 ≤ jxw ((a0 2 2) + 1) from by omega) (show jxw ((a0 2 2) + 1) ≤ a0 2 1 from by omega) (show a0 2 2 < a0 2 1 from by omega) (by have e : (jxw ((a0 2 2) + 1)).toNat = (a0 2 2).toNat + 1 := (by omega); show SK (a0 3) (a0 2 1).toNat (jxw ((a0 2 2) + 1)).toNat = _; rw [e, ← SK_step (by omega) (by assumption)])
    ·
      exact jt_rV ⟨hv0, (jfr_rf _ _), rfl, (show (a0 2 1 ≤ a0 2 2 → a0 2 2 = a0 2 2) from by omega), (by first | (rw [← hk, SK_end (by omega)]; omega) | (rw [← hk, SK_stay (by assumption)]; omega) | (rw [SK_end (by omega)]; omega) | (rw [SK_stay (by assumption)]; omega))⟩
  ·
    exact jt_rV ⟨hv0, (jfr_rf _ _), rfl, (show (a0 2 1 ≤ a0 2 2 → a0 2 2 = a0 2 2) from by omega), (by first | (rw [← hk, SK_end (by omega)]; omega) | (rw [← hk, SK_stay (by assumption)]; omega) | (rw [SK_end (by omega)]; omega) | (rw [SK_stay (by assumption)]; omega))⟩
def jW_X8_takeNumber : List (Nat × Nat) := [(2, 2), (2, 3)]
abbrev jQ_X8_takeNumber (x1 x2 : Int) (a0 b0 : Nat → Nat → Int) : List jxV → (Nat → Nat → Int) → (Nat → Nat → Int) → Prop := rI (fun r a b => (iv a) ∧ (jfr jW_X8_takeNumber a0 a) ∧ (b0 = b) ∧ (r = NV (a0 3) (a0 2 1).toNat (a0 2 2).toNat) ∧ (a 2 2 = ((SK (a0 3) (a0 2 1).toNat (DE (a0 3) (a0 2 1).toNat (a0 2 2).toNat) : Nat) : Int)) ∧ (a 2 3 = (if a0 2 3 = 0 then NF (a0 3) (a0 2 1).toNat (a0 2 2).toNat x1 x2 else a0 2 3)) ∧ ((0 ≤ r ∧ r ≤ 999)))
theorem cp_X8_takeNumber_133 (E : jxE) (d : Nat) (hd : Nat.ble 2 (d + 1) = true) (x1 x2 : Int) (a0 b0 : Nat → Nat → Int) (hv0 : iv a0) : ∀ (y4 : Int) (a : Nat → Nat → Int), iv a → jfr jW_X8_takeNumber a0 a → (DE (a0 3) (a0 2 1).toNat (a0 2 2).toNat = (a 2 2).toNat) → (y4 = NV (a0 3) (a0 2 1).toNat (a0 2 2).toNat) → (a 2 3 = (if a0 2 3 = 0 then NF (a0 3) (a0 2 1).toNat (a0 2 2).toNat x1 x2 else a0 2 3)) → jt (jxX E d 130 133 [some (.inr (.inr (.inl 2))), none, none, none, some (.inl y4)] [] (jxSH, a, b0)) (jQ_X8_takeNumber x1 x2 a0 b0) := by
  intro y4 a hv hf hde hnv hnf
  refine jt_eq (bq_X8_takeNumber_133 E d y4 a b0) ?_
  have h3 : a 3 = a0 3 := funext fun j => hf 3 j rfl
  have h21 := hf 2 1 rfl
  have hnb := NV_bd (a0 3) (a0 2 1).toNat (a0 2 2).toNat
  refine jt_bV (sp_X8_skipBlanks E d (jd_le hd rfl) a b0 hv) (fun a39_ b39_ h39_ => ?_)
  obtain ⟨hv39_, hf39_, rfl, hq39_0, hq39_1⟩ := h39_
  have h40_ := iv_get hv (k := 2) (j := 1) (l := 0) (u := 200) rfl
  have h41_ : a 2 1 = a0 2 1 := hf 2 1 rfl
  have h42_ := iv_get hv0 (k := 2) (j := 1) (l := 0) (u := 200) rfl
  have h43_ := iv_get hv (k := 2) (j := 2) (l := 0) (u := 200) rfl
  have h44_ := iv_get hv39_ (k := 2) (j := 2) (l := 0) (u := 200) rfl
  have hf45_ : jfr jW_X8_takeNumber a0 a39_ := jfr_tr hf hf39_ rfl
  exact jt_rI ⟨hv39_, hf45_, rfl, hnv, (by have h := hq39_1; rw [hde, ← h3, ← h21]; exact h), (by rw [hf39_ 2 3 rfl]; exact hnf), (show (0 ≤ y4 ∧ y4 ≤ 999) from by omega)⟩
theorem cp_X8_takeNumber_127 (E : jxE) (d : Nat) (hd : Nat.ble 2 (d + 1) = true) (x1 x2 : Int) (a0 b0 : Nat → Nat → Int) (hv0 : iv a0) : ∀ (y3 y4 : Int) (a : Nat → Nat → Int), iv a → jfr jW_X8_takeNumber a0 a → 0 ≤ y3 → y3 ≤ 200 → (y3 = a0 2 2) → a0 2 2 < a 2 2 → a 2 3 = a0 2 3 → (DE (a0 3) (a0 2 1).toNat (a0 2 2).toNat = (a 2 2).toNat) → (y4 = NV (a0 3) (a0 2 1).toNat (a0 2 2).toNat) → (3 < (a 2 2) - (a0 2 2) ∨ y4 < x1 ∨ x2 < y4) → jt (jxX E d 130 127 [some (.inr (.inr (.inl 2))), none, none, some (.inl y3), some (.inl y4)] [] (jxSH, a, b0)) (jQ_X8_takeNumber x1 x2 a0 b0) := by
  intro y3 y4 a hv hf hi0 hi1 hy3 hi3 hi4 hde hnv hbad
  refine jt_eq (bq_X8_takeNumber_127 E d y3 y4 a b0) ?_
  have h46_ := iv_get hv0 (k := 2) (j := 2) (l := 0) (u := 200) rfl
  have h47_ := iv_get hv (k := 2) (j := 2) (l := 0) (u := 200) rfl
  have h3 : a 3 = a0 3 := funext fun j => hf 3 j rfl
  have h21 := hf 2 1 rfl
  refine jt_bV (sp_X8_noteFault E d (jd_le hd rfl) y3 1 a b0 hv) (fun a48_ b48_ h48_ => ?_)
  obtain ⟨hv48_, hf48_, rfl, hq48_0, hq48_1⟩ := h48_
  have hf49_ : jfr jW_X8_takeNumber a0 a48_ := jfr_tr hf hf48_ rfl
  exact cp_X8_takeNumber_133 E d hd x1 x2 a0 b0 hv0 y4 a48_ hv48_ hf49_ (by rw [hf48_ 2 2 rfl]; exact hde) hnv (by first | (have hN : NF (a0 3) (a0 2 1).toNat (a0 2 2).toNat x1 x2 = 1 + 8 * ((a0 2 2).toNat : Int) := (by unfold NF; rw [hde, if_pos (by omega)]); rw [hN]; split <;> omega) | (have hN : NF (a0 3) (a0 2 1).toNat (a0 2 2).toNat x1 x2 = 2 + 8 * ((a0 2 2).toNat : Int) := (by unfold NF; rw [hde, if_neg (by omega), if_pos (by rw [← hnv]; omega)]); rw [hN]; split <;> omega))
theorem cp_X8_takeNumber_90 (E : jxE) (d : Nat) (hd : Nat.ble 2 (d + 1) = true) (x1 x2 : Int) (a0 b0 : Nat → Nat → Int) (hv0 : iv a0) : ∀ (y1 y2 y3 y4 : Int) (a : Nat → Nat → Int), iv a → jfr jW_X8_takeNumber a0 a → 0 ≤ y3 → y3 ≤ 200 → (y1 = x1) → (y2 = x2) → (y3 = a0 2 2) → a0 2 2 ≤ a 2 2 → a 2 3 = a0 2 3 → (DE (a0 3) (a0 2 1).toNat (a0 2 2).toNat = (a 2 2).toNat) → (y4 = NV (a0 3) (a0 2 1).toNat (a0 2 2).toNat) → jt (jxX E d 130 90 [some (.inr (.inr (.inl 2))), some (.inl y1), some (.inl y2), some (.inl y3), some (.inl y4)] [] (jxSH, a, b0)) (jQ_X8_takeNumber x1 x2 a0 b0) := by
  intro y1 y2 y3 y4 a hv hf hi0 hi1 hy1 hy2 hy3 hi5 hi6 hde hnv
  refine jt_eq (bq_X8_takeNumber_90 E d y1 y2 y3 y4 a b0) ?_
  have h50_ := iv_get hv0 (k := 2) (j := 2) (l := 0) (u := 200) rfl
  have h51_ := iv_get hv (k := 2) (j := 2) (l := 0) (u := 200) rfl
  have h3 : a 3 = a0 3 := funext fun j => hf 3 j rfl
  have h21 := hf 2 1 rfl
  refine jt_ite (fun c52_ => ?_) (fun c52_ => ?_)
  ·
    refine jt_bV (sp_X8_noteFault E d (jd_le hd rfl) y3 0 a b0 hv) (fun a53_ b53_ h53_ => ?_)
    obtain ⟨hv53_, hf53_, rfl, hq53_0, hq53_1⟩ := h53_
    have hf54_ : jfr jW_X8_takeNumber a0 a53_ := jfr_tr hf hf53_ rfl
    exact cp_X8_takeNumber_133 E d hd x1 x2 a0 b0 hv0 y4 a53_ hv53_ hf54_ (by rw [hf53_ 2 2 rfl]; exact hde) hnv (by first | (have hN : NF (a0 3) (a0 2 1).toNat (a0 2 2).toNat x1 x2 = 1 + 8 * ((a0 2 2).toNat : Int) := (by unfold NF; rw [hde, if_pos (by omega)]); rw [hN]; split <;> omega) | (have hN : NF (a0 3) (a0 2 1).toNat (a0 2 2).toNat x1 x2 = 2 + 8 * ((a0 2 2).toNat : Int) := (by unfold NF; rw [hde, if_neg (by omega), if_pos (by rw [← hnv]; omega)]); rw [hN]; split <;> omega))
  ·
    have h55_ : jxw ((a 2 2) - y3) = (a 2 2) - y3 := jxw_id (by omega) (by omega)
    refine jt_ite (fun c56_ => ?_) (fun c56_ => ?_)
    ·
      exact cp_X8_takeNumber_127 E d hd x1 x2 a0 b0 hv0 y3 y4 a hv hf (show 0 ≤ y3 from by omega) (show y3 ≤ 200 from by omega) (by first | rfl | assumption) (show a0 2 2 < a 2 2 from by omega) (show a 2 3 = a0 2 3 from by omega) hde hnv (by omega)
    ·
      refine jt_eI (eq_X11_within E d (jd_le hd rfl) y4 y1 y2 a b0) ?_
      have h57_ := f_X11_within_eq a b0 y4 y1 y2
      refine jt_ite (fun c58_ => ?_) (fun c58_ => ?_)
      ·
        exact cp_X8_takeNumber_127 E d hd x1 x2 a0 b0 hv0 y3 y4 a hv hf (show 0 ≤ y3 from by omega) (show y3 ≤ 200 from by omega) (by first | rfl | assumption) (show a0 2 2 < a 2 2 from by omega) (show a 2 3 = a0 2 3 from by omega) hde hnv (by omega)
      ·
        exact cp_X8_takeNumber_133 E d hd x1 x2 a0 b0 hv0 y4 a hv hf hde hnv (by (have hN : NF (a0 3) (a0 2 1).toNat (a0 2 2).toNat x1 x2 = 0 := (by unfold NF; rw [hde, if_neg (by omega), if_neg (by rw [← hnv]; omega)]); rw [hN]; split <;> omega))
theorem cp_X8_takeNumber_8 (E : jxE) (d : Nat) (hd : Nat.ble 2 (d + 1) = true) (x1 x2 : Int) (a0 b0 : Nat → Nat → Int) (hv0 : iv a0) : ∀ n : Nat, (∀ (y1 y2 y3 y4 : Int) (a : Nat → Nat → Int), ((((a 2 1) - (a 2 2)) * 1) + 0).toNat ≤ n → iv a → jfr jW_X8_takeNumber a0 a → 0 ≤ y3 → y3 ≤ 200 → 1 ≤ a 2 1 → a 2 2 ≤ 199 → a 2 2 < a 2 1 → (y1 = x1) → (y2 = x2) → (y3 = a0 2 2) → a0 2 2 ≤ a 2 2 → (∀ j : Nat, (a0 2 2).toNat ≤ j → (j : Int) < a 2 2 → DG (a0 3) (a0 2 1).toNat j) → (DG (a0 3) (a0 2 1).toNat (a 2 2).toNat) → (y4 = DV (a0 3) (a0 2 2).toNat ((a 2 2).toNat - (a0 2 2).toNat + 1)) → a 2 3 = a0 2 3 → jt (jxX E d 130 77 [some (.inr (.inr (.inl 2))), some (.inl y1), some (.inl y2), some (.inl y3), some (.inl y4)] [] (jxSH, a, b0)) (jQ_X8_takeNumber x1 x2 a0 b0)) ∧ (∀ (y1 y2 y3 y4 : Int) (a : Nat → Nat → Int), ((((a 2 1) - (a 2 2)) * 1) + 0).toNat ≤ n → iv a → jfr jW_X8_takeNumber a0 a → 0 ≤ y3 → y3 ≤ 200 → 1 ≤ a 2 1 → a 2 2 ≤ 199 → a 2 2 < a 2 1 → (y1 = x1) → (y2 = x2) → (y3 = a0 2 2) → a0 2 2 ≤ a 2 2 → (∀ j : Nat, (a0 2 2).toNat ≤ j → (j : Int) < a 2 2 → DG (a0 3) (a0 2 1).toNat j) → (y4 = DV (a0 3) (a0 2 2).toNat ((a 2 2).toNat - (a0 2 2).toNat)) → (DG (a0 3) (a0 2 1).toNat (a 2 2).toNat) → a 2 3 = a0 2 3 → jt (jxX E d 130 47 [some (.inr (.inr (.inl 2))), some (.inl y1), some (.inl y2), some (.inl y3), some (.inl y4)] [] (jxSH, a, b0)) (jQ_X8_takeNumber x1 x2 a0 b0)) ∧ (∀ (y1 y2 y3 y4 : Int) (a : Nat → Nat → Int), ((((a 2 1) - (a 2 2)) * 1) + 0).toNat ≤ n → iv a → jfr jW_X8_takeNumber a0 a → 0 ≤ y3 → y3 ≤ 200 → (y1 = x1) → (y2 = x2) → (y3 = a0 2 2) → a0 2 2 ≤ a 2 2 → (∀ j : Nat, (a0 2 2).toNat ≤ j → (j : Int) < a 2 2 → DG (a0 3) (a0 2 1).toNat j) → (y4 = DV (a0 3) (a0 2 2).toNat ((a 2 2).toNat - (a0 2 2).toNat)) → a 2 3 = a0 2 3 → jt (jxX E d 130 8 [some (.inr (.inr (.inl 2))), some (.inl y1), some (.inl y2), some (.inl y3), some (.inl y4)] [] (jxSH, a, b0)) (jQ_X8_takeNumber x1 x2 a0 b0)) := by
  refine jx_ind fun n ih => ?_
  have ih77 : ∀ (y1 y2 y3 y4 : Int) (a : Nat → Nat → Int), ((((a 2 1) - (a 2 2)) * 1) + 0).toNat < n → iv a → jfr jW_X8_takeNumber a0 a → 0 ≤ y3 → y3 ≤ 200 → 1 ≤ a 2 1 → a 2 2 ≤ 199 → a 2 2 < a 2 1 → (y1 = x1) → (y2 = x2) → (y3 = a0 2 2) → a0 2 2 ≤ a 2 2 → (∀ j : Nat, (a0 2 2).toNat ≤ j → (j : Int) < a 2 2 → DG (a0 3) (a0 2 1).toNat j) → (DG (a0 3) (a0 2 1).toNat (a 2 2).toNat) → (y4 = DV (a0 3) (a0 2 2).toNat ((a 2 2).toNat - (a0 2 2).toNat + 1)) → a 2 3 = a0 2 3 → jt (jxX E d 130 77 [some (.inr (.inr (.inl 2))), some (.inl y1), some (.inl y2), some (.inl y3), some (.inl y4)] [] (jxSH, a, b0)) (jQ_X8_takeNumber x1 x2 a0 b0) := fun y1 y2 y3 y4 a hlt i0 i1 i2 i3 i4 i5 i6 i7 i8 i9 i10 i11 i12 i13 i14 => (ih _ hlt).1 y1 y2 y3 y4 a (Nat.le_refl _) i0 i1 i2 i3 i4 i5 i6 i7 i8 i9 i10 i11 i12 i13 i14
  have ih47 : ∀ (y1 y2 y3 y4 : Int) (a : Nat → Nat → Int), ((((a 2 1) - (a 2 2)) * 1) + 0).toNat < n → iv a → jfr jW_X8_takeNumber a0 a → 0 ≤ y3 → y3 ≤ 200 → 1 ≤ a 2 1 → a 2 2 ≤ 199 → a 2 2 < a 2 1 → (y1 = x1) → (y2 = x2) → (y3 = a0 2 2) → a0 2 2 ≤ a 2 2 → (∀ j : Nat, (a0 2 2).toNat ≤ j → (j : Int) < a 2 2 → DG (a0 3) (a0 2 1).toNat j) → (y4 = DV (a0 3) (a0 2 2).toNat ((a 2 2).toNat - (a0 2 2).toNat)) → (DG (a0 3) (a0 2 1).toNat (a 2 2).toNat) → a 2 3 = a0 2 3 → jt (jxX E d 130 47 [some (.inr (.inr (.inl 2))), some (.inl y1), some (.inl y2), some (.inl y3), some (.inl y4)] [] (jxSH, a, b0)) (jQ_X8_takeNumber x1 x2 a0 b0) := fun y1 y2 y3 y4 a hlt i0 i1 i2 i3 i4 i5 i6 i7 i8 i9 i10 i11 i12 i13 i14 => (ih _ hlt).2.1 y1 y2 y3 y4 a (Nat.le_refl _) i0 i1 i2 i3 i4 i5 i6 i7 i8 i9 i10 i11 i12 i13 i14
  have ih8 : ∀ (y1 y2 y3 y4 : Int) (a : Nat → Nat → Int), ((((a 2 1) - (a 2 2)) * 1) + 0).toNat < n → iv a → jfr jW_X8_takeNumber a0 a → 0 ≤ y3 → y3 ≤ 200 → (y1 = x1) → (y2 = x2) → (y3 = a0 2 2) → a0 2 2 ≤ a 2 2 → (∀ j : Nat, (a0 2 2).toNat ≤ j → (j : Int) < a 2 2 → DG (a0 3) (a0 2 1).toNat j) → (y4 = DV (a0 3) (a0 2 2).toNat ((a 2 2).toNat - (a0 2 2).toNat)) → a 2 3 = a0 2 3 → jt (jxX E d 130 8 [some (.inr (.inr (.inl 2))), some (.inl y1), some (.inl y2), some (.inl y3), some (.inl y4)] [] (jxSH, a, b0)) (jQ_X8_takeNumber x1 x2 a0 b0) := fun y1 y2 y3 y4 a hlt i0 i1 i2 i3 i4 i5 i6 i7 i8 i9 i10 => (ih _ hlt).2.2 y1 y2 y3 y4 a (Nat.le_refl _) i0 i1 i2 i3 i4 i5 i6 i7 i8 i9 i10
  have hc77 : ∀ (y1 y2 y3 y4 : Int) (a : Nat → Nat → Int), ((((a 2 1) - (a 2 2)) * 1) + 0).toNat ≤ n → iv a → jfr jW_X8_takeNumber a0 a → 0 ≤ y3 → y3 ≤ 200 → 1 ≤ a 2 1 → a 2 2 ≤ 199 → a 2 2 < a 2 1 → (y1 = x1) → (y2 = x2) → (y3 = a0 2 2) → a0 2 2 ≤ a 2 2 → (∀ j : Nat, (a0 2 2).toNat ≤ j → (j : Int) < a 2 2 → DG (a0 3) (a0 2 1).toNat j) → (DG (a0 3) (a0 2 1).toNat (a 2 2).toNat) → (y4 = DV (a0 3) (a0 2 2).toNat ((a 2 2).toNat - (a0 2 2).toNat + 1)) → a 2 3 = a0 2 3 → jt (jxX E d 130 77 [some (.inr (.inr (.inl 2))), some (.inl y1), some (.inl y2), some (.inl y3), some (.inl y4)] [] (jxSH, a, b0)) (jQ_X8_takeNumber x1 x2 a0 b0) := by
    intro y1 y2 y3 y4 a hm hv hf hi0 hi1 hi2 hi3 hi4 hy1 hy2 hy3 hi8 hdg hd1 hdv hi12
    refine jt_eq (bq_X8_takeNumber_77 E d y1 y2 y3 y4 a b0) ?_
    have h59_ := iv_get hv (k := 2) (j := 1) (l := 0) (u := 200) rfl
    have h60_ : a 2 1 = a0 2 1 := hf 2 1 rfl
    have h61_ := iv_get hv0 (k := 2) (j := 1) (l := 0) (u := 200) rfl
    have h62_ := iv_get hv (k := 2) (j := 2) (l := 0) (u := 200) rfl
    have h63_ := iv_get hv0 (k := 2) (j := 2) (l := 0) (u := 200) rfl
    have h3 : a 3 = a0 3 := funext fun j => hf 3 j rfl
    have h21 := hf 2 1 rfl
    have h65_ : jxw ((a 2 2) + 1) = (a 2 2) + 1 := jxw_id (by omega) (by omega)
    have hv64_ : iv (jxu a 2 2 (jxw ((a 2 2) + 1))) := iv_put hv (l := 0) (u := 200) rfl (by omega) (by omega)
    have hf66_ : jfr jW_X8_takeNumber a0 (jxu a 2 2 (jxw ((a 2 2) + 1))) := jfr_put hf rfl
    exact ih8 y1 y2 y3 y4 (jxu a 2 2 (jxw ((a 2 2) + 1))) (show ((((a 2 1) - (jxw ((a 2 2) + 1))) * 1) + 0).toNat < n from by omega) hv64_ hf66_ (show 0 ≤ y3 from by omega) (show y3 ≤ 200 from by omega) (by first | rfl | assumption) (by first | rfl | assumption) (by first | rfl | assumption) (show a0 2 2 ≤ jxw ((a 2 2) + 1) from by omega) (by first | exact (fun j h1 h2 => absurd h2 (by omega)) | exact (dg_ext hdg hd1 (by omega) (show jxw ((a 2 2) + 1) = a 2 2 + 1 by omega))) (by first | (rw [show (a0 2 2).toNat - (a0 2 2).toNat = 0 from by omega]; rfl) | (show y4 = DV (a0 3) (a0 2 2).toNat ((jxw ((a 2 2) + 1)).toNat - (a0 2 2).toNat); rw [show (jxw ((a 2 2) + 1)).toNat - (a0 2 2).toNat = (a 2 2).toNat - (a0 2 2).toNat + 1 from by omega]; exact hdv)) (show a 2 3 = a0 2 3 from by omega)
  have hc47 : ∀ (y1 y2 y3 y4 : Int) (a : Nat → Nat → Int), ((((a 2 1) - (a 2 2)) * 1) + 0).toNat ≤ n → iv a → jfr jW_X8_takeNumber a0 a → 0 ≤ y3 → y3 ≤ 200 → 1 ≤ a 2 1 → a 2 2 ≤ 199 → a 2 2 < a 2 1 → (y1 = x1) → (y2 = x2) → (y3 = a0 2 2) → a0 2 2 ≤ a 2 2 → (∀ j : Nat, (a0 2 2).toNat ≤ j → (j : Int) < a 2 2 → DG (a0 3) (a0 2 1).toNat j) → (y4 = DV (a0 3) (a0 2 2).toNat ((a 2 2).toNat - (a0 2 2).toNat)) → (DG (a0 3) (a0 2 1).toNat (a 2 2).toNat) → a 2 3 = a0 2 3 → jt (jxX E d 130 47 [some (.inr (.inr (.inl 2))), some (.inl y1), some (.inl y2), some (.inl y3), some (.inl y4)] [] (jxSH, a, b0)) (jQ_X8_takeNumber x1 x2 a0 b0) := by
    intro y1 y2 y3 y4 a hm hv hf hi0 hi1 hi2 hi3 hi4 hy1 hy2 hy3 hi8 hdg hdv hd1 hi12
    refine jt_eq (bq_X8_takeNumber_47 E d y1 y2 y3 y4 a b0) ?_
    have h67_ := iv_get hv (k := 2) (j := 1) (l := 0) (u := 200) rfl
    have h68_ : a 2 1 = a0 2 1 := hf 2 1 rfl
    have h69_ := iv_get hv0 (k := 2) (j := 1) (l := 0) (u := 200) rfl
    have h70_ := iv_get hv (k := 2) (j := 2) (l := 0) (u := 200) rfl
    have h71_ := iv_get hv0 (k := 2) (j := 2) (l := 0) (u := 200) rfl
    have h3 : a 3 = a0 3 := funext fun j => hf 3 j rfl
    have h21 := hf 2 1 rfl
    have hdb := DV_bd (f := a0 3) (n := (a0 2 1).toNat) (p := (a0 2 2).toNat) (m := (a 2 2).toNat - (a0 2 2).toNat) (fun k hk => hdg _ (by omega) (by omega))
    have h72_ : jxw ((a 2 2) - y3) = (a 2 2) - y3 := jxw_id (by omega) (by omega)
    refine jt_ite (fun c73_ => ?_) (fun c73_ => ?_)
    ·
      refine jt_grd (by omega) ?_
      have h74_ := jxw_im (y4 * 10)
      have h75_ := jxw_rg (y4 * 10)
      have h76_ := iv_get hv (k := 3) (j := (a 2 2).toNat) (l := 0) (u := 255) rfl
      have h77_ : a 3 ((a 2 2).toNat) = a0 3 ((a 2 2).toNat) := hf 3 ((a 2 2).toNat) rfl
      have h78_ := iv_get hv0 (k := 3) (j := (a 2 2).toNat) (l := 0) (u := 255) rfl
      have h79_ := jxw_im ((jxw (y4 * 10)) + (a 3 ((a 2 2).toNat)))
      have h80_ := jxw_rg ((jxw (y4 * 10)) + (a 3 ((a 2 2).toNat)))
      have h81_ := jxw_im ((jxw ((jxw (y4 * 10)) + (a 3 ((a 2 2).toNat)))) - 48)
      have h82_ := jxw_rg ((jxw ((jxw (y4 * 10)) + (a 3 ((a 2 2).toNat)))) - 48)
      exact hc77 y1 y2 y3 (jxw ((jxw ((jxw (y4 * 10)) + (a 3 ((a 2 2).toNat)))) - 48)) a (show ((((a 2 1) - (a 2 2)) * 1) + 0).toNat ≤ n from by omega) hv hf (show 0 ≤ y3 from by omega) (show y3 ≤ 200 from by omega) (show 1 ≤ a 2 1 from by omega) (show a 2 2 ≤ 199 from by omega) (show a 2 2 < a 2 1 from by omega) (by first | rfl | assumption) (by first | rfl | assumption) (by first | rfl | assumption) (show a0 2 2 ≤ a 2 2 from by omega) hdg hd1 (by first | (rw [DV_lt (by omega), ← hdv, show (a0 2 2).toNat + ((a 2 2).toNat - (a0 2 2).toNat) = (a 2 2).toNat from by omega, ← h3]; have hd2 := hd1; rw [← h3] at hd2; obtain ⟨q1, q2, q3⟩ := hd2; omega) | (rw [DV_ge (by omega)]; exact hdv)) (show a 2 3 = a0 2 3 from by omega)
    ·
      exact hc77 y1 y2 y3 y4 a (show ((((a 2 1) - (a 2 2)) * 1) + 0).toNat ≤ n from by omega) hv hf (show 0 ≤ y3 from by omega) (show y3 ≤ 200 from by omega) (show 1 ≤ a 2 1 from by omega) (show a 2 2 ≤ 199 from by omega) (show a 2 2 < a 2 1 from by omega) (by first | rfl | assumption) (by first | rfl | assumption) (by first | rfl | assumption) (show a0 2 2 ≤ a 2 2 from by omega) hdg hd1 (by first | (rw [DV_lt (by omega), ← hdv, show (a0 2 2).toNat + ((a 2 2).toNat - (a0 2 2).toNat) = (a 2 2).toNat from by omega, ← h3]; have hd2 := hd1; rw [← h3] at hd2; obtain ⟨q1, q2, q3⟩ := hd2; omega) | (rw [DV_ge (by omega)]; exact hdv)) (show a 2 3 = a0 2 3 from by omega)
  have hc8 : ∀ (y1 y2 y3 y4 : Int) (a : Nat → Nat → Int), ((((a 2 1) - (a 2 2)) * 1) + 0).toNat ≤ n → iv a → jfr jW_X8_takeNumber a0 a → 0 ≤ y3 → y3 ≤ 200 → (y1 = x1) → (y2 = x2) → (y3 = a0 2 2) → a0 2 2 ≤ a 2 2 → (∀ j : Nat, (a0 2 2).toNat ≤ j → (j : Int) < a 2 2 → DG (a0 3) (a0 2 1).toNat j) → (y4 = DV (a0 3) (a0 2 2).toNat ((a 2 2).toNat - (a0 2 2).toNat)) → a 2 3 = a0 2 3 → jt (jxX E d 130 8 [some (.inr (.inr (.inl 2))), some (.inl y1), some (.inl y2), some (.inl y3), some (.inl y4)] [] (jxSH, a, b0)) (jQ_X8_takeNumber x1 x2 a0 b0) := by
    intro y1 y2 y3 y4 a hm hv hf hi0 hi1 hy1 hy2 hy3 hi5 hdg hdv hi8
    refine jt_eq (bq_X8_takeNumber_8 E d y1 y2 y3 y4 a b0) ?_
    have h83_ := iv_get hv0 (k := 2) (j := 2) (l := 0) (u := 200) rfl
    have h84_ := iv_get hv (k := 2) (j := 2) (l := 0) (u := 200) rfl
    have h85_ := iv_get hv (k := 2) (j := 1) (l := 0) (u := 200) rfl
    have h86_ : a 2 1 = a0 2 1 := hf 2 1 rfl
    have h87_ := iv_get hv0 (k := 2) (j := 1) (l := 0) (u := 200) rfl
    have h3 : a 3 = a0 3 := funext fun j => hf 3 j rfl
    have h21 := hf 2 1 rfl
    refine jt_ite (fun c88_ => ?_) (fun c88_ => ?_)
    ·
      refine jt_grd (by omega) ?_
      have h89_ := iv_get hv (k := 3) (j := (a 2 2).toNat) (l := 0) (u := 255) rfl
      have h90_ : a 3 ((a 2 2).toNat) = a0 3 ((a 2 2).toNat) := hf 3 ((a 2 2).toNat) rfl
      have h91_ := iv_get hv0 (k := 3) (j := (a 2 2).toNat) (l := 0) (u := 255) rfl
      refine jt_ite (fun c92_ => ?_) (fun c92_ => ?_)
      ·
        exact cp_X8_takeNumber_90 E d hd x1 x2 a0 b0 hv0 y1 y2 y3 y4 a hv hf (show 0 ≤ y3 from by omega) (show y3 ≤ 200 from by omega) (by first | rfl | assumption) (by first | rfl | assumption) (by first | rfl | assumption) (show a0 2 2 ≤ a 2 2 from by omega) (show a 2 3 = a0 2 3 from by omega) (DE_un (by omega) (fun j h1 h2 => hdg j h1 (by omega)) (fun h => by rw [← h3] at h; obtain ⟨q1, q2, q3⟩ := h; omega)) (by unfold NV; rw [DE_un (q := (a 2 2).toNat) (by omega) (fun j h1 h2 => hdg j h1 (by omega)) (fun h => by rw [← h3] at h; obtain ⟨q1, q2, q3⟩ := h; omega)]; exact hdv)
      ·
        refine jt_grd (by omega) ?_
        refine jt_ite (fun c93_ => ?_) (fun c93_ => ?_)
        ·
          exact cp_X8_takeNumber_90 E d hd x1 x2 a0 b0 hv0 y1 y2 y3 y4 a hv hf (show 0 ≤ y3 from by omega) (show y3 ≤ 200 from by omega) (by first | rfl | assumption) (by first | rfl | assumption) (by first | rfl | assumption) (show a0 2 2 ≤ a 2 2 from by omega) (show a 2 3 = a0 2 3 from by omega) (DE_un (by omega) (fun j h1 h2 => hdg j h1 (by omega)) (fun h => by rw [← h3] at h; obtain ⟨q1, q2, q3⟩ := h; omega)) (by unfold NV; rw [DE_un (q := (a 2 2).toNat) (by omega) (fun j h1 h2 => hdg j h1 (by omega)) (fun h => by rw [← h3] at h; obtain ⟨q1, q2, q3⟩ := h; omega)]; exact hdv)
        ·
          exact hc47 y1 y2 y3 y4 a (show ((((a 2 1) - (a 2 2)) * 1) + 0).toNat ≤ n from by omega) hv hf (show 0 ≤ y3 from by omega) (show y3 ≤ 200 from by omega) (show 1 ≤ a 2 1 from by omega) (show a 2 2 ≤ 199 from by omega) (show a 2 2 < a 2 1 from by omega) (by first | rfl | assumption) (by first | rfl | assumption) (by first | rfl | assumption) (show a0 2 2 ≤ a 2 2 from by omega) hdg hdv (by refine ⟨by omega, ?_, ?_⟩ <;> (rw [← h3]; omega)) (show a 2 3 = a0 2 3 from by omega)
    ·
      exact cp_X8_takeNumber_90 E d hd x1 x2 a0 b0 hv0 y1 y2 y3 y4 a hv hf (show 0 ≤ y3 from by omega) (show y3 ≤ 200 from by omega) (by first | rfl | assumption) (by first | rfl | assumption) (by first | rfl | assumption) (show a0 2 2 ≤ a 2 2 from by omega) (show a 2 3 = a0 2 3 from by omega) (DE_un (by omega) (fun j h1 h2 => hdg j h1 (by omega)) (fun h => by rw [← h3] at h; obtain ⟨q1, q2, q3⟩ := h; omega)) (by unfold NV; rw [DE_un (q := (a 2 2).toNat) (by omega) (fun j h1 h2 => hdg j h1 (by omega)) (fun h => by rw [← h3] at h; obtain ⟨q1, q2, q3⟩ := h; omega)]; exact hdv)
  exact ⟨hc77, hc47, hc8⟩
theorem sp_X8_takeNumber (E : jxE) (d : Nat) (hd : Nat.ble 2 d = true) (x1 x2 : Int) (a0 b0 : Nat → Nat → Int) (hv0 : iv a0) : jt (jxC E d 130 [.inr (.inr (.inl 2)), .inl x1, .inl x2] (jxSH, a0, b0)) (jQ_X8_takeNumber x1 x2 a0 b0) := by
  obtain ⟨d, rfl⟩ := jd_succ hd
  refine jt_eq (bq_X8_takeNumber E d x1 x2 a0 b0) ?_
  have h94_ := iv_get hv0 (k := 2) (j := 2) (l := 0) (u := 200) rfl
  exact (cp_X8_takeNumber_8 E d hd x1 x2 a0 b0 hv0 _).2.2 x1 x2 (a0 2 2) 0 a0 (Nat.le_refl _) hv0 (jfr_rf _ _) (show 0 ≤ a0 2 2 from by omega) (show a0 2 2 ≤ 200 from by omega) (by first | rfl | assumption) (by first | rfl | assumption) (by first | rfl | assumption) (show a0 2 2 ≤ a0 2 2 from by omega) (by first | exact (fun j h1 h2 => absurd h2 (by omega)) | exact (dg_ext hdg hd1 (by omega) (show jxw ((a 2 2) + 1) = a 2 2 + 1 by omega))) (by first | (rw [show (a0 2 2).toNat - (a0 2 2).toNat = 0 from by omega]; rfl) | (show y4 = DV (a0 3) (a0 2 2).toNat ((jxw ((a 2 2) + 1)).toNat - (a0 2 2).toNat); rw [show (jxw ((a 2 2) + 1)).toNat - (a0 2 2).toNat = (a 2 2).toNat - (a0 2 2).toNat + 1 from by omega]; exact hdv)) (show a0 2 3 = a0 2 3 from by omega)
def jW_X8_takesWord_r1000 : List (Nat × Nat) := [(2, 2)]
abbrev jQ_X8_takesWord_r1000 (a0 b0 : Nat → Nat → Int) : List jxV → (Nat → Nat → Int) → (Nat → Nat → Int) → Prop := rI (fun r a b => (iv a) ∧ (jfr jW_X8_takesWord_r1000 a0 a) ∧ (b0 = b) ∧ ((0 ≤ r ∧ r ≤ 1)) ∧ (((¬ a0 2 3 = 0 ∨ a0 2 1 ≤ a0 2 2) → r = 0)) ∧ ((r = 0 → a 2 2 = a0 2 2)) ∧ (r = 1 → a0 2 3 = 0 ∧ TW (a0 3) (a0 2 1).toNat (a0 2 2).toNat 2 ∧ a 2 2 = ((SK (a0 3) (a0 2 1).toNat ((a0 2 2).toNat + wdn 2) : Nat) : Int)) ∧ (r = 0 → ¬ a0 2 3 = 0 ∨ ¬ TW (a0 3) (a0 2 1).toNat (a0 2 2).toNat 2))
theorem cp_X8_takesWord_r1000_56 (E : jxE) (d : Nat) (hd : Nat.ble 5 (d + 1) = true) (a0 b0 : Nat → Nat → Int) (hv0 : iv a0) : ∀ (a : Nat → Nat → Int), iv a → jfr jW_X8_takesWord_r1000 a0 a → 3 ≤ a 2 1 → a 2 2 = a0 2 2 → (¬ TW (a0 3) (a0 2 1).toNat (a0 2 2).toNat 2) → a0 2 3 = 0 → a0 2 2 < a0 2 1 → jt (jxX E d 128 56 [none, none, none, none] [] (jxSH, a, b0)) (jQ_X8_takesWord_r1000 a0 b0) := by
  intro a hv hf hi0 hi1 hnt hi3 hi4
  refine jt_eq (bq_X8_takesWord_r1000_56 E d a b0) ?_
  have h95_ := iv_get hv (k := 2) (j := 1) (l := 0) (u := 200) rfl
  have h96_ : a 2 1 = a0 2 1 := hf 2 1 rfl
  have h97_ := iv_get hv0 (k := 2) (j := 1) (l := 0) (u := 200) rfl
  have h98_ := iv_get hv (k := 2) (j := 2) (l := 0) (u := 200) rfl
  have h99_ := iv_get hv0 (k := 2) (j := 2) (l := 0) (u := 200) rfl
  have h3 : a 3 = a0 3 := funext fun j => hf 3 j rfl
  have h21 := hf 2 1 rfl
  exact jt_rI ⟨hv, hf, rfl, (show (0 ≤ 0 ∧ 0 ≤ 1) from by omega), (show ((¬ a0 2 3 = 0 ∨ a0 2 1 ≤ a0 2 2) → 0 = 0) from by omega), (show (0 = 0 → a 2 2 = a0 2 2) from by omega), (by first | exact (fun h => absurd h (by decide)) | exact (fun _ => ⟨by omega, htw, by have h := hq0_1; rw [show (a0 2 2).toNat + wdn 2 = y2.toNat from (by show _ + 3 = _; omega), ← h3, ← h21]; exact h⟩)), (by first | exact (fun h => absurd h (by decide)) | exact (fun _ => Or.inr hnt) | exact (fun _ => Or.inl (by omega)) | exact (fun _ => Or.inr (TW_short (show _ < _ + 3 by omega))) | exact (fun _ => Or.inr (TW_let (q := y2.toNat) (show y2.toNat = (a0 2 2).toNat + 3 by omega) ⟨by omega, h97, by rw [← h3]; omega⟩)))⟩
theorem cp_X8_takesWord_r1000_96 (E : jxE) (d : Nat) (hd : Nat.ble 5 (d + 1) = true) (a0 b0 : Nat → Nat → Int) (hv0 : iv a0) : ∀ (y2 : Int) (a : Nat → Nat → Int), iv a → jfr jW_X8_takesWord_r1000 a0 a → 3 ≤ y2 → y2 ≤ 200 → 3 ≤ a 2 1 → a 2 2 = a0 2 2 → (TW (a0 3) (a0 2 1).toNat (a0 2 2).toNat 2) → y2 = (a 2 2) + 3 → y2 ≤ a 2 1 → y2 ≤ 200 → a0 2 3 = 0 → a0 2 2 < a0 2 1 → jt (jxX E d 128 96 [some (.inr (.inr (.inl 2))), none, some (.inl y2), none] [] (jxSH, a, b0)) (jQ_X8_takesWord_r1000 a0 b0) := by
  intro y2 a hv hf hi0 hi1 hi2 hi3 htw hi5 hi6 hi7 hi8 hi9
  refine jt_eq (bq_X8_takesWord_r1000_96 E d y2 a b0) ?_
  have h100_ := iv_get hv (k := 2) (j := 1) (l := 0) (u := 200) rfl
  have h101_ : a 2 1 = a0 2 1 := hf 2 1 rfl
  have h102_ := iv_get hv0 (k := 2) (j := 1) (l := 0) (u := 200) rfl
  have h103_ := iv_get hv (k := 2) (j := 2) (l := 0) (u := 200) rfl
  have h104_ := iv_get hv0 (k := 2) (j := 2) (l := 0) (u := 200) rfl
  have h3 : a 3 = a0 3 := funext fun j => hf 3 j rfl
  have h21 := hf 2 1 rfl
  have hv105_ : iv (jxu a 2 2 y2) := iv_put hv (l := 0) (u := 200) rfl (by omega) (by omega)
  refine jt_bV (sp_X8_skipBlanks E d (jd_le hd rfl) (jxu a 2 2 y2) b0 hv105_) (fun a106_ b106_ h106_ => ?_)
  obtain ⟨hv106_, hf106_, rfl, hq106_0, hq106_1⟩ := h106_
  have h107_ := iv_get hv106_ (k := 2) (j := 2) (l := 0) (u := 200) rfl
  have h108_ : (a 2 1 ≤ y2 → a106_ 2 2 = y2) := hq106_0
  have hf109_ : jfr jW_X8_takesWord_r1000 a0 (jxu a 2 2 y2) := jfr_put hf rfl
  have hf110_ : jfr jW_X8_takesWord_r1000 a0 a106_ := jfr_tr hf109_ hf106_ rfl
  exact jt_rI ⟨hv106_, hf110_, rfl, (show (0 ≤ 1 ∧ 1 ≤ 1) from by omega), (show ((¬ a0 2 3 = 0 ∨ a0 2 1 ≤ a0 2 2) → 1 = 0) from by omega), (show (1 = 0 → a106_ 2 2 = a0 2 2) from by omega), (by first | exact (fun h => absurd h (by decide)) | exact (fun _ => ⟨by omega, htw, by have h := hq106_1; rw [show (a0 2 2).toNat + wdn 2 = y2.toNat from (by show _ + 3 = _; omega), ← h3, ← h21]; exact h⟩)), (by first | exact (fun h => absurd h (by decide)) | exact (fun _ => Or.inr hnt) | exact (fun _ => Or.inl (by omega)) | exact (fun _ => Or.inr (TW_short (show _ < _ + 3 by omega))) | exact (fun _ => Or.inr (TW_let (q := y2.toNat) (show y2.toNat = (a0 2 2).toNat + 3 by omega) ⟨by omega, h97, by rw [← h3]; omega⟩)))⟩
theorem cp_X8_takesWord_r1000_83 (E : jxE) (d : Nat) (hd : Nat.ble 5 (d + 1) = true) (a0 b0 : Nat → Nat → Int) (hv0 : iv a0) : ∀ (y2 : Int) (a : Nat → Nat → Int), iv a → jfr jW_X8_takesWord_r1000 a0 a → 3 ≤ y2 → y2 ≤ 199 → 4 ≤ a 2 1 → a 2 2 = a0 2 2 → y2 < a 2 1 → (∀ k : Nat, (k : Int) < (wdn 2 : Int) → (a0 3) ((a0 2 2).toNat + k) = (wdl 2).getD k 0) → (97 ≤ a0 3 y2.toNat) → y2 = (a 2 2) + 3 → y2 ≤ a 2 1 → y2 ≤ 200 → a0 2 3 = 0 → a0 2 2 < a0 2 1 → jt (jxX E d 128 83 [some (.inr (.inr (.inl 2))), none, some (.inl y2), none] [] (jxSH, a, b0)) (jQ_X8_takesWord_r1000 a0 b0) := by
  intro y2 a hv hf hi0 hi1 hi2 hi3 hi4 hall h97 hi7 hi8 hi9 hi10 hi11
  refine jt_eq (bq_X8_takesWord_r1000_83 E d y2 a b0) ?_
  have h111_ := iv_get hv (k := 2) (j := 1) (l := 0) (u := 200) rfl
  have h112_ : a 2 1 = a0 2 1 := hf 2 1 rfl
  have h113_ := iv_get hv0 (k := 2) (j := 1) (l := 0) (u := 200) rfl
  have h114_ := iv_get hv (k := 2) (j := 2) (l := 0) (u := 200) rfl
  have h115_ := iv_get hv0 (k := 2) (j := 2) (l := 0) (u := 200) rfl
  have h3 : a 3 = a0 3 := funext fun j => hf 3 j rfl
  have h21 := hf 2 1 rfl
  refine jt_grd (by omega) ?_
  have h116_ := iv_get hv (k := 3) (j := y2.toNat) (l := 0) (u := 255) rfl
  have h117_ : a 3 (y2.toNat) = a0 3 (y2.toNat) := hf 3 (y2.toNat) rfl
  have h118_ := iv_get hv0 (k := 3) (j := y2.toNat) (l := 0) (u := 255) rfl
  refine jt_ite (fun c119_ => ?_) (fun c119_ => ?_)
  ·
    exact cp_X8_takesWord_r1000_96 E d hd a0 b0 hv0 y2 a hv hf (show 3 ≤ y2 from by omega) (show y2 ≤ 200 from by omega) (show 3 ≤ a 2 1 from by omega) (show a 2 2 = a0 2 2 from by omega) (TW_mk (q := y2.toNat) (show y2.toNat = (a0 2 2).toNat + 3 by omega) (by omega) (by first | exact hall | exact (fun k hk => hch k (by have hw : ((wdn 2 : Nat) : Int) = 3 := rfl; omega))) (LT_no1 (by rw [← h3]; omega))) (show y2 = (a 2 2) + 3 from by omega) (show y2 ≤ a 2 1 from by omega) (show y2 ≤ 200 from by omega) (show a0 2 3 = 0 from by omega) (show a0 2 2 < a0 2 1 from by omega)
  ·
    exact jt_rI ⟨hv, hf, rfl, (show (0 ≤ 0 ∧ 0 ≤ 1) from by omega), (show ((¬ a0 2 3 = 0 ∨ a0 2 1 ≤ a0 2 2) → 0 = 0) from by omega), (show (0 = 0 → a 2 2 = a0 2 2) from by omega), (by first | exact (fun h => absurd h (by decide)) | exact (fun _ => ⟨by omega, htw, by have h := hq0_1; rw [show (a0 2 2).toNat + wdn 2 = y2.toNat from (by show _ + 3 = _; omega), ← h3, ← h21]; exact h⟩)), (by first | exact (fun h => absurd h (by decide)) | exact (fun _ => Or.inr hnt) | exact (fun _ => Or.inl (by omega)) | exact (fun _ => Or.inr (TW_short (show _ < _ + 3 by omega))) | exact (fun _ => Or.inr (TW_let (q := y2.toNat) (show y2.toNat = (a0 2 2).toNat + 3 by omega) ⟨by omega, h97, by rw [← h3]; omega⟩)))⟩
theorem cp_X8_takesWord_r1000_29 (E : jxE) (d : Nat) (hd : Nat.ble 5 (d + 1) = true) (a0 b0 : Nat → Nat → Int) (hv0 : iv a0) : ∀ n : Nat, (∀ (y2 y3 : Int) (a : Nat → Nat → Int), (((3 - y3) * 1) + 0).toNat ≤ n → iv a → jfr jW_X8_takesWord_r1000 a0 a → 3 ≤ y2 → y2 ≤ 200 → 0 ≤ y3 → y3 ≤ 2 → 3 ≤ a 2 1 → y3 < 3 → 0 ≤ y3 → a 2 2 = a0 2 2 → (∀ k : Nat, (k : Int) < y3 + 1 → (a0 3) ((a0 2 2).toNat + k) = (wdl 2).getD k 0) → y2 = (a 2 2) + 3 → y2 ≤ a 2 1 → y2 ≤ 200 → a0 2 3 = 0 → a0 2 2 < a0 2 1 → jt (jxX E d 128 58 [some (.inr (.inr (.inl 2))), some (.inr (.inr (.inl 1000))), some (.inl y2), some (.inl y3)] [] (jxSH, a, b0)) (jQ_X8_takesWord_r1000 a0 b0)) ∧ (∀ (y2 y3 : Int) (a : Nat → Nat → Int), (((3 - y3) * 1) + 0).toNat ≤ n → iv a → jfr jW_X8_takesWord_r1000 a0 a → 3 ≤ y2 → y2 ≤ 200 → 0 ≤ y3 → y3 ≤ 3 → 3 ≤ a 2 1 → 0 ≤ y3 → a 2 2 = a0 2 2 → (∀ k : Nat, (k : Int) < y3 → (a0 3) ((a0 2 2).toNat + k) = (wdl 2).getD k 0) → y2 = (a 2 2) + 3 → y2 ≤ a 2 1 → y2 ≤ 200 → a0 2 3 = 0 → a0 2 2 < a0 2 1 → jt (jxX E d 128 29 [some (.inr (.inr (.inl 2))), some (.inr (.inr (.inl 1000))), some (.inl y2), some (.inl y3)] [] (jxSH, a, b0)) (jQ_X8_takesWord_r1000 a0 b0)) := by
  refine jx_ind fun n ih => ?_
  have ih58 : ∀ (y2 y3 : Int) (a : Nat → Nat → Int), (((3 - y3) * 1) + 0).toNat < n → iv a → jfr jW_X8_takesWord_r1000 a0 a → 3 ≤ y2 → y2 ≤ 200 → 0 ≤ y3 → y3 ≤ 2 → 3 ≤ a 2 1 → y3 < 3 → 0 ≤ y3 → a 2 2 = a0 2 2 → (∀ k : Nat, (k : Int) < y3 + 1 → (a0 3) ((a0 2 2).toNat + k) = (wdl 2).getD k 0) → y2 = (a 2 2) + 3 → y2 ≤ a 2 1 → y2 ≤ 200 → a0 2 3 = 0 → a0 2 2 < a0 2 1 → jt (jxX E d 128 58 [some (.inr (.inr (.inl 2))), some (.inr (.inr (.inl 1000))), some (.inl y2), some (.inl y3)] [] (jxSH, a, b0)) (jQ_X8_takesWord_r1000 a0 b0) := fun y2 y3 a hlt i0 i1 i2 i3 i4 i5 i6 i7 i8 i9 i10 i11 i12 i13 i14 i15 => (ih _ hlt).1 y2 y3 a (Nat.le_refl _) i0 i1 i2 i3 i4 i5 i6 i7 i8 i9 i10 i11 i12 i13 i14 i15
  have ih29 : ∀ (y2 y3 : Int) (a : Nat → Nat → Int), (((3 - y3) * 1) + 0).toNat < n → iv a → jfr jW_X8_takesWord_r1000 a0 a → 3 ≤ y2 → y2 ≤ 200 → 0 ≤ y3 → y3 ≤ 3 → 3 ≤ a 2 1 → 0 ≤ y3 → a 2 2 = a0 2 2 → (∀ k : Nat, (k : Int) < y3 → (a0 3) ((a0 2 2).toNat + k) = (wdl 2).getD k 0) → y2 = (a 2 2) + 3 → y2 ≤ a 2 1 → y2 ≤ 200 → a0 2 3 = 0 → a0 2 2 < a0 2 1 → jt (jxX E d 128 29 [some (.inr (.inr (.inl 2))), some (.inr (.inr (.inl 1000))), some (.inl y2), some (.inl y3)] [] (jxSH, a, b0)) (jQ_X8_takesWord_r1000 a0 b0) := fun y2 y3 a hlt i0 i1 i2 i3 i4 i5 i6 i7 i8 i9 i10 i11 i12 i13 i14 => (ih _ hlt).2 y2 y3 a (Nat.le_refl _) i0 i1 i2 i3 i4 i5 i6 i7 i8 i9 i10 i11 i12 i13 i14
  have hc58 : ∀ (y2 y3 : Int) (a : Nat → Nat → Int), (((3 - y3) * 1) + 0).toNat ≤ n → iv a → jfr jW_X8_takesWord_r1000 a0 a → 3 ≤ y2 → y2 ≤ 200 → 0 ≤ y3 → y3 ≤ 2 → 3 ≤ a 2 1 → y3 < 3 → 0 ≤ y3 → a 2 2 = a0 2 2 → (∀ k : Nat, (k : Int) < y3 + 1 → (a0 3) ((a0 2 2).toNat + k) = (wdl 2).getD k 0) → y2 = (a 2 2) + 3 → y2 ≤ a 2 1 → y2 ≤ 200 → a0 2 3 = 0 → a0 2 2 < a0 2 1 → jt (jxX E d 128 58 [some (.inr (.inr (.inl 2))), some (.inr (.inr (.inl 1000))), some (.inl y2), some (.inl y3)] [] (jxSH, a, b0)) (jQ_X8_takesWord_r1000 a0 b0) := by
    intro y2 y3 a hm hv hf hi0 hi1 hi2 hi3 hi4 hi5 hi6 hi7 hch hi9 hi10 hi11 hi12 hi13
    refine jt_eq (bq_X8_takesWord_r1000_58 E d y2 y3 a b0) ?_
    have h120_ := iv_get hv (k := 2) (j := 1) (l := 0) (u := 200) rfl
    have h121_ : a 2 1 = a0 2 1 := hf 2 1 rfl
    have h122_ := iv_get hv0 (k := 2) (j := 1) (l := 0) (u := 200) rfl
    have h123_ := iv_get hv (k := 2) (j := 2) (l := 0) (u := 200) rfl
    have h124_ := iv_get hv0 (k := 2) (j := 2) (l := 0) (u := 200) rfl
    have h3 : a 3 = a0 3 := funext fun j => hf 3 j rfl
    have h21 := hf 2 1 rfl
    have h125_ : jxw (y3 + 1) = y3 + 1 := jxw_id (by omega) (by omega)
    exact ih29 y2 (jxw (y3 + 1)) a (show (((3 - (jxw (y3 + 1))) * 1) + 0).toNat < n from by omega) hv hf (show 3 ≤ y2 from by omega) (show y2 ≤ 200 from by omega) (show 0 ≤ jxw (y3 + 1) from by omega) (show jxw (y3 + 1) ≤ 3 from by omega) (show 3 ≤ a 2 1 from by omega) (show 0 ≤ jxw (y3 + 1) from by omega) (show a 2 2 = a0 2 2 from by omega) (by first | exact (fun k hk => absurd hk (by omega)) | (rw [show jxw (y3 + 1) = y3 + 1 from by omega]; exact hch)) (show y2 = (a 2 2) + 3 from by omega) (show y2 ≤ a 2 1 from by omega) (show y2 ≤ 200 from by omega) (show a0 2 3 = 0 from by omega) (show a0 2 2 < a0 2 1 from by omega)
  have hc29 : ∀ (y2 y3 : Int) (a : Nat → Nat → Int), (((3 - y3) * 1) + 0).toNat ≤ n → iv a → jfr jW_X8_takesWord_r1000 a0 a → 3 ≤ y2 → y2 ≤ 200 → 0 ≤ y3 → y3 ≤ 3 → 3 ≤ a 2 1 → 0 ≤ y3 → a 2 2 = a0 2 2 → (∀ k : Nat, (k : Int) < y3 → (a0 3) ((a0 2 2).toNat + k) = (wdl 2).getD k 0) → y2 = (a 2 2) + 3 → y2 ≤ a 2 1 → y2 ≤ 200 → a0 2 3 = 0 → a0 2 2 < a0 2 1 → jt (jxX E d 128 29 [some (.inr (.inr (.inl 2))), some (.inr (.inr (.inl 1000))), some (.inl y2), some (.inl y3)] [] (jxSH, a, b0)) (jQ_X8_takesWord_r1000 a0 b0) := by
    intro y2 y3 a hm hv hf hi0 hi1 hi2 hi3 hi4 hi5 hi6 hch hi8 hi9 hi10 hi11 hi12
    refine jt_eq (bq_X8_takesWord_r1000_29 E d y2 y3 a b0) ?_
    have h126_ := iv_get hv (k := 2) (j := 1) (l := 0) (u := 200) rfl
    have h127_ : a 2 1 = a0 2 1 := hf 2 1 rfl
    have h128_ := iv_get hv0 (k := 2) (j := 1) (l := 0) (u := 200) rfl
    have h129_ := iv_get hv (k := 2) (j := 2) (l := 0) (u := 200) rfl
    have h130_ := iv_get hv0 (k := 2) (j := 2) (l := 0) (u := 200) rfl
    have h3 : a 3 = a0 3 := funext fun j => hf 3 j rfl
    have h21 := hf 2 1 rfl
    refine jt_eI (eq_J0_length_8abf5_r1000 E d (jd_le hd rfl) a b0) ?_
    have h131_ := ff_J0_length_8abf5_r1000 a b0
    refine jt_ite (fun c132_ => ?_) (fun c132_ => ?_)
    ·
      have h133_ : jxw ((a 2 2) + y3) = (a 2 2) + y3 := jxw_id (by omega) (by omega)
      refine jt_grd (by omega) ?_
      refine jt_eI (eq_J0_charAt_5068e_r1000 E d (jd_le hd rfl) y3 a b0 (show (0 ≤ y3 ∧ y3 < 3) from by omega)) ?_
      have h134_ := iv_get hv (k := 3) (j := (jxw ((a 2 2) + y3)).toNat) (l := 0) (u := 255) rfl
      have h135_ : a 3 ((jxw ((a 2 2) + y3)).toNat) = a0 3 ((jxw ((a 2 2) + y3)).toNat) := hf 3 ((jxw ((a 2 2) + y3)).toNat) rfl
      have h136_ := iv_get hv0 (k := 3) (j := (jxw ((a 2 2) + y3)).toNat) (l := 0) (u := 255) rfl
      have h137_ := f_J0_charAt_5068e_r1000_eq a b0 y3
      have h138_ := f_J0_isLatin1_aae02_r1000_eq a b0
      have h139_ := f_J1_charAt_3b067_r2000_eq a b0 y3
      have h140_ := jxand_r (([110, 111, 116] : List Int).getD (y3.toNat) 0) 255 (by decide) (by decide)
      have h141_ := jxi2c_b (jxand (([110, 111, 116] : List Int).getD (y3.toNat) 0) 255)
      refine jt_ite (fun c142_ => ?_) (fun c142_ => ?_)
      ·
        exact hc58 y2 y3 a (show (((3 - y3) * 1) + 0).toNat ≤ n from by omega) hv hf (show 3 ≤ y2 from by omega) (show y2 ≤ 200 from by omega) (show 0 ≤ y3 from by omega) (show y3 ≤ 2 from by omega) (show 3 ≤ a 2 1 from by omega) (show y3 < 3 from by omega) (show 0 ≤ y3 from by omega) (show a 2 2 = a0 2 2 from by omega) (ch_ext hch (by omega) (q := (jxw ((a 2 2) + y3)).toNat) (by omega) (v := f_J0_charAt_5068e_r1000 a b0 y3) (by rw [← h3]; assumption) (cw_1000 a b0 y3 (by omega) (by omega))) (show y2 = (a 2 2) + 3 from by omega) (show y2 ≤ a 2 1 from by omega) (show y2 ≤ 200 from by omega) (show a0 2 3 = 0 from by omega) (show a0 2 2 < a0 2 1 from by omega)
      ·
        exact cp_X8_takesWord_r1000_56 E d hd a0 b0 hv0 a hv hf (show 3 ≤ a 2 1 from by omega) (show a 2 2 = a0 2 2 from by omega) (TW_no (y := y3) (by omega) (show y3 < 3 by omega) (q := (jxw ((a 2 2) + y3)).toNat) (by omega) (v := f_J0_charAt_5068e_r1000 a b0 y3) (cw_1000 a b0 y3 (by omega) (by omega)) (by rw [← h3]; assumption)) (show a0 2 3 = 0 from by omega) (show a0 2 2 < a0 2 1 from by omega)
    ·
      refine jt_ite (fun c143_ => ?_) (fun c143_ => ?_)
      ·
        refine jt_grd (by omega) ?_
        have h144_ := iv_get hv (k := 3) (j := y2.toNat) (l := 0) (u := 255) rfl
        have h145_ : a 3 (y2.toNat) = a0 3 (y2.toNat) := hf 3 (y2.toNat) rfl
        have h146_ := iv_get hv0 (k := 3) (j := y2.toNat) (l := 0) (u := 255) rfl
        refine jt_ite (fun c147_ => ?_) (fun c147_ => ?_)
        ·
          exact cp_X8_takesWord_r1000_96 E d hd a0 b0 hv0 y2 a hv hf (show 3 ≤ y2 from by omega) (show y2 ≤ 200 from by omega) (show 3 ≤ a 2 1 from by omega) (show a 2 2 = a0 2 2 from by omega) (TW_mk (q := y2.toNat) (show y2.toNat = (a0 2 2).toNat + 3 by omega) (by omega) (by first | exact hall | exact (fun k hk => hch k (by have hw : ((wdn 2 : Nat) : Int) = 3 := rfl; omega))) (LT_no1 (by rw [← h3]; omega))) (show y2 = (a 2 2) + 3 from by omega) (show y2 ≤ a 2 1 from by omega) (show y2 ≤ 200 from by omega) (show a0 2 3 = 0 from by omega) (show a0 2 2 < a0 2 1 from by omega)
        ·
          exact cp_X8_takesWord_r1000_83 E d hd a0 b0 hv0 y2 a hv hf (show 3 ≤ y2 from by omega) (show y2 ≤ 199 from by omega) (show 4 ≤ a 2 1 from by omega) (show a 2 2 = a0 2 2 from by omega) (show y2 < a 2 1 from by omega) (fun k hk => hch k (by have hw : ((wdn 2 : Nat) : Int) = 3 := rfl; omega)) (by rw [← h3]; omega) (show y2 = (a 2 2) + 3 from by omega) (show y2 ≤ a 2 1 from by omega) (show y2 ≤ 200 from by omega) (show a0 2 3 = 0 from by omega) (show a0 2 2 < a0 2 1 from by omega)
      ·
        exact cp_X8_takesWord_r1000_96 E d hd a0 b0 hv0 y2 a hv hf (show 3 ≤ y2 from by omega) (show y2 ≤ 200 from by omega) (show 3 ≤ a 2 1 from by omega) (show a 2 2 = a0 2 2 from by omega) (TW_mk (q := y2.toNat) (show y2.toNat = (a0 2 2).toNat + 3 by omega) (by omega) (by first | exact hall | exact (fun k hk => hch k (by have hw : ((wdn 2 : Nat) : Int) = 3 := rfl; omega))) (LT_no1 (by rw [← h3]; omega))) (show y2 = (a 2 2) + 3 from by omega) (show y2 ≤ a 2 1 from by omega) (show y2 ≤ 200 from by omega) (show a0 2 3 = 0 from by omega) (show a0 2 2 < a0 2 1 from by omega)
  exact ⟨hc58, hc29⟩
theorem sp_X8_takesWord_r1000 (E : jxE) (d : Nat) (hd : Nat.ble 5 d = true) (a0 b0 : Nat → Nat → Int) (hv0 : iv a0) : jt (jxC E d 128 [.inr (.inr (.inl 2)), .inr (.inr (.inl 1000))] (jxSH, a0, b0)) (jQ_X8_takesWord_r1000 a0 b0) := by
  obtain ⟨d, rfl⟩ := jd_succ hd
  refine jt_eq (bq_X8_takesWord_r1000 E d a0 b0) ?_
  refine jt_eI (eq_J0_length_8abf5_r1000 E d (jd_le hd rfl) a0 b0) ?_
  refine jt_eI (eq_X8_isFaulty E d (jd_le hd rfl) a0 b0) ?_
  have h148_ := f_X8_isFaulty_eq a0 b0
  refine jt_ite (fun c149_ => ?_) (fun c149_ => ?_)
  ·
    have h150_ := iv_get hv0 (k := 2) (j := 1) (l := 0) (u := 200) rfl
    have h151_ := iv_get hv0 (k := 2) (j := 2) (l := 0) (u := 200) rfl
    have h152_ := ff_J0_length_8abf5_r1000 a0 b0
    have h153_ : jxw ((a0 2 2) + (f_J0_length_8abf5_r1000 a0 b0)) = (a0 2 2) + (f_J0_length_8abf5_r1000 a0 b0) := jxw_id (by omega) (by omega)
    refine jt_ite (fun c154_ => ?_) (fun c154_ => ?_)
    ·
      exact jt_rI ⟨hv0, (jfr_rf _ _), rfl, (show (0 ≤ 0 ∧ 0 ≤ 1) from by omega), (show ((¬ a0 2 3 = 0 ∨ a0 2 1 ≤ a0 2 2) → 0 = 0) from by omega), (show (0 = 0 → a0 2 2 = a0 2 2) from by omega), (by first | exact (fun h => absurd h (by decide)) | exact (fun _ => ⟨by omega, htw, by have h := hq0_1; rw [show (a0 2 2).toNat + wdn 2 = y2.toNat from (by show _ + 3 = _; omega), ← h3, ← h21]; exact h⟩)), (by first | exact (fun h => absurd h (by decide)) | exact (fun _ => Or.inr hnt) | exact (fun _ => Or.inl (by omega)) | exact (fun _ => Or.inr (TW_short (show _ < _ + 3 by omega))) | exact (fun _ => Or.inr (TW_let (q := y2.toNat) (show y2.toNat = (a0 2 2).toNat + 3 by omega) ⟨by omega, h97, by rw [← h3]; omega⟩)))⟩
    ·
      exact (cp_X8_takesWord_r1000_29 E d hd a0 b0 hv0 _).2 (jxw ((a0 2 2) + (f_J0_length_8abf5_r1000 a0 b0))) 0 a0 (Nat.le_refl _) hv0 (jfr_rf _ _) (show 3 ≤ jxw ((a0 2 2) + (f_J0_length_8abf5_r1000 a0 b0)) from by omega) (show jxw ((a0 2 2) + (f_J0_length_8abf5_r1000 a0 b0)) ≤ 200 from by omega) (show 0 ≤ 0 from by omega) (show 0 ≤ 3 from by omega) (show 3 ≤ a0 2 1 from by omega) (show 0 ≤ 0 from by omega) (show a0 2 2 = a0 2 2 from by omega) (by first | exact (fun k hk => absurd hk (by omega)) | (rw [show jxw (y3 + 1) = y3 + 1 from by omega]; exact hch)) (show jxw ((a0 2 2) + (f_J0_length_8abf5_r1000 a0 b0)) = (a0 2 2) + 3 from by omega) (show jxw ((a0 2 2) + (f_J0_length_8abf5_r1000 a0 b0)) ≤ a0 2 1 from by omega) (show jxw ((a0 2 2) + (f_J0_length_8abf5_r1000 a0 b0)) ≤ 200 from by omega) (show a0 2 3 = 0 from by omega) (show a0 2 2 < a0 2 1 from by omega)
  ·
    have h155_ := iv_get hv0 (k := 2) (j := 1) (l := 0) (u := 200) rfl
    have h156_ := iv_get hv0 (k := 2) (j := 2) (l := 0) (u := 200) rfl
    exact jt_rI ⟨hv0, (jfr_rf _ _), rfl, (show (0 ≤ 0 ∧ 0 ≤ 1) from by omega), (show ((¬ a0 2 3 = 0 ∨ a0 2 1 ≤ a0 2 2) → 0 = 0) from by omega), (show (0 = 0 → a0 2 2 = a0 2 2) from by omega), (by first | exact (fun h => absurd h (by decide)) | exact (fun _ => ⟨by omega, htw, by have h := hq0_1; rw [show (a0 2 2).toNat + wdn 2 = y2.toNat from (by show _ + 3 = _; omega), ← h3, ← h21]; exact h⟩)), (by first | exact (fun h => absurd h (by decide)) | exact (fun _ => Or.inr hnt) | exact (fun _ => Or.inl (by omega)) | exact (fun _ => Or.inr (TW_short (show _ < _ + 3 by omega))) | exact (fun _ => Or.inr (TW_let (q := y2.toNat) (show y2.toNat = (a0 2 2).toNat + 3 by omega) ⟨by omega, h97, by rw [← h3]; omega⟩)))⟩
def jW_X8_takesWord_r1001 : List (Nat × Nat) := [(2, 2)]
abbrev jQ_X8_takesWord_r1001 (a0 b0 : Nat → Nat → Int) : List jxV → (Nat → Nat → Int) → (Nat → Nat → Int) → Prop := rI (fun r a b => (iv a) ∧ (jfr jW_X8_takesWord_r1001 a0 a) ∧ (b0 = b) ∧ ((0 ≤ r ∧ r ≤ 1)) ∧ (((¬ a0 2 3 = 0 ∨ a0 2 1 ≤ a0 2 2) → r = 0)) ∧ ((r = 0 → a 2 2 = a0 2 2)) ∧ (r = 1 → a0 2 3 = 0 ∧ TW (a0 3) (a0 2 1).toNat (a0 2 2).toNat 3 ∧ a 2 2 = ((SK (a0 3) (a0 2 1).toNat ((a0 2 2).toNat + wdn 3) : Nat) : Int)) ∧ (r = 0 → ¬ a0 2 3 = 0 ∨ ¬ TW (a0 3) (a0 2 1).toNat (a0 2 2).toNat 3))
theorem cp_X8_takesWord_r1001_56 (E : jxE) (d : Nat) (hd : Nat.ble 5 (d + 1) = true) (a0 b0 : Nat → Nat → Int) (hv0 : iv a0) : ∀ (a : Nat → Nat → Int), iv a → jfr jW_X8_takesWord_r1001 a0 a → 4 ≤ a 2 1 → a 2 2 = a0 2 2 → (¬ TW (a0 3) (a0 2 1).toNat (a0 2 2).toNat 3) → a0 2 3 = 0 → a0 2 2 < a0 2 1 → jt (jxX E d 128 56 [none, none, none, none] [] (jxSH, a, b0)) (jQ_X8_takesWord_r1001 a0 b0) := by
  intro a hv hf hi0 hi1 hnt hi3 hi4
  refine jt_eq (bq_X8_takesWord_r1001_56 E d a b0) ?_
  have h157_ := iv_get hv (k := 2) (j := 1) (l := 0) (u := 200) rfl
  have h158_ : a 2 1 = a0 2 1 := hf 2 1 rfl
  have h159_ := iv_get hv0 (k := 2) (j := 1) (l := 0) (u := 200) rfl
  have h160_ := iv_get hv (k := 2) (j := 2) (l := 0) (u := 200) rfl
  have h161_ := iv_get hv0 (k := 2) (j := 2) (l := 0) (u := 200) rfl
  have h3 : a 3 = a0 3 := funext fun j => hf 3 j rfl
  have h21 := hf 2 1 rfl
  exact jt_rI ⟨hv, hf, rfl, (show (0 ≤ 0 ∧ 0 ≤ 1) from by omega), (show ((¬ a0 2 3 = 0 ∨ a0 2 1 ≤ a0 2 2) → 0 = 0) from by omega), (show (0 = 0 → a 2 2 = a0 2 2) from by omega), (by first | exact (fun h => absurd h (by decide)) | exact (fun _ => ⟨by omega, htw, by have h := hq0_1; rw [show (a0 2 2).toNat + wdn 3 = y2.toNat from (by show _ + 4 = _; omega), ← h3, ← h21]; exact h⟩)), (by first | exact (fun h => absurd h (by decide)) | exact (fun _ => Or.inr hnt) | exact (fun _ => Or.inl (by omega)) | exact (fun _ => Or.inr (TW_short (show _ < _ + 4 by omega))) | exact (fun _ => Or.inr (TW_let (q := y2.toNat) (show y2.toNat = (a0 2 2).toNat + 4 by omega) ⟨by omega, h97, by rw [← h3]; omega⟩)))⟩
theorem cp_X8_takesWord_r1001_96 (E : jxE) (d : Nat) (hd : Nat.ble 5 (d + 1) = true) (a0 b0 : Nat → Nat → Int) (hv0 : iv a0) : ∀ (y2 : Int) (a : Nat → Nat → Int), iv a → jfr jW_X8_takesWord_r1001 a0 a → 4 ≤ y2 → y2 ≤ 200 → 4 ≤ a 2 1 → a 2 2 = a0 2 2 → (TW (a0 3) (a0 2 1).toNat (a0 2 2).toNat 3) → y2 = (a 2 2) + 4 → y2 ≤ a 2 1 → y2 ≤ 200 → a0 2 3 = 0 → a0 2 2 < a0 2 1 → jt (jxX E d 128 96 [some (.inr (.inr (.inl 2))), none, some (.inl y2), none] [] (jxSH, a, b0)) (jQ_X8_takesWord_r1001 a0 b0) := by
  intro y2 a hv hf hi0 hi1 hi2 hi3 htw hi5 hi6 hi7 hi8 hi9
  refine jt_eq (bq_X8_takesWord_r1001_96 E d y2 a b0) ?_
  have h162_ := iv_get hv (k := 2) (j := 1) (l := 0) (u := 200) rfl
  have h163_ : a 2 1 = a0 2 1 := hf 2 1 rfl
  have h164_ := iv_get hv0 (k := 2) (j := 1) (l := 0) (u := 200) rfl
  have h165_ := iv_get hv (k := 2) (j := 2) (l := 0) (u := 200) rfl
  have h166_ := iv_get hv0 (k := 2) (j := 2) (l := 0) (u := 200) rfl
  have h3 : a 3 = a0 3 := funext fun j => hf 3 j rfl
  have h21 := hf 2 1 rfl
  have hv167_ : iv (jxu a 2 2 y2) := iv_put hv (l := 0) (u := 200) rfl (by omega) (by omega)
  refine jt_bV (sp_X8_skipBlanks E d (jd_le hd rfl) (jxu a 2 2 y2) b0 hv167_) (fun a168_ b168_ h168_ => ?_)
  obtain ⟨hv168_, hf168_, rfl, hq168_0, hq168_1⟩ := h168_
  have h169_ := iv_get hv168_ (k := 2) (j := 2) (l := 0) (u := 200) rfl
  have h170_ : (a 2 1 ≤ y2 → a168_ 2 2 = y2) := hq168_0
  have hf171_ : jfr jW_X8_takesWord_r1001 a0 (jxu a 2 2 y2) := jfr_put hf rfl
  have hf172_ : jfr jW_X8_takesWord_r1001 a0 a168_ := jfr_tr hf171_ hf168_ rfl
  exact jt_rI ⟨hv168_, hf172_, rfl, (show (0 ≤ 1 ∧ 1 ≤ 1) from by omega), (show ((¬ a0 2 3 = 0 ∨ a0 2 1 ≤ a0 2 2) → 1 = 0) from by omega), (show (1 = 0 → a168_ 2 2 = a0 2 2) from by omega), (by first | exact (fun h => absurd h (by decide)) | exact (fun _ => ⟨by omega, htw, by have h := hq168_1; rw [show (a0 2 2).toNat + wdn 3 = y2.toNat from (by show _ + 4 = _; omega), ← h3, ← h21]; exact h⟩)), (by first | exact (fun h => absurd h (by decide)) | exact (fun _ => Or.inr hnt) | exact (fun _ => Or.inl (by omega)) | exact (fun _ => Or.inr (TW_short (show _ < _ + 4 by omega))) | exact (fun _ => Or.inr (TW_let (q := y2.toNat) (show y2.toNat = (a0 2 2).toNat + 4 by omega) ⟨by omega, h97, by rw [← h3]; omega⟩)))⟩
theorem cp_X8_takesWord_r1001_83 (E : jxE) (d : Nat) (hd : Nat.ble 5 (d + 1) = true) (a0 b0 : Nat → Nat → Int) (hv0 : iv a0) : ∀ (y2 : Int) (a : Nat → Nat → Int), iv a → jfr jW_X8_takesWord_r1001 a0 a → 4 ≤ y2 → y2 ≤ 199 → 5 ≤ a 2 1 → a 2 2 = a0 2 2 → y2 < a 2 1 → (∀ k : Nat, (k : Int) < (wdn 3 : Int) → (a0 3) ((a0 2 2).toNat + k) = (wdl 3).getD k 0) → (97 ≤ a0 3 y2.toNat) → y2 = (a 2 2) + 4 → y2 ≤ a 2 1 → y2 ≤ 200 → a0 2 3 = 0 → a0 2 2 < a0 2 1 → jt (jxX E d 128 83 [some (.inr (.inr (.inl 2))), none, some (.inl y2), none] [] (jxSH, a, b0)) (jQ_X8_takesWord_r1001 a0 b0) := by
  intro y2 a hv hf hi0 hi1 hi2 hi3 hi4 hall h97 hi7 hi8 hi9 hi10 hi11
  refine jt_eq (bq_X8_takesWord_r1001_83 E d y2 a b0) ?_
  have h173_ := iv_get hv (k := 2) (j := 1) (l := 0) (u := 200) rfl
  have h174_ : a 2 1 = a0 2 1 := hf 2 1 rfl
  have h175_ := iv_get hv0 (k := 2) (j := 1) (l := 0) (u := 200) rfl
  have h176_ := iv_get hv (k := 2) (j := 2) (l := 0) (u := 200) rfl
  have h177_ := iv_get hv0 (k := 2) (j := 2) (l := 0) (u := 200) rfl
  have h3 : a 3 = a0 3 := funext fun j => hf 3 j rfl
  have h21 := hf 2 1 rfl
  refine jt_grd (by omega) ?_
  have h178_ := iv_get hv (k := 3) (j := y2.toNat) (l := 0) (u := 255) rfl
  have h179_ : a 3 (y2.toNat) = a0 3 (y2.toNat) := hf 3 (y2.toNat) rfl
  have h180_ := iv_get hv0 (k := 3) (j := y2.toNat) (l := 0) (u := 255) rfl
  refine jt_ite (fun c181_ => ?_) (fun c181_ => ?_)
  ·
    exact cp_X8_takesWord_r1001_96 E d hd a0 b0 hv0 y2 a hv hf (show 4 ≤ y2 from by omega) (show y2 ≤ 200 from by omega) (show 4 ≤ a 2 1 from by omega) (show a 2 2 = a0 2 2 from by omega) (TW_mk (q := y2.toNat) (show y2.toNat = (a0 2 2).toNat + 4 by omega) (by omega) (by first | exact hall | exact (fun k hk => hch k (by have hw : ((wdn 3 : Nat) : Int) = 4 := rfl; omega))) (LT_no1 (by rw [← h3]; omega))) (show y2 = (a 2 2) + 4 from by omega) (show y2 ≤ a 2 1 from by omega) (show y2 ≤ 200 from by omega) (show a0 2 3 = 0 from by omega) (show a0 2 2 < a0 2 1 from by omega)
  ·
    exact jt_rI ⟨hv, hf, rfl, (show (0 ≤ 0 ∧ 0 ≤ 1) from by omega), (show ((¬ a0 2 3 = 0 ∨ a0 2 1 ≤ a0 2 2) → 0 = 0) from by omega), (show (0 = 0 → a 2 2 = a0 2 2) from by omega), (by first | exact (fun h => absurd h (by decide)) | exact (fun _ => ⟨by omega, htw, by have h := hq0_1; rw [show (a0 2 2).toNat + wdn 3 = y2.toNat from (by show _ + 4 = _; omega), ← h3, ← h21]; exact h⟩)), (by first | exact (fun h => absurd h (by decide)) | exact (fun _ => Or.inr hnt) | exact (fun _ => Or.inl (by omega)) | exact (fun _ => Or.inr (TW_short (show _ < _ + 4 by omega))) | exact (fun _ => Or.inr (TW_let (q := y2.toNat) (show y2.toNat = (a0 2 2).toNat + 4 by omega) ⟨by omega, h97, by rw [← h3]; omega⟩)))⟩
theorem cp_X8_takesWord_r1001_29 (E : jxE) (d : Nat) (hd : Nat.ble 5 (d + 1) = true) (a0 b0 : Nat → Nat → Int) (hv0 : iv a0) : ∀ n : Nat, (∀ (y2 y3 : Int) (a : Nat → Nat → Int), (((4 - y3) * 1) + 0).toNat ≤ n → iv a → jfr jW_X8_takesWord_r1001 a0 a → 4 ≤ y2 → y2 ≤ 200 → 0 ≤ y3 → y3 ≤ 3 → 4 ≤ a 2 1 → y3 < 4 → 0 ≤ y3 → a 2 2 = a0 2 2 → (∀ k : Nat, (k : Int) < y3 + 1 → (a0 3) ((a0 2 2).toNat + k) = (wdl 3).getD k 0) → y2 = (a 2 2) + 4 → y2 ≤ a 2 1 → y2 ≤ 200 → a0 2 3 = 0 → a0 2 2 < a0 2 1 → jt (jxX E d 128 58 [some (.inr (.inr (.inl 2))), some (.inr (.inr (.inl 1001))), some (.inl y2), some (.inl y3)] [] (jxSH, a, b0)) (jQ_X8_takesWord_r1001 a0 b0)) ∧ (∀ (y2 y3 : Int) (a : Nat → Nat → Int), (((4 - y3) * 1) + 0).toNat ≤ n → iv a → jfr jW_X8_takesWord_r1001 a0 a → 4 ≤ y2 → y2 ≤ 200 → 0 ≤ y3 → y3 ≤ 4 → 4 ≤ a 2 1 → 0 ≤ y3 → a 2 2 = a0 2 2 → (∀ k : Nat, (k : Int) < y3 → (a0 3) ((a0 2 2).toNat + k) = (wdl 3).getD k 0) → y2 = (a 2 2) + 4 → y2 ≤ a 2 1 → y2 ≤ 200 → a0 2 3 = 0 → a0 2 2 < a0 2 1 → jt (jxX E d 128 29 [some (.inr (.inr (.inl 2))), some (.inr (.inr (.inl 1001))), some (.inl y2), some (.inl y3)] [] (jxSH, a, b0)) (jQ_X8_takesWord_r1001 a0 b0)) := by
  refine jx_ind fun n ih => ?_
  have ih58 : ∀ (y2 y3 : Int) (a : Nat → Nat → Int), (((4 - y3) * 1) + 0).toNat < n → iv a → jfr jW_X8_takesWord_r1001 a0 a → 4 ≤ y2 → y2 ≤ 200 → 0 ≤ y3 → y3 ≤ 3 → 4 ≤ a 2 1 → y3 < 4 → 0 ≤ y3 → a 2 2 = a0 2 2 → (∀ k : Nat, (k : Int) < y3 + 1 → (a0 3) ((a0 2 2).toNat + k) = (wdl 3).getD k 0) → y2 = (a 2 2) + 4 → y2 ≤ a 2 1 → y2 ≤ 200 → a0 2 3 = 0 → a0 2 2 < a0 2 1 → jt (jxX E d 128 58 [some (.inr (.inr (.inl 2))), some (.inr (.inr (.inl 1001))), some (.inl y2), some (.inl y3)] [] (jxSH, a, b0)) (jQ_X8_takesWord_r1001 a0 b0) := fun y2 y3 a hlt i0 i1 i2 i3 i4 i5 i6 i7 i8 i9 i10 i11 i12 i13 i14 i15 => (ih _ hlt).1 y2 y3 a (Nat.le_refl _) i0 i1 i2 i3 i4 i5 i6 i7 i8 i9 i10 i11 i12 i13 i14 i15
  have ih29 : ∀ (y2 y3 : Int) (a : Nat → Nat → Int), (((4 - y3) * 1) + 0).toNat < n → iv a → jfr jW_X8_takesWord_r1001 a0 a → 4 ≤ y2 → y2 ≤ 200 → 0 ≤ y3 → y3 ≤ 4 → 4 ≤ a 2 1 → 0 ≤ y3 → a 2 2 = a0 2 2 → (∀ k : Nat, (k : Int) < y3 → (a0 3) ((a0 2 2).toNat + k) = (wdl 3).getD k 0) → y2 = (a 2 2) + 4 → y2 ≤ a 2 1 → y2 ≤ 200 → a0 2 3 = 0 → a0 2 2 < a0 2 1 → jt (jxX E d 128 29 [some (.inr (.inr (.inl 2))), some (.inr (.inr (.inl 1001))), some (.inl y2), some (.inl y3)] [] (jxSH, a, b0)) (jQ_X8_takesWord_r1001 a0 b0) := fun y2 y3 a hlt i0 i1 i2 i3 i4 i5 i6 i7 i8 i9 i10 i11 i12 i13 i14 => (ih _ hlt).2 y2 y3 a (Nat.le_refl _) i0 i1 i2 i3 i4 i5 i6 i7 i8 i9 i10 i11 i12 i13 i14
  have hc58 : ∀ (y2 y3 : Int) (a : Nat → Nat → Int), (((4 - y3) * 1) + 0).toNat ≤ n → iv a → jfr jW_X8_takesWord_r1001 a0 a → 4 ≤ y2 → y2 ≤ 200 → 0 ≤ y3 → y3 ≤ 3 → 4 ≤ a 2 1 → y3 < 4 → 0 ≤ y3 → a 2 2 = a0 2 2 → (∀ k : Nat, (k : Int) < y3 + 1 → (a0 3) ((a0 2 2).toNat + k) = (wdl 3).getD k 0) → y2 = (a 2 2) + 4 → y2 ≤ a 2 1 → y2 ≤ 200 → a0 2 3 = 0 → a0 2 2 < a0 2 1 → jt (jxX E d 128 58 [some (.inr (.inr (.inl 2))), some (.inr (.inr (.inl 1001))), some (.inl y2), some (.inl y3)] [] (jxSH, a, b0)) (jQ_X8_takesWord_r1001 a0 b0) := by
    intro y2 y3 a hm hv hf hi0 hi1 hi2 hi3 hi4 hi5 hi6 hi7 hch hi9 hi10 hi11 hi12 hi13
    refine jt_eq (bq_X8_takesWord_r1001_58 E d y2 y3 a b0) ?_
    have h182_ := iv_get hv (k := 2) (j := 1) (l := 0) (u := 200) rfl
    have h183_ : a 2 1 = a0 2 1 := hf 2 1 rfl
    have h184_ := iv_get hv0 (k := 2) (j := 1) (l := 0) (u := 200) rfl
    have h185_ := iv_get hv (k := 2) (j := 2) (l := 0) (u := 200) rfl
    have h186_ := iv_get hv0 (k := 2) (j := 2) (l := 0) (u := 200) rfl
    have h3 : a 3 = a0 3 := funext fun j => hf 3 j rfl
    have h21 := hf 2 1 rfl
    have h187_ : jxw (y3 + 1) = y3 + 1 := jxw_id (by omega) (by omega)
    exact ih29 y2 (jxw (y3 + 1)) a (show (((4 - (jxw (y3 + 1))) * 1) + 0).toNat < n from by omega) hv hf (show 4 ≤ y2 from by omega) (show y2 ≤ 200 from by omega) (show 0 ≤ jxw (y3 + 1) from by omega) (show jxw (y3 + 1) ≤ 4 from by omega) (show 4 ≤ a 2 1 from by omega) (show 0 ≤ jxw (y3 + 1) from by omega) (show a 2 2 = a0 2 2 from by omega) (by first | exact (fun k hk => absurd hk (by omega)) | (rw [show jxw (y3 + 1) = y3 + 1 from by omega]; exact hch)) (show y2 = (a 2 2) + 4 from by omega) (show y2 ≤ a 2 1 from by omega) (show y2 ≤ 200 from by omega) (show a0 2 3 = 0 from by omega) (show a0 2 2 < a0 2 1 from by omega)
  have hc29 : ∀ (y2 y3 : Int) (a : Nat → Nat → Int), (((4 - y3) * 1) + 0).toNat ≤ n → iv a → jfr jW_X8_takesWord_r1001 a0 a → 4 ≤ y2 → y2 ≤ 200 → 0 ≤ y3 → y3 ≤ 4 → 4 ≤ a 2 1 → 0 ≤ y3 → a 2 2 = a0 2 2 → (∀ k : Nat, (k : Int) < y3 → (a0 3) ((a0 2 2).toNat + k) = (wdl 3).getD k 0) → y2 = (a 2 2) + 4 → y2 ≤ a 2 1 → y2 ≤ 200 → a0 2 3 = 0 → a0 2 2 < a0 2 1 → jt (jxX E d 128 29 [some (.inr (.inr (.inl 2))), some (.inr (.inr (.inl 1001))), some (.inl y2), some (.inl y3)] [] (jxSH, a, b0)) (jQ_X8_takesWord_r1001 a0 b0) := by
    intro y2 y3 a hm hv hf hi0 hi1 hi2 hi3 hi4 hi5 hi6 hch hi8 hi9 hi10 hi11 hi12
    refine jt_eq (bq_X8_takesWord_r1001_29 E d y2 y3 a b0) ?_
    have h188_ := iv_get hv (k := 2) (j := 1) (l := 0) (u := 200) rfl
    have h189_ : a 2 1 = a0 2 1 := hf 2 1 rfl
    have h190_ := iv_get hv0 (k := 2) (j := 1) (l := 0) (u := 200) rfl
    have h191_ := iv_get hv (k := 2) (j := 2) (l := 0) (u := 200) rfl
    have h192_ := iv_get hv0 (k := 2) (j := 2) (l := 0) (u := 200) rfl
    have h3 : a 3 = a0 3 := funext fun j => hf 3 j rfl
    have h21 := hf 2 1 rfl
    refine jt_eI (eq_J0_length_8abf5_r1001 E d (jd_le hd rfl) a b0) ?_
    have h193_ := ff_J0_length_8abf5_r1001 a b0
    refine jt_ite (fun c194_ => ?_) (fun c194_ => ?_)
    ·
      have h195_ : jxw ((a 2 2) + y3) = (a 2 2) + y3 := jxw_id (by omega) (by omega)
      refine jt_grd (by omega) ?_
      refine jt_eI (eq_J0_charAt_5068e_r1001 E d (jd_le hd rfl) y3 a b0 (show (0 ≤ y3 ∧ y3 < 4) from by omega)) ?_
      have h196_ := iv_get hv (k := 3) (j := (jxw ((a 2 2) + y3)).toNat) (l := 0) (u := 255) rfl
      have h197_ : a 3 ((jxw ((a 2 2) + y3)).toNat) = a0 3 ((jxw ((a 2 2) + y3)).toNat) := hf 3 ((jxw ((a 2 2) + y3)).toNat) rfl
      have h198_ := iv_get hv0 (k := 3) (j := (jxw ((a 2 2) + y3)).toNat) (l := 0) (u := 255) rfl
      have h199_ := f_J0_charAt_5068e_r1001_eq a b0 y3
      have h200_ := f_J0_isLatin1_aae02_r1001_eq a b0
      have h201_ := f_J1_charAt_3b067_r2001_eq a b0 y3
      have h202_ := jxand_r (([108, 97, 110, 100] : List Int).getD (y3.toNat) 0) 255 (by decide) (by decide)
      have h203_ := jxi2c_b (jxand (([108, 97, 110, 100] : List Int).getD (y3.toNat) 0) 255)
      refine jt_ite (fun c204_ => ?_) (fun c204_ => ?_)
      ·
        exact hc58 y2 y3 a (show (((4 - y3) * 1) + 0).toNat ≤ n from by omega) hv hf (show 4 ≤ y2 from by omega) (show y2 ≤ 200 from by omega) (show 0 ≤ y3 from by omega) (show y3 ≤ 3 from by omega) (show 4 ≤ a 2 1 from by omega) (show y3 < 4 from by omega) (show 0 ≤ y3 from by omega) (show a 2 2 = a0 2 2 from by omega) (ch_ext hch (by omega) (q := (jxw ((a 2 2) + y3)).toNat) (by omega) (v := f_J0_charAt_5068e_r1001 a b0 y3) (by rw [← h3]; assumption) (cw_1001 a b0 y3 (by omega) (by omega))) (show y2 = (a 2 2) + 4 from by omega) (show y2 ≤ a 2 1 from by omega) (show y2 ≤ 200 from by omega) (show a0 2 3 = 0 from by omega) (show a0 2 2 < a0 2 1 from by omega)
      ·
        exact cp_X8_takesWord_r1001_56 E d hd a0 b0 hv0 a hv hf (show 4 ≤ a 2 1 from by omega) (show a 2 2 = a0 2 2 from by omega) (TW_no (y := y3) (by omega) (show y3 < 4 by omega) (q := (jxw ((a 2 2) + y3)).toNat) (by omega) (v := f_J0_charAt_5068e_r1001 a b0 y3) (cw_1001 a b0 y3 (by omega) (by omega)) (by rw [← h3]; assumption)) (show a0 2 3 = 0 from by omega) (show a0 2 2 < a0 2 1 from by omega)
    ·
      refine jt_ite (fun c205_ => ?_) (fun c205_ => ?_)
      ·
        refine jt_grd (by omega) ?_
        have h206_ := iv_get hv (k := 3) (j := y2.toNat) (l := 0) (u := 255) rfl
        have h207_ : a 3 (y2.toNat) = a0 3 (y2.toNat) := hf 3 (y2.toNat) rfl
        have h208_ := iv_get hv0 (k := 3) (j := y2.toNat) (l := 0) (u := 255) rfl
        refine jt_ite (fun c209_ => ?_) (fun c209_ => ?_)
        ·
          exact cp_X8_takesWord_r1001_96 E d hd a0 b0 hv0 y2 a hv hf (show 4 ≤ y2 from by omega) (show y2 ≤ 200 from by omega) (show 4 ≤ a 2 1 from by omega) (show a 2 2 = a0 2 2 from by omega) (TW_mk (q := y2.toNat) (show y2.toNat = (a0 2 2).toNat + 4 by omega) (by omega) (by first | exact hall | exact (fun k hk => hch k (by have hw : ((wdn 3 : Nat) : Int) = 4 := rfl; omega))) (LT_no1 (by rw [← h3]; omega))) (show y2 = (a 2 2) + 4 from by omega) (show y2 ≤ a 2 1 from by omega) (show y2 ≤ 200 from by omega) (show a0 2 3 = 0 from by omega) (show a0 2 2 < a0 2 1 from by omega)
        ·
          exact cp_X8_takesWord_r1001_83 E d hd a0 b0 hv0 y2 a hv hf (show 4 ≤ y2 from by omega) (show y2 ≤ 199 from by omega) (show 5 ≤ a 2 1 from by omega) (show a 2 2 = a0 2 2 from by omega) (show y2 < a 2 1 from by omega) (fun k hk => hch k (by have hw : ((wdn 3 : Nat) : Int) = 4 := rfl; omega)) (by rw [← h3]; omega) (show y2 = (a 2 2) + 4 from by omega) (show y2 ≤ a 2 1 from by omega) (show y2 ≤ 200 from by omega) (show a0 2 3 = 0 from by omega) (show a0 2 2 < a0 2 1 from by omega)
      ·
        exact cp_X8_takesWord_r1001_96 E d hd a0 b0 hv0 y2 a hv hf (show 4 ≤ y2 from by omega) (show y2 ≤ 200 from by omega) (show 4 ≤ a 2 1 from by omega) (show a 2 2 = a0 2 2 from by omega) (TW_mk (q := y2.toNat) (show y2.toNat = (a0 2 2).toNat + 4 by omega) (by omega) (by first | exact hall | exact (fun k hk => hch k (by have hw : ((wdn 3 : Nat) : Int) = 4 := rfl; omega))) (LT_no1 (by rw [← h3]; omega))) (show y2 = (a 2 2) + 4 from by omega) (show y2 ≤ a 2 1 from by omega) (show y2 ≤ 200 from by omega) (show a0 2 3 = 0 from by omega) (show a0 2 2 < a0 2 1 from by omega)
  exact ⟨hc58, hc29⟩
theorem sp_X8_takesWord_r1001 (E : jxE) (d : Nat) (hd : Nat.ble 5 d = true) (a0 b0 : Nat → Nat → Int) (hv0 : iv a0) : jt (jxC E d 128 [.inr (.inr (.inl 2)), .inr (.inr (.inl 1001))] (jxSH, a0, b0)) (jQ_X8_takesWord_r1001 a0 b0) := by
  obtain ⟨d, rfl⟩ := jd_succ hd
  refine jt_eq (bq_X8_takesWord_r1001 E d a0 b0) ?_
  refine jt_eI (eq_J0_length_8abf5_r1001 E d (jd_le hd rfl) a0 b0) ?_
  refine jt_eI (eq_X8_isFaulty E d (jd_le hd rfl) a0 b0) ?_
  have h210_ := f_X8_isFaulty_eq a0 b0
  refine jt_ite (fun c211_ => ?_) (fun c211_ => ?_)
  ·
    have h212_ := iv_get hv0 (k := 2) (j := 1) (l := 0) (u := 200) rfl
    have h213_ := iv_get hv0 (k := 2) (j := 2) (l := 0) (u := 200) rfl
    have h214_ := ff_J0_length_8abf5_r1001 a0 b0
    have h215_ : jxw ((a0 2 2) + (f_J0_length_8abf5_r1001 a0 b0)) = (a0 2 2) + (f_J0_length_8abf5_r1001 a0 b0) := jxw_id (by omega) (by omega)
    refine jt_ite (fun c216_ => ?_) (fun c216_ => ?_)
    ·
      exact jt_rI ⟨hv0, (jfr_rf _ _), rfl, (show (0 ≤ 0 ∧ 0 ≤ 1) from by omega), (show ((¬ a0 2 3 = 0 ∨ a0 2 1 ≤ a0 2 2) → 0 = 0) from by omega), (show (0 = 0 → a0 2 2 = a0 2 2) from by omega), (by first | exact (fun h => absurd h (by decide)) | exact (fun _ => ⟨by omega, htw, by have h := hq0_1; rw [show (a0 2 2).toNat + wdn 3 = y2.toNat from (by show _ + 4 = _; omega), ← h3, ← h21]; exact h⟩)), (by first | exact (fun h => absurd h (by decide)) | exact (fun _ => Or.inr hnt) | exact (fun _ => Or.inl (by omega)) | exact (fun _ => Or.inr (TW_short (show _ < _ + 4 by omega))) | exact (fun _ => Or.inr (TW_let (q := y2.toNat) (show y2.toNat = (a0 2 2).toNat + 4 by omega) ⟨by omega, h97, by rw [← h3]; omega⟩)))⟩
    ·
      exact (cp_X8_takesWord_r1001_29 E d hd a0 b0 hv0 _).2 (jxw ((a0 2 2) + (f_J0_length_8abf5_r1001 a0 b0))) 0 a0 (Nat.le_refl _) hv0 (jfr_rf _ _) (show 4 ≤ jxw ((a0 2 2) + (f_J0_length_8abf5_r1001 a0 b0)) from by omega) (show jxw ((a0 2 2) + (f_J0_length_8abf5_r1001 a0 b0)) ≤ 200 from by omega) (show 0 ≤ 0 from by omega) (show 0 ≤ 4 from by omega) (show 4 ≤ a0 2 1 from by omega) (show 0 ≤ 0 from by omega) (show a0 2 2 = a0 2 2 from by omega) (by first | exact (fun k hk => absurd hk (by omega)) | (rw [show jxw (y3 + 1) = y3 + 1 from by omega]; exact hch)) (show jxw ((a0 2 2) + (f_J0_length_8abf5_r1001 a0 b0)) = (a0 2 2) + 4 from by omega) (show jxw ((a0 2 2) + (f_J0_length_8abf5_r1001 a0 b0)) ≤ a0 2 1 from by omega) (show jxw ((a0 2 2) + (f_J0_length_8abf5_r1001 a0 b0)) ≤ 200 from by omega) (show a0 2 3 = 0 from by omega) (show a0 2 2 < a0 2 1 from by omega)
  ·
    have h217_ := iv_get hv0 (k := 2) (j := 1) (l := 0) (u := 200) rfl
    have h218_ := iv_get hv0 (k := 2) (j := 2) (l := 0) (u := 200) rfl
    exact jt_rI ⟨hv0, (jfr_rf _ _), rfl, (show (0 ≤ 0 ∧ 0 ≤ 1) from by omega), (show ((¬ a0 2 3 = 0 ∨ a0 2 1 ≤ a0 2 2) → 0 = 0) from by omega), (show (0 = 0 → a0 2 2 = a0 2 2) from by omega), (by first | exact (fun h => absurd h (by decide)) | exact (fun _ => ⟨by omega, htw, by have h := hq0_1; rw [show (a0 2 2).toNat + wdn 3 = y2.toNat from (by show _ + 4 = _; omega), ← h3, ← h21]; exact h⟩)), (by first | exact (fun h => absurd h (by decide)) | exact (fun _ => Or.inr hnt) | exact (fun _ => Or.inl (by omega)) | exact (fun _ => Or.inr (TW_short (show _ < _ + 4 by omega))) | exact (fun _ => Or.inr (TW_let (q := y2.toNat) (show y2.toNat = (a0 2 2).toNat + 4 by omega) ⟨by omega, h97, by rw [← h3]; omega⟩)))⟩
def jW_X8_takesWord_r1002 : List (Nat × Nat) := [(2, 2)]
abbrev jQ_X8_takesWord_r1002 (a0 b0 : Nat → Nat → Int) : List jxV → (Nat → Nat → Int) → (Nat → Nat → Int) → Prop := rI (fun r a b => (iv a) ∧ (jfr jW_X8_takesWord_r1002 a0 a) ∧ (b0 = b) ∧ ((0 ≤ r ∧ r ≤ 1)) ∧ (((¬ a0 2 3 = 0 ∨ a0 2 1 ≤ a0 2 2) → r = 0)) ∧ ((r = 0 → a 2 2 = a0 2 2)) ∧ (r = 1 → a0 2 3 = 0 ∧ TW (a0 3) (a0 2 1).toNat (a0 2 2).toNat 4 ∧ a 2 2 = ((SK (a0 3) (a0 2 1).toNat ((a0 2 2).toNat + wdn 4) : Nat) : Int)) ∧ (r = 0 → ¬ a0 2 3 = 0 ∨ ¬ TW (a0 3) (a0 2 1).toNat (a0 2 2).toNat 4))
theorem cp_X8_takesWord_r1002_56 (E : jxE) (d : Nat) (hd : Nat.ble 5 (d + 1) = true) (a0 b0 : Nat → Nat → Int) (hv0 : iv a0) : ∀ (a : Nat → Nat → Int), iv a → jfr jW_X8_takesWord_r1002 a0 a → 6 ≤ a 2 1 → a 2 2 = a0 2 2 → (¬ TW (a0 3) (a0 2 1).toNat (a0 2 2).toNat 4) → a0 2 3 = 0 → a0 2 2 < a0 2 1 → jt (jxX E d 128 56 [none, none, none, none] [] (jxSH, a, b0)) (jQ_X8_takesWord_r1002 a0 b0) := by
  intro a hv hf hi0 hi1 hnt hi3 hi4
  refine jt_eq (bq_X8_takesWord_r1002_56 E d a b0) ?_
  have h219_ := iv_get hv (k := 2) (j := 1) (l := 0) (u := 200) rfl
  have h220_ : a 2 1 = a0 2 1 := hf 2 1 rfl
  have h221_ := iv_get hv0 (k := 2) (j := 1) (l := 0) (u := 200) rfl
  have h222_ := iv_get hv (k := 2) (j := 2) (l := 0) (u := 200) rfl
  have h223_ := iv_get hv0 (k := 2) (j := 2) (l := 0) (u := 200) rfl
  have h3 : a 3 = a0 3 := funext fun j => hf 3 j rfl
  have h21 := hf 2 1 rfl
  exact jt_rI ⟨hv, hf, rfl, (show (0 ≤ 0 ∧ 0 ≤ 1) from by omega), (show ((¬ a0 2 3 = 0 ∨ a0 2 1 ≤ a0 2 2) → 0 = 0) from by omega), (show (0 = 0 → a 2 2 = a0 2 2) from by omega), (by first | exact (fun h => absurd h (by decide)) | exact (fun _ => ⟨by omega, htw, by have h := hq0_1; rw [show (a0 2 2).toNat + wdn 4 = y2.toNat from (by show _ + 6 = _; omega), ← h3, ← h21]; exact h⟩)), (by first | exact (fun h => absurd h (by decide)) | exact (fun _ => Or.inr hnt) | exact (fun _ => Or.inl (by omega)) | exact (fun _ => Or.inr (TW_short (show _ < _ + 6 by omega))) | exact (fun _ => Or.inr (TW_let (q := y2.toNat) (show y2.toNat = (a0 2 2).toNat + 6 by omega) ⟨by omega, h97, by rw [← h3]; omega⟩)))⟩
theorem cp_X8_takesWord_r1002_96 (E : jxE) (d : Nat) (hd : Nat.ble 5 (d + 1) = true) (a0 b0 : Nat → Nat → Int) (hv0 : iv a0) : ∀ (y2 : Int) (a : Nat → Nat → Int), iv a → jfr jW_X8_takesWord_r1002 a0 a → 6 ≤ y2 → y2 ≤ 200 → 6 ≤ a 2 1 → a 2 2 = a0 2 2 → (TW (a0 3) (a0 2 1).toNat (a0 2 2).toNat 4) → y2 = (a 2 2) + 6 → y2 ≤ a 2 1 → y2 ≤ 200 → a0 2 3 = 0 → a0 2 2 < a0 2 1 → jt (jxX E d 128 96 [some (.inr (.inr (.inl 2))), none, some (.inl y2), none] [] (jxSH, a, b0)) (jQ_X8_takesWord_r1002 a0 b0) := by
  intro y2 a hv hf hi0 hi1 hi2 hi3 htw hi5 hi6 hi7 hi8 hi9
  refine jt_eq (bq_X8_takesWord_r1002_96 E d y2 a b0) ?_
  have h224_ := iv_get hv (k := 2) (j := 1) (l := 0) (u := 200) rfl
  have h225_ : a 2 1 = a0 2 1 := hf 2 1 rfl
  have h226_ := iv_get hv0 (k := 2) (j := 1) (l := 0) (u := 200) rfl
  have h227_ := iv_get hv (k := 2) (j := 2) (l := 0) (u := 200) rfl
  have h228_ := iv_get hv0 (k := 2) (j := 2) (l := 0) (u := 200) rfl
  have h3 : a 3 = a0 3 := funext fun j => hf 3 j rfl
  have h21 := hf 2 1 rfl
  have hv229_ : iv (jxu a 2 2 y2) := iv_put hv (l := 0) (u := 200) rfl (by omega) (by omega)
  refine jt_bV (sp_X8_skipBlanks E d (jd_le hd rfl) (jxu a 2 2 y2) b0 hv229_) (fun a230_ b230_ h230_ => ?_)
  obtain ⟨hv230_, hf230_, rfl, hq230_0, hq230_1⟩ := h230_
  have h231_ := iv_get hv230_ (k := 2) (j := 2) (l := 0) (u := 200) rfl
  have h232_ : (a 2 1 ≤ y2 → a230_ 2 2 = y2) := hq230_0
  have hf233_ : jfr jW_X8_takesWord_r1002 a0 (jxu a 2 2 y2) := jfr_put hf rfl
  have hf234_ : jfr jW_X8_takesWord_r1002 a0 a230_ := jfr_tr hf233_ hf230_ rfl
  exact jt_rI ⟨hv230_, hf234_, rfl, (show (0 ≤ 1 ∧ 1 ≤ 1) from by omega), (show ((¬ a0 2 3 = 0 ∨ a0 2 1 ≤ a0 2 2) → 1 = 0) from by omega), (show (1 = 0 → a230_ 2 2 = a0 2 2) from by omega), (by first | exact (fun h => absurd h (by decide)) | exact (fun _ => ⟨by omega, htw, by have h := hq230_1; rw [show (a0 2 2).toNat + wdn 4 = y2.toNat from (by show _ + 6 = _; omega), ← h3, ← h21]; exact h⟩)), (by first | exact (fun h => absurd h (by decide)) | exact (fun _ => Or.inr hnt) | exact (fun _ => Or.inl (by omega)) | exact (fun _ => Or.inr (TW_short (show _ < _ + 6 by omega))) | exact (fun _ => Or.inr (TW_let (q := y2.toNat) (show y2.toNat = (a0 2 2).toNat + 6 by omega) ⟨by omega, h97, by rw [← h3]; omega⟩)))⟩
theorem cp_X8_takesWord_r1002_83 (E : jxE) (d : Nat) (hd : Nat.ble 5 (d + 1) = true) (a0 b0 : Nat → Nat → Int) (hv0 : iv a0) : ∀ (y2 : Int) (a : Nat → Nat → Int), iv a → jfr jW_X8_takesWord_r1002 a0 a → 6 ≤ y2 → y2 ≤ 199 → 7 ≤ a 2 1 → a 2 2 = a0 2 2 → y2 < a 2 1 → (∀ k : Nat, (k : Int) < (wdn 4 : Int) → (a0 3) ((a0 2 2).toNat + k) = (wdl 4).getD k 0) → (97 ≤ a0 3 y2.toNat) → y2 = (a 2 2) + 6 → y2 ≤ a 2 1 → y2 ≤ 200 → a0 2 3 = 0 → a0 2 2 < a0 2 1 → jt (jxX E d 128 83 [some (.inr (.inr (.inl 2))), none, some (.inl y2), none] [] (jxSH, a, b0)) (jQ_X8_takesWord_r1002 a0 b0) := by
  intro y2 a hv hf hi0 hi1 hi2 hi3 hi4 hall h97 hi7 hi8 hi9 hi10 hi11
  refine jt_eq (bq_X8_takesWord_r1002_83 E d y2 a b0) ?_
  have h235_ := iv_get hv (k := 2) (j := 1) (l := 0) (u := 200) rfl
  have h236_ : a 2 1 = a0 2 1 := hf 2 1 rfl
  have h237_ := iv_get hv0 (k := 2) (j := 1) (l := 0) (u := 200) rfl
  have h238_ := iv_get hv (k := 2) (j := 2) (l := 0) (u := 200) rfl
  have h239_ := iv_get hv0 (k := 2) (j := 2) (l := 0) (u := 200) rfl
  have h3 : a 3 = a0 3 := funext fun j => hf 3 j rfl
  have h21 := hf 2 1 rfl
  refine jt_grd (by omega) ?_
  have h240_ := iv_get hv (k := 3) (j := y2.toNat) (l := 0) (u := 255) rfl
  have h241_ : a 3 (y2.toNat) = a0 3 (y2.toNat) := hf 3 (y2.toNat) rfl
  have h242_ := iv_get hv0 (k := 3) (j := y2.toNat) (l := 0) (u := 255) rfl
  refine jt_ite (fun c243_ => ?_) (fun c243_ => ?_)
  ·
    exact cp_X8_takesWord_r1002_96 E d hd a0 b0 hv0 y2 a hv hf (show 6 ≤ y2 from by omega) (show y2 ≤ 200 from by omega) (show 6 ≤ a 2 1 from by omega) (show a 2 2 = a0 2 2 from by omega) (TW_mk (q := y2.toNat) (show y2.toNat = (a0 2 2).toNat + 6 by omega) (by omega) (by first | exact hall | exact (fun k hk => hch k (by have hw : ((wdn 4 : Nat) : Int) = 6 := rfl; omega))) (LT_no1 (by rw [← h3]; omega))) (show y2 = (a 2 2) + 6 from by omega) (show y2 ≤ a 2 1 from by omega) (show y2 ≤ 200 from by omega) (show a0 2 3 = 0 from by omega) (show a0 2 2 < a0 2 1 from by omega)
  ·
    exact jt_rI ⟨hv, hf, rfl, (show (0 ≤ 0 ∧ 0 ≤ 1) from by omega), (show ((¬ a0 2 3 = 0 ∨ a0 2 1 ≤ a0 2 2) → 0 = 0) from by omega), (show (0 = 0 → a 2 2 = a0 2 2) from by omega), (by first | exact (fun h => absurd h (by decide)) | exact (fun _ => ⟨by omega, htw, by have h := hq0_1; rw [show (a0 2 2).toNat + wdn 4 = y2.toNat from (by show _ + 6 = _; omega), ← h3, ← h21]; exact h⟩)), (by first | exact (fun h => absurd h (by decide)) | exact (fun _ => Or.inr hnt) | exact (fun _ => Or.inl (by omega)) | exact (fun _ => Or.inr (TW_short (show _ < _ + 6 by omega))) | exact (fun _ => Or.inr (TW_let (q := y2.toNat) (show y2.toNat = (a0 2 2).toNat + 6 by omega) ⟨by omega, h97, by rw [← h3]; omega⟩)))⟩
theorem cp_X8_takesWord_r1002_29 (E : jxE) (d : Nat) (hd : Nat.ble 5 (d + 1) = true) (a0 b0 : Nat → Nat → Int) (hv0 : iv a0) : ∀ n : Nat, (∀ (y2 y3 : Int) (a : Nat → Nat → Int), (((6 - y3) * 1) + 0).toNat ≤ n → iv a → jfr jW_X8_takesWord_r1002 a0 a → 6 ≤ y2 → y2 ≤ 200 → 0 ≤ y3 → y3 ≤ 5 → 6 ≤ a 2 1 → y3 < 6 → 0 ≤ y3 → a 2 2 = a0 2 2 → (∀ k : Nat, (k : Int) < y3 + 1 → (a0 3) ((a0 2 2).toNat + k) = (wdl 4).getD k 0) → y2 = (a 2 2) + 6 → y2 ≤ a 2 1 → y2 ≤ 200 → a0 2 3 = 0 → a0 2 2 < a0 2 1 → jt (jxX E d 128 58 [some (.inr (.inr (.inl 2))), some (.inr (.inr (.inl 1002))), some (.inl y2), some (.inl y3)] [] (jxSH, a, b0)) (jQ_X8_takesWord_r1002 a0 b0)) ∧ (∀ (y2 y3 : Int) (a : Nat → Nat → Int), (((6 - y3) * 1) + 0).toNat ≤ n → iv a → jfr jW_X8_takesWord_r1002 a0 a → 6 ≤ y2 → y2 ≤ 200 → 0 ≤ y3 → y3 ≤ 6 → 6 ≤ a 2 1 → 0 ≤ y3 → a 2 2 = a0 2 2 → (∀ k : Nat, (k : Int) < y3 → (a0 3) ((a0 2 2).toNat + k) = (wdl 4).getD k 0) → y2 = (a 2 2) + 6 → y2 ≤ a 2 1 → y2 ≤ 200 → a0 2 3 = 0 → a0 2 2 < a0 2 1 → jt (jxX E d 128 29 [some (.inr (.inr (.inl 2))), some (.inr (.inr (.inl 1002))), some (.inl y2), some (.inl y3)] [] (jxSH, a, b0)) (jQ_X8_takesWord_r1002 a0 b0)) := by
  refine jx_ind fun n ih => ?_
  have ih58 : ∀ (y2 y3 : Int) (a : Nat → Nat → Int), (((6 - y3) * 1) + 0).toNat < n → iv a → jfr jW_X8_takesWord_r1002 a0 a → 6 ≤ y2 → y2 ≤ 200 → 0 ≤ y3 → y3 ≤ 5 → 6 ≤ a 2 1 → y3 < 6 → 0 ≤ y3 → a 2 2 = a0 2 2 → (∀ k : Nat, (k : Int) < y3 + 1 → (a0 3) ((a0 2 2).toNat + k) = (wdl 4).getD k 0) → y2 = (a 2 2) + 6 → y2 ≤ a 2 1 → y2 ≤ 200 → a0 2 3 = 0 → a0 2 2 < a0 2 1 → jt (jxX E d 128 58 [some (.inr (.inr (.inl 2))), some (.inr (.inr (.inl 1002))), some (.inl y2), some (.inl y3)] [] (jxSH, a, b0)) (jQ_X8_takesWord_r1002 a0 b0) := fun y2 y3 a hlt i0 i1 i2 i3 i4 i5 i6 i7 i8 i9 i10 i11 i12 i13 i14 i15 => (ih _ hlt).1 y2 y3 a (Nat.le_refl _) i0 i1 i2 i3 i4 i5 i6 i7 i8 i9 i10 i11 i12 i13 i14 i15
  have ih29 : ∀ (y2 y3 : Int) (a : Nat → Nat → Int), (((6 - y3) * 1) + 0).toNat < n → iv a → jfr jW_X8_takesWord_r1002 a0 a → 6 ≤ y2 → y2 ≤ 200 → 0 ≤ y3 → y3 ≤ 6 → 6 ≤ a 2 1 → 0 ≤ y3 → a 2 2 = a0 2 2 → (∀ k : Nat, (k : Int) < y3 → (a0 3) ((a0 2 2).toNat + k) = (wdl 4).getD k 0) → y2 = (a 2 2) + 6 → y2 ≤ a 2 1 → y2 ≤ 200 → a0 2 3 = 0 → a0 2 2 < a0 2 1 → jt (jxX E d 128 29 [some (.inr (.inr (.inl 2))), some (.inr (.inr (.inl 1002))), some (.inl y2), some (.inl y3)] [] (jxSH, a, b0)) (jQ_X8_takesWord_r1002 a0 b0) := fun y2 y3 a hlt i0 i1 i2 i3 i4 i5 i6 i7 i8 i9 i10 i11 i12 i13 i14 => (ih _ hlt).2 y2 y3 a (Nat.le_refl _) i0 i1 i2 i3 i4 i5 i6 i7 i8 i9 i10 i11 i12 i13 i14
  have hc58 : ∀ (y2 y3 : Int) (a : Nat → Nat → Int), (((6 - y3) * 1) + 0).toNat ≤ n → iv a → jfr jW_X8_takesWord_r1002 a0 a → 6 ≤ y2 → y2 ≤ 200 → 0 ≤ y3 → y3 ≤ 5 → 6 ≤ a 2 1 → y3 < 6 → 0 ≤ y3 → a 2 2 = a0 2 2 → (∀ k : Nat, (k : Int) < y3 + 1 → (a0 3) ((a0 2 2).toNat + k) = (wdl 4).getD k 0) → y2 = (a 2 2) + 6 → y2 ≤ a 2 1 → y2 ≤ 200 → a0 2 3 = 0 → a0 2 2 < a0 2 1 → jt (jxX E d 128 58 [some (.inr (.inr (.inl 2))), some (.inr (.inr (.inl 1002))), some (.inl y2), some (.inl y3)] [] (jxSH, a, b0)) (jQ_X8_takesWord_r1002 a0 b0) := by
    intro y2 y3 a hm hv hf hi0 hi1 hi2 hi3 hi4 hi5 hi6 hi7 hch hi9 hi10 hi11 hi12 hi13
    refine jt_eq (bq_X8_takesWord_r1002_58 E d y2 y3 a b0) ?_
    have h244_ := iv_get hv (k := 2) (j := 1) (l := 0) (u := 200) rfl
    have h245_ : a 2 1 = a0 2 1 := hf 2 1 rfl
    have h246_ := iv_get hv0 (k := 2) (j := 1) (l := 0) (u := 200) rfl
    have h247_ := iv_get hv (k := 2) (j := 2) (l := 0) (u := 200) rfl
    have h248_ := iv_get hv0 (k := 2) (j := 2) (l := 0) (u := 200) rfl
    have h3 : a 3 = a0 3 := funext fun j => hf 3 j rfl
    have h21 := hf 2 1 rfl
    have h249_ : jxw (y3 + 1) = y3 + 1 := jxw_id (by omega) (by omega)
    exact ih29 y2 (jxw (y3 + 1)) a (show (((6 - (jxw (y3 + 1))) * 1) + 0).toNat < n from by omega) hv hf (show 6 ≤ y2 from by omega) (show y2 ≤ 200 from by omega) (show 0 ≤ jxw (y3 + 1) from by omega) (show jxw (y3 + 1) ≤ 6 from by omega) (show 6 ≤ a 2 1 from by omega) (show 0 ≤ jxw (y3 + 1) from by omega) (show a 2 2 = a0 2 2 from by omega) (by first | exact (fun k hk => absurd hk (by omega)) | (rw [show jxw (y3 + 1) = y3 + 1 from by omega]; exact hch)) (show y2 = (a 2 2) + 6 from by omega) (show y2 ≤ a 2 1 from by omega) (show y2 ≤ 200 from by omega) (show a0 2 3 = 0 from by omega) (show a0 2 2 < a0 2 1 from by omega)
  have hc29 : ∀ (y2 y3 : Int) (a : Nat → Nat → Int), (((6 - y3) * 1) + 0).toNat ≤ n → iv a → jfr jW_X8_takesWord_r1002 a0 a → 6 ≤ y2 → y2 ≤ 200 → 0 ≤ y3 → y3 ≤ 6 → 6 ≤ a 2 1 → 0 ≤ y3 → a 2 2 = a0 2 2 → (∀ k : Nat, (k : Int) < y3 → (a0 3) ((a0 2 2).toNat + k) = (wdl 4).getD k 0) → y2 = (a 2 2) + 6 → y2 ≤ a 2 1 → y2 ≤ 200 → a0 2 3 = 0 → a0 2 2 < a0 2 1 → jt (jxX E d 128 29 [some (.inr (.inr (.inl 2))), some (.inr (.inr (.inl 1002))), some (.inl y2), some (.inl y3)] [] (jxSH, a, b0)) (jQ_X8_takesWord_r1002 a0 b0) := by
    intro y2 y3 a hm hv hf hi0 hi1 hi2 hi3 hi4 hi5 hi6 hch hi8 hi9 hi10 hi11 hi12
    refine jt_eq (bq_X8_takesWord_r1002_29 E d y2 y3 a b0) ?_
    have h250_ := iv_get hv (k := 2) (j := 1) (l := 0) (u := 200) rfl
    have h251_ : a 2 1 = a0 2 1 := hf 2 1 rfl
    have h252_ := iv_get hv0 (k := 2) (j := 1) (l := 0) (u := 200) rfl
    have h253_ := iv_get hv (k := 2) (j := 2) (l := 0) (u := 200) rfl
    have h254_ := iv_get hv0 (k := 2) (j := 2) (l := 0) (u := 200) rfl
    have h3 : a 3 = a0 3 := funext fun j => hf 3 j rfl
    have h21 := hf 2 1 rfl
    refine jt_eI (eq_J0_length_8abf5_r1002 E d (jd_le hd rfl) a b0) ?_
    have h255_ := ff_J0_length_8abf5_r1002 a b0
    refine jt_ite (fun c256_ => ?_) (fun c256_ => ?_)
    ·
      have h257_ : jxw ((a 2 2) + y3) = (a 2 2) + y3 := jxw_id (by omega) (by omega)
      refine jt_grd (by omega) ?_
      refine jt_eI (eq_J0_charAt_5068e_r1002 E d (jd_le hd rfl) y3 a b0 (show (0 ≤ y3 ∧ y3 < 6) from by omega)) ?_
      have h258_ := iv_get hv (k := 3) (j := (jxw ((a 2 2) + y3)).toNat) (l := 0) (u := 255) rfl
      have h259_ : a 3 ((jxw ((a 2 2) + y3)).toNat) = a0 3 ((jxw ((a 2 2) + y3)).toNat) := hf 3 ((jxw ((a 2 2) + y3)).toNat) rfl
      have h260_ := iv_get hv0 (k := 3) (j := (jxw ((a 2 2) + y3)).toNat) (l := 0) (u := 255) rfl
      have h261_ := f_J0_charAt_5068e_r1002_eq a b0 y3
      have h262_ := f_J0_isLatin1_aae02_r1002_eq a b0
      have h263_ := f_J1_charAt_3b067_r2002_eq a b0 y3
      have h264_ := jxand_r (([116, 111, 110, 103, 117, 101] : List Int).getD (y3.toNat) 0) 255 (by decide) (by decide)
      have h265_ := jxi2c_b (jxand (([116, 111, 110, 103, 117, 101] : List Int).getD (y3.toNat) 0) 255)
      refine jt_ite (fun c266_ => ?_) (fun c266_ => ?_)
      ·
        exact hc58 y2 y3 a (show (((6 - y3) * 1) + 0).toNat ≤ n from by omega) hv hf (show 6 ≤ y2 from by omega) (show y2 ≤ 200 from by omega) (show 0 ≤ y3 from by omega) (show y3 ≤ 5 from by omega) (show 6 ≤ a 2 1 from by omega) (show y3 < 6 from by omega) (show 0 ≤ y3 from by omega) (show a 2 2 = a0 2 2 from by omega) (ch_ext hch (by omega) (q := (jxw ((a 2 2) + y3)).toNat) (by omega) (v := f_J0_charAt_5068e_r1002 a b0 y3) (by rw [← h3]; assumption) (cw_1002 a b0 y3 (by omega) (by omega))) (show y2 = (a 2 2) + 6 from by omega) (show y2 ≤ a 2 1 from by omega) (show y2 ≤ 200 from by omega) (show a0 2 3 = 0 from by omega) (show a0 2 2 < a0 2 1 from by omega)
      ·
        exact cp_X8_takesWord_r1002_56 E d hd a0 b0 hv0 a hv hf (show 6 ≤ a 2 1 from by omega) (show a 2 2 = a0 2 2 from by omega) (TW_no (y := y3) (by omega) (show y3 < 6 by omega) (q := (jxw ((a 2 2) + y3)).toNat) (by omega) (v := f_J0_charAt_5068e_r1002 a b0 y3) (cw_1002 a b0 y3 (by omega) (by omega)) (by rw [← h3]; assumption)) (show a0 2 3 = 0 from by omega) (show a0 2 2 < a0 2 1 from by omega)
    ·
      refine jt_ite (fun c267_ => ?_) (fun c267_ => ?_)
      ·
        refine jt_grd (by omega) ?_
        have h268_ := iv_get hv (k := 3) (j := y2.toNat) (l := 0) (u := 255) rfl
        have h269_ : a 3 (y2.toNat) = a0 3 (y2.toNat) := hf 3 (y2.toNat) rfl
        have h270_ := iv_get hv0 (k := 3) (j := y2.toNat) (l := 0) (u := 255) rfl
        refine jt_ite (fun c271_ => ?_) (fun c271_ => ?_)
        ·
          exact cp_X8_takesWord_r1002_96 E d hd a0 b0 hv0 y2 a hv hf (show 6 ≤ y2 from by omega) (show y2 ≤ 200 from by omega) (show 6 ≤ a 2 1 from by omega) (show a 2 2 = a0 2 2 from by omega) (TW_mk (q := y2.toNat) (show y2.toNat = (a0 2 2).toNat + 6 by omega) (by omega) (by first | exact hall | exact (fun k hk => hch k (by have hw : ((wdn 4 : Nat) : Int) = 6 := rfl; omega))) (LT_no1 (by rw [← h3]; omega))) (show y2 = (a 2 2) + 6 from by omega) (show y2 ≤ a 2 1 from by omega) (show y2 ≤ 200 from by omega) (show a0 2 3 = 0 from by omega) (show a0 2 2 < a0 2 1 from by omega)
        ·
          exact cp_X8_takesWord_r1002_83 E d hd a0 b0 hv0 y2 a hv hf (show 6 ≤ y2 from by omega) (show y2 ≤ 199 from by omega) (show 7 ≤ a 2 1 from by omega) (show a 2 2 = a0 2 2 from by omega) (show y2 < a 2 1 from by omega) (fun k hk => hch k (by have hw : ((wdn 4 : Nat) : Int) = 6 := rfl; omega)) (by rw [← h3]; omega) (show y2 = (a 2 2) + 6 from by omega) (show y2 ≤ a 2 1 from by omega) (show y2 ≤ 200 from by omega) (show a0 2 3 = 0 from by omega) (show a0 2 2 < a0 2 1 from by omega)
      ·
        exact cp_X8_takesWord_r1002_96 E d hd a0 b0 hv0 y2 a hv hf (show 6 ≤ y2 from by omega) (show y2 ≤ 200 from by omega) (show 6 ≤ a 2 1 from by omega) (show a 2 2 = a0 2 2 from by omega) (TW_mk (q := y2.toNat) (show y2.toNat = (a0 2 2).toNat + 6 by omega) (by omega) (by first | exact hall | exact (fun k hk => hch k (by have hw : ((wdn 4 : Nat) : Int) = 6 := rfl; omega))) (LT_no1 (by rw [← h3]; omega))) (show y2 = (a 2 2) + 6 from by omega) (show y2 ≤ a 2 1 from by omega) (show y2 ≤ 200 from by omega) (show a0 2 3 = 0 from by omega) (show a0 2 2 < a0 2 1 from by omega)
  exact ⟨hc58, hc29⟩
theorem sp_X8_takesWord_r1002 (E : jxE) (d : Nat) (hd : Nat.ble 5 d = true) (a0 b0 : Nat → Nat → Int) (hv0 : iv a0) : jt (jxC E d 128 [.inr (.inr (.inl 2)), .inr (.inr (.inl 1002))] (jxSH, a0, b0)) (jQ_X8_takesWord_r1002 a0 b0) := by
  obtain ⟨d, rfl⟩ := jd_succ hd
  refine jt_eq (bq_X8_takesWord_r1002 E d a0 b0) ?_
  refine jt_eI (eq_J0_length_8abf5_r1002 E d (jd_le hd rfl) a0 b0) ?_
  refine jt_eI (eq_X8_isFaulty E d (jd_le hd rfl) a0 b0) ?_
  have h272_ := f_X8_isFaulty_eq a0 b0
  refine jt_ite (fun c273_ => ?_) (fun c273_ => ?_)
  ·
    have h274_ := iv_get hv0 (k := 2) (j := 1) (l := 0) (u := 200) rfl
    have h275_ := iv_get hv0 (k := 2) (j := 2) (l := 0) (u := 200) rfl
    have h276_ := ff_J0_length_8abf5_r1002 a0 b0
    have h277_ : jxw ((a0 2 2) + (f_J0_length_8abf5_r1002 a0 b0)) = (a0 2 2) + (f_J0_length_8abf5_r1002 a0 b0) := jxw_id (by omega) (by omega)
    refine jt_ite (fun c278_ => ?_) (fun c278_ => ?_)
    ·
      exact jt_rI ⟨hv0, (jfr_rf _ _), rfl, (show (0 ≤ 0 ∧ 0 ≤ 1) from by omega), (show ((¬ a0 2 3 = 0 ∨ a0 2 1 ≤ a0 2 2) → 0 = 0) from by omega), (show (0 = 0 → a0 2 2 = a0 2 2) from by omega), (by first | exact (fun h => absurd h (by decide)) | exact (fun _ => ⟨by omega, htw, by have h := hq0_1; rw [show (a0 2 2).toNat + wdn 4 = y2.toNat from (by show _ + 6 = _; omega), ← h3, ← h21]; exact h⟩)), (by first | exact (fun h => absurd h (by decide)) | exact (fun _ => Or.inr hnt) | exact (fun _ => Or.inl (by omega)) | exact (fun _ => Or.inr (TW_short (show _ < _ + 6 by omega))) | exact (fun _ => Or.inr (TW_let (q := y2.toNat) (show y2.toNat = (a0 2 2).toNat + 6 by omega) ⟨by omega, h97, by rw [← h3]; omega⟩)))⟩
    ·
      exact (cp_X8_takesWord_r1002_29 E d hd a0 b0 hv0 _).2 (jxw ((a0 2 2) + (f_J0_length_8abf5_r1002 a0 b0))) 0 a0 (Nat.le_refl _) hv0 (jfr_rf _ _) (show 6 ≤ jxw ((a0 2 2) + (f_J0_length_8abf5_r1002 a0 b0)) from by omega) (show jxw ((a0 2 2) + (f_J0_length_8abf5_r1002 a0 b0)) ≤ 200 from by omega) (show 0 ≤ 0 from by omega) (show 0 ≤ 6 from by omega) (show 6 ≤ a0 2 1 from by omega) (show 0 ≤ 0 from by omega) (show a0 2 2 = a0 2 2 from by omega) (by first | exact (fun k hk => absurd hk (by omega)) | (rw [show jxw (y3 + 1) = y3 + 1 from by omega]; exact hch)) (show jxw ((a0 2 2) + (f_J0_length_8abf5_r1002 a0 b0)) = (a0 2 2) + 6 from by omega) (show jxw ((a0 2 2) + (f_J0_length_8abf5_r1002 a0 b0)) ≤ a0 2 1 from by omega) (show jxw ((a0 2 2) + (f_J0_length_8abf5_r1002 a0 b0)) ≤ 200 from by omega) (show a0 2 3 = 0 from by omega) (show a0 2 2 < a0 2 1 from by omega)
  ·
    have h279_ := iv_get hv0 (k := 2) (j := 1) (l := 0) (u := 200) rfl
    have h280_ := iv_get hv0 (k := 2) (j := 2) (l := 0) (u := 200) rfl
    exact jt_rI ⟨hv0, (jfr_rf _ _), rfl, (show (0 ≤ 0 ∧ 0 ≤ 1) from by omega), (show ((¬ a0 2 3 = 0 ∨ a0 2 1 ≤ a0 2 2) → 0 = 0) from by omega), (show (0 = 0 → a0 2 2 = a0 2 2) from by omega), (by first | exact (fun h => absurd h (by decide)) | exact (fun _ => ⟨by omega, htw, by have h := hq0_1; rw [show (a0 2 2).toNat + wdn 4 = y2.toNat from (by show _ + 6 = _; omega), ← h3, ← h21]; exact h⟩)), (by first | exact (fun h => absurd h (by decide)) | exact (fun _ => Or.inr hnt) | exact (fun _ => Or.inl (by omega)) | exact (fun _ => Or.inr (TW_short (show _ < _ + 6 by omega))) | exact (fun _ => Or.inr (TW_let (q := y2.toNat) (show y2.toNat = (a0 2 2).toNat + 6 by omega) ⟨by omega, h97, by rw [← h3]; omega⟩)))⟩
def jW_X8_takesWord_r1003 : List (Nat × Nat) := [(2, 2)]
abbrev jQ_X8_takesWord_r1003 (a0 b0 : Nat → Nat → Int) : List jxV → (Nat → Nat → Int) → (Nat → Nat → Int) → Prop := rI (fun r a b => (iv a) ∧ (jfr jW_X8_takesWord_r1003 a0 a) ∧ (b0 = b) ∧ ((0 ≤ r ∧ r ≤ 1)) ∧ (((¬ a0 2 3 = 0 ∨ a0 2 1 ≤ a0 2 2) → r = 0)) ∧ ((r = 0 → a 2 2 = a0 2 2)) ∧ (r = 1 → a0 2 3 = 0 ∧ TW (a0 3) (a0 2 1).toNat (a0 2 2).toNat 5 ∧ a 2 2 = ((SK (a0 3) (a0 2 1).toNat ((a0 2 2).toNat + wdn 5) : Nat) : Int)) ∧ (r = 0 → ¬ a0 2 3 = 0 ∨ ¬ TW (a0 3) (a0 2 1).toNat (a0 2 2).toNat 5))
theorem cp_X8_takesWord_r1003_56 (E : jxE) (d : Nat) (hd : Nat.ble 5 (d + 1) = true) (a0 b0 : Nat → Nat → Int) (hv0 : iv a0) : ∀ (a : Nat → Nat → Int), iv a → jfr jW_X8_takesWord_r1003 a0 a → 6 ≤ a 2 1 → a 2 2 = a0 2 2 → (¬ TW (a0 3) (a0 2 1).toNat (a0 2 2).toNat 5) → a0 2 3 = 0 → a0 2 2 < a0 2 1 → jt (jxX E d 128 56 [none, none, none, none] [] (jxSH, a, b0)) (jQ_X8_takesWord_r1003 a0 b0) := by
  intro a hv hf hi0 hi1 hnt hi3 hi4
  refine jt_eq (bq_X8_takesWord_r1003_56 E d a b0) ?_
  have h281_ := iv_get hv (k := 2) (j := 1) (l := 0) (u := 200) rfl
  have h282_ : a 2 1 = a0 2 1 := hf 2 1 rfl
  have h283_ := iv_get hv0 (k := 2) (j := 1) (l := 0) (u := 200) rfl
  have h284_ := iv_get hv (k := 2) (j := 2) (l := 0) (u := 200) rfl
  have h285_ := iv_get hv0 (k := 2) (j := 2) (l := 0) (u := 200) rfl
  have h3 : a 3 = a0 3 := funext fun j => hf 3 j rfl
  have h21 := hf 2 1 rfl
  exact jt_rI ⟨hv, hf, rfl, (show (0 ≤ 0 ∧ 0 ≤ 1) from by omega), (show ((¬ a0 2 3 = 0 ∨ a0 2 1 ≤ a0 2 2) → 0 = 0) from by omega), (show (0 = 0 → a 2 2 = a0 2 2) from by omega), (by first | exact (fun h => absurd h (by decide)) | exact (fun _ => ⟨by omega, htw, by have h := hq0_1; rw [show (a0 2 2).toNat + wdn 5 = y2.toNat from (by show _ + 6 = _; omega), ← h3, ← h21]; exact h⟩)), (by first | exact (fun h => absurd h (by decide)) | exact (fun _ => Or.inr hnt) | exact (fun _ => Or.inl (by omega)) | exact (fun _ => Or.inr (TW_short (show _ < _ + 6 by omega))) | exact (fun _ => Or.inr (TW_let (q := y2.toNat) (show y2.toNat = (a0 2 2).toNat + 6 by omega) ⟨by omega, h97, by rw [← h3]; omega⟩)))⟩
theorem cp_X8_takesWord_r1003_96 (E : jxE) (d : Nat) (hd : Nat.ble 5 (d + 1) = true) (a0 b0 : Nat → Nat → Int) (hv0 : iv a0) : ∀ (y2 : Int) (a : Nat → Nat → Int), iv a → jfr jW_X8_takesWord_r1003 a0 a → 6 ≤ y2 → y2 ≤ 200 → 6 ≤ a 2 1 → a 2 2 = a0 2 2 → (TW (a0 3) (a0 2 1).toNat (a0 2 2).toNat 5) → y2 = (a 2 2) + 6 → y2 ≤ a 2 1 → y2 ≤ 200 → a0 2 3 = 0 → a0 2 2 < a0 2 1 → jt (jxX E d 128 96 [some (.inr (.inr (.inl 2))), none, some (.inl y2), none] [] (jxSH, a, b0)) (jQ_X8_takesWord_r1003 a0 b0) := by
  intro y2 a hv hf hi0 hi1 hi2 hi3 htw hi5 hi6 hi7 hi8 hi9
  refine jt_eq (bq_X8_takesWord_r1003_96 E d y2 a b0) ?_
  have h286_ := iv_get hv (k := 2) (j := 1) (l := 0) (u := 200) rfl
  have h287_ : a 2 1 = a0 2 1 := hf 2 1 rfl
  have h288_ := iv_get hv0 (k := 2) (j := 1) (l := 0) (u := 200) rfl
  have h289_ := iv_get hv (k := 2) (j := 2) (l := 0) (u := 200) rfl
  have h290_ := iv_get hv0 (k := 2) (j := 2) (l := 0) (u := 200) rfl
  have h3 : a 3 = a0 3 := funext fun j => hf 3 j rfl
  have h21 := hf 2 1 rfl
  have hv291_ : iv (jxu a 2 2 y2) := iv_put hv (l := 0) (u := 200) rfl (by omega) (by omega)
  refine jt_bV (sp_X8_skipBlanks E d (jd_le hd rfl) (jxu a 2 2 y2) b0 hv291_) (fun a292_ b292_ h292_ => ?_)
  obtain ⟨hv292_, hf292_, rfl, hq292_0, hq292_1⟩ := h292_
  have h293_ := iv_get hv292_ (k := 2) (j := 2) (l := 0) (u := 200) rfl
  have h294_ : (a 2 1 ≤ y2 → a292_ 2 2 = y2) := hq292_0
  have hf295_ : jfr jW_X8_takesWord_r1003 a0 (jxu a 2 2 y2) := jfr_put hf rfl
  have hf296_ : jfr jW_X8_takesWord_r1003 a0 a292_ := jfr_tr hf295_ hf292_ rfl
  exact jt_rI ⟨hv292_, hf296_, rfl, (show (0 ≤ 1 ∧ 1 ≤ 1) from by omega), (show ((¬ a0 2 3 = 0 ∨ a0 2 1 ≤ a0 2 2) → 1 = 0) from by omega), (show (1 = 0 → a292_ 2 2 = a0 2 2) from by omega), (by first | exact (fun h => absurd h (by decide)) | exact (fun _ => ⟨by omega, htw, by have h := hq292_1; rw [show (a0 2 2).toNat + wdn 5 = y2.toNat from (by show _ + 6 = _; omega), ← h3, ← h21]; exact h⟩)), (by first | exact (fun h => absurd h (by decide)) | exact (fun _ => Or.inr hnt) | exact (fun _ => Or.inl (by omega)) | exact (fun _ => Or.inr (TW_short (show _ < _ + 6 by omega))) | exact (fun _ => Or.inr (TW_let (q := y2.toNat) (show y2.toNat = (a0 2 2).toNat + 6 by omega) ⟨by omega, h97, by rw [← h3]; omega⟩)))⟩
theorem cp_X8_takesWord_r1003_83 (E : jxE) (d : Nat) (hd : Nat.ble 5 (d + 1) = true) (a0 b0 : Nat → Nat → Int) (hv0 : iv a0) : ∀ (y2 : Int) (a : Nat → Nat → Int), iv a → jfr jW_X8_takesWord_r1003 a0 a → 6 ≤ y2 → y2 ≤ 199 → 7 ≤ a 2 1 → a 2 2 = a0 2 2 → y2 < a 2 1 → (∀ k : Nat, (k : Int) < (wdn 5 : Int) → (a0 3) ((a0 2 2).toNat + k) = (wdl 5).getD k 0) → (97 ≤ a0 3 y2.toNat) → y2 = (a 2 2) + 6 → y2 ≤ a 2 1 → y2 ≤ 200 → a0 2 3 = 0 → a0 2 2 < a0 2 1 → jt (jxX E d 128 83 [some (.inr (.inr (.inl 2))), none, some (.inl y2), none] [] (jxSH, a, b0)) (jQ_X8_takesWord_r1003 a0 b0) := by
  intro y2 a hv hf hi0 hi1 hi2 hi3 hi4 hall h97 hi7 hi8 hi9 hi10 hi11
  refine jt_eq (bq_X8_takesWord_r1003_83 E d y2 a b0) ?_
  have h297_ := iv_get hv (k := 2) (j := 1) (l := 0) (u := 200) rfl
  have h298_ : a 2 1 = a0 2 1 := hf 2 1 rfl
  have h299_ := iv_get hv0 (k := 2) (j := 1) (l := 0) (u := 200) rfl
  have h300_ := iv_get hv (k := 2) (j := 2) (l := 0) (u := 200) rfl
  have h301_ := iv_get hv0 (k := 2) (j := 2) (l := 0) (u := 200) rfl
  have h3 : a 3 = a0 3 := funext fun j => hf 3 j rfl
  have h21 := hf 2 1 rfl
  refine jt_grd (by omega) ?_
  have h302_ := iv_get hv (k := 3) (j := y2.toNat) (l := 0) (u := 255) rfl
  have h303_ : a 3 (y2.toNat) = a0 3 (y2.toNat) := hf 3 (y2.toNat) rfl
  have h304_ := iv_get hv0 (k := 3) (j := y2.toNat) (l := 0) (u := 255) rfl
  refine jt_ite (fun c305_ => ?_) (fun c305_ => ?_)
  ·
    exact cp_X8_takesWord_r1003_96 E d hd a0 b0 hv0 y2 a hv hf (show 6 ≤ y2 from by omega) (show y2 ≤ 200 from by omega) (show 6 ≤ a 2 1 from by omega) (show a 2 2 = a0 2 2 from by omega) (TW_mk (q := y2.toNat) (show y2.toNat = (a0 2 2).toNat + 6 by omega) (by omega) (by first | exact hall | exact (fun k hk => hch k (by have hw : ((wdn 5 : Nat) : Int) = 6 := rfl; omega))) (LT_no1 (by rw [← h3]; omega))) (show y2 = (a 2 2) + 6 from by omega) (show y2 ≤ a 2 1 from by omega) (show y2 ≤ 200 from by omega) (show a0 2 3 = 0 from by omega) (show a0 2 2 < a0 2 1 from by omega)
  ·
    exact jt_rI ⟨hv, hf, rfl, (show (0 ≤ 0 ∧ 0 ≤ 1) from by omega), (show ((¬ a0 2 3 = 0 ∨ a0 2 1 ≤ a0 2 2) → 0 = 0) from by omega), (show (0 = 0 → a 2 2 = a0 2 2) from by omega), (by first | exact (fun h => absurd h (by decide)) | exact (fun _ => ⟨by omega, htw, by have h := hq0_1; rw [show (a0 2 2).toNat + wdn 5 = y2.toNat from (by show _ + 6 = _; omega), ← h3, ← h21]; exact h⟩)), (by first | exact (fun h => absurd h (by decide)) | exact (fun _ => Or.inr hnt) | exact (fun _ => Or.inl (by omega)) | exact (fun _ => Or.inr (TW_short (show _ < _ + 6 by omega))) | exact (fun _ => Or.inr (TW_let (q := y2.toNat) (show y2.toNat = (a0 2 2).toNat + 6 by omega) ⟨by omega, h97, by rw [← h3]; omega⟩)))⟩
theorem cp_X8_takesWord_r1003_29 (E : jxE) (d : Nat) (hd : Nat.ble 5 (d + 1) = true) (a0 b0 : Nat → Nat → Int) (hv0 : iv a0) : ∀ n : Nat, (∀ (y2 y3 : Int) (a : Nat → Nat → Int), (((6 - y3) * 1) + 0).toNat ≤ n → iv a → jfr jW_X8_takesWord_r1003 a0 a → 6 ≤ y2 → y2 ≤ 200 → 0 ≤ y3 → y3 ≤ 5 → 6 ≤ a 2 1 → y3 < 6 → 0 ≤ y3 → a 2 2 = a0 2 2 → (∀ k : Nat, (k : Int) < y3 + 1 → (a0 3) ((a0 2 2).toNat + k) = (wdl 5).getD k 0) → y2 = (a 2 2) + 6 → y2 ≤ a 2 1 → y2 ≤ 200 → a0 2 3 = 0 → a0 2 2 < a0 2 1 → jt (jxX E d 128 58 [some (.inr (.inr (.inl 2))), some (.inr (.inr (.inl 1003))), some (.inl y2), some (.inl y3)] [] (jxSH, a, b0)) (jQ_X8_takesWord_r1003 a0 b0)) ∧ (∀ (y2 y3 : Int) (a : Nat → Nat → Int), (((6 - y3) * 1) + 0).toNat ≤ n → iv a → jfr jW_X8_takesWord_r1003 a0 a → 6 ≤ y2 → y2 ≤ 200 → 0 ≤ y3 → y3 ≤ 6 → 6 ≤ a 2 1 → 0 ≤ y3 → a 2 2 = a0 2 2 → (∀ k : Nat, (k : Int) < y3 → (a0 3) ((a0 2 2).toNat + k) = (wdl 5).getD k 0) → y2 = (a 2 2) + 6 → y2 ≤ a 2 1 → y2 ≤ 200 → a0 2 3 = 0 → a0 2 2 < a0 2 1 → jt (jxX E d 128 29 [some (.inr (.inr (.inl 2))), some (.inr (.inr (.inl 1003))), some (.inl y2), some (.inl y3)] [] (jxSH, a, b0)) (jQ_X8_takesWord_r1003 a0 b0)) := by
  refine jx_ind fun n ih => ?_
  have ih58 : ∀ (y2 y3 : Int) (a : Nat → Nat → Int), (((6 - y3) * 1) + 0).toNat < n → iv a → jfr jW_X8_takesWord_r1003 a0 a → 6 ≤ y2 → y2 ≤ 200 → 0 ≤ y3 → y3 ≤ 5 → 6 ≤ a 2 1 → y3 < 6 → 0 ≤ y3 → a 2 2 = a0 2 2 → (∀ k : Nat, (k : Int) < y3 + 1 → (a0 3) ((a0 2 2).toNat + k) = (wdl 5).getD k 0) → y2 = (a 2 2) + 6 → y2 ≤ a 2 1 → y2 ≤ 200 → a0 2 3 = 0 → a0 2 2 < a0 2 1 → jt (jxX E d 128 58 [some (.inr (.inr (.inl 2))), some (.inr (.inr (.inl 1003))), some (.inl y2), some (.inl y3)] [] (jxSH, a, b0)) (jQ_X8_takesWord_r1003 a0 b0) := fun y2 y3 a hlt i0 i1 i2 i3 i4 i5 i6 i7 i8 i9 i10 i11 i12 i13 i14 i15 => (ih _ hlt).1 y2 y3 a (Nat.le_refl _) i0 i1 i2 i3 i4 i5 i6 i7 i8 i9 i10 i11 i12 i13 i14 i15
  have ih29 : ∀ (y2 y3 : Int) (a : Nat → Nat → Int), (((6 - y3) * 1) + 0).toNat < n → iv a → jfr jW_X8_takesWord_r1003 a0 a → 6 ≤ y2 → y2 ≤ 200 → 0 ≤ y3 → y3 ≤ 6 → 6 ≤ a 2 1 → 0 ≤ y3 → a 2 2 = a0 2 2 → (∀ k : Nat, (k : Int) < y3 → (a0 3) ((a0 2 2).toNat + k) = (wdl 5).getD k 0) → y2 = (a 2 2) + 6 → y2 ≤ a 2 1 → y2 ≤ 200 → a0 2 3 = 0 → a0 2 2 < a0 2 1 → jt (jxX E d 128 29 [some (.inr (.inr (.inl 2))), some (.inr (.inr (.inl 1003))), some (.inl y2), some (.inl y3)] [] (jxSH, a, b0)) (jQ_X8_takesWord_r1003 a0 b0) := fun y2 y3 a hlt i0 i1 i2 i3 i4 i5 i6 i7 i8 i9 i10 i11 i12 i13 i14 => (ih _ hlt).2 y2 y3 a (Nat.le_refl _) i0 i1 i2 i3 i4 i5 i6 i7 i8 i9 i10 i11 i12 i13 i14
  have hc58 : ∀ (y2 y3 : Int) (a : Nat → Nat → Int), (((6 - y3) * 1) + 0).toNat ≤ n → iv a → jfr jW_X8_takesWord_r1003 a0 a → 6 ≤ y2 → y2 ≤ 200 → 0 ≤ y3 → y3 ≤ 5 → 6 ≤ a 2 1 → y3 < 6 → 0 ≤ y3 → a 2 2 = a0 2 2 → (∀ k : Nat, (k : Int) < y3 + 1 → (a0 3) ((a0 2 2).toNat + k) = (wdl 5).getD k 0) → y2 = (a 2 2) + 6 → y2 ≤ a 2 1 → y2 ≤ 200 → a0 2 3 = 0 → a0 2 2 < a0 2 1 → jt (jxX E d 128 58 [some (.inr (.inr (.inl 2))), some (.inr (.inr (.inl 1003))), some (.inl y2), some (.inl y3)] [] (jxSH, a, b0)) (jQ_X8_takesWord_r1003 a0 b0) := by
    intro y2 y3 a hm hv hf hi0 hi1 hi2 hi3 hi4 hi5 hi6 hi7 hch hi9 hi10 hi11 hi12 hi13
    refine jt_eq (bq_X8_takesWord_r1003_58 E d y2 y3 a b0) ?_
    have h306_ := iv_get hv (k := 2) (j := 1) (l := 0) (u := 200) rfl
    have h307_ : a 2 1 = a0 2 1 := hf 2 1 rfl
    have h308_ := iv_get hv0 (k := 2) (j := 1) (l := 0) (u := 200) rfl
    have h309_ := iv_get hv (k := 2) (j := 2) (l := 0) (u := 200) rfl
    have h310_ := iv_get hv0 (k := 2) (j := 2) (l := 0) (u := 200) rfl
    have h3 : a 3 = a0 3 := funext fun j => hf 3 j rfl
    have h21 := hf 2 1 rfl
    have h311_ : jxw (y3 + 1) = y3 + 1 := jxw_id (by omega) (by omega)
    exact ih29 y2 (jxw (y3 + 1)) a (show (((6 - (jxw (y3 + 1))) * 1) + 0).toNat < n from by omega) hv hf (show 6 ≤ y2 from by omega) (show y2 ≤ 200 from by omega) (show 0 ≤ jxw (y3 + 1) from by omega) (show jxw (y3 + 1) ≤ 6 from by omega) (show 6 ≤ a 2 1 from by omega) (show 0 ≤ jxw (y3 + 1) from by omega) (show a 2 2 = a0 2 2 from by omega) (by first | exact (fun k hk => absurd hk (by omega)) | (rw [show jxw (y3 + 1) = y3 + 1 from by omega]; exact hch)) (show y2 = (a 2 2) + 6 from by omega) (show y2 ≤ a 2 1 from by omega) (show y2 ≤ 200 from by omega) (show a0 2 3 = 0 from by omega) (show a0 2 2 < a0 2 1 from by omega)
  have hc29 : ∀ (y2 y3 : Int) (a : Nat → Nat → Int), (((6 - y3) * 1) + 0).toNat ≤ n → iv a → jfr jW_X8_takesWord_r1003 a0 a → 6 ≤ y2 → y2 ≤ 200 → 0 ≤ y3 → y3 ≤ 6 → 6 ≤ a 2 1 → 0 ≤ y3 → a 2 2 = a0 2 2 → (∀ k : Nat, (k : Int) < y3 → (a0 3) ((a0 2 2).toNat + k) = (wdl 5).getD k 0) → y2 = (a 2 2) + 6 → y2 ≤ a 2 1 → y2 ≤ 200 → a0 2 3 = 0 → a0 2 2 < a0 2 1 → jt (jxX E d 128 29 [some (.inr (.inr (.inl 2))), some (.inr (.inr (.inl 1003))), some (.inl y2), some (.inl y3)] [] (jxSH, a, b0)) (jQ_X8_takesWord_r1003 a0 b0) := by
    intro y2 y3 a hm hv hf hi0 hi1 hi2 hi3 hi4 hi5 hi6 hch hi8 hi9 hi10 hi11 hi12
    refine jt_eq (bq_X8_takesWord_r1003_29 E d y2 y3 a b0) ?_
    have h312_ := iv_get hv (k := 2) (j := 1) (l := 0) (u := 200) rfl
    have h313_ : a 2 1 = a0 2 1 := hf 2 1 rfl
    have h314_ := iv_get hv0 (k := 2) (j := 1) (l := 0) (u := 200) rfl
    have h315_ := iv_get hv (k := 2) (j := 2) (l := 0) (u := 200) rfl
    have h316_ := iv_get hv0 (k := 2) (j := 2) (l := 0) (u := 200) rfl
    have h3 : a 3 = a0 3 := funext fun j => hf 3 j rfl
    have h21 := hf 2 1 rfl
    refine jt_eI (eq_J0_length_8abf5_r1003 E d (jd_le hd rfl) a b0) ?_
    have h317_ := ff_J0_length_8abf5_r1003 a b0
    refine jt_ite (fun c318_ => ?_) (fun c318_ => ?_)
    ·
      have h319_ : jxw ((a 2 2) + y3) = (a 2 2) + y3 := jxw_id (by omega) (by omega)
      refine jt_grd (by omega) ?_
      refine jt_eI (eq_J0_charAt_5068e_r1003 E d (jd_le hd rfl) y3 a b0 (show (0 ≤ y3 ∧ y3 < 6) from by omega)) ?_
      have h320_ := iv_get hv (k := 3) (j := (jxw ((a 2 2) + y3)).toNat) (l := 0) (u := 255) rfl
      have h321_ : a 3 ((jxw ((a 2 2) + y3)).toNat) = a0 3 ((jxw ((a 2 2) + y3)).toNat) := hf 3 ((jxw ((a 2 2) + y3)).toNat) rfl
      have h322_ := iv_get hv0 (k := 3) (j := (jxw ((a 2 2) + y3)).toNat) (l := 0) (u := 255) rfl
      have h323_ := f_J0_charAt_5068e_r1003_eq a b0 y3
      have h324_ := f_J0_isLatin1_aae02_r1003_eq a b0
      have h325_ := f_J1_charAt_3b067_r2003_eq a b0 y3
      have h326_ := jxand_r (([115, 104, 97, 114, 101, 100] : List Int).getD (y3.toNat) 0) 255 (by decide) (by decide)
      have h327_ := jxi2c_b (jxand (([115, 104, 97, 114, 101, 100] : List Int).getD (y3.toNat) 0) 255)
      refine jt_ite (fun c328_ => ?_) (fun c328_ => ?_)
      ·
        exact hc58 y2 y3 a (show (((6 - y3) * 1) + 0).toNat ≤ n from by omega) hv hf (show 6 ≤ y2 from by omega) (show y2 ≤ 200 from by omega) (show 0 ≤ y3 from by omega) (show y3 ≤ 5 from by omega) (show 6 ≤ a 2 1 from by omega) (show y3 < 6 from by omega) (show 0 ≤ y3 from by omega) (show a 2 2 = a0 2 2 from by omega) (ch_ext hch (by omega) (q := (jxw ((a 2 2) + y3)).toNat) (by omega) (v := f_J0_charAt_5068e_r1003 a b0 y3) (by rw [← h3]; assumption) (cw_1003 a b0 y3 (by omega) (by omega))) (show y2 = (a 2 2) + 6 from by omega) (show y2 ≤ a 2 1 from by omega) (show y2 ≤ 200 from by omega) (show a0 2 3 = 0 from by omega) (show a0 2 2 < a0 2 1 from by omega)
      ·
        exact cp_X8_takesWord_r1003_56 E d hd a0 b0 hv0 a hv hf (show 6 ≤ a 2 1 from by omega) (show a 2 2 = a0 2 2 from by omega) (TW_no (y := y3) (by omega) (show y3 < 6 by omega) (q := (jxw ((a 2 2) + y3)).toNat) (by omega) (v := f_J0_charAt_5068e_r1003 a b0 y3) (cw_1003 a b0 y3 (by omega) (by omega)) (by rw [← h3]; assumption)) (show a0 2 3 = 0 from by omega) (show a0 2 2 < a0 2 1 from by omega)
    ·
      refine jt_ite (fun c329_ => ?_) (fun c329_ => ?_)
      ·
        refine jt_grd (by omega) ?_
        have h330_ := iv_get hv (k := 3) (j := y2.toNat) (l := 0) (u := 255) rfl
        have h331_ : a 3 (y2.toNat) = a0 3 (y2.toNat) := hf 3 (y2.toNat) rfl
        have h332_ := iv_get hv0 (k := 3) (j := y2.toNat) (l := 0) (u := 255) rfl
        refine jt_ite (fun c333_ => ?_) (fun c333_ => ?_)
        ·
          exact cp_X8_takesWord_r1003_96 E d hd a0 b0 hv0 y2 a hv hf (show 6 ≤ y2 from by omega) (show y2 ≤ 200 from by omega) (show 6 ≤ a 2 1 from by omega) (show a 2 2 = a0 2 2 from by omega) (TW_mk (q := y2.toNat) (show y2.toNat = (a0 2 2).toNat + 6 by omega) (by omega) (by first | exact hall | exact (fun k hk => hch k (by have hw : ((wdn 5 : Nat) : Int) = 6 := rfl; omega))) (LT_no1 (by rw [← h3]; omega))) (show y2 = (a 2 2) + 6 from by omega) (show y2 ≤ a 2 1 from by omega) (show y2 ≤ 200 from by omega) (show a0 2 3 = 0 from by omega) (show a0 2 2 < a0 2 1 from by omega)
        ·
          exact cp_X8_takesWord_r1003_83 E d hd a0 b0 hv0 y2 a hv hf (show 6 ≤ y2 from by omega) (show y2 ≤ 199 from by omega) (show 7 ≤ a 2 1 from by omega) (show a 2 2 = a0 2 2 from by omega) (show y2 < a 2 1 from by omega) (fun k hk => hch k (by have hw : ((wdn 5 : Nat) : Int) = 6 := rfl; omega)) (by rw [← h3]; omega) (show y2 = (a 2 2) + 6 from by omega) (show y2 ≤ a 2 1 from by omega) (show y2 ≤ 200 from by omega) (show a0 2 3 = 0 from by omega) (show a0 2 2 < a0 2 1 from by omega)
      ·
        exact cp_X8_takesWord_r1003_96 E d hd a0 b0 hv0 y2 a hv hf (show 6 ≤ y2 from by omega) (show y2 ≤ 200 from by omega) (show 6 ≤ a 2 1 from by omega) (show a 2 2 = a0 2 2 from by omega) (TW_mk (q := y2.toNat) (show y2.toNat = (a0 2 2).toNat + 6 by omega) (by omega) (by first | exact hall | exact (fun k hk => hch k (by have hw : ((wdn 5 : Nat) : Int) = 6 := rfl; omega))) (LT_no1 (by rw [← h3]; omega))) (show y2 = (a 2 2) + 6 from by omega) (show y2 ≤ a 2 1 from by omega) (show y2 ≤ 200 from by omega) (show a0 2 3 = 0 from by omega) (show a0 2 2 < a0 2 1 from by omega)
  exact ⟨hc58, hc29⟩
theorem sp_X8_takesWord_r1003 (E : jxE) (d : Nat) (hd : Nat.ble 5 d = true) (a0 b0 : Nat → Nat → Int) (hv0 : iv a0) : jt (jxC E d 128 [.inr (.inr (.inl 2)), .inr (.inr (.inl 1003))] (jxSH, a0, b0)) (jQ_X8_takesWord_r1003 a0 b0) := by
  obtain ⟨d, rfl⟩ := jd_succ hd
  refine jt_eq (bq_X8_takesWord_r1003 E d a0 b0) ?_
  refine jt_eI (eq_J0_length_8abf5_r1003 E d (jd_le hd rfl) a0 b0) ?_
  refine jt_eI (eq_X8_isFaulty E d (jd_le hd rfl) a0 b0) ?_
  have h334_ := f_X8_isFaulty_eq a0 b0
  refine jt_ite (fun c335_ => ?_) (fun c335_ => ?_)
  ·
    have h336_ := iv_get hv0 (k := 2) (j := 1) (l := 0) (u := 200) rfl
    have h337_ := iv_get hv0 (k := 2) (j := 2) (l := 0) (u := 200) rfl
    have h338_ := ff_J0_length_8abf5_r1003 a0 b0
    have h339_ : jxw ((a0 2 2) + (f_J0_length_8abf5_r1003 a0 b0)) = (a0 2 2) + (f_J0_length_8abf5_r1003 a0 b0) := jxw_id (by omega) (by omega)
    refine jt_ite (fun c340_ => ?_) (fun c340_ => ?_)
    ·
      exact jt_rI ⟨hv0, (jfr_rf _ _), rfl, (show (0 ≤ 0 ∧ 0 ≤ 1) from by omega), (show ((¬ a0 2 3 = 0 ∨ a0 2 1 ≤ a0 2 2) → 0 = 0) from by omega), (show (0 = 0 → a0 2 2 = a0 2 2) from by omega), (by first | exact (fun h => absurd h (by decide)) | exact (fun _ => ⟨by omega, htw, by have h := hq0_1; rw [show (a0 2 2).toNat + wdn 5 = y2.toNat from (by show _ + 6 = _; omega), ← h3, ← h21]; exact h⟩)), (by first | exact (fun h => absurd h (by decide)) | exact (fun _ => Or.inr hnt) | exact (fun _ => Or.inl (by omega)) | exact (fun _ => Or.inr (TW_short (show _ < _ + 6 by omega))) | exact (fun _ => Or.inr (TW_let (q := y2.toNat) (show y2.toNat = (a0 2 2).toNat + 6 by omega) ⟨by omega, h97, by rw [← h3]; omega⟩)))⟩
    ·
      exact (cp_X8_takesWord_r1003_29 E d hd a0 b0 hv0 _).2 (jxw ((a0 2 2) + (f_J0_length_8abf5_r1003 a0 b0))) 0 a0 (Nat.le_refl _) hv0 (jfr_rf _ _) (show 6 ≤ jxw ((a0 2 2) + (f_J0_length_8abf5_r1003 a0 b0)) from by omega) (show jxw ((a0 2 2) + (f_J0_length_8abf5_r1003 a0 b0)) ≤ 200 from by omega) (show 0 ≤ 0 from by omega) (show 0 ≤ 6 from by omega) (show 6 ≤ a0 2 1 from by omega) (show 0 ≤ 0 from by omega) (show a0 2 2 = a0 2 2 from by omega) (by first | exact (fun k hk => absurd hk (by omega)) | (rw [show jxw (y3 + 1) = y3 + 1 from by omega]; exact hch)) (show jxw ((a0 2 2) + (f_J0_length_8abf5_r1003 a0 b0)) = (a0 2 2) + 6 from by omega) (show jxw ((a0 2 2) + (f_J0_length_8abf5_r1003 a0 b0)) ≤ a0 2 1 from by omega) (show jxw ((a0 2 2) + (f_J0_length_8abf5_r1003 a0 b0)) ≤ 200 from by omega) (show a0 2 3 = 0 from by omega) (show a0 2 2 < a0 2 1 from by omega)
  ·
    have h341_ := iv_get hv0 (k := 2) (j := 1) (l := 0) (u := 200) rfl
    have h342_ := iv_get hv0 (k := 2) (j := 2) (l := 0) (u := 200) rfl
    exact jt_rI ⟨hv0, (jfr_rf _ _), rfl, (show (0 ≤ 0 ∧ 0 ≤ 1) from by omega), (show ((¬ a0 2 3 = 0 ∨ a0 2 1 ≤ a0 2 2) → 0 = 0) from by omega), (show (0 = 0 → a0 2 2 = a0 2 2) from by omega), (by first | exact (fun h => absurd h (by decide)) | exact (fun _ => ⟨by omega, htw, by have h := hq0_1; rw [show (a0 2 2).toNat + wdn 5 = y2.toNat from (by show _ + 6 = _; omega), ← h3, ← h21]; exact h⟩)), (by first | exact (fun h => absurd h (by decide)) | exact (fun _ => Or.inr hnt) | exact (fun _ => Or.inl (by omega)) | exact (fun _ => Or.inr (TW_short (show _ < _ + 6 by omega))) | exact (fun _ => Or.inr (TW_let (q := y2.toNat) (show y2.toNat = (a0 2 2).toNat + 6 by omega) ⟨by omega, h97, by rw [← h3]; omega⟩)))⟩
def jW_X8_takesWord_r1004 : List (Nat × Nat) := [(2, 2)]
abbrev jQ_X8_takesWord_r1004 (a0 b0 : Nat → Nat → Int) : List jxV → (Nat → Nat → Int) → (Nat → Nat → Int) → Prop := rI (fun r a b => (iv a) ∧ (jfr jW_X8_takesWord_r1004 a0 a) ∧ (b0 = b) ∧ ((0 ≤ r ∧ r ≤ 1)) ∧ (((¬ a0 2 3 = 0 ∨ a0 2 1 ≤ a0 2 2) → r = 0)) ∧ ((r = 0 → a 2 2 = a0 2 2)) ∧ (r = 1 → a0 2 3 = 0 ∧ TW (a0 3) (a0 2 1).toNat (a0 2 2).toNat 6 ∧ a 2 2 = ((SK (a0 3) (a0 2 1).toNat ((a0 2 2).toNat + wdn 6) : Nat) : Int)) ∧ (r = 0 → ¬ a0 2 3 = 0 ∨ ¬ TW (a0 3) (a0 2 1).toNat (a0 2 2).toNat 6))
theorem cp_X8_takesWord_r1004_56 (E : jxE) (d : Nat) (hd : Nat.ble 5 (d + 1) = true) (a0 b0 : Nat → Nat → Int) (hv0 : iv a0) : ∀ (a : Nat → Nat → Int), iv a → jfr jW_X8_takesWord_r1004 a0 a → 3 ≤ a 2 1 → a 2 2 = a0 2 2 → (¬ TW (a0 3) (a0 2 1).toNat (a0 2 2).toNat 6) → a0 2 3 = 0 → a0 2 2 < a0 2 1 → jt (jxX E d 128 56 [none, none, none, none] [] (jxSH, a, b0)) (jQ_X8_takesWord_r1004 a0 b0) := by
  intro a hv hf hi0 hi1 hnt hi3 hi4
  refine jt_eq (bq_X8_takesWord_r1004_56 E d a b0) ?_
  have h343_ := iv_get hv (k := 2) (j := 1) (l := 0) (u := 200) rfl
  have h344_ : a 2 1 = a0 2 1 := hf 2 1 rfl
  have h345_ := iv_get hv0 (k := 2) (j := 1) (l := 0) (u := 200) rfl
  have h346_ := iv_get hv (k := 2) (j := 2) (l := 0) (u := 200) rfl
  have h347_ := iv_get hv0 (k := 2) (j := 2) (l := 0) (u := 200) rfl
  have h3 : a 3 = a0 3 := funext fun j => hf 3 j rfl
  have h21 := hf 2 1 rfl
  exact jt_rI ⟨hv, hf, rfl, (show (0 ≤ 0 ∧ 0 ≤ 1) from by omega), (show ((¬ a0 2 3 = 0 ∨ a0 2 1 ≤ a0 2 2) → 0 = 0) from by omega), (show (0 = 0 → a 2 2 = a0 2 2) from by omega), (by first | exact (fun h => absurd h (by decide)) | exact (fun _ => ⟨by omega, htw, by have h := hq0_1; rw [show (a0 2 2).toNat + wdn 6 = y2.toNat from (by show _ + 3 = _; omega), ← h3, ← h21]; exact h⟩)), (by first | exact (fun h => absurd h (by decide)) | exact (fun _ => Or.inr hnt) | exact (fun _ => Or.inl (by omega)) | exact (fun _ => Or.inr (TW_short (show _ < _ + 3 by omega))) | exact (fun _ => Or.inr (TW_let (q := y2.toNat) (show y2.toNat = (a0 2 2).toNat + 3 by omega) ⟨by omega, h97, by rw [← h3]; omega⟩)))⟩
theorem cp_X8_takesWord_r1004_96 (E : jxE) (d : Nat) (hd : Nat.ble 5 (d + 1) = true) (a0 b0 : Nat → Nat → Int) (hv0 : iv a0) : ∀ (y2 : Int) (a : Nat → Nat → Int), iv a → jfr jW_X8_takesWord_r1004 a0 a → 3 ≤ y2 → y2 ≤ 200 → 3 ≤ a 2 1 → a 2 2 = a0 2 2 → (TW (a0 3) (a0 2 1).toNat (a0 2 2).toNat 6) → y2 = (a 2 2) + 3 → y2 ≤ a 2 1 → y2 ≤ 200 → a0 2 3 = 0 → a0 2 2 < a0 2 1 → jt (jxX E d 128 96 [some (.inr (.inr (.inl 2))), none, some (.inl y2), none] [] (jxSH, a, b0)) (jQ_X8_takesWord_r1004 a0 b0) := by
  intro y2 a hv hf hi0 hi1 hi2 hi3 htw hi5 hi6 hi7 hi8 hi9
  refine jt_eq (bq_X8_takesWord_r1004_96 E d y2 a b0) ?_
  have h348_ := iv_get hv (k := 2) (j := 1) (l := 0) (u := 200) rfl
  have h349_ : a 2 1 = a0 2 1 := hf 2 1 rfl
  have h350_ := iv_get hv0 (k := 2) (j := 1) (l := 0) (u := 200) rfl
  have h351_ := iv_get hv (k := 2) (j := 2) (l := 0) (u := 200) rfl
  have h352_ := iv_get hv0 (k := 2) (j := 2) (l := 0) (u := 200) rfl
  have h3 : a 3 = a0 3 := funext fun j => hf 3 j rfl
  have h21 := hf 2 1 rfl
  have hv353_ : iv (jxu a 2 2 y2) := iv_put hv (l := 0) (u := 200) rfl (by omega) (by omega)
  refine jt_bV (sp_X8_skipBlanks E d (jd_le hd rfl) (jxu a 2 2 y2) b0 hv353_) (fun a354_ b354_ h354_ => ?_)
  obtain ⟨hv354_, hf354_, rfl, hq354_0, hq354_1⟩ := h354_
  have h355_ := iv_get hv354_ (k := 2) (j := 2) (l := 0) (u := 200) rfl
  have h356_ : (a 2 1 ≤ y2 → a354_ 2 2 = y2) := hq354_0
  have hf357_ : jfr jW_X8_takesWord_r1004 a0 (jxu a 2 2 y2) := jfr_put hf rfl
  have hf358_ : jfr jW_X8_takesWord_r1004 a0 a354_ := jfr_tr hf357_ hf354_ rfl
  exact jt_rI ⟨hv354_, hf358_, rfl, (show (0 ≤ 1 ∧ 1 ≤ 1) from by omega), (show ((¬ a0 2 3 = 0 ∨ a0 2 1 ≤ a0 2 2) → 1 = 0) from by omega), (show (1 = 0 → a354_ 2 2 = a0 2 2) from by omega), (by first | exact (fun h => absurd h (by decide)) | exact (fun _ => ⟨by omega, htw, by have h := hq354_1; rw [show (a0 2 2).toNat + wdn 6 = y2.toNat from (by show _ + 3 = _; omega), ← h3, ← h21]; exact h⟩)), (by first | exact (fun h => absurd h (by decide)) | exact (fun _ => Or.inr hnt) | exact (fun _ => Or.inl (by omega)) | exact (fun _ => Or.inr (TW_short (show _ < _ + 3 by omega))) | exact (fun _ => Or.inr (TW_let (q := y2.toNat) (show y2.toNat = (a0 2 2).toNat + 3 by omega) ⟨by omega, h97, by rw [← h3]; omega⟩)))⟩
theorem cp_X8_takesWord_r1004_83 (E : jxE) (d : Nat) (hd : Nat.ble 5 (d + 1) = true) (a0 b0 : Nat → Nat → Int) (hv0 : iv a0) : ∀ (y2 : Int) (a : Nat → Nat → Int), iv a → jfr jW_X8_takesWord_r1004 a0 a → 3 ≤ y2 → y2 ≤ 199 → 4 ≤ a 2 1 → a 2 2 = a0 2 2 → y2 < a 2 1 → (∀ k : Nat, (k : Int) < (wdn 6 : Int) → (a0 3) ((a0 2 2).toNat + k) = (wdl 6).getD k 0) → (97 ≤ a0 3 y2.toNat) → y2 = (a 2 2) + 3 → y2 ≤ a 2 1 → y2 ≤ 200 → a0 2 3 = 0 → a0 2 2 < a0 2 1 → jt (jxX E d 128 83 [some (.inr (.inr (.inl 2))), none, some (.inl y2), none] [] (jxSH, a, b0)) (jQ_X8_takesWord_r1004 a0 b0) := by
  intro y2 a hv hf hi0 hi1 hi2 hi3 hi4 hall h97 hi7 hi8 hi9 hi10 hi11
  refine jt_eq (bq_X8_takesWord_r1004_83 E d y2 a b0) ?_
  have h359_ := iv_get hv (k := 2) (j := 1) (l := 0) (u := 200) rfl
  have h360_ : a 2 1 = a0 2 1 := hf 2 1 rfl
  have h361_ := iv_get hv0 (k := 2) (j := 1) (l := 0) (u := 200) rfl
  have h362_ := iv_get hv (k := 2) (j := 2) (l := 0) (u := 200) rfl
  have h363_ := iv_get hv0 (k := 2) (j := 2) (l := 0) (u := 200) rfl
  have h3 : a 3 = a0 3 := funext fun j => hf 3 j rfl
  have h21 := hf 2 1 rfl
  refine jt_grd (by omega) ?_
  have h364_ := iv_get hv (k := 3) (j := y2.toNat) (l := 0) (u := 255) rfl
  have h365_ : a 3 (y2.toNat) = a0 3 (y2.toNat) := hf 3 (y2.toNat) rfl
  have h366_ := iv_get hv0 (k := 3) (j := y2.toNat) (l := 0) (u := 255) rfl
  refine jt_ite (fun c367_ => ?_) (fun c367_ => ?_)
  ·
    exact cp_X8_takesWord_r1004_96 E d hd a0 b0 hv0 y2 a hv hf (show 3 ≤ y2 from by omega) (show y2 ≤ 200 from by omega) (show 3 ≤ a 2 1 from by omega) (show a 2 2 = a0 2 2 from by omega) (TW_mk (q := y2.toNat) (show y2.toNat = (a0 2 2).toNat + 3 by omega) (by omega) (by first | exact hall | exact (fun k hk => hch k (by have hw : ((wdn 6 : Nat) : Int) = 3 := rfl; omega))) (LT_no1 (by rw [← h3]; omega))) (show y2 = (a 2 2) + 3 from by omega) (show y2 ≤ a 2 1 from by omega) (show y2 ≤ 200 from by omega) (show a0 2 3 = 0 from by omega) (show a0 2 2 < a0 2 1 from by omega)
  ·
    exact jt_rI ⟨hv, hf, rfl, (show (0 ≤ 0 ∧ 0 ≤ 1) from by omega), (show ((¬ a0 2 3 = 0 ∨ a0 2 1 ≤ a0 2 2) → 0 = 0) from by omega), (show (0 = 0 → a 2 2 = a0 2 2) from by omega), (by first | exact (fun h => absurd h (by decide)) | exact (fun _ => ⟨by omega, htw, by have h := hq0_1; rw [show (a0 2 2).toNat + wdn 6 = y2.toNat from (by show _ + 3 = _; omega), ← h3, ← h21]; exact h⟩)), (by first | exact (fun h => absurd h (by decide)) | exact (fun _ => Or.inr hnt) | exact (fun _ => Or.inl (by omega)) | exact (fun _ => Or.inr (TW_short (show _ < _ + 3 by omega))) | exact (fun _ => Or.inr (TW_let (q := y2.toNat) (show y2.toNat = (a0 2 2).toNat + 3 by omega) ⟨by omega, h97, by rw [← h3]; omega⟩)))⟩
theorem cp_X8_takesWord_r1004_29 (E : jxE) (d : Nat) (hd : Nat.ble 5 (d + 1) = true) (a0 b0 : Nat → Nat → Int) (hv0 : iv a0) : ∀ n : Nat, (∀ (y2 y3 : Int) (a : Nat → Nat → Int), (((3 - y3) * 1) + 0).toNat ≤ n → iv a → jfr jW_X8_takesWord_r1004 a0 a → 3 ≤ y2 → y2 ≤ 200 → 0 ≤ y3 → y3 ≤ 2 → 3 ≤ a 2 1 → y3 < 3 → 0 ≤ y3 → a 2 2 = a0 2 2 → (∀ k : Nat, (k : Int) < y3 + 1 → (a0 3) ((a0 2 2).toNat + k) = (wdl 6).getD k 0) → y2 = (a 2 2) + 3 → y2 ≤ a 2 1 → y2 ≤ 200 → a0 2 3 = 0 → a0 2 2 < a0 2 1 → jt (jxX E d 128 58 [some (.inr (.inr (.inl 2))), some (.inr (.inr (.inl 1004))), some (.inl y2), some (.inl y3)] [] (jxSH, a, b0)) (jQ_X8_takesWord_r1004 a0 b0)) ∧ (∀ (y2 y3 : Int) (a : Nat → Nat → Int), (((3 - y3) * 1) + 0).toNat ≤ n → iv a → jfr jW_X8_takesWord_r1004 a0 a → 3 ≤ y2 → y2 ≤ 200 → 0 ≤ y3 → y3 ≤ 3 → 3 ≤ a 2 1 → 0 ≤ y3 → a 2 2 = a0 2 2 → (∀ k : Nat, (k : Int) < y3 → (a0 3) ((a0 2 2).toNat + k) = (wdl 6).getD k 0) → y2 = (a 2 2) + 3 → y2 ≤ a 2 1 → y2 ≤ 200 → a0 2 3 = 0 → a0 2 2 < a0 2 1 → jt (jxX E d 128 29 [some (.inr (.inr (.inl 2))), some (.inr (.inr (.inl 1004))), some (.inl y2), some (.inl y3)] [] (jxSH, a, b0)) (jQ_X8_takesWord_r1004 a0 b0)) := by
  refine jx_ind fun n ih => ?_
  have ih58 : ∀ (y2 y3 : Int) (a : Nat → Nat → Int), (((3 - y3) * 1) + 0).toNat < n → iv a → jfr jW_X8_takesWord_r1004 a0 a → 3 ≤ y2 → y2 ≤ 200 → 0 ≤ y3 → y3 ≤ 2 → 3 ≤ a 2 1 → y3 < 3 → 0 ≤ y3 → a 2 2 = a0 2 2 → (∀ k : Nat, (k : Int) < y3 + 1 → (a0 3) ((a0 2 2).toNat + k) = (wdl 6).getD k 0) → y2 = (a 2 2) + 3 → y2 ≤ a 2 1 → y2 ≤ 200 → a0 2 3 = 0 → a0 2 2 < a0 2 1 → jt (jxX E d 128 58 [some (.inr (.inr (.inl 2))), some (.inr (.inr (.inl 1004))), some (.inl y2), some (.inl y3)] [] (jxSH, a, b0)) (jQ_X8_takesWord_r1004 a0 b0) := fun y2 y3 a hlt i0 i1 i2 i3 i4 i5 i6 i7 i8 i9 i10 i11 i12 i13 i14 i15 => (ih _ hlt).1 y2 y3 a (Nat.le_refl _) i0 i1 i2 i3 i4 i5 i6 i7 i8 i9 i10 i11 i12 i13 i14 i15
  have ih29 : ∀ (y2 y3 : Int) (a : Nat → Nat → Int), (((3 - y3) * 1) + 0).toNat < n → iv a → jfr jW_X8_takesWord_r1004 a0 a → 3 ≤ y2 → y2 ≤ 200 → 0 ≤ y3 → y3 ≤ 3 → 3 ≤ a 2 1 → 0 ≤ y3 → a 2 2 = a0 2 2 → (∀ k : Nat, (k : Int) < y3 → (a0 3) ((a0 2 2).toNat + k) = (wdl 6).getD k 0) → y2 = (a 2 2) + 3 → y2 ≤ a 2 1 → y2 ≤ 200 → a0 2 3 = 0 → a0 2 2 < a0 2 1 → jt (jxX E d 128 29 [some (.inr (.inr (.inl 2))), some (.inr (.inr (.inl 1004))), some (.inl y2), some (.inl y3)] [] (jxSH, a, b0)) (jQ_X8_takesWord_r1004 a0 b0) := fun y2 y3 a hlt i0 i1 i2 i3 i4 i5 i6 i7 i8 i9 i10 i11 i12 i13 i14 => (ih _ hlt).2 y2 y3 a (Nat.le_refl _) i0 i1 i2 i3 i4 i5 i6 i7 i8 i9 i10 i11 i12 i13 i14
  have hc58 : ∀ (y2 y3 : Int) (a : Nat → Nat → Int), (((3 - y3) * 1) + 0).toNat ≤ n → iv a → jfr jW_X8_takesWord_r1004 a0 a → 3 ≤ y2 → y2 ≤ 200 → 0 ≤ y3 → y3 ≤ 2 → 3 ≤ a 2 1 → y3 < 3 → 0 ≤ y3 → a 2 2 = a0 2 2 → (∀ k : Nat, (k : Int) < y3 + 1 → (a0 3) ((a0 2 2).toNat + k) = (wdl 6).getD k 0) → y2 = (a 2 2) + 3 → y2 ≤ a 2 1 → y2 ≤ 200 → a0 2 3 = 0 → a0 2 2 < a0 2 1 → jt (jxX E d 128 58 [some (.inr (.inr (.inl 2))), some (.inr (.inr (.inl 1004))), some (.inl y2), some (.inl y3)] [] (jxSH, a, b0)) (jQ_X8_takesWord_r1004 a0 b0) := by
    intro y2 y3 a hm hv hf hi0 hi1 hi2 hi3 hi4 hi5 hi6 hi7 hch hi9 hi10 hi11 hi12 hi13
    refine jt_eq (bq_X8_takesWord_r1004_58 E d y2 y3 a b0) ?_
    have h368_ := iv_get hv (k := 2) (j := 1) (l := 0) (u := 200) rfl
    have h369_ : a 2 1 = a0 2 1 := hf 2 1 rfl
    have h370_ := iv_get hv0 (k := 2) (j := 1) (l := 0) (u := 200) rfl
    have h371_ := iv_get hv (k := 2) (j := 2) (l := 0) (u := 200) rfl
    have h372_ := iv_get hv0 (k := 2) (j := 2) (l := 0) (u := 200) rfl
    have h3 : a 3 = a0 3 := funext fun j => hf 3 j rfl
    have h21 := hf 2 1 rfl
    have h373_ : jxw (y3 + 1) = y3 + 1 := jxw_id (by omega) (by omega)
    exact ih29 y2 (jxw (y3 + 1)) a (show (((3 - (jxw (y3 + 1))) * 1) + 0).toNat < n from by omega) hv hf (show 3 ≤ y2 from by omega) (show y2 ≤ 200 from by omega) (show 0 ≤ jxw (y3 + 1) from by omega) (show jxw (y3 + 1) ≤ 3 from by omega) (show 3 ≤ a 2 1 from by omega) (show 0 ≤ jxw (y3 + 1) from by omega) (show a 2 2 = a0 2 2 from by omega) (by first | exact (fun k hk => absurd hk (by omega)) | (rw [show jxw (y3 + 1) = y3 + 1 from by omega]; exact hch)) (show y2 = (a 2 2) + 3 from by omega) (show y2 ≤ a 2 1 from by omega) (show y2 ≤ 200 from by omega) (show a0 2 3 = 0 from by omega) (show a0 2 2 < a0 2 1 from by omega)
  have hc29 : ∀ (y2 y3 : Int) (a : Nat → Nat → Int), (((3 - y3) * 1) + 0).toNat ≤ n → iv a → jfr jW_X8_takesWord_r1004 a0 a → 3 ≤ y2 → y2 ≤ 200 → 0 ≤ y3 → y3 ≤ 3 → 3 ≤ a 2 1 → 0 ≤ y3 → a 2 2 = a0 2 2 → (∀ k : Nat, (k : Int) < y3 → (a0 3) ((a0 2 2).toNat + k) = (wdl 6).getD k 0) → y2 = (a 2 2) + 3 → y2 ≤ a 2 1 → y2 ≤ 200 → a0 2 3 = 0 → a0 2 2 < a0 2 1 → jt (jxX E d 128 29 [some (.inr (.inr (.inl 2))), some (.inr (.inr (.inl 1004))), some (.inl y2), some (.inl y3)] [] (jxSH, a, b0)) (jQ_X8_takesWord_r1004 a0 b0) := by
    intro y2 y3 a hm hv hf hi0 hi1 hi2 hi3 hi4 hi5 hi6 hch hi8 hi9 hi10 hi11 hi12
    refine jt_eq (bq_X8_takesWord_r1004_29 E d y2 y3 a b0) ?_
    have h374_ := iv_get hv (k := 2) (j := 1) (l := 0) (u := 200) rfl
    have h375_ : a 2 1 = a0 2 1 := hf 2 1 rfl
    have h376_ := iv_get hv0 (k := 2) (j := 1) (l := 0) (u := 200) rfl
    have h377_ := iv_get hv (k := 2) (j := 2) (l := 0) (u := 200) rfl
    have h378_ := iv_get hv0 (k := 2) (j := 2) (l := 0) (u := 200) rfl
    have h3 : a 3 = a0 3 := funext fun j => hf 3 j rfl
    have h21 := hf 2 1 rfl
    refine jt_eI (eq_J0_length_8abf5_r1004 E d (jd_le hd rfl) a b0) ?_
    have h379_ := ff_J0_length_8abf5_r1004 a b0
    refine jt_ite (fun c380_ => ?_) (fun c380_ => ?_)
    ·
      have h381_ : jxw ((a 2 2) + y3) = (a 2 2) + y3 := jxw_id (by omega) (by omega)
      refine jt_grd (by omega) ?_
      refine jt_eI (eq_J0_charAt_5068e_r1004 E d (jd_le hd rfl) y3 a b0 (show (0 ≤ y3 ∧ y3 < 3) from by omega)) ?_
      have h382_ := iv_get hv (k := 3) (j := (jxw ((a 2 2) + y3)).toNat) (l := 0) (u := 255) rfl
      have h383_ : a 3 ((jxw ((a 2 2) + y3)).toNat) = a0 3 ((jxw ((a 2 2) + y3)).toNat) := hf 3 ((jxw ((a 2 2) + y3)).toNat) rfl
      have h384_ := iv_get hv0 (k := 3) (j := (jxw ((a 2 2) + y3)).toNat) (l := 0) (u := 255) rfl
      have h385_ := f_J0_charAt_5068e_r1004_eq a b0 y3
      have h386_ := f_J0_isLatin1_aae02_r1004_eq a b0
      have h387_ := f_J1_charAt_3b067_r2004_eq a b0 y3
      have h388_ := jxand_r (([102, 97, 114] : List Int).getD (y3.toNat) 0) 255 (by decide) (by decide)
      have h389_ := jxi2c_b (jxand (([102, 97, 114] : List Int).getD (y3.toNat) 0) 255)
      refine jt_ite (fun c390_ => ?_) (fun c390_ => ?_)
      ·
        exact hc58 y2 y3 a (show (((3 - y3) * 1) + 0).toNat ≤ n from by omega) hv hf (show 3 ≤ y2 from by omega) (show y2 ≤ 200 from by omega) (show 0 ≤ y3 from by omega) (show y3 ≤ 2 from by omega) (show 3 ≤ a 2 1 from by omega) (show y3 < 3 from by omega) (show 0 ≤ y3 from by omega) (show a 2 2 = a0 2 2 from by omega) (ch_ext hch (by omega) (q := (jxw ((a 2 2) + y3)).toNat) (by omega) (v := f_J0_charAt_5068e_r1004 a b0 y3) (by rw [← h3]; assumption) (cw_1004 a b0 y3 (by omega) (by omega))) (show y2 = (a 2 2) + 3 from by omega) (show y2 ≤ a 2 1 from by omega) (show y2 ≤ 200 from by omega) (show a0 2 3 = 0 from by omega) (show a0 2 2 < a0 2 1 from by omega)
      ·
        exact cp_X8_takesWord_r1004_56 E d hd a0 b0 hv0 a hv hf (show 3 ≤ a 2 1 from by omega) (show a 2 2 = a0 2 2 from by omega) (TW_no (y := y3) (by omega) (show y3 < 3 by omega) (q := (jxw ((a 2 2) + y3)).toNat) (by omega) (v := f_J0_charAt_5068e_r1004 a b0 y3) (cw_1004 a b0 y3 (by omega) (by omega)) (by rw [← h3]; assumption)) (show a0 2 3 = 0 from by omega) (show a0 2 2 < a0 2 1 from by omega)
    ·
      refine jt_ite (fun c391_ => ?_) (fun c391_ => ?_)
      ·
        refine jt_grd (by omega) ?_
        have h392_ := iv_get hv (k := 3) (j := y2.toNat) (l := 0) (u := 255) rfl
        have h393_ : a 3 (y2.toNat) = a0 3 (y2.toNat) := hf 3 (y2.toNat) rfl
        have h394_ := iv_get hv0 (k := 3) (j := y2.toNat) (l := 0) (u := 255) rfl
        refine jt_ite (fun c395_ => ?_) (fun c395_ => ?_)
        ·
          exact cp_X8_takesWord_r1004_96 E d hd a0 b0 hv0 y2 a hv hf (show 3 ≤ y2 from by omega) (show y2 ≤ 200 from by omega) (show 3 ≤ a 2 1 from by omega) (show a 2 2 = a0 2 2 from by omega) (TW_mk (q := y2.toNat) (show y2.toNat = (a0 2 2).toNat + 3 by omega) (by omega) (by first | exact hall | exact (fun k hk => hch k (by have hw : ((wdn 6 : Nat) : Int) = 3 := rfl; omega))) (LT_no1 (by rw [← h3]; omega))) (show y2 = (a 2 2) + 3 from by omega) (show y2 ≤ a 2 1 from by omega) (show y2 ≤ 200 from by omega) (show a0 2 3 = 0 from by omega) (show a0 2 2 < a0 2 1 from by omega)
        ·
          exact cp_X8_takesWord_r1004_83 E d hd a0 b0 hv0 y2 a hv hf (show 3 ≤ y2 from by omega) (show y2 ≤ 199 from by omega) (show 4 ≤ a 2 1 from by omega) (show a 2 2 = a0 2 2 from by omega) (show y2 < a 2 1 from by omega) (fun k hk => hch k (by have hw : ((wdn 6 : Nat) : Int) = 3 := rfl; omega)) (by rw [← h3]; omega) (show y2 = (a 2 2) + 3 from by omega) (show y2 ≤ a 2 1 from by omega) (show y2 ≤ 200 from by omega) (show a0 2 3 = 0 from by omega) (show a0 2 2 < a0 2 1 from by omega)
      ·
        exact cp_X8_takesWord_r1004_96 E d hd a0 b0 hv0 y2 a hv hf (show 3 ≤ y2 from by omega) (show y2 ≤ 200 from by omega) (show 3 ≤ a 2 1 from by omega) (show a 2 2 = a0 2 2 from by omega) (TW_mk (q := y2.toNat) (show y2.toNat = (a0 2 2).toNat + 3 by omega) (by omega) (by first | exact hall | exact (fun k hk => hch k (by have hw : ((wdn 6 : Nat) : Int) = 3 := rfl; omega))) (LT_no1 (by rw [← h3]; omega))) (show y2 = (a 2 2) + 3 from by omega) (show y2 ≤ a 2 1 from by omega) (show y2 ≤ 200 from by omega) (show a0 2 3 = 0 from by omega) (show a0 2 2 < a0 2 1 from by omega)
  exact ⟨hc58, hc29⟩
theorem sp_X8_takesWord_r1004 (E : jxE) (d : Nat) (hd : Nat.ble 5 d = true) (a0 b0 : Nat → Nat → Int) (hv0 : iv a0) : jt (jxC E d 128 [.inr (.inr (.inl 2)), .inr (.inr (.inl 1004))] (jxSH, a0, b0)) (jQ_X8_takesWord_r1004 a0 b0) := by
  obtain ⟨d, rfl⟩ := jd_succ hd
  refine jt_eq (bq_X8_takesWord_r1004 E d a0 b0) ?_
  refine jt_eI (eq_J0_length_8abf5_r1004 E d (jd_le hd rfl) a0 b0) ?_
  refine jt_eI (eq_X8_isFaulty E d (jd_le hd rfl) a0 b0) ?_
  have h396_ := f_X8_isFaulty_eq a0 b0
  refine jt_ite (fun c397_ => ?_) (fun c397_ => ?_)
  ·
    have h398_ := iv_get hv0 (k := 2) (j := 1) (l := 0) (u := 200) rfl
    have h399_ := iv_get hv0 (k := 2) (j := 2) (l := 0) (u := 200) rfl
    have h400_ := ff_J0_length_8abf5_r1004 a0 b0
    have h401_ : jxw ((a0 2 2) + (f_J0_length_8abf5_r1004 a0 b0)) = (a0 2 2) + (f_J0_length_8abf5_r1004 a0 b0) := jxw_id (by omega) (by omega)
    refine jt_ite (fun c402_ => ?_) (fun c402_ => ?_)
    ·
      exact jt_rI ⟨hv0, (jfr_rf _ _), rfl, (show (0 ≤ 0 ∧ 0 ≤ 1) from by omega), (show ((¬ a0 2 3 = 0 ∨ a0 2 1 ≤ a0 2 2) → 0 = 0) from by omega), (show (0 = 0 → a0 2 2 = a0 2 2) from by omega), (by first | exact (fun h => absurd h (by decide)) | exact (fun _ => ⟨by omega, htw, by have h := hq0_1; rw [show (a0 2 2).toNat + wdn 6 = y2.toNat from (by show _ + 3 = _; omega), ← h3, ← h21]; exact h⟩)), (by first | exact (fun h => absurd h (by decide)) | exact (fun _ => Or.inr hnt) | exact (fun _ => Or.inl (by omega)) | exact (fun _ => Or.inr (TW_short (show _ < _ + 3 by omega))) | exact (fun _ => Or.inr (TW_let (q := y2.toNat) (show y2.toNat = (a0 2 2).toNat + 3 by omega) ⟨by omega, h97, by rw [← h3]; omega⟩)))⟩
    ·
      exact (cp_X8_takesWord_r1004_29 E d hd a0 b0 hv0 _).2 (jxw ((a0 2 2) + (f_J0_length_8abf5_r1004 a0 b0))) 0 a0 (Nat.le_refl _) hv0 (jfr_rf _ _) (show 3 ≤ jxw ((a0 2 2) + (f_J0_length_8abf5_r1004 a0 b0)) from by omega) (show jxw ((a0 2 2) + (f_J0_length_8abf5_r1004 a0 b0)) ≤ 200 from by omega) (show 0 ≤ 0 from by omega) (show 0 ≤ 3 from by omega) (show 3 ≤ a0 2 1 from by omega) (show 0 ≤ 0 from by omega) (show a0 2 2 = a0 2 2 from by omega) (by first | exact (fun k hk => absurd hk (by omega)) | (rw [show jxw (y3 + 1) = y3 + 1 from by omega]; exact hch)) (show jxw ((a0 2 2) + (f_J0_length_8abf5_r1004 a0 b0)) = (a0 2 2) + 3 from by omega) (show jxw ((a0 2 2) + (f_J0_length_8abf5_r1004 a0 b0)) ≤ a0 2 1 from by omega) (show jxw ((a0 2 2) + (f_J0_length_8abf5_r1004 a0 b0)) ≤ 200 from by omega) (show a0 2 3 = 0 from by omega) (show a0 2 2 < a0 2 1 from by omega)
  ·
    have h403_ := iv_get hv0 (k := 2) (j := 1) (l := 0) (u := 200) rfl
    have h404_ := iv_get hv0 (k := 2) (j := 2) (l := 0) (u := 200) rfl
    exact jt_rI ⟨hv0, (jfr_rf _ _), rfl, (show (0 ≤ 0 ∧ 0 ≤ 1) from by omega), (show ((¬ a0 2 3 = 0 ∨ a0 2 1 ≤ a0 2 2) → 0 = 0) from by omega), (show (0 = 0 → a0 2 2 = a0 2 2) from by omega), (by first | exact (fun h => absurd h (by decide)) | exact (fun _ => ⟨by omega, htw, by have h := hq0_1; rw [show (a0 2 2).toNat + wdn 6 = y2.toNat from (by show _ + 3 = _; omega), ← h3, ← h21]; exact h⟩)), (by first | exact (fun h => absurd h (by decide)) | exact (fun _ => Or.inr hnt) | exact (fun _ => Or.inl (by omega)) | exact (fun _ => Or.inr (TW_short (show _ < _ + 3 by omega))) | exact (fun _ => Or.inr (TW_let (q := y2.toNat) (show y2.toNat = (a0 2 2).toNat + 3 by omega) ⟨by omega, h97, by rw [← h3]; omega⟩)))⟩
def jW_X8_takesWord_r1005 : List (Nat × Nat) := [(2, 2)]
abbrev jQ_X8_takesWord_r1005 (a0 b0 : Nat → Nat → Int) : List jxV → (Nat → Nat → Int) → (Nat → Nat → Int) → Prop := rI (fun r a b => (iv a) ∧ (jfr jW_X8_takesWord_r1005 a0 a) ∧ (b0 = b) ∧ ((0 ≤ r ∧ r ≤ 1)) ∧ (((¬ a0 2 3 = 0 ∨ a0 2 1 ≤ a0 2 2) → r = 0)) ∧ ((r = 0 → a 2 2 = a0 2 2)) ∧ (r = 1 → a0 2 3 = 0 ∧ TW (a0 3) (a0 2 1).toNat (a0 2 2).toNat 7 ∧ a 2 2 = ((SK (a0 3) (a0 2 1).toNat ((a0 2 2).toNat + wdn 7) : Nat) : Int)) ∧ (r = 0 → ¬ a0 2 3 = 0 ∨ ¬ TW (a0 3) (a0 2 1).toNat (a0 2 2).toNat 7))
theorem cp_X8_takesWord_r1005_56 (E : jxE) (d : Nat) (hd : Nat.ble 5 (d + 1) = true) (a0 b0 : Nat → Nat → Int) (hv0 : iv a0) : ∀ (a : Nat → Nat → Int), iv a → jfr jW_X8_takesWord_r1005 a0 a → 4 ≤ a 2 1 → a 2 2 = a0 2 2 → (¬ TW (a0 3) (a0 2 1).toNat (a0 2 2).toNat 7) → a0 2 3 = 0 → a0 2 2 < a0 2 1 → jt (jxX E d 128 56 [none, none, none, none] [] (jxSH, a, b0)) (jQ_X8_takesWord_r1005 a0 b0) := by
  intro a hv hf hi0 hi1 hnt hi3 hi4
  refine jt_eq (bq_X8_takesWord_r1005_56 E d a b0) ?_
  have h405_ := iv_get hv (k := 2) (j := 1) (l := 0) (u := 200) rfl
  have h406_ : a 2 1 = a0 2 1 := hf 2 1 rfl
  have h407_ := iv_get hv0 (k := 2) (j := 1) (l := 0) (u := 200) rfl
  have h408_ := iv_get hv (k := 2) (j := 2) (l := 0) (u := 200) rfl
  have h409_ := iv_get hv0 (k := 2) (j := 2) (l := 0) (u := 200) rfl
  have h3 : a 3 = a0 3 := funext fun j => hf 3 j rfl
  have h21 := hf 2 1 rfl
  exact jt_rI ⟨hv, hf, rfl, (show (0 ≤ 0 ∧ 0 ≤ 1) from by omega), (show ((¬ a0 2 3 = 0 ∨ a0 2 1 ≤ a0 2 2) → 0 = 0) from by omega), (show (0 = 0 → a 2 2 = a0 2 2) from by omega), (by first | exact (fun h => absurd h (by decide)) | exact (fun _ => ⟨by omega, htw, by have h := hq0_1; rw [show (a0 2 2).toNat + wdn 7 = y2.toNat from (by show _ + 4 = _; omega), ← h3, ← h21]; exact h⟩)), (by first | exact (fun h => absurd h (by decide)) | exact (fun _ => Or.inr hnt) | exact (fun _ => Or.inl (by omega)) | exact (fun _ => Or.inr (TW_short (show _ < _ + 4 by omega))) | exact (fun _ => Or.inr (TW_let (q := y2.toNat) (show y2.toNat = (a0 2 2).toNat + 4 by omega) ⟨by omega, h97, by rw [← h3]; omega⟩)))⟩
theorem cp_X8_takesWord_r1005_96 (E : jxE) (d : Nat) (hd : Nat.ble 5 (d + 1) = true) (a0 b0 : Nat → Nat → Int) (hv0 : iv a0) : ∀ (y2 : Int) (a : Nat → Nat → Int), iv a → jfr jW_X8_takesWord_r1005 a0 a → 4 ≤ y2 → y2 ≤ 200 → 4 ≤ a 2 1 → a 2 2 = a0 2 2 → (TW (a0 3) (a0 2 1).toNat (a0 2 2).toNat 7) → y2 = (a 2 2) + 4 → y2 ≤ a 2 1 → y2 ≤ 200 → a0 2 3 = 0 → a0 2 2 < a0 2 1 → jt (jxX E d 128 96 [some (.inr (.inr (.inl 2))), none, some (.inl y2), none] [] (jxSH, a, b0)) (jQ_X8_takesWord_r1005 a0 b0) := by
  intro y2 a hv hf hi0 hi1 hi2 hi3 htw hi5 hi6 hi7 hi8 hi9
  refine jt_eq (bq_X8_takesWord_r1005_96 E d y2 a b0) ?_
  have h410_ := iv_get hv (k := 2) (j := 1) (l := 0) (u := 200) rfl
  have h411_ : a 2 1 = a0 2 1 := hf 2 1 rfl
  have h412_ := iv_get hv0 (k := 2) (j := 1) (l := 0) (u := 200) rfl
  have h413_ := iv_get hv (k := 2) (j := 2) (l := 0) (u := 200) rfl
  have h414_ := iv_get hv0 (k := 2) (j := 2) (l := 0) (u := 200) rfl
  have h3 : a 3 = a0 3 := funext fun j => hf 3 j rfl
  have h21 := hf 2 1 rfl
  have hv415_ : iv (jxu a 2 2 y2) := iv_put hv (l := 0) (u := 200) rfl (by omega) (by omega)
  refine jt_bV (sp_X8_skipBlanks E d (jd_le hd rfl) (jxu a 2 2 y2) b0 hv415_) (fun a416_ b416_ h416_ => ?_)
  obtain ⟨hv416_, hf416_, rfl, hq416_0, hq416_1⟩ := h416_
  have h417_ := iv_get hv416_ (k := 2) (j := 2) (l := 0) (u := 200) rfl
  have h418_ : (a 2 1 ≤ y2 → a416_ 2 2 = y2) := hq416_0
  have hf419_ : jfr jW_X8_takesWord_r1005 a0 (jxu a 2 2 y2) := jfr_put hf rfl
  have hf420_ : jfr jW_X8_takesWord_r1005 a0 a416_ := jfr_tr hf419_ hf416_ rfl
  exact jt_rI ⟨hv416_, hf420_, rfl, (show (0 ≤ 1 ∧ 1 ≤ 1) from by omega), (show ((¬ a0 2 3 = 0 ∨ a0 2 1 ≤ a0 2 2) → 1 = 0) from by omega), (show (1 = 0 → a416_ 2 2 = a0 2 2) from by omega), (by first | exact (fun h => absurd h (by decide)) | exact (fun _ => ⟨by omega, htw, by have h := hq416_1; rw [show (a0 2 2).toNat + wdn 7 = y2.toNat from (by show _ + 4 = _; omega), ← h3, ← h21]; exact h⟩)), (by first | exact (fun h => absurd h (by decide)) | exact (fun _ => Or.inr hnt) | exact (fun _ => Or.inl (by omega)) | exact (fun _ => Or.inr (TW_short (show _ < _ + 4 by omega))) | exact (fun _ => Or.inr (TW_let (q := y2.toNat) (show y2.toNat = (a0 2 2).toNat + 4 by omega) ⟨by omega, h97, by rw [← h3]; omega⟩)))⟩
theorem cp_X8_takesWord_r1005_83 (E : jxE) (d : Nat) (hd : Nat.ble 5 (d + 1) = true) (a0 b0 : Nat → Nat → Int) (hv0 : iv a0) : ∀ (y2 : Int) (a : Nat → Nat → Int), iv a → jfr jW_X8_takesWord_r1005 a0 a → 4 ≤ y2 → y2 ≤ 199 → 5 ≤ a 2 1 → a 2 2 = a0 2 2 → y2 < a 2 1 → (∀ k : Nat, (k : Int) < (wdn 7 : Int) → (a0 3) ((a0 2 2).toNat + k) = (wdl 7).getD k 0) → (97 ≤ a0 3 y2.toNat) → y2 = (a 2 2) + 4 → y2 ≤ a 2 1 → y2 ≤ 200 → a0 2 3 = 0 → a0 2 2 < a0 2 1 → jt (jxX E d 128 83 [some (.inr (.inr (.inl 2))), none, some (.inl y2), none] [] (jxSH, a, b0)) (jQ_X8_takesWord_r1005 a0 b0) := by
  intro y2 a hv hf hi0 hi1 hi2 hi3 hi4 hall h97 hi7 hi8 hi9 hi10 hi11
  refine jt_eq (bq_X8_takesWord_r1005_83 E d y2 a b0) ?_
  have h421_ := iv_get hv (k := 2) (j := 1) (l := 0) (u := 200) rfl
  have h422_ : a 2 1 = a0 2 1 := hf 2 1 rfl
  have h423_ := iv_get hv0 (k := 2) (j := 1) (l := 0) (u := 200) rfl
  have h424_ := iv_get hv (k := 2) (j := 2) (l := 0) (u := 200) rfl
  have h425_ := iv_get hv0 (k := 2) (j := 2) (l := 0) (u := 200) rfl
  have h3 : a 3 = a0 3 := funext fun j => hf 3 j rfl
  have h21 := hf 2 1 rfl
  refine jt_grd (by omega) ?_
  have h426_ := iv_get hv (k := 3) (j := y2.toNat) (l := 0) (u := 255) rfl
  have h427_ : a 3 (y2.toNat) = a0 3 (y2.toNat) := hf 3 (y2.toNat) rfl
  have h428_ := iv_get hv0 (k := 3) (j := y2.toNat) (l := 0) (u := 255) rfl
  refine jt_ite (fun c429_ => ?_) (fun c429_ => ?_)
  ·
    exact cp_X8_takesWord_r1005_96 E d hd a0 b0 hv0 y2 a hv hf (show 4 ≤ y2 from by omega) (show y2 ≤ 200 from by omega) (show 4 ≤ a 2 1 from by omega) (show a 2 2 = a0 2 2 from by omega) (TW_mk (q := y2.toNat) (show y2.toNat = (a0 2 2).toNat + 4 by omega) (by omega) (by first | exact hall | exact (fun k hk => hch k (by have hw : ((wdn 7 : Nat) : Int) = 4 := rfl; omega))) (LT_no1 (by rw [← h3]; omega))) (show y2 = (a 2 2) + 4 from by omega) (show y2 ≤ a 2 1 from by omega) (show y2 ≤ 200 from by omega) (show a0 2 3 = 0 from by omega) (show a0 2 2 < a0 2 1 from by omega)
  ·
    exact jt_rI ⟨hv, hf, rfl, (show (0 ≤ 0 ∧ 0 ≤ 1) from by omega), (show ((¬ a0 2 3 = 0 ∨ a0 2 1 ≤ a0 2 2) → 0 = 0) from by omega), (show (0 = 0 → a 2 2 = a0 2 2) from by omega), (by first | exact (fun h => absurd h (by decide)) | exact (fun _ => ⟨by omega, htw, by have h := hq0_1; rw [show (a0 2 2).toNat + wdn 7 = y2.toNat from (by show _ + 4 = _; omega), ← h3, ← h21]; exact h⟩)), (by first | exact (fun h => absurd h (by decide)) | exact (fun _ => Or.inr hnt) | exact (fun _ => Or.inl (by omega)) | exact (fun _ => Or.inr (TW_short (show _ < _ + 4 by omega))) | exact (fun _ => Or.inr (TW_let (q := y2.toNat) (show y2.toNat = (a0 2 2).toNat + 4 by omega) ⟨by omega, h97, by rw [← h3]; omega⟩)))⟩
theorem cp_X8_takesWord_r1005_29 (E : jxE) (d : Nat) (hd : Nat.ble 5 (d + 1) = true) (a0 b0 : Nat → Nat → Int) (hv0 : iv a0) : ∀ n : Nat, (∀ (y2 y3 : Int) (a : Nat → Nat → Int), (((4 - y3) * 1) + 0).toNat ≤ n → iv a → jfr jW_X8_takesWord_r1005 a0 a → 4 ≤ y2 → y2 ≤ 200 → 0 ≤ y3 → y3 ≤ 3 → 4 ≤ a 2 1 → y3 < 4 → 0 ≤ y3 → a 2 2 = a0 2 2 → (∀ k : Nat, (k : Int) < y3 + 1 → (a0 3) ((a0 2 2).toNat + k) = (wdl 7).getD k 0) → y2 = (a 2 2) + 4 → y2 ≤ a 2 1 → y2 ≤ 200 → a0 2 3 = 0 → a0 2 2 < a0 2 1 → jt (jxX E d 128 58 [some (.inr (.inr (.inl 2))), some (.inr (.inr (.inl 1005))), some (.inl y2), some (.inl y3)] [] (jxSH, a, b0)) (jQ_X8_takesWord_r1005 a0 b0)) ∧ (∀ (y2 y3 : Int) (a : Nat → Nat → Int), (((4 - y3) * 1) + 0).toNat ≤ n → iv a → jfr jW_X8_takesWord_r1005 a0 a → 4 ≤ y2 → y2 ≤ 200 → 0 ≤ y3 → y3 ≤ 4 → 4 ≤ a 2 1 → 0 ≤ y3 → a 2 2 = a0 2 2 → (∀ k : Nat, (k : Int) < y3 → (a0 3) ((a0 2 2).toNat + k) = (wdl 7).getD k 0) → y2 = (a 2 2) + 4 → y2 ≤ a 2 1 → y2 ≤ 200 → a0 2 3 = 0 → a0 2 2 < a0 2 1 → jt (jxX E d 128 29 [some (.inr (.inr (.inl 2))), some (.inr (.inr (.inl 1005))), some (.inl y2), some (.inl y3)] [] (jxSH, a, b0)) (jQ_X8_takesWord_r1005 a0 b0)) := by
  refine jx_ind fun n ih => ?_
  have ih58 : ∀ (y2 y3 : Int) (a : Nat → Nat → Int), (((4 - y3) * 1) + 0).toNat < n → iv a → jfr jW_X8_takesWord_r1005 a0 a → 4 ≤ y2 → y2 ≤ 200 → 0 ≤ y3 → y3 ≤ 3 → 4 ≤ a 2 1 → y3 < 4 → 0 ≤ y3 → a 2 2 = a0 2 2 → (∀ k : Nat, (k : Int) < y3 + 1 → (a0 3) ((a0 2 2).toNat + k) = (wdl 7).getD k 0) → y2 = (a 2 2) + 4 → y2 ≤ a 2 1 → y2 ≤ 200 → a0 2 3 = 0 → a0 2 2 < a0 2 1 → jt (jxX E d 128 58 [some (.inr (.inr (.inl 2))), some (.inr (.inr (.inl 1005))), some (.inl y2), some (.inl y3)] [] (jxSH, a, b0)) (jQ_X8_takesWord_r1005 a0 b0) := fun y2 y3 a hlt i0 i1 i2 i3 i4 i5 i6 i7 i8 i9 i10 i11 i12 i13 i14 i15 => (ih _ hlt).1 y2 y3 a (Nat.le_refl _) i0 i1 i2 i3 i4 i5 i6 i7 i8 i9 i10 i11 i12 i13 i14 i15
  have ih29 : ∀ (y2 y3 : Int) (a : Nat → Nat → Int), (((4 - y3) * 1) + 0).toNat < n → iv a → jfr jW_X8_takesWord_r1005 a0 a → 4 ≤ y2 → y2 ≤ 200 → 0 ≤ y3 → y3 ≤ 4 → 4 ≤ a 2 1 → 0 ≤ y3 → a 2 2 = a0 2 2 → (∀ k : Nat, (k : Int) < y3 → (a0 3) ((a0 2 2).toNat + k) = (wdl 7).getD k 0) → y2 = (a 2 2) + 4 → y2 ≤ a 2 1 → y2 ≤ 200 → a0 2 3 = 0 → a0 2 2 < a0 2 1 → jt (jxX E d 128 29 [some (.inr (.inr (.inl 2))), some (.inr (.inr (.inl 1005))), some (.inl y2), some (.inl y3)] [] (jxSH, a, b0)) (jQ_X8_takesWord_r1005 a0 b0) := fun y2 y3 a hlt i0 i1 i2 i3 i4 i5 i6 i7 i8 i9 i10 i11 i12 i13 i14 => (ih _ hlt).2 y2 y3 a (Nat.le_refl _) i0 i1 i2 i3 i4 i5 i6 i7 i8 i9 i10 i11 i12 i13 i14
  have hc58 : ∀ (y2 y3 : Int) (a : Nat → Nat → Int), (((4 - y3) * 1) + 0).toNat ≤ n → iv a → jfr jW_X8_takesWord_r1005 a0 a → 4 ≤ y2 → y2 ≤ 200 → 0 ≤ y3 → y3 ≤ 3 → 4 ≤ a 2 1 → y3 < 4 → 0 ≤ y3 → a 2 2 = a0 2 2 → (∀ k : Nat, (k : Int) < y3 + 1 → (a0 3) ((a0 2 2).toNat + k) = (wdl 7).getD k 0) → y2 = (a 2 2) + 4 → y2 ≤ a 2 1 → y2 ≤ 200 → a0 2 3 = 0 → a0 2 2 < a0 2 1 → jt (jxX E d 128 58 [some (.inr (.inr (.inl 2))), some (.inr (.inr (.inl 1005))), some (.inl y2), some (.inl y3)] [] (jxSH, a, b0)) (jQ_X8_takesWord_r1005 a0 b0) := by
    intro y2 y3 a hm hv hf hi0 hi1 hi2 hi3 hi4 hi5 hi6 hi7 hch hi9 hi10 hi11 hi12 hi13
    refine jt_eq (bq_X8_takesWord_r1005_58 E d y2 y3 a b0) ?_
    have h430_ := iv_get hv (k := 2) (j := 1) (l := 0) (u := 200) rfl
    have h431_ : a 2 1 = a0 2 1 := hf 2 1 rfl
    have h432_ := iv_get hv0 (k := 2) (j := 1) (l := 0) (u := 200) rfl
    have h433_ := iv_get hv (k := 2) (j := 2) (l := 0) (u := 200) rfl
    have h434_ := iv_get hv0 (k := 2) (j := 2) (l := 0) (u := 200) rfl
    have h3 : a 3 = a0 3 := funext fun j => hf 3 j rfl
    have h21 := hf 2 1 rfl
    have h435_ : jxw (y3 + 1) = y3 + 1 := jxw_id (by omega) (by omega)
    exact ih29 y2 (jxw (y3 + 1)) a (show (((4 - (jxw (y3 + 1))) * 1) + 0).toNat < n from by omega) hv hf (show 4 ≤ y2 from by omega) (show y2 ≤ 200 from by omega) (show 0 ≤ jxw (y3 + 1) from by omega) (show jxw (y3 + 1) ≤ 4 from by omega) (show 4 ≤ a 2 1 from by omega) (show 0 ≤ jxw (y3 + 1) from by omega) (show a 2 2 = a0 2 2 from by omega) (by first | exact (fun k hk => absurd hk (by omega)) | (rw [show jxw (y3 + 1) = y3 + 1 from by omega]; exact hch)) (show y2 = (a 2 2) + 4 from by omega) (show y2 ≤ a 2 1 from by omega) (show y2 ≤ 200 from by omega) (show a0 2 3 = 0 from by omega) (show a0 2 2 < a0 2 1 from by omega)
  have hc29 : ∀ (y2 y3 : Int) (a : Nat → Nat → Int), (((4 - y3) * 1) + 0).toNat ≤ n → iv a → jfr jW_X8_takesWord_r1005 a0 a → 4 ≤ y2 → y2 ≤ 200 → 0 ≤ y3 → y3 ≤ 4 → 4 ≤ a 2 1 → 0 ≤ y3 → a 2 2 = a0 2 2 → (∀ k : Nat, (k : Int) < y3 → (a0 3) ((a0 2 2).toNat + k) = (wdl 7).getD k 0) → y2 = (a 2 2) + 4 → y2 ≤ a 2 1 → y2 ≤ 200 → a0 2 3 = 0 → a0 2 2 < a0 2 1 → jt (jxX E d 128 29 [some (.inr (.inr (.inl 2))), some (.inr (.inr (.inl 1005))), some (.inl y2), some (.inl y3)] [] (jxSH, a, b0)) (jQ_X8_takesWord_r1005 a0 b0) := by
    intro y2 y3 a hm hv hf hi0 hi1 hi2 hi3 hi4 hi5 hi6 hch hi8 hi9 hi10 hi11 hi12
    refine jt_eq (bq_X8_takesWord_r1005_29 E d y2 y3 a b0) ?_
    have h436_ := iv_get hv (k := 2) (j := 1) (l := 0) (u := 200) rfl
    have h437_ : a 2 1 = a0 2 1 := hf 2 1 rfl
    have h438_ := iv_get hv0 (k := 2) (j := 1) (l := 0) (u := 200) rfl
    have h439_ := iv_get hv (k := 2) (j := 2) (l := 0) (u := 200) rfl
    have h440_ := iv_get hv0 (k := 2) (j := 2) (l := 0) (u := 200) rfl
    have h3 : a 3 = a0 3 := funext fun j => hf 3 j rfl
    have h21 := hf 2 1 rfl
    refine jt_eI (eq_J0_length_8abf5_r1005 E d (jd_le hd rfl) a b0) ?_
    have h441_ := ff_J0_length_8abf5_r1005 a b0
    refine jt_ite (fun c442_ => ?_) (fun c442_ => ?_)
    ·
      have h443_ : jxw ((a 2 2) + y3) = (a 2 2) + y3 := jxw_id (by omega) (by omega)
      refine jt_grd (by omega) ?_
      refine jt_eI (eq_J0_charAt_5068e_r1005 E d (jd_le hd rfl) y3 a b0 (show (0 ≤ y3 ∧ y3 < 4) from by omega)) ?_
      have h444_ := iv_get hv (k := 3) (j := (jxw ((a 2 2) + y3)).toNat) (l := 0) (u := 255) rfl
      have h445_ : a 3 ((jxw ((a 2 2) + y3)).toNat) = a0 3 ((jxw ((a 2 2) + y3)).toNat) := hf 3 ((jxw ((a 2 2) + y3)).toNat) rfl
      have h446_ := iv_get hv0 (k := 3) (j := (jxw ((a 2 2) + y3)).toNat) (l := 0) (u := 255) rfl
      have h447_ := f_J0_charAt_5068e_r1005_eq a b0 y3
      have h448_ := f_J0_isLatin1_aae02_r1005_eq a b0
      have h449_ := f_J1_charAt_3b067_r2005_eq a b0 y3
      have h450_ := jxand_r (([110, 101, 97, 114] : List Int).getD (y3.toNat) 0) 255 (by decide) (by decide)
      have h451_ := jxi2c_b (jxand (([110, 101, 97, 114] : List Int).getD (y3.toNat) 0) 255)
      refine jt_ite (fun c452_ => ?_) (fun c452_ => ?_)
      ·
        exact hc58 y2 y3 a (show (((4 - y3) * 1) + 0).toNat ≤ n from by omega) hv hf (show 4 ≤ y2 from by omega) (show y2 ≤ 200 from by omega) (show 0 ≤ y3 from by omega) (show y3 ≤ 3 from by omega) (show 4 ≤ a 2 1 from by omega) (show y3 < 4 from by omega) (show 0 ≤ y3 from by omega) (show a 2 2 = a0 2 2 from by omega) (ch_ext hch (by omega) (q := (jxw ((a 2 2) + y3)).toNat) (by omega) (v := f_J0_charAt_5068e_r1005 a b0 y3) (by rw [← h3]; assumption) (cw_1005 a b0 y3 (by omega) (by omega))) (show y2 = (a 2 2) + 4 from by omega) (show y2 ≤ a 2 1 from by omega) (show y2 ≤ 200 from by omega) (show a0 2 3 = 0 from by omega) (show a0 2 2 < a0 2 1 from by omega)
      ·
        exact cp_X8_takesWord_r1005_56 E d hd a0 b0 hv0 a hv hf (show 4 ≤ a 2 1 from by omega) (show a 2 2 = a0 2 2 from by omega) (TW_no (y := y3) (by omega) (show y3 < 4 by omega) (q := (jxw ((a 2 2) + y3)).toNat) (by omega) (v := f_J0_charAt_5068e_r1005 a b0 y3) (cw_1005 a b0 y3 (by omega) (by omega)) (by rw [← h3]; assumption)) (show a0 2 3 = 0 from by omega) (show a0 2 2 < a0 2 1 from by omega)
    ·
      refine jt_ite (fun c453_ => ?_) (fun c453_ => ?_)
      ·
        refine jt_grd (by omega) ?_
        have h454_ := iv_get hv (k := 3) (j := y2.toNat) (l := 0) (u := 255) rfl
        have h455_ : a 3 (y2.toNat) = a0 3 (y2.toNat) := hf 3 (y2.toNat) rfl
        have h456_ := iv_get hv0 (k := 3) (j := y2.toNat) (l := 0) (u := 255) rfl
        refine jt_ite (fun c457_ => ?_) (fun c457_ => ?_)
        ·
          exact cp_X8_takesWord_r1005_96 E d hd a0 b0 hv0 y2 a hv hf (show 4 ≤ y2 from by omega) (show y2 ≤ 200 from by omega) (show 4 ≤ a 2 1 from by omega) (show a 2 2 = a0 2 2 from by omega) (TW_mk (q := y2.toNat) (show y2.toNat = (a0 2 2).toNat + 4 by omega) (by omega) (by first | exact hall | exact (fun k hk => hch k (by have hw : ((wdn 7 : Nat) : Int) = 4 := rfl; omega))) (LT_no1 (by rw [← h3]; omega))) (show y2 = (a 2 2) + 4 from by omega) (show y2 ≤ a 2 1 from by omega) (show y2 ≤ 200 from by omega) (show a0 2 3 = 0 from by omega) (show a0 2 2 < a0 2 1 from by omega)
        ·
          exact cp_X8_takesWord_r1005_83 E d hd a0 b0 hv0 y2 a hv hf (show 4 ≤ y2 from by omega) (show y2 ≤ 199 from by omega) (show 5 ≤ a 2 1 from by omega) (show a 2 2 = a0 2 2 from by omega) (show y2 < a 2 1 from by omega) (fun k hk => hch k (by have hw : ((wdn 7 : Nat) : Int) = 4 := rfl; omega)) (by rw [← h3]; omega) (show y2 = (a 2 2) + 4 from by omega) (show y2 ≤ a 2 1 from by omega) (show y2 ≤ 200 from by omega) (show a0 2 3 = 0 from by omega) (show a0 2 2 < a0 2 1 from by omega)
      ·
        exact cp_X8_takesWord_r1005_96 E d hd a0 b0 hv0 y2 a hv hf (show 4 ≤ y2 from by omega) (show y2 ≤ 200 from by omega) (show 4 ≤ a 2 1 from by omega) (show a 2 2 = a0 2 2 from by omega) (TW_mk (q := y2.toNat) (show y2.toNat = (a0 2 2).toNat + 4 by omega) (by omega) (by first | exact hall | exact (fun k hk => hch k (by have hw : ((wdn 7 : Nat) : Int) = 4 := rfl; omega))) (LT_no1 (by rw [← h3]; omega))) (show y2 = (a 2 2) + 4 from by omega) (show y2 ≤ a 2 1 from by omega) (show y2 ≤ 200 from by omega) (show a0 2 3 = 0 from by omega) (show a0 2 2 < a0 2 1 from by omega)
  exact ⟨hc58, hc29⟩
theorem sp_X8_takesWord_r1005 (E : jxE) (d : Nat) (hd : Nat.ble 5 d = true) (a0 b0 : Nat → Nat → Int) (hv0 : iv a0) : jt (jxC E d 128 [.inr (.inr (.inl 2)), .inr (.inr (.inl 1005))] (jxSH, a0, b0)) (jQ_X8_takesWord_r1005 a0 b0) := by
  obtain ⟨d, rfl⟩ := jd_succ hd
  refine jt_eq (bq_X8_takesWord_r1005 E d a0 b0) ?_
  refine jt_eI (eq_J0_length_8abf5_r1005 E d (jd_le hd rfl) a0 b0) ?_
  refine jt_eI (eq_X8_isFaulty E d (jd_le hd rfl) a0 b0) ?_
  have h458_ := f_X8_isFaulty_eq a0 b0
  refine jt_ite (fun c459_ => ?_) (fun c459_ => ?_)
  ·
    have h460_ := iv_get hv0 (k := 2) (j := 1) (l := 0) (u := 200) rfl
    have h461_ := iv_get hv0 (k := 2) (j := 2) (l := 0) (u := 200) rfl
    have h462_ := ff_J0_length_8abf5_r1005 a0 b0
    have h463_ : jxw ((a0 2 2) + (f_J0_length_8abf5_r1005 a0 b0)) = (a0 2 2) + (f_J0_length_8abf5_r1005 a0 b0) := jxw_id (by omega) (by omega)
    refine jt_ite (fun c464_ => ?_) (fun c464_ => ?_)
    ·
      exact jt_rI ⟨hv0, (jfr_rf _ _), rfl, (show (0 ≤ 0 ∧ 0 ≤ 1) from by omega), (show ((¬ a0 2 3 = 0 ∨ a0 2 1 ≤ a0 2 2) → 0 = 0) from by omega), (show (0 = 0 → a0 2 2 = a0 2 2) from by omega), (by first | exact (fun h => absurd h (by decide)) | exact (fun _ => ⟨by omega, htw, by have h := hq0_1; rw [show (a0 2 2).toNat + wdn 7 = y2.toNat from (by show _ + 4 = _; omega), ← h3, ← h21]; exact h⟩)), (by first | exact (fun h => absurd h (by decide)) | exact (fun _ => Or.inr hnt) | exact (fun _ => Or.inl (by omega)) | exact (fun _ => Or.inr (TW_short (show _ < _ + 4 by omega))) | exact (fun _ => Or.inr (TW_let (q := y2.toNat) (show y2.toNat = (a0 2 2).toNat + 4 by omega) ⟨by omega, h97, by rw [← h3]; omega⟩)))⟩
    ·
      exact (cp_X8_takesWord_r1005_29 E d hd a0 b0 hv0 _).2 (jxw ((a0 2 2) + (f_J0_length_8abf5_r1005 a0 b0))) 0 a0 (Nat.le_refl _) hv0 (jfr_rf _ _) (show 4 ≤ jxw ((a0 2 2) + (f_J0_length_8abf5_r1005 a0 b0)) from by omega) (show jxw ((a0 2 2) + (f_J0_length_8abf5_r1005 a0 b0)) ≤ 200 from by omega) (show 0 ≤ 0 from by omega) (show 0 ≤ 4 from by omega) (show 4 ≤ a0 2 1 from by omega) (show 0 ≤ 0 from by omega) (show a0 2 2 = a0 2 2 from by omega) (by first | exact (fun k hk => absurd hk (by omega)) | (rw [show jxw (y3 + 1) = y3 + 1 from by omega]; exact hch)) (show jxw ((a0 2 2) + (f_J0_length_8abf5_r1005 a0 b0)) = (a0 2 2) + 4 from by omega) (show jxw ((a0 2 2) + (f_J0_length_8abf5_r1005 a0 b0)) ≤ a0 2 1 from by omega) (show jxw ((a0 2 2) + (f_J0_length_8abf5_r1005 a0 b0)) ≤ 200 from by omega) (show a0 2 3 = 0 from by omega) (show a0 2 2 < a0 2 1 from by omega)
  ·
    have h465_ := iv_get hv0 (k := 2) (j := 1) (l := 0) (u := 200) rfl
    have h466_ := iv_get hv0 (k := 2) (j := 2) (l := 0) (u := 200) rfl
    exact jt_rI ⟨hv0, (jfr_rf _ _), rfl, (show (0 ≤ 0 ∧ 0 ≤ 1) from by omega), (show ((¬ a0 2 3 = 0 ∨ a0 2 1 ≤ a0 2 2) → 0 = 0) from by omega), (show (0 = 0 → a0 2 2 = a0 2 2) from by omega), (by first | exact (fun h => absurd h (by decide)) | exact (fun _ => ⟨by omega, htw, by have h := hq0_1; rw [show (a0 2 2).toNat + wdn 7 = y2.toNat from (by show _ + 4 = _; omega), ← h3, ← h21]; exact h⟩)), (by first | exact (fun h => absurd h (by decide)) | exact (fun _ => Or.inr hnt) | exact (fun _ => Or.inl (by omega)) | exact (fun _ => Or.inr (TW_short (show _ < _ + 4 by omega))) | exact (fun _ => Or.inr (TW_let (q := y2.toNat) (show y2.toNat = (a0 2 2).toNat + 4 by omega) ⟨by omega, h97, by rw [← h3]; omega⟩)))⟩
def jW_X8_takesWord_r1006 : List (Nat × Nat) := [(2, 2)]
abbrev jQ_X8_takesWord_r1006 (a0 b0 : Nat → Nat → Int) : List jxV → (Nat → Nat → Int) → (Nat → Nat → Int) → Prop := rI (fun r a b => (iv a) ∧ (jfr jW_X8_takesWord_r1006 a0 a) ∧ (b0 = b) ∧ ((0 ≤ r ∧ r ≤ 1)) ∧ (((¬ a0 2 3 = 0 ∨ a0 2 1 ≤ a0 2 2) → r = 0)) ∧ ((r = 0 → a 2 2 = a0 2 2)) ∧ (r = 1 → a0 2 3 = 0 ∧ TW (a0 3) (a0 2 1).toNat (a0 2 2).toNat 8 ∧ a 2 2 = ((SK (a0 3) (a0 2 1).toNat ((a0 2 2).toNat + wdn 8) : Nat) : Int)) ∧ (r = 0 → ¬ a0 2 3 = 0 ∨ ¬ TW (a0 3) (a0 2 1).toNat (a0 2 2).toNat 8))
theorem cp_X8_takesWord_r1006_56 (E : jxE) (d : Nat) (hd : Nat.ble 5 (d + 1) = true) (a0 b0 : Nat → Nat → Int) (hv0 : iv a0) : ∀ (a : Nat → Nat → Int), iv a → jfr jW_X8_takesWord_r1006 a0 a → 3 ≤ a 2 1 → a 2 2 = a0 2 2 → (¬ TW (a0 3) (a0 2 1).toNat (a0 2 2).toNat 8) → a0 2 3 = 0 → a0 2 2 < a0 2 1 → jt (jxX E d 128 56 [none, none, none, none] [] (jxSH, a, b0)) (jQ_X8_takesWord_r1006 a0 b0) := by
  intro a hv hf hi0 hi1 hnt hi3 hi4
  refine jt_eq (bq_X8_takesWord_r1006_56 E d a b0) ?_
  have h467_ := iv_get hv (k := 2) (j := 1) (l := 0) (u := 200) rfl
  have h468_ : a 2 1 = a0 2 1 := hf 2 1 rfl
  have h469_ := iv_get hv0 (k := 2) (j := 1) (l := 0) (u := 200) rfl
  have h470_ := iv_get hv (k := 2) (j := 2) (l := 0) (u := 200) rfl
  have h471_ := iv_get hv0 (k := 2) (j := 2) (l := 0) (u := 200) rfl
  have h3 : a 3 = a0 3 := funext fun j => hf 3 j rfl
  have h21 := hf 2 1 rfl
  exact jt_rI ⟨hv, hf, rfl, (show (0 ≤ 0 ∧ 0 ≤ 1) from by omega), (show ((¬ a0 2 3 = 0 ∨ a0 2 1 ≤ a0 2 2) → 0 = 0) from by omega), (show (0 = 0 → a 2 2 = a0 2 2) from by omega), (by first | exact (fun h => absurd h (by decide)) | exact (fun _ => ⟨by omega, htw, by have h := hq0_1; rw [show (a0 2 2).toNat + wdn 8 = y2.toNat from (by show _ + 3 = _; omega), ← h3, ← h21]; exact h⟩)), (by first | exact (fun h => absurd h (by decide)) | exact (fun _ => Or.inr hnt) | exact (fun _ => Or.inl (by omega)) | exact (fun _ => Or.inr (TW_short (show _ < _ + 3 by omega))) | exact (fun _ => Or.inr (TW_let (q := y2.toNat) (show y2.toNat = (a0 2 2).toNat + 3 by omega) ⟨by omega, h97, by rw [← h3]; omega⟩)))⟩
theorem cp_X8_takesWord_r1006_96 (E : jxE) (d : Nat) (hd : Nat.ble 5 (d + 1) = true) (a0 b0 : Nat → Nat → Int) (hv0 : iv a0) : ∀ (y2 : Int) (a : Nat → Nat → Int), iv a → jfr jW_X8_takesWord_r1006 a0 a → 3 ≤ y2 → y2 ≤ 200 → 3 ≤ a 2 1 → a 2 2 = a0 2 2 → (TW (a0 3) (a0 2 1).toNat (a0 2 2).toNat 8) → y2 = (a 2 2) + 3 → y2 ≤ a 2 1 → y2 ≤ 200 → a0 2 3 = 0 → a0 2 2 < a0 2 1 → jt (jxX E d 128 96 [some (.inr (.inr (.inl 2))), none, some (.inl y2), none] [] (jxSH, a, b0)) (jQ_X8_takesWord_r1006 a0 b0) := by
  intro y2 a hv hf hi0 hi1 hi2 hi3 htw hi5 hi6 hi7 hi8 hi9
  refine jt_eq (bq_X8_takesWord_r1006_96 E d y2 a b0) ?_
  have h472_ := iv_get hv (k := 2) (j := 1) (l := 0) (u := 200) rfl
  have h473_ : a 2 1 = a0 2 1 := hf 2 1 rfl
  have h474_ := iv_get hv0 (k := 2) (j := 1) (l := 0) (u := 200) rfl
  have h475_ := iv_get hv (k := 2) (j := 2) (l := 0) (u := 200) rfl
  have h476_ := iv_get hv0 (k := 2) (j := 2) (l := 0) (u := 200) rfl
  have h3 : a 3 = a0 3 := funext fun j => hf 3 j rfl
  have h21 := hf 2 1 rfl
  have hv477_ : iv (jxu a 2 2 y2) := iv_put hv (l := 0) (u := 200) rfl (by omega) (by omega)
  refine jt_bV (sp_X8_skipBlanks E d (jd_le hd rfl) (jxu a 2 2 y2) b0 hv477_) (fun a478_ b478_ h478_ => ?_)
  obtain ⟨hv478_, hf478_, rfl, hq478_0, hq478_1⟩ := h478_
  have h479_ := iv_get hv478_ (k := 2) (j := 2) (l := 0) (u := 200) rfl
  have h480_ : (a 2 1 ≤ y2 → a478_ 2 2 = y2) := hq478_0
  have hf481_ : jfr jW_X8_takesWord_r1006 a0 (jxu a 2 2 y2) := jfr_put hf rfl
  have hf482_ : jfr jW_X8_takesWord_r1006 a0 a478_ := jfr_tr hf481_ hf478_ rfl
  exact jt_rI ⟨hv478_, hf482_, rfl, (show (0 ≤ 1 ∧ 1 ≤ 1) from by omega), (show ((¬ a0 2 3 = 0 ∨ a0 2 1 ≤ a0 2 2) → 1 = 0) from by omega), (show (1 = 0 → a478_ 2 2 = a0 2 2) from by omega), (by first | exact (fun h => absurd h (by decide)) | exact (fun _ => ⟨by omega, htw, by have h := hq478_1; rw [show (a0 2 2).toNat + wdn 8 = y2.toNat from (by show _ + 3 = _; omega), ← h3, ← h21]; exact h⟩)), (by first | exact (fun h => absurd h (by decide)) | exact (fun _ => Or.inr hnt) | exact (fun _ => Or.inl (by omega)) | exact (fun _ => Or.inr (TW_short (show _ < _ + 3 by omega))) | exact (fun _ => Or.inr (TW_let (q := y2.toNat) (show y2.toNat = (a0 2 2).toNat + 3 by omega) ⟨by omega, h97, by rw [← h3]; omega⟩)))⟩
theorem cp_X8_takesWord_r1006_83 (E : jxE) (d : Nat) (hd : Nat.ble 5 (d + 1) = true) (a0 b0 : Nat → Nat → Int) (hv0 : iv a0) : ∀ (y2 : Int) (a : Nat → Nat → Int), iv a → jfr jW_X8_takesWord_r1006 a0 a → 3 ≤ y2 → y2 ≤ 199 → 4 ≤ a 2 1 → a 2 2 = a0 2 2 → y2 < a 2 1 → (∀ k : Nat, (k : Int) < (wdn 8 : Int) → (a0 3) ((a0 2 2).toNat + k) = (wdl 8).getD k 0) → (97 ≤ a0 3 y2.toNat) → y2 = (a 2 2) + 3 → y2 ≤ a 2 1 → y2 ≤ 200 → a0 2 3 = 0 → a0 2 2 < a0 2 1 → jt (jxX E d 128 83 [some (.inr (.inr (.inl 2))), none, some (.inl y2), none] [] (jxSH, a, b0)) (jQ_X8_takesWord_r1006 a0 b0) := by
  intro y2 a hv hf hi0 hi1 hi2 hi3 hi4 hall h97 hi7 hi8 hi9 hi10 hi11
  refine jt_eq (bq_X8_takesWord_r1006_83 E d y2 a b0) ?_
  have h483_ := iv_get hv (k := 2) (j := 1) (l := 0) (u := 200) rfl
  have h484_ : a 2 1 = a0 2 1 := hf 2 1 rfl
  have h485_ := iv_get hv0 (k := 2) (j := 1) (l := 0) (u := 200) rfl
  have h486_ := iv_get hv (k := 2) (j := 2) (l := 0) (u := 200) rfl
  have h487_ := iv_get hv0 (k := 2) (j := 2) (l := 0) (u := 200) rfl
  have h3 : a 3 = a0 3 := funext fun j => hf 3 j rfl
  have h21 := hf 2 1 rfl
  refine jt_grd (by omega) ?_
  have h488_ := iv_get hv (k := 3) (j := y2.toNat) (l := 0) (u := 255) rfl
  have h489_ : a 3 (y2.toNat) = a0 3 (y2.toNat) := hf 3 (y2.toNat) rfl
  have h490_ := iv_get hv0 (k := 3) (j := y2.toNat) (l := 0) (u := 255) rfl
  refine jt_ite (fun c491_ => ?_) (fun c491_ => ?_)
  ·
    exact cp_X8_takesWord_r1006_96 E d hd a0 b0 hv0 y2 a hv hf (show 3 ≤ y2 from by omega) (show y2 ≤ 200 from by omega) (show 3 ≤ a 2 1 from by omega) (show a 2 2 = a0 2 2 from by omega) (TW_mk (q := y2.toNat) (show y2.toNat = (a0 2 2).toNat + 3 by omega) (by omega) (by first | exact hall | exact (fun k hk => hch k (by have hw : ((wdn 8 : Nat) : Int) = 3 := rfl; omega))) (LT_no1 (by rw [← h3]; omega))) (show y2 = (a 2 2) + 3 from by omega) (show y2 ≤ a 2 1 from by omega) (show y2 ≤ 200 from by omega) (show a0 2 3 = 0 from by omega) (show a0 2 2 < a0 2 1 from by omega)
  ·
    exact jt_rI ⟨hv, hf, rfl, (show (0 ≤ 0 ∧ 0 ≤ 1) from by omega), (show ((¬ a0 2 3 = 0 ∨ a0 2 1 ≤ a0 2 2) → 0 = 0) from by omega), (show (0 = 0 → a 2 2 = a0 2 2) from by omega), (by first | exact (fun h => absurd h (by decide)) | exact (fun _ => ⟨by omega, htw, by have h := hq0_1; rw [show (a0 2 2).toNat + wdn 8 = y2.toNat from (by show _ + 3 = _; omega), ← h3, ← h21]; exact h⟩)), (by first | exact (fun h => absurd h (by decide)) | exact (fun _ => Or.inr hnt) | exact (fun _ => Or.inl (by omega)) | exact (fun _ => Or.inr (TW_short (show _ < _ + 3 by omega))) | exact (fun _ => Or.inr (TW_let (q := y2.toNat) (show y2.toNat = (a0 2 2).toNat + 3 by omega) ⟨by omega, h97, by rw [← h3]; omega⟩)))⟩
theorem cp_X8_takesWord_r1006_29 (E : jxE) (d : Nat) (hd : Nat.ble 5 (d + 1) = true) (a0 b0 : Nat → Nat → Int) (hv0 : iv a0) : ∀ n : Nat, (∀ (y2 y3 : Int) (a : Nat → Nat → Int), (((3 - y3) * 1) + 0).toNat ≤ n → iv a → jfr jW_X8_takesWord_r1006 a0 a → 3 ≤ y2 → y2 ≤ 200 → 0 ≤ y3 → y3 ≤ 2 → 3 ≤ a 2 1 → y3 < 3 → 0 ≤ y3 → a 2 2 = a0 2 2 → (∀ k : Nat, (k : Int) < y3 + 1 → (a0 3) ((a0 2 2).toNat + k) = (wdl 8).getD k 0) → y2 = (a 2 2) + 3 → y2 ≤ a 2 1 → y2 ≤ 200 → a0 2 3 = 0 → a0 2 2 < a0 2 1 → jt (jxX E d 128 58 [some (.inr (.inr (.inl 2))), some (.inr (.inr (.inl 1006))), some (.inl y2), some (.inl y3)] [] (jxSH, a, b0)) (jQ_X8_takesWord_r1006 a0 b0)) ∧ (∀ (y2 y3 : Int) (a : Nat → Nat → Int), (((3 - y3) * 1) + 0).toNat ≤ n → iv a → jfr jW_X8_takesWord_r1006 a0 a → 3 ≤ y2 → y2 ≤ 200 → 0 ≤ y3 → y3 ≤ 3 → 3 ≤ a 2 1 → 0 ≤ y3 → a 2 2 = a0 2 2 → (∀ k : Nat, (k : Int) < y3 → (a0 3) ((a0 2 2).toNat + k) = (wdl 8).getD k 0) → y2 = (a 2 2) + 3 → y2 ≤ a 2 1 → y2 ≤ 200 → a0 2 3 = 0 → a0 2 2 < a0 2 1 → jt (jxX E d 128 29 [some (.inr (.inr (.inl 2))), some (.inr (.inr (.inl 1006))), some (.inl y2), some (.inl y3)] [] (jxSH, a, b0)) (jQ_X8_takesWord_r1006 a0 b0)) := by
  refine jx_ind fun n ih => ?_
  have ih58 : ∀ (y2 y3 : Int) (a : Nat → Nat → Int), (((3 - y3) * 1) + 0).toNat < n → iv a → jfr jW_X8_takesWord_r1006 a0 a → 3 ≤ y2 → y2 ≤ 200 → 0 ≤ y3 → y3 ≤ 2 → 3 ≤ a 2 1 → y3 < 3 → 0 ≤ y3 → a 2 2 = a0 2 2 → (∀ k : Nat, (k : Int) < y3 + 1 → (a0 3) ((a0 2 2).toNat + k) = (wdl 8).getD k 0) → y2 = (a 2 2) + 3 → y2 ≤ a 2 1 → y2 ≤ 200 → a0 2 3 = 0 → a0 2 2 < a0 2 1 → jt (jxX E d 128 58 [some (.inr (.inr (.inl 2))), some (.inr (.inr (.inl 1006))), some (.inl y2), some (.inl y3)] [] (jxSH, a, b0)) (jQ_X8_takesWord_r1006 a0 b0) := fun y2 y3 a hlt i0 i1 i2 i3 i4 i5 i6 i7 i8 i9 i10 i11 i12 i13 i14 i15 => (ih _ hlt).1 y2 y3 a (Nat.le_refl _) i0 i1 i2 i3 i4 i5 i6 i7 i8 i9 i10 i11 i12 i13 i14 i15
  have ih29 : ∀ (y2 y3 : Int) (a : Nat → Nat → Int), (((3 - y3) * 1) + 0).toNat < n → iv a → jfr jW_X8_takesWord_r1006 a0 a → 3 ≤ y2 → y2 ≤ 200 → 0 ≤ y3 → y3 ≤ 3 → 3 ≤ a 2 1 → 0 ≤ y3 → a 2 2 = a0 2 2 → (∀ k : Nat, (k : Int) < y3 → (a0 3) ((a0 2 2).toNat + k) = (wdl 8).getD k 0) → y2 = (a 2 2) + 3 → y2 ≤ a 2 1 → y2 ≤ 200 → a0 2 3 = 0 → a0 2 2 < a0 2 1 → jt (jxX E d 128 29 [some (.inr (.inr (.inl 2))), some (.inr (.inr (.inl 1006))), some (.inl y2), some (.inl y3)] [] (jxSH, a, b0)) (jQ_X8_takesWord_r1006 a0 b0) := fun y2 y3 a hlt i0 i1 i2 i3 i4 i5 i6 i7 i8 i9 i10 i11 i12 i13 i14 => (ih _ hlt).2 y2 y3 a (Nat.le_refl _) i0 i1 i2 i3 i4 i5 i6 i7 i8 i9 i10 i11 i12 i13 i14
  have hc58 : ∀ (y2 y3 : Int) (a : Nat → Nat → Int), (((3 - y3) * 1) + 0).toNat ≤ n → iv a → jfr jW_X8_takesWord_r1006 a0 a → 3 ≤ y2 → y2 ≤ 200 → 0 ≤ y3 → y3 ≤ 2 → 3 ≤ a 2 1 → y3 < 3 → 0 ≤ y3 → a 2 2 = a0 2 2 → (∀ k : Nat, (k : Int) < y3 + 1 → (a0 3) ((a0 2 2).toNat + k) = (wdl 8).getD k 0) → y2 = (a 2 2) + 3 → y2 ≤ a 2 1 → y2 ≤ 200 → a0 2 3 = 0 → a0 2 2 < a0 2 1 → jt (jxX E d 128 58 [some (.inr (.inr (.inl 2))), some (.inr (.inr (.inl 1006))), some (.inl y2), some (.inl y3)] [] (jxSH, a, b0)) (jQ_X8_takesWord_r1006 a0 b0) := by
    intro y2 y3 a hm hv hf hi0 hi1 hi2 hi3 hi4 hi5 hi6 hi7 hch hi9 hi10 hi11 hi12 hi13
    refine jt_eq (bq_X8_takesWord_r1006_58 E d y2 y3 a b0) ?_
    have h492_ := iv_get hv (k := 2) (j := 1) (l := 0) (u := 200) rfl
    have h493_ : a 2 1 = a0 2 1 := hf 2 1 rfl
    have h494_ := iv_get hv0 (k := 2) (j := 1) (l := 0) (u := 200) rfl
    have h495_ := iv_get hv (k := 2) (j := 2) (l := 0) (u := 200) rfl
    have h496_ := iv_get hv0 (k := 2) (j := 2) (l := 0) (u := 200) rfl
    have h3 : a 3 = a0 3 := funext fun j => hf 3 j rfl
    have h21 := hf 2 1 rfl
    have h497_ : jxw (y3 + 1) = y3 + 1 := jxw_id (by omega) (by omega)
    exact ih29 y2 (jxw (y3 + 1)) a (show (((3 - (jxw (y3 + 1))) * 1) + 0).toNat < n from by omega) hv hf (show 3 ≤ y2 from by omega) (show y2 ≤ 200 from by omega) (show 0 ≤ jxw (y3 + 1) from by omega) (show jxw (y3 + 1) ≤ 3 from by omega) (show 3 ≤ a 2 1 from by omega) (show 0 ≤ jxw (y3 + 1) from by omega) (show a 2 2 = a0 2 2 from by omega) (by first | exact (fun k hk => absurd hk (by omega)) | (rw [show jxw (y3 + 1) = y3 + 1 from by omega]; exact hch)) (show y2 = (a 2 2) + 3 from by omega) (show y2 ≤ a 2 1 from by omega) (show y2 ≤ 200 from by omega) (show a0 2 3 = 0 from by omega) (show a0 2 2 < a0 2 1 from by omega)
  have hc29 : ∀ (y2 y3 : Int) (a : Nat → Nat → Int), (((3 - y3) * 1) + 0).toNat ≤ n → iv a → jfr jW_X8_takesWord_r1006 a0 a → 3 ≤ y2 → y2 ≤ 200 → 0 ≤ y3 → y3 ≤ 3 → 3 ≤ a 2 1 → 0 ≤ y3 → a 2 2 = a0 2 2 → (∀ k : Nat, (k : Int) < y3 → (a0 3) ((a0 2 2).toNat + k) = (wdl 8).getD k 0) → y2 = (a 2 2) + 3 → y2 ≤ a 2 1 → y2 ≤ 200 → a0 2 3 = 0 → a0 2 2 < a0 2 1 → jt (jxX E d 128 29 [some (.inr (.inr (.inl 2))), some (.inr (.inr (.inl 1006))), some (.inl y2), some (.inl y3)] [] (jxSH, a, b0)) (jQ_X8_takesWord_r1006 a0 b0) := by
    intro y2 y3 a hm hv hf hi0 hi1 hi2 hi3 hi4 hi5 hi6 hch hi8 hi9 hi10 hi11 hi12
    refine jt_eq (bq_X8_takesWord_r1006_29 E d y2 y3 a b0) ?_
    have h498_ := iv_get hv (k := 2) (j := 1) (l := 0) (u := 200) rfl
    have h499_ : a 2 1 = a0 2 1 := hf 2 1 rfl
    have h500_ := iv_get hv0 (k := 2) (j := 1) (l := 0) (u := 200) rfl
    have h501_ := iv_get hv (k := 2) (j := 2) (l := 0) (u := 200) rfl
    have h502_ := iv_get hv0 (k := 2) (j := 2) (l := 0) (u := 200) rfl
    have h3 : a 3 = a0 3 := funext fun j => hf 3 j rfl
    have h21 := hf 2 1 rfl
    refine jt_eI (eq_J0_length_8abf5_r1006 E d (jd_le hd rfl) a b0) ?_
    have h503_ := ff_J0_length_8abf5_r1006 a b0
    refine jt_ite (fun c504_ => ?_) (fun c504_ => ?_)
    ·
      have h505_ : jxw ((a 2 2) + y3) = (a 2 2) + y3 := jxw_id (by omega) (by omega)
      refine jt_grd (by omega) ?_
      refine jt_eI (eq_J0_charAt_5068e_r1006 E d (jd_le hd rfl) y3 a b0 (show (0 ≤ y3 ∧ y3 < 3) from by omega)) ?_
      have h506_ := iv_get hv (k := 3) (j := (jxw ((a 2 2) + y3)).toNat) (l := 0) (u := 255) rfl
      have h507_ : a 3 ((jxw ((a 2 2) + y3)).toNat) = a0 3 ((jxw ((a 2 2) + y3)).toNat) := hf 3 ((jxw ((a 2 2) + y3)).toNat) rfl
      have h508_ := iv_get hv0 (k := 3) (j := (jxw ((a 2 2) + y3)).toNat) (l := 0) (u := 255) rfl
      have h509_ := f_J0_charAt_5068e_r1006_eq a b0 y3
      have h510_ := f_J0_isLatin1_aae02_r1006_eq a b0
      have h511_ := f_J1_charAt_3b067_r2006_eq a b0 y3
      have h512_ := jxand_r (([111, 108, 100] : List Int).getD (y3.toNat) 0) 255 (by decide) (by decide)
      have h513_ := jxi2c_b (jxand (([111, 108, 100] : List Int).getD (y3.toNat) 0) 255)
      refine jt_ite (fun c514_ => ?_) (fun c514_ => ?_)
      ·
        exact hc58 y2 y3 a (show (((3 - y3) * 1) + 0).toNat ≤ n from by omega) hv hf (show 3 ≤ y2 from by omega) (show y2 ≤ 200 from by omega) (show 0 ≤ y3 from by omega) (show y3 ≤ 2 from by omega) (show 3 ≤ a 2 1 from by omega) (show y3 < 3 from by omega) (show 0 ≤ y3 from by omega) (show a 2 2 = a0 2 2 from by omega) (ch_ext hch (by omega) (q := (jxw ((a 2 2) + y3)).toNat) (by omega) (v := f_J0_charAt_5068e_r1006 a b0 y3) (by rw [← h3]; assumption) (cw_1006 a b0 y3 (by omega) (by omega))) (show y2 = (a 2 2) + 3 from by omega) (show y2 ≤ a 2 1 from by omega) (show y2 ≤ 200 from by omega) (show a0 2 3 = 0 from by omega) (show a0 2 2 < a0 2 1 from by omega)
      ·
        exact cp_X8_takesWord_r1006_56 E d hd a0 b0 hv0 a hv hf (show 3 ≤ a 2 1 from by omega) (show a 2 2 = a0 2 2 from by omega) (TW_no (y := y3) (by omega) (show y3 < 3 by omega) (q := (jxw ((a 2 2) + y3)).toNat) (by omega) (v := f_J0_charAt_5068e_r1006 a b0 y3) (cw_1006 a b0 y3 (by omega) (by omega)) (by rw [← h3]; assumption)) (show a0 2 3 = 0 from by omega) (show a0 2 2 < a0 2 1 from by omega)
    ·
      refine jt_ite (fun c515_ => ?_) (fun c515_ => ?_)
      ·
        refine jt_grd (by omega) ?_
        have h516_ := iv_get hv (k := 3) (j := y2.toNat) (l := 0) (u := 255) rfl
        have h517_ : a 3 (y2.toNat) = a0 3 (y2.toNat) := hf 3 (y2.toNat) rfl
        have h518_ := iv_get hv0 (k := 3) (j := y2.toNat) (l := 0) (u := 255) rfl
        refine jt_ite (fun c519_ => ?_) (fun c519_ => ?_)
        ·
          exact cp_X8_takesWord_r1006_96 E d hd a0 b0 hv0 y2 a hv hf (show 3 ≤ y2 from by omega) (show y2 ≤ 200 from by omega) (show 3 ≤ a 2 1 from by omega) (show a 2 2 = a0 2 2 from by omega) (TW_mk (q := y2.toNat) (show y2.toNat = (a0 2 2).toNat + 3 by omega) (by omega) (by first | exact hall | exact (fun k hk => hch k (by have hw : ((wdn 8 : Nat) : Int) = 3 := rfl; omega))) (LT_no1 (by rw [← h3]; omega))) (show y2 = (a 2 2) + 3 from by omega) (show y2 ≤ a 2 1 from by omega) (show y2 ≤ 200 from by omega) (show a0 2 3 = 0 from by omega) (show a0 2 2 < a0 2 1 from by omega)
        ·
          exact cp_X8_takesWord_r1006_83 E d hd a0 b0 hv0 y2 a hv hf (show 3 ≤ y2 from by omega) (show y2 ≤ 199 from by omega) (show 4 ≤ a 2 1 from by omega) (show a 2 2 = a0 2 2 from by omega) (show y2 < a 2 1 from by omega) (fun k hk => hch k (by have hw : ((wdn 8 : Nat) : Int) = 3 := rfl; omega)) (by rw [← h3]; omega) (show y2 = (a 2 2) + 3 from by omega) (show y2 ≤ a 2 1 from by omega) (show y2 ≤ 200 from by omega) (show a0 2 3 = 0 from by omega) (show a0 2 2 < a0 2 1 from by omega)
      ·
        exact cp_X8_takesWord_r1006_96 E d hd a0 b0 hv0 y2 a hv hf (show 3 ≤ y2 from by omega) (show y2 ≤ 200 from by omega) (show 3 ≤ a 2 1 from by omega) (show a 2 2 = a0 2 2 from by omega) (TW_mk (q := y2.toNat) (show y2.toNat = (a0 2 2).toNat + 3 by omega) (by omega) (by first | exact hall | exact (fun k hk => hch k (by have hw : ((wdn 8 : Nat) : Int) = 3 := rfl; omega))) (LT_no1 (by rw [← h3]; omega))) (show y2 = (a 2 2) + 3 from by omega) (show y2 ≤ a 2 1 from by omega) (show y2 ≤ 200 from by omega) (show a0 2 3 = 0 from by omega) (show a0 2 2 < a0 2 1 from by omega)
  exact ⟨hc58, hc29⟩
theorem sp_X8_takesWord_r1006 (E : jxE) (d : Nat) (hd : Nat.ble 5 d = true) (a0 b0 : Nat → Nat → Int) (hv0 : iv a0) : jt (jxC E d 128 [.inr (.inr (.inl 2)), .inr (.inr (.inl 1006))] (jxSH, a0, b0)) (jQ_X8_takesWord_r1006 a0 b0) := by
  obtain ⟨d, rfl⟩ := jd_succ hd
  refine jt_eq (bq_X8_takesWord_r1006 E d a0 b0) ?_
  refine jt_eI (eq_J0_length_8abf5_r1006 E d (jd_le hd rfl) a0 b0) ?_
  refine jt_eI (eq_X8_isFaulty E d (jd_le hd rfl) a0 b0) ?_
  have h520_ := f_X8_isFaulty_eq a0 b0
  refine jt_ite (fun c521_ => ?_) (fun c521_ => ?_)
  ·
    have h522_ := iv_get hv0 (k := 2) (j := 1) (l := 0) (u := 200) rfl
    have h523_ := iv_get hv0 (k := 2) (j := 2) (l := 0) (u := 200) rfl
    have h524_ := ff_J0_length_8abf5_r1006 a0 b0
    have h525_ : jxw ((a0 2 2) + (f_J0_length_8abf5_r1006 a0 b0)) = (a0 2 2) + (f_J0_length_8abf5_r1006 a0 b0) := jxw_id (by omega) (by omega)
    refine jt_ite (fun c526_ => ?_) (fun c526_ => ?_)
    ·
      exact jt_rI ⟨hv0, (jfr_rf _ _), rfl, (show (0 ≤ 0 ∧ 0 ≤ 1) from by omega), (show ((¬ a0 2 3 = 0 ∨ a0 2 1 ≤ a0 2 2) → 0 = 0) from by omega), (show (0 = 0 → a0 2 2 = a0 2 2) from by omega), (by first | exact (fun h => absurd h (by decide)) | exact (fun _ => ⟨by omega, htw, by have h := hq0_1; rw [show (a0 2 2).toNat + wdn 8 = y2.toNat from (by show _ + 3 = _; omega), ← h3, ← h21]; exact h⟩)), (by first | exact (fun h => absurd h (by decide)) | exact (fun _ => Or.inr hnt) | exact (fun _ => Or.inl (by omega)) | exact (fun _ => Or.inr (TW_short (show _ < _ + 3 by omega))) | exact (fun _ => Or.inr (TW_let (q := y2.toNat) (show y2.toNat = (a0 2 2).toNat + 3 by omega) ⟨by omega, h97, by rw [← h3]; omega⟩)))⟩
    ·
      exact (cp_X8_takesWord_r1006_29 E d hd a0 b0 hv0 _).2 (jxw ((a0 2 2) + (f_J0_length_8abf5_r1006 a0 b0))) 0 a0 (Nat.le_refl _) hv0 (jfr_rf _ _) (show 3 ≤ jxw ((a0 2 2) + (f_J0_length_8abf5_r1006 a0 b0)) from by omega) (show jxw ((a0 2 2) + (f_J0_length_8abf5_r1006 a0 b0)) ≤ 200 from by omega) (show 0 ≤ 0 from by omega) (show 0 ≤ 3 from by omega) (show 3 ≤ a0 2 1 from by omega) (show 0 ≤ 0 from by omega) (show a0 2 2 = a0 2 2 from by omega) (by first | exact (fun k hk => absurd hk (by omega)) | (rw [show jxw (y3 + 1) = y3 + 1 from by omega]; exact hch)) (show jxw ((a0 2 2) + (f_J0_length_8abf5_r1006 a0 b0)) = (a0 2 2) + 3 from by omega) (show jxw ((a0 2 2) + (f_J0_length_8abf5_r1006 a0 b0)) ≤ a0 2 1 from by omega) (show jxw ((a0 2 2) + (f_J0_length_8abf5_r1006 a0 b0)) ≤ 200 from by omega) (show a0 2 3 = 0 from by omega) (show a0 2 2 < a0 2 1 from by omega)
  ·
    have h527_ := iv_get hv0 (k := 2) (j := 1) (l := 0) (u := 200) rfl
    have h528_ := iv_get hv0 (k := 2) (j := 2) (l := 0) (u := 200) rfl
    exact jt_rI ⟨hv0, (jfr_rf _ _), rfl, (show (0 ≤ 0 ∧ 0 ≤ 1) from by omega), (show ((¬ a0 2 3 = 0 ∨ a0 2 1 ≤ a0 2 2) → 0 = 0) from by omega), (show (0 = 0 → a0 2 2 = a0 2 2) from by omega), (by first | exact (fun h => absurd h (by decide)) | exact (fun _ => ⟨by omega, htw, by have h := hq0_1; rw [show (a0 2 2).toNat + wdn 8 = y2.toNat from (by show _ + 3 = _; omega), ← h3, ← h21]; exact h⟩)), (by first | exact (fun h => absurd h (by decide)) | exact (fun _ => Or.inr hnt) | exact (fun _ => Or.inl (by omega)) | exact (fun _ => Or.inr (TW_short (show _ < _ + 3 by omega))) | exact (fun _ => Or.inr (TW_let (q := y2.toNat) (show y2.toNat = (a0 2 2).toNat + 3 by omega) ⟨by omega, h97, by rw [← h3]; omega⟩)))⟩
def jW_X8_takesWord_r1007 : List (Nat × Nat) := [(2, 2)]
abbrev jQ_X8_takesWord_r1007 (a0 b0 : Nat → Nat → Int) : List jxV → (Nat → Nat → Int) → (Nat → Nat → Int) → Prop := rI (fun r a b => (iv a) ∧ (jfr jW_X8_takesWord_r1007 a0 a) ∧ (b0 = b) ∧ ((0 ≤ r ∧ r ≤ 1)) ∧ (((¬ a0 2 3 = 0 ∨ a0 2 1 ≤ a0 2 2) → r = 0)) ∧ ((r = 0 → a 2 2 = a0 2 2)) ∧ (r = 1 → a0 2 3 = 0 ∧ TW (a0 3) (a0 2 1).toNat (a0 2 2).toNat 9 ∧ a 2 2 = ((SK (a0 3) (a0 2 1).toNat ((a0 2 2).toNat + wdn 9) : Nat) : Int)) ∧ (r = 0 → ¬ a0 2 3 = 0 ∨ ¬ TW (a0 3) (a0 2 1).toNat (a0 2 2).toNat 9))
theorem cp_X8_takesWord_r1007_56 (E : jxE) (d : Nat) (hd : Nat.ble 5 (d + 1) = true) (a0 b0 : Nat → Nat → Int) (hv0 : iv a0) : ∀ (a : Nat → Nat → Int), iv a → jfr jW_X8_takesWord_r1007 a0 a → 3 ≤ a 2 1 → a 2 2 = a0 2 2 → (¬ TW (a0 3) (a0 2 1).toNat (a0 2 2).toNat 9) → a0 2 3 = 0 → a0 2 2 < a0 2 1 → jt (jxX E d 128 56 [none, none, none, none] [] (jxSH, a, b0)) (jQ_X8_takesWord_r1007 a0 b0) := by
  intro a hv hf hi0 hi1 hnt hi3 hi4
  refine jt_eq (bq_X8_takesWord_r1007_56 E d a b0) ?_
  have h529_ := iv_get hv (k := 2) (j := 1) (l := 0) (u := 200) rfl
  have h530_ : a 2 1 = a0 2 1 := hf 2 1 rfl
  have h531_ := iv_get hv0 (k := 2) (j := 1) (l := 0) (u := 200) rfl
  have h532_ := iv_get hv (k := 2) (j := 2) (l := 0) (u := 200) rfl
  have h533_ := iv_get hv0 (k := 2) (j := 2) (l := 0) (u := 200) rfl
  have h3 : a 3 = a0 3 := funext fun j => hf 3 j rfl
  have h21 := hf 2 1 rfl
  exact jt_rI ⟨hv, hf, rfl, (show (0 ≤ 0 ∧ 0 ≤ 1) from by omega), (show ((¬ a0 2 3 = 0 ∨ a0 2 1 ≤ a0 2 2) → 0 = 0) from by omega), (show (0 = 0 → a 2 2 = a0 2 2) from by omega), (by first | exact (fun h => absurd h (by decide)) | exact (fun _ => ⟨by omega, htw, by have h := hq0_1; rw [show (a0 2 2).toNat + wdn 9 = y2.toNat from (by show _ + 3 = _; omega), ← h3, ← h21]; exact h⟩)), (by first | exact (fun h => absurd h (by decide)) | exact (fun _ => Or.inr hnt) | exact (fun _ => Or.inl (by omega)) | exact (fun _ => Or.inr (TW_short (show _ < _ + 3 by omega))) | exact (fun _ => Or.inr (TW_let (q := y2.toNat) (show y2.toNat = (a0 2 2).toNat + 3 by omega) ⟨by omega, h97, by rw [← h3]; omega⟩)))⟩
theorem cp_X8_takesWord_r1007_96 (E : jxE) (d : Nat) (hd : Nat.ble 5 (d + 1) = true) (a0 b0 : Nat → Nat → Int) (hv0 : iv a0) : ∀ (y2 : Int) (a : Nat → Nat → Int), iv a → jfr jW_X8_takesWord_r1007 a0 a → 3 ≤ y2 → y2 ≤ 200 → 3 ≤ a 2 1 → a 2 2 = a0 2 2 → (TW (a0 3) (a0 2 1).toNat (a0 2 2).toNat 9) → y2 = (a 2 2) + 3 → y2 ≤ a 2 1 → y2 ≤ 200 → a0 2 3 = 0 → a0 2 2 < a0 2 1 → jt (jxX E d 128 96 [some (.inr (.inr (.inl 2))), none, some (.inl y2), none] [] (jxSH, a, b0)) (jQ_X8_takesWord_r1007 a0 b0) := by
  intro y2 a hv hf hi0 hi1 hi2 hi3 htw hi5 hi6 hi7 hi8 hi9
  refine jt_eq (bq_X8_takesWord_r1007_96 E d y2 a b0) ?_
  have h534_ := iv_get hv (k := 2) (j := 1) (l := 0) (u := 200) rfl
  have h535_ : a 2 1 = a0 2 1 := hf 2 1 rfl
  have h536_ := iv_get hv0 (k := 2) (j := 1) (l := 0) (u := 200) rfl
  have h537_ := iv_get hv (k := 2) (j := 2) (l := 0) (u := 200) rfl
  have h538_ := iv_get hv0 (k := 2) (j := 2) (l := 0) (u := 200) rfl
  have h3 : a 3 = a0 3 := funext fun j => hf 3 j rfl
  have h21 := hf 2 1 rfl
  have hv539_ : iv (jxu a 2 2 y2) := iv_put hv (l := 0) (u := 200) rfl (by omega) (by omega)
  refine jt_bV (sp_X8_skipBlanks E d (jd_le hd rfl) (jxu a 2 2 y2) b0 hv539_) (fun a540_ b540_ h540_ => ?_)
  obtain ⟨hv540_, hf540_, rfl, hq540_0, hq540_1⟩ := h540_
  have h541_ := iv_get hv540_ (k := 2) (j := 2) (l := 0) (u := 200) rfl
  have h542_ : (a 2 1 ≤ y2 → a540_ 2 2 = y2) := hq540_0
  have hf543_ : jfr jW_X8_takesWord_r1007 a0 (jxu a 2 2 y2) := jfr_put hf rfl
  have hf544_ : jfr jW_X8_takesWord_r1007 a0 a540_ := jfr_tr hf543_ hf540_ rfl
  exact jt_rI ⟨hv540_, hf544_, rfl, (show (0 ≤ 1 ∧ 1 ≤ 1) from by omega), (show ((¬ a0 2 3 = 0 ∨ a0 2 1 ≤ a0 2 2) → 1 = 0) from by omega), (show (1 = 0 → a540_ 2 2 = a0 2 2) from by omega), (by first | exact (fun h => absurd h (by decide)) | exact (fun _ => ⟨by omega, htw, by have h := hq540_1; rw [show (a0 2 2).toNat + wdn 9 = y2.toNat from (by show _ + 3 = _; omega), ← h3, ← h21]; exact h⟩)), (by first | exact (fun h => absurd h (by decide)) | exact (fun _ => Or.inr hnt) | exact (fun _ => Or.inl (by omega)) | exact (fun _ => Or.inr (TW_short (show _ < _ + 3 by omega))) | exact (fun _ => Or.inr (TW_let (q := y2.toNat) (show y2.toNat = (a0 2 2).toNat + 3 by omega) ⟨by omega, h97, by rw [← h3]; omega⟩)))⟩
theorem cp_X8_takesWord_r1007_83 (E : jxE) (d : Nat) (hd : Nat.ble 5 (d + 1) = true) (a0 b0 : Nat → Nat → Int) (hv0 : iv a0) : ∀ (y2 : Int) (a : Nat → Nat → Int), iv a → jfr jW_X8_takesWord_r1007 a0 a → 3 ≤ y2 → y2 ≤ 199 → 4 ≤ a 2 1 → a 2 2 = a0 2 2 → y2 < a 2 1 → (∀ k : Nat, (k : Int) < (wdn 9 : Int) → (a0 3) ((a0 2 2).toNat + k) = (wdl 9).getD k 0) → (97 ≤ a0 3 y2.toNat) → y2 = (a 2 2) + 3 → y2 ≤ a 2 1 → y2 ≤ 200 → a0 2 3 = 0 → a0 2 2 < a0 2 1 → jt (jxX E d 128 83 [some (.inr (.inr (.inl 2))), none, some (.inl y2), none] [] (jxSH, a, b0)) (jQ_X8_takesWord_r1007 a0 b0) := by
  intro y2 a hv hf hi0 hi1 hi2 hi3 hi4 hall h97 hi7 hi8 hi9 hi10 hi11
  refine jt_eq (bq_X8_takesWord_r1007_83 E d y2 a b0) ?_
  have h545_ := iv_get hv (k := 2) (j := 1) (l := 0) (u := 200) rfl
  have h546_ : a 2 1 = a0 2 1 := hf 2 1 rfl
  have h547_ := iv_get hv0 (k := 2) (j := 1) (l := 0) (u := 200) rfl
  have h548_ := iv_get hv (k := 2) (j := 2) (l := 0) (u := 200) rfl
  have h549_ := iv_get hv0 (k := 2) (j := 2) (l := 0) (u := 200) rfl
  have h3 : a 3 = a0 3 := funext fun j => hf 3 j rfl
  have h21 := hf 2 1 rfl
  refine jt_grd (by omega) ?_
  have h550_ := iv_get hv (k := 3) (j := y2.toNat) (l := 0) (u := 255) rfl
  have h551_ : a 3 (y2.toNat) = a0 3 (y2.toNat) := hf 3 (y2.toNat) rfl
  have h552_ := iv_get hv0 (k := 3) (j := y2.toNat) (l := 0) (u := 255) rfl
  refine jt_ite (fun c553_ => ?_) (fun c553_ => ?_)
  ·
    exact cp_X8_takesWord_r1007_96 E d hd a0 b0 hv0 y2 a hv hf (show 3 ≤ y2 from by omega) (show y2 ≤ 200 from by omega) (show 3 ≤ a 2 1 from by omega) (show a 2 2 = a0 2 2 from by omega) (TW_mk (q := y2.toNat) (show y2.toNat = (a0 2 2).toNat + 3 by omega) (by omega) (by first | exact hall | exact (fun k hk => hch k (by have hw : ((wdn 9 : Nat) : Int) = 3 := rfl; omega))) (LT_no1 (by rw [← h3]; omega))) (show y2 = (a 2 2) + 3 from by omega) (show y2 ≤ a 2 1 from by omega) (show y2 ≤ 200 from by omega) (show a0 2 3 = 0 from by omega) (show a0 2 2 < a0 2 1 from by omega)
  ·
    exact jt_rI ⟨hv, hf, rfl, (show (0 ≤ 0 ∧ 0 ≤ 1) from by omega), (show ((¬ a0 2 3 = 0 ∨ a0 2 1 ≤ a0 2 2) → 0 = 0) from by omega), (show (0 = 0 → a 2 2 = a0 2 2) from by omega), (by first | exact (fun h => absurd h (by decide)) | exact (fun _ => ⟨by omega, htw, by have h := hq0_1; rw [show (a0 2 2).toNat + wdn 9 = y2.toNat from (by show _ + 3 = _; omega), ← h3, ← h21]; exact h⟩)), (by first | exact (fun h => absurd h (by decide)) | exact (fun _ => Or.inr hnt) | exact (fun _ => Or.inl (by omega)) | exact (fun _ => Or.inr (TW_short (show _ < _ + 3 by omega))) | exact (fun _ => Or.inr (TW_let (q := y2.toNat) (show y2.toNat = (a0 2 2).toNat + 3 by omega) ⟨by omega, h97, by rw [← h3]; omega⟩)))⟩
theorem cp_X8_takesWord_r1007_29 (E : jxE) (d : Nat) (hd : Nat.ble 5 (d + 1) = true) (a0 b0 : Nat → Nat → Int) (hv0 : iv a0) : ∀ n : Nat, (∀ (y2 y3 : Int) (a : Nat → Nat → Int), (((3 - y3) * 1) + 0).toNat ≤ n → iv a → jfr jW_X8_takesWord_r1007 a0 a → 3 ≤ y2 → y2 ≤ 200 → 0 ≤ y3 → y3 ≤ 2 → 3 ≤ a 2 1 → y3 < 3 → 0 ≤ y3 → a 2 2 = a0 2 2 → (∀ k : Nat, (k : Int) < y3 + 1 → (a0 3) ((a0 2 2).toNat + k) = (wdl 9).getD k 0) → y2 = (a 2 2) + 3 → y2 ≤ a 2 1 → y2 ≤ 200 → a0 2 3 = 0 → a0 2 2 < a0 2 1 → jt (jxX E d 128 58 [some (.inr (.inr (.inl 2))), some (.inr (.inr (.inl 1007))), some (.inl y2), some (.inl y3)] [] (jxSH, a, b0)) (jQ_X8_takesWord_r1007 a0 b0)) ∧ (∀ (y2 y3 : Int) (a : Nat → Nat → Int), (((3 - y3) * 1) + 0).toNat ≤ n → iv a → jfr jW_X8_takesWord_r1007 a0 a → 3 ≤ y2 → y2 ≤ 200 → 0 ≤ y3 → y3 ≤ 3 → 3 ≤ a 2 1 → 0 ≤ y3 → a 2 2 = a0 2 2 → (∀ k : Nat, (k : Int) < y3 → (a0 3) ((a0 2 2).toNat + k) = (wdl 9).getD k 0) → y2 = (a 2 2) + 3 → y2 ≤ a 2 1 → y2 ≤ 200 → a0 2 3 = 0 → a0 2 2 < a0 2 1 → jt (jxX E d 128 29 [some (.inr (.inr (.inl 2))), some (.inr (.inr (.inl 1007))), some (.inl y2), some (.inl y3)] [] (jxSH, a, b0)) (jQ_X8_takesWord_r1007 a0 b0)) := by
  refine jx_ind fun n ih => ?_
  have ih58 : ∀ (y2 y3 : Int) (a : Nat → Nat → Int), (((3 - y3) * 1) + 0).toNat < n → iv a → jfr jW_X8_takesWord_r1007 a0 a → 3 ≤ y2 → y2 ≤ 200 → 0 ≤ y3 → y3 ≤ 2 → 3 ≤ a 2 1 → y3 < 3 → 0 ≤ y3 → a 2 2 = a0 2 2 → (∀ k : Nat, (k : Int) < y3 + 1 → (a0 3) ((a0 2 2).toNat + k) = (wdl 9).getD k 0) → y2 = (a 2 2) + 3 → y2 ≤ a 2 1 → y2 ≤ 200 → a0 2 3 = 0 → a0 2 2 < a0 2 1 → jt (jxX E d 128 58 [some (.inr (.inr (.inl 2))), some (.inr (.inr (.inl 1007))), some (.inl y2), some (.inl y3)] [] (jxSH, a, b0)) (jQ_X8_takesWord_r1007 a0 b0) := fun y2 y3 a hlt i0 i1 i2 i3 i4 i5 i6 i7 i8 i9 i10 i11 i12 i13 i14 i15 => (ih _ hlt).1 y2 y3 a (Nat.le_refl _) i0 i1 i2 i3 i4 i5 i6 i7 i8 i9 i10 i11 i12 i13 i14 i15
  have ih29 : ∀ (y2 y3 : Int) (a : Nat → Nat → Int), (((3 - y3) * 1) + 0).toNat < n → iv a → jfr jW_X8_takesWord_r1007 a0 a → 3 ≤ y2 → y2 ≤ 200 → 0 ≤ y3 → y3 ≤ 3 → 3 ≤ a 2 1 → 0 ≤ y3 → a 2 2 = a0 2 2 → (∀ k : Nat, (k : Int) < y3 → (a0 3) ((a0 2 2).toNat + k) = (wdl 9).getD k 0) → y2 = (a 2 2) + 3 → y2 ≤ a 2 1 → y2 ≤ 200 → a0 2 3 = 0 → a0 2 2 < a0 2 1 → jt (jxX E d 128 29 [some (.inr (.inr (.inl 2))), some (.inr (.inr (.inl 1007))), some (.inl y2), some (.inl y3)] [] (jxSH, a, b0)) (jQ_X8_takesWord_r1007 a0 b0) := fun y2 y3 a hlt i0 i1 i2 i3 i4 i5 i6 i7 i8 i9 i10 i11 i12 i13 i14 => (ih _ hlt).2 y2 y3 a (Nat.le_refl _) i0 i1 i2 i3 i4 i5 i6 i7 i8 i9 i10 i11 i12 i13 i14
  have hc58 : ∀ (y2 y3 : Int) (a : Nat → Nat → Int), (((3 - y3) * 1) + 0).toNat ≤ n → iv a → jfr jW_X8_takesWord_r1007 a0 a → 3 ≤ y2 → y2 ≤ 200 → 0 ≤ y3 → y3 ≤ 2 → 3 ≤ a 2 1 → y3 < 3 → 0 ≤ y3 → a 2 2 = a0 2 2 → (∀ k : Nat, (k : Int) < y3 + 1 → (a0 3) ((a0 2 2).toNat + k) = (wdl 9).getD k 0) → y2 = (a 2 2) + 3 → y2 ≤ a 2 1 → y2 ≤ 200 → a0 2 3 = 0 → a0 2 2 < a0 2 1 → jt (jxX E d 128 58 [some (.inr (.inr (.inl 2))), some (.inr (.inr (.inl 1007))), some (.inl y2), some (.inl y3)] [] (jxSH, a, b0)) (jQ_X8_takesWord_r1007 a0 b0) := by
    intro y2 y3 a hm hv hf hi0 hi1 hi2 hi3 hi4 hi5 hi6 hi7 hch hi9 hi10 hi11 hi12 hi13
    refine jt_eq (bq_X8_takesWord_r1007_58 E d y2 y3 a b0) ?_
    have h554_ := iv_get hv (k := 2) (j := 1) (l := 0) (u := 200) rfl
    have h555_ : a 2 1 = a0 2 1 := hf 2 1 rfl
    have h556_ := iv_get hv0 (k := 2) (j := 1) (l := 0) (u := 200) rfl
    have h557_ := iv_get hv (k := 2) (j := 2) (l := 0) (u := 200) rfl
    have h558_ := iv_get hv0 (k := 2) (j := 2) (l := 0) (u := 200) rfl
    have h3 : a 3 = a0 3 := funext fun j => hf 3 j rfl
    have h21 := hf 2 1 rfl
    have h559_ : jxw (y3 + 1) = y3 + 1 := jxw_id (by omega) (by omega)
    exact ih29 y2 (jxw (y3 + 1)) a (show (((3 - (jxw (y3 + 1))) * 1) + 0).toNat < n from by omega) hv hf (show 3 ≤ y2 from by omega) (show y2 ≤ 200 from by omega) (show 0 ≤ jxw (y3 + 1) from by omega) (show jxw (y3 + 1) ≤ 3 from by omega) (show 3 ≤ a 2 1 from by omega) (show 0 ≤ jxw (y3 + 1) from by omega) (show a 2 2 = a0 2 2 from by omega) (by first | exact (fun k hk => absurd hk (by omega)) | (rw [show jxw (y3 + 1) = y3 + 1 from by omega]; exact hch)) (show y2 = (a 2 2) + 3 from by omega) (show y2 ≤ a 2 1 from by omega) (show y2 ≤ 200 from by omega) (show a0 2 3 = 0 from by omega) (show a0 2 2 < a0 2 1 from by omega)
  have hc29 : ∀ (y2 y3 : Int) (a : Nat → Nat → Int), (((3 - y3) * 1) + 0).toNat ≤ n → iv a → jfr jW_X8_takesWord_r1007 a0 a → 3 ≤ y2 → y2 ≤ 200 → 0 ≤ y3 → y3 ≤ 3 → 3 ≤ a 2 1 → 0 ≤ y3 → a 2 2 = a0 2 2 → (∀ k : Nat, (k : Int) < y3 → (a0 3) ((a0 2 2).toNat + k) = (wdl 9).getD k 0) → y2 = (a 2 2) + 3 → y2 ≤ a 2 1 → y2 ≤ 200 → a0 2 3 = 0 → a0 2 2 < a0 2 1 → jt (jxX E d 128 29 [some (.inr (.inr (.inl 2))), some (.inr (.inr (.inl 1007))), some (.inl y2), some (.inl y3)] [] (jxSH, a, b0)) (jQ_X8_takesWord_r1007 a0 b0) := by
    intro y2 y3 a hm hv hf hi0 hi1 hi2 hi3 hi4 hi5 hi6 hch hi8 hi9 hi10 hi11 hi12
    refine jt_eq (bq_X8_takesWord_r1007_29 E d y2 y3 a b0) ?_
    have h560_ := iv_get hv (k := 2) (j := 1) (l := 0) (u := 200) rfl
    have h561_ : a 2 1 = a0 2 1 := hf 2 1 rfl
    have h562_ := iv_get hv0 (k := 2) (j := 1) (l := 0) (u := 200) rfl
    have h563_ := iv_get hv (k := 2) (j := 2) (l := 0) (u := 200) rfl
    have h564_ := iv_get hv0 (k := 2) (j := 2) (l := 0) (u := 200) rfl
    have h3 : a 3 = a0 3 := funext fun j => hf 3 j rfl
    have h21 := hf 2 1 rfl
    refine jt_eI (eq_J0_length_8abf5_r1007 E d (jd_le hd rfl) a b0) ?_
    have h565_ := ff_J0_length_8abf5_r1007 a b0
    refine jt_ite (fun c566_ => ?_) (fun c566_ => ?_)
    ·
      have h567_ : jxw ((a 2 2) + y3) = (a 2 2) + y3 := jxw_id (by omega) (by omega)
      refine jt_grd (by omega) ?_
      refine jt_eI (eq_J0_charAt_5068e_r1007 E d (jd_le hd rfl) y3 a b0 (show (0 ≤ y3 ∧ y3 < 3) from by omega)) ?_
      have h568_ := iv_get hv (k := 3) (j := (jxw ((a 2 2) + y3)).toNat) (l := 0) (u := 255) rfl
      have h569_ : a 3 ((jxw ((a 2 2) + y3)).toNat) = a0 3 ((jxw ((a 2 2) + y3)).toNat) := hf 3 ((jxw ((a 2 2) + y3)).toNat) rfl
      have h570_ := iv_get hv0 (k := 3) (j := (jxw ((a 2 2) + y3)).toNat) (l := 0) (u := 255) rfl
      have h571_ := f_J0_charAt_5068e_r1007_eq a b0 y3
      have h572_ := f_J0_isLatin1_aae02_r1007_eq a b0
      have h573_ := f_J1_charAt_3b067_r2007_eq a b0 y3
      have h574_ := jxand_r (([97, 110, 121] : List Int).getD (y3.toNat) 0) 255 (by decide) (by decide)
      have h575_ := jxi2c_b (jxand (([97, 110, 121] : List Int).getD (y3.toNat) 0) 255)
      refine jt_ite (fun c576_ => ?_) (fun c576_ => ?_)
      ·
        exact hc58 y2 y3 a (show (((3 - y3) * 1) + 0).toNat ≤ n from by omega) hv hf (show 3 ≤ y2 from by omega) (show y2 ≤ 200 from by omega) (show 0 ≤ y3 from by omega) (show y3 ≤ 2 from by omega) (show 3 ≤ a 2 1 from by omega) (show y3 < 3 from by omega) (show 0 ≤ y3 from by omega) (show a 2 2 = a0 2 2 from by omega) (ch_ext hch (by omega) (q := (jxw ((a 2 2) + y3)).toNat) (by omega) (v := f_J0_charAt_5068e_r1007 a b0 y3) (by rw [← h3]; assumption) (cw_1007 a b0 y3 (by omega) (by omega))) (show y2 = (a 2 2) + 3 from by omega) (show y2 ≤ a 2 1 from by omega) (show y2 ≤ 200 from by omega) (show a0 2 3 = 0 from by omega) (show a0 2 2 < a0 2 1 from by omega)
      ·
        exact cp_X8_takesWord_r1007_56 E d hd a0 b0 hv0 a hv hf (show 3 ≤ a 2 1 from by omega) (show a 2 2 = a0 2 2 from by omega) (TW_no (y := y3) (by omega) (show y3 < 3 by omega) (q := (jxw ((a 2 2) + y3)).toNat) (by omega) (v := f_J0_charAt_5068e_r1007 a b0 y3) (cw_1007 a b0 y3 (by omega) (by omega)) (by rw [← h3]; assumption)) (show a0 2 3 = 0 from by omega) (show a0 2 2 < a0 2 1 from by omega)
    ·
      refine jt_ite (fun c577_ => ?_) (fun c577_ => ?_)
      ·
        refine jt_grd (by omega) ?_
        have h578_ := iv_get hv (k := 3) (j := y2.toNat) (l := 0) (u := 255) rfl
        have h579_ : a 3 (y2.toNat) = a0 3 (y2.toNat) := hf 3 (y2.toNat) rfl
        have h580_ := iv_get hv0 (k := 3) (j := y2.toNat) (l := 0) (u := 255) rfl
        refine jt_ite (fun c581_ => ?_) (fun c581_ => ?_)
        ·
          exact cp_X8_takesWord_r1007_96 E d hd a0 b0 hv0 y2 a hv hf (show 3 ≤ y2 from by omega) (show y2 ≤ 200 from by omega) (show 3 ≤ a 2 1 from by omega) (show a 2 2 = a0 2 2 from by omega) (TW_mk (q := y2.toNat) (show y2.toNat = (a0 2 2).toNat + 3 by omega) (by omega) (by first | exact hall | exact (fun k hk => hch k (by have hw : ((wdn 9 : Nat) : Int) = 3 := rfl; omega))) (LT_no1 (by rw [← h3]; omega))) (show y2 = (a 2 2) + 3 from by omega) (show y2 ≤ a 2 1 from by omega) (show y2 ≤ 200 from by omega) (show a0 2 3 = 0 from by omega) (show a0 2 2 < a0 2 1 from by omega)
        ·
          exact cp_X8_takesWord_r1007_83 E d hd a0 b0 hv0 y2 a hv hf (show 3 ≤ y2 from by omega) (show y2 ≤ 199 from by omega) (show 4 ≤ a 2 1 from by omega) (show a 2 2 = a0 2 2 from by omega) (show y2 < a 2 1 from by omega) (fun k hk => hch k (by have hw : ((wdn 9 : Nat) : Int) = 3 := rfl; omega)) (by rw [← h3]; omega) (show y2 = (a 2 2) + 3 from by omega) (show y2 ≤ a 2 1 from by omega) (show y2 ≤ 200 from by omega) (show a0 2 3 = 0 from by omega) (show a0 2 2 < a0 2 1 from by omega)
      ·
        exact cp_X8_takesWord_r1007_96 E d hd a0 b0 hv0 y2 a hv hf (show 3 ≤ y2 from by omega) (show y2 ≤ 200 from by omega) (show 3 ≤ a 2 1 from by omega) (show a 2 2 = a0 2 2 from by omega) (TW_mk (q := y2.toNat) (show y2.toNat = (a0 2 2).toNat + 3 by omega) (by omega) (by first | exact hall | exact (fun k hk => hch k (by have hw : ((wdn 9 : Nat) : Int) = 3 := rfl; omega))) (LT_no1 (by rw [← h3]; omega))) (show y2 = (a 2 2) + 3 from by omega) (show y2 ≤ a 2 1 from by omega) (show y2 ≤ 200 from by omega) (show a0 2 3 = 0 from by omega) (show a0 2 2 < a0 2 1 from by omega)
  exact ⟨hc58, hc29⟩
theorem sp_X8_takesWord_r1007 (E : jxE) (d : Nat) (hd : Nat.ble 5 d = true) (a0 b0 : Nat → Nat → Int) (hv0 : iv a0) : jt (jxC E d 128 [.inr (.inr (.inl 2)), .inr (.inr (.inl 1007))] (jxSH, a0, b0)) (jQ_X8_takesWord_r1007 a0 b0) := by
  obtain ⟨d, rfl⟩ := jd_succ hd
  refine jt_eq (bq_X8_takesWord_r1007 E d a0 b0) ?_
  refine jt_eI (eq_J0_length_8abf5_r1007 E d (jd_le hd rfl) a0 b0) ?_
  refine jt_eI (eq_X8_isFaulty E d (jd_le hd rfl) a0 b0) ?_
  have h582_ := f_X8_isFaulty_eq a0 b0
  refine jt_ite (fun c583_ => ?_) (fun c583_ => ?_)
  ·
    have h584_ := iv_get hv0 (k := 2) (j := 1) (l := 0) (u := 200) rfl
    have h585_ := iv_get hv0 (k := 2) (j := 2) (l := 0) (u := 200) rfl
    have h586_ := ff_J0_length_8abf5_r1007 a0 b0
    have h587_ : jxw ((a0 2 2) + (f_J0_length_8abf5_r1007 a0 b0)) = (a0 2 2) + (f_J0_length_8abf5_r1007 a0 b0) := jxw_id (by omega) (by omega)
    refine jt_ite (fun c588_ => ?_) (fun c588_ => ?_)
    ·
      exact jt_rI ⟨hv0, (jfr_rf _ _), rfl, (show (0 ≤ 0 ∧ 0 ≤ 1) from by omega), (show ((¬ a0 2 3 = 0 ∨ a0 2 1 ≤ a0 2 2) → 0 = 0) from by omega), (show (0 = 0 → a0 2 2 = a0 2 2) from by omega), (by first | exact (fun h => absurd h (by decide)) | exact (fun _ => ⟨by omega, htw, by have h := hq0_1; rw [show (a0 2 2).toNat + wdn 9 = y2.toNat from (by show _ + 3 = _; omega), ← h3, ← h21]; exact h⟩)), (by first | exact (fun h => absurd h (by decide)) | exact (fun _ => Or.inr hnt) | exact (fun _ => Or.inl (by omega)) | exact (fun _ => Or.inr (TW_short (show _ < _ + 3 by omega))) | exact (fun _ => Or.inr (TW_let (q := y2.toNat) (show y2.toNat = (a0 2 2).toNat + 3 by omega) ⟨by omega, h97, by rw [← h3]; omega⟩)))⟩
    ·
      exact (cp_X8_takesWord_r1007_29 E d hd a0 b0 hv0 _).2 (jxw ((a0 2 2) + (f_J0_length_8abf5_r1007 a0 b0))) 0 a0 (Nat.le_refl _) hv0 (jfr_rf _ _) (show 3 ≤ jxw ((a0 2 2) + (f_J0_length_8abf5_r1007 a0 b0)) from by omega) (show jxw ((a0 2 2) + (f_J0_length_8abf5_r1007 a0 b0)) ≤ 200 from by omega) (show 0 ≤ 0 from by omega) (show 0 ≤ 3 from by omega) (show 3 ≤ a0 2 1 from by omega) (show 0 ≤ 0 from by omega) (show a0 2 2 = a0 2 2 from by omega) (by first | exact (fun k hk => absurd hk (by omega)) | (rw [show jxw (y3 + 1) = y3 + 1 from by omega]; exact hch)) (show jxw ((a0 2 2) + (f_J0_length_8abf5_r1007 a0 b0)) = (a0 2 2) + 3 from by omega) (show jxw ((a0 2 2) + (f_J0_length_8abf5_r1007 a0 b0)) ≤ a0 2 1 from by omega) (show jxw ((a0 2 2) + (f_J0_length_8abf5_r1007 a0 b0)) ≤ 200 from by omega) (show a0 2 3 = 0 from by omega) (show a0 2 2 < a0 2 1 from by omega)
  ·
    have h589_ := iv_get hv0 (k := 2) (j := 1) (l := 0) (u := 200) rfl
    have h590_ := iv_get hv0 (k := 2) (j := 2) (l := 0) (u := 200) rfl
    exact jt_rI ⟨hv0, (jfr_rf _ _), rfl, (show (0 ≤ 0 ∧ 0 ≤ 1) from by omega), (show ((¬ a0 2 3 = 0 ∨ a0 2 1 ≤ a0 2 2) → 0 = 0) from by omega), (show (0 = 0 → a0 2 2 = a0 2 2) from by omega), (by first | exact (fun h => absurd h (by decide)) | exact (fun _ => ⟨by omega, htw, by have h := hq0_1; rw [show (a0 2 2).toNat + wdn 9 = y2.toNat from (by show _ + 3 = _; omega), ← h3, ← h21]; exact h⟩)), (by first | exact (fun h => absurd h (by decide)) | exact (fun _ => Or.inr hnt) | exact (fun _ => Or.inl (by omega)) | exact (fun _ => Or.inr (TW_short (show _ < _ + 3 by omega))) | exact (fun _ => Or.inr (TW_let (q := y2.toNat) (show y2.toNat = (a0 2 2).toNat + 3 by omega) ⟨by omega, h97, by rw [← h3]; omega⟩)))⟩
def jW_X8_takesWord_r1008 : List (Nat × Nat) := [(2, 2)]
abbrev jQ_X8_takesWord_r1008 (a0 b0 : Nat → Nat → Int) : List jxV → (Nat → Nat → Int) → (Nat → Nat → Int) → Prop := rI (fun r a b => (iv a) ∧ (jfr jW_X8_takesWord_r1008 a0 a) ∧ (b0 = b) ∧ ((0 ≤ r ∧ r ≤ 1)) ∧ (((¬ a0 2 3 = 0 ∨ a0 2 1 ≤ a0 2 2) → r = 0)) ∧ ((r = 0 → a 2 2 = a0 2 2)) ∧ (r = 1 → a0 2 3 = 0 ∧ TW (a0 3) (a0 2 1).toNat (a0 2 2).toNat 1 ∧ a 2 2 = ((SK (a0 3) (a0 2 1).toNat ((a0 2 2).toNat + wdn 1) : Nat) : Int)) ∧ (r = 0 → ¬ a0 2 3 = 0 ∨ ¬ TW (a0 3) (a0 2 1).toNat (a0 2 2).toNat 1))
theorem cp_X8_takesWord_r1008_56 (E : jxE) (d : Nat) (hd : Nat.ble 5 (d + 1) = true) (a0 b0 : Nat → Nat → Int) (hv0 : iv a0) : ∀ (a : Nat → Nat → Int), iv a → jfr jW_X8_takesWord_r1008 a0 a → 3 ≤ a 2 1 → a 2 2 = a0 2 2 → (¬ TW (a0 3) (a0 2 1).toNat (a0 2 2).toNat 1) → a0 2 3 = 0 → a0 2 2 < a0 2 1 → jt (jxX E d 128 56 [none, none, none, none] [] (jxSH, a, b0)) (jQ_X8_takesWord_r1008 a0 b0) := by
  intro a hv hf hi0 hi1 hnt hi3 hi4
  refine jt_eq (bq_X8_takesWord_r1008_56 E d a b0) ?_
  have h591_ := iv_get hv (k := 2) (j := 1) (l := 0) (u := 200) rfl
  have h592_ : a 2 1 = a0 2 1 := hf 2 1 rfl
  have h593_ := iv_get hv0 (k := 2) (j := 1) (l := 0) (u := 200) rfl
  have h594_ := iv_get hv (k := 2) (j := 2) (l := 0) (u := 200) rfl
  have h595_ := iv_get hv0 (k := 2) (j := 2) (l := 0) (u := 200) rfl
  have h3 : a 3 = a0 3 := funext fun j => hf 3 j rfl
  have h21 := hf 2 1 rfl
  exact jt_rI ⟨hv, hf, rfl, (show (0 ≤ 0 ∧ 0 ≤ 1) from by omega), (show ((¬ a0 2 3 = 0 ∨ a0 2 1 ≤ a0 2 2) → 0 = 0) from by omega), (show (0 = 0 → a 2 2 = a0 2 2) from by omega), (by first | exact (fun h => absurd h (by decide)) | exact (fun _ => ⟨by omega, htw, by have h := hq0_1; rw [show (a0 2 2).toNat + wdn 1 = y2.toNat from (by show _ + 3 = _; omega), ← h3, ← h21]; exact h⟩)), (by first | exact (fun h => absurd h (by decide)) | exact (fun _ => Or.inr hnt) | exact (fun _ => Or.inl (by omega)) | exact (fun _ => Or.inr (TW_short (show _ < _ + 3 by omega))) | exact (fun _ => Or.inr (TW_let (q := y2.toNat) (show y2.toNat = (a0 2 2).toNat + 3 by omega) ⟨by omega, h97, by rw [← h3]; omega⟩)))⟩
theorem cp_X8_takesWord_r1008_96 (E : jxE) (d : Nat) (hd : Nat.ble 5 (d + 1) = true) (a0 b0 : Nat → Nat → Int) (hv0 : iv a0) : ∀ (y2 : Int) (a : Nat → Nat → Int), iv a → jfr jW_X8_takesWord_r1008 a0 a → 3 ≤ y2 → y2 ≤ 200 → 3 ≤ a 2 1 → a 2 2 = a0 2 2 → (TW (a0 3) (a0 2 1).toNat (a0 2 2).toNat 1) → y2 = (a 2 2) + 3 → y2 ≤ a 2 1 → y2 ≤ 200 → a0 2 3 = 0 → a0 2 2 < a0 2 1 → jt (jxX E d 128 96 [some (.inr (.inr (.inl 2))), none, some (.inl y2), none] [] (jxSH, a, b0)) (jQ_X8_takesWord_r1008 a0 b0) := by
  intro y2 a hv hf hi0 hi1 hi2 hi3 htw hi5 hi6 hi7 hi8 hi9
  refine jt_eq (bq_X8_takesWord_r1008_96 E d y2 a b0) ?_
  have h596_ := iv_get hv (k := 2) (j := 1) (l := 0) (u := 200) rfl
  have h597_ : a 2 1 = a0 2 1 := hf 2 1 rfl
  have h598_ := iv_get hv0 (k := 2) (j := 1) (l := 0) (u := 200) rfl
  have h599_ := iv_get hv (k := 2) (j := 2) (l := 0) (u := 200) rfl
  have h600_ := iv_get hv0 (k := 2) (j := 2) (l := 0) (u := 200) rfl
  have h3 : a 3 = a0 3 := funext fun j => hf 3 j rfl
  have h21 := hf 2 1 rfl
  have hv601_ : iv (jxu a 2 2 y2) := iv_put hv (l := 0) (u := 200) rfl (by omega) (by omega)
  refine jt_bV (sp_X8_skipBlanks E d (jd_le hd rfl) (jxu a 2 2 y2) b0 hv601_) (fun a602_ b602_ h602_ => ?_)
  obtain ⟨hv602_, hf602_, rfl, hq602_0, hq602_1⟩ := h602_
  have h603_ := iv_get hv602_ (k := 2) (j := 2) (l := 0) (u := 200) rfl
  have h604_ : (a 2 1 ≤ y2 → a602_ 2 2 = y2) := hq602_0
  have hf605_ : jfr jW_X8_takesWord_r1008 a0 (jxu a 2 2 y2) := jfr_put hf rfl
  have hf606_ : jfr jW_X8_takesWord_r1008 a0 a602_ := jfr_tr hf605_ hf602_ rfl
  exact jt_rI ⟨hv602_, hf606_, rfl, (show (0 ≤ 1 ∧ 1 ≤ 1) from by omega), (show ((¬ a0 2 3 = 0 ∨ a0 2 1 ≤ a0 2 2) → 1 = 0) from by omega), (show (1 = 0 → a602_ 2 2 = a0 2 2) from by omega), (by first | exact (fun h => absurd h (by decide)) | exact (fun _ => ⟨by omega, htw, by have h := hq602_1; rw [show (a0 2 2).toNat + wdn 1 = y2.toNat from (by show _ + 3 = _; omega), ← h3, ← h21]; exact h⟩)), (by first | exact (fun h => absurd h (by decide)) | exact (fun _ => Or.inr hnt) | exact (fun _ => Or.inl (by omega)) | exact (fun _ => Or.inr (TW_short (show _ < _ + 3 by omega))) | exact (fun _ => Or.inr (TW_let (q := y2.toNat) (show y2.toNat = (a0 2 2).toNat + 3 by omega) ⟨by omega, h97, by rw [← h3]; omega⟩)))⟩
theorem cp_X8_takesWord_r1008_83 (E : jxE) (d : Nat) (hd : Nat.ble 5 (d + 1) = true) (a0 b0 : Nat → Nat → Int) (hv0 : iv a0) : ∀ (y2 : Int) (a : Nat → Nat → Int), iv a → jfr jW_X8_takesWord_r1008 a0 a → 3 ≤ y2 → y2 ≤ 199 → 4 ≤ a 2 1 → a 2 2 = a0 2 2 → y2 < a 2 1 → (∀ k : Nat, (k : Int) < (wdn 1 : Int) → (a0 3) ((a0 2 2).toNat + k) = (wdl 1).getD k 0) → (97 ≤ a0 3 y2.toNat) → y2 = (a 2 2) + 3 → y2 ≤ a 2 1 → y2 ≤ 200 → a0 2 3 = 0 → a0 2 2 < a0 2 1 → jt (jxX E d 128 83 [some (.inr (.inr (.inl 2))), none, some (.inl y2), none] [] (jxSH, a, b0)) (jQ_X8_takesWord_r1008 a0 b0) := by
  intro y2 a hv hf hi0 hi1 hi2 hi3 hi4 hall h97 hi7 hi8 hi9 hi10 hi11
  refine jt_eq (bq_X8_takesWord_r1008_83 E d y2 a b0) ?_
  have h607_ := iv_get hv (k := 2) (j := 1) (l := 0) (u := 200) rfl
  have h608_ : a 2 1 = a0 2 1 := hf 2 1 rfl
  have h609_ := iv_get hv0 (k := 2) (j := 1) (l := 0) (u := 200) rfl
  have h610_ := iv_get hv (k := 2) (j := 2) (l := 0) (u := 200) rfl
  have h611_ := iv_get hv0 (k := 2) (j := 2) (l := 0) (u := 200) rfl
  have h3 : a 3 = a0 3 := funext fun j => hf 3 j rfl
  have h21 := hf 2 1 rfl
  refine jt_grd (by omega) ?_
  have h612_ := iv_get hv (k := 3) (j := y2.toNat) (l := 0) (u := 255) rfl
  have h613_ : a 3 (y2.toNat) = a0 3 (y2.toNat) := hf 3 (y2.toNat) rfl
  have h614_ := iv_get hv0 (k := 3) (j := y2.toNat) (l := 0) (u := 255) rfl
  refine jt_ite (fun c615_ => ?_) (fun c615_ => ?_)
  ·
    exact cp_X8_takesWord_r1008_96 E d hd a0 b0 hv0 y2 a hv hf (show 3 ≤ y2 from by omega) (show y2 ≤ 200 from by omega) (show 3 ≤ a 2 1 from by omega) (show a 2 2 = a0 2 2 from by omega) (TW_mk (q := y2.toNat) (show y2.toNat = (a0 2 2).toNat + 3 by omega) (by omega) (by first | exact hall | exact (fun k hk => hch k (by have hw : ((wdn 1 : Nat) : Int) = 3 := rfl; omega))) (LT_no1 (by rw [← h3]; omega))) (show y2 = (a 2 2) + 3 from by omega) (show y2 ≤ a 2 1 from by omega) (show y2 ≤ 200 from by omega) (show a0 2 3 = 0 from by omega) (show a0 2 2 < a0 2 1 from by omega)
  ·
    exact jt_rI ⟨hv, hf, rfl, (show (0 ≤ 0 ∧ 0 ≤ 1) from by omega), (show ((¬ a0 2 3 = 0 ∨ a0 2 1 ≤ a0 2 2) → 0 = 0) from by omega), (show (0 = 0 → a 2 2 = a0 2 2) from by omega), (by first | exact (fun h => absurd h (by decide)) | exact (fun _ => ⟨by omega, htw, by have h := hq0_1; rw [show (a0 2 2).toNat + wdn 1 = y2.toNat from (by show _ + 3 = _; omega), ← h3, ← h21]; exact h⟩)), (by first | exact (fun h => absurd h (by decide)) | exact (fun _ => Or.inr hnt) | exact (fun _ => Or.inl (by omega)) | exact (fun _ => Or.inr (TW_short (show _ < _ + 3 by omega))) | exact (fun _ => Or.inr (TW_let (q := y2.toNat) (show y2.toNat = (a0 2 2).toNat + 3 by omega) ⟨by omega, h97, by rw [← h3]; omega⟩)))⟩
theorem cp_X8_takesWord_r1008_29 (E : jxE) (d : Nat) (hd : Nat.ble 5 (d + 1) = true) (a0 b0 : Nat → Nat → Int) (hv0 : iv a0) : ∀ n : Nat, (∀ (y2 y3 : Int) (a : Nat → Nat → Int), (((3 - y3) * 1) + 0).toNat ≤ n → iv a → jfr jW_X8_takesWord_r1008 a0 a → 3 ≤ y2 → y2 ≤ 200 → 0 ≤ y3 → y3 ≤ 2 → 3 ≤ a 2 1 → y3 < 3 → 0 ≤ y3 → a 2 2 = a0 2 2 → (∀ k : Nat, (k : Int) < y3 + 1 → (a0 3) ((a0 2 2).toNat + k) = (wdl 1).getD k 0) → y2 = (a 2 2) + 3 → y2 ≤ a 2 1 → y2 ≤ 200 → a0 2 3 = 0 → a0 2 2 < a0 2 1 → jt (jxX E d 128 58 [some (.inr (.inr (.inl 2))), some (.inr (.inr (.inl 1008))), some (.inl y2), some (.inl y3)] [] (jxSH, a, b0)) (jQ_X8_takesWord_r1008 a0 b0)) ∧ (∀ (y2 y3 : Int) (a : Nat → Nat → Int), (((3 - y3) * 1) + 0).toNat ≤ n → iv a → jfr jW_X8_takesWord_r1008 a0 a → 3 ≤ y2 → y2 ≤ 200 → 0 ≤ y3 → y3 ≤ 3 → 3 ≤ a 2 1 → 0 ≤ y3 → a 2 2 = a0 2 2 → (∀ k : Nat, (k : Int) < y3 → (a0 3) ((a0 2 2).toNat + k) = (wdl 1).getD k 0) → y2 = (a 2 2) + 3 → y2 ≤ a 2 1 → y2 ≤ 200 → a0 2 3 = 0 → a0 2 2 < a0 2 1 → jt (jxX E d 128 29 [some (.inr (.inr (.inl 2))), some (.inr (.inr (.inl 1008))), some (.inl y2), some (.inl y3)] [] (jxSH, a, b0)) (jQ_X8_takesWord_r1008 a0 b0)) := by
  refine jx_ind fun n ih => ?_
  have ih58 : ∀ (y2 y3 : Int) (a : Nat → Nat → Int), (((3 - y3) * 1) + 0).toNat < n → iv a → jfr jW_X8_takesWord_r1008 a0 a → 3 ≤ y2 → y2 ≤ 200 → 0 ≤ y3 → y3 ≤ 2 → 3 ≤ a 2 1 → y3 < 3 → 0 ≤ y3 → a 2 2 = a0 2 2 → (∀ k : Nat, (k : Int) < y3 + 1 → (a0 3) ((a0 2 2).toNat + k) = (wdl 1).getD k 0) → y2 = (a 2 2) + 3 → y2 ≤ a 2 1 → y2 ≤ 200 → a0 2 3 = 0 → a0 2 2 < a0 2 1 → jt (jxX E d 128 58 [some (.inr (.inr (.inl 2))), some (.inr (.inr (.inl 1008))), some (.inl y2), some (.inl y3)] [] (jxSH, a, b0)) (jQ_X8_takesWord_r1008 a0 b0) := fun y2 y3 a hlt i0 i1 i2 i3 i4 i5 i6 i7 i8 i9 i10 i11 i12 i13 i14 i15 => (ih _ hlt).1 y2 y3 a (Nat.le_refl _) i0 i1 i2 i3 i4 i5 i6 i7 i8 i9 i10 i11 i12 i13 i14 i15
  have ih29 : ∀ (y2 y3 : Int) (a : Nat → Nat → Int), (((3 - y3) * 1) + 0).toNat < n → iv a → jfr jW_X8_takesWord_r1008 a0 a → 3 ≤ y2 → y2 ≤ 200 → 0 ≤ y3 → y3 ≤ 3 → 3 ≤ a 2 1 → 0 ≤ y3 → a 2 2 = a0 2 2 → (∀ k : Nat, (k : Int) < y3 → (a0 3) ((a0 2 2).toNat + k) = (wdl 1).getD k 0) → y2 = (a 2 2) + 3 → y2 ≤ a 2 1 → y2 ≤ 200 → a0 2 3 = 0 → a0 2 2 < a0 2 1 → jt (jxX E d 128 29 [some (.inr (.inr (.inl 2))), some (.inr (.inr (.inl 1008))), some (.inl y2), some (.inl y3)] [] (jxSH, a, b0)) (jQ_X8_takesWord_r1008 a0 b0) := fun y2 y3 a hlt i0 i1 i2 i3 i4 i5 i6 i7 i8 i9 i10 i11 i12 i13 i14 => (ih _ hlt).2 y2 y3 a (Nat.le_refl _) i0 i1 i2 i3 i4 i5 i6 i7 i8 i9 i10 i11 i12 i13 i14
  have hc58 : ∀ (y2 y3 : Int) (a : Nat → Nat → Int), (((3 - y3) * 1) + 0).toNat ≤ n → iv a → jfr jW_X8_takesWord_r1008 a0 a → 3 ≤ y2 → y2 ≤ 200 → 0 ≤ y3 → y3 ≤ 2 → 3 ≤ a 2 1 → y3 < 3 → 0 ≤ y3 → a 2 2 = a0 2 2 → (∀ k : Nat, (k : Int) < y3 + 1 → (a0 3) ((a0 2 2).toNat + k) = (wdl 1).getD k 0) → y2 = (a 2 2) + 3 → y2 ≤ a 2 1 → y2 ≤ 200 → a0 2 3 = 0 → a0 2 2 < a0 2 1 → jt (jxX E d 128 58 [some (.inr (.inr (.inl 2))), some (.inr (.inr (.inl 1008))), some (.inl y2), some (.inl y3)] [] (jxSH, a, b0)) (jQ_X8_takesWord_r1008 a0 b0) := by
    intro y2 y3 a hm hv hf hi0 hi1 hi2 hi3 hi4 hi5 hi6 hi7 hch hi9 hi10 hi11 hi12 hi13
    refine jt_eq (bq_X8_takesWord_r1008_58 E d y2 y3 a b0) ?_
    have h616_ := iv_get hv (k := 2) (j := 1) (l := 0) (u := 200) rfl
    have h617_ : a 2 1 = a0 2 1 := hf 2 1 rfl
    have h618_ := iv_get hv0 (k := 2) (j := 1) (l := 0) (u := 200) rfl
    have h619_ := iv_get hv (k := 2) (j := 2) (l := 0) (u := 200) rfl
    have h620_ := iv_get hv0 (k := 2) (j := 2) (l := 0) (u := 200) rfl
    have h3 : a 3 = a0 3 := funext fun j => hf 3 j rfl
    have h21 := hf 2 1 rfl
    have h621_ : jxw (y3 + 1) = y3 + 1 := jxw_id (by omega) (by omega)
    exact ih29 y2 (jxw (y3 + 1)) a (show (((3 - (jxw (y3 + 1))) * 1) + 0).toNat < n from by omega) hv hf (show 3 ≤ y2 from by omega) (show y2 ≤ 200 from by omega) (show 0 ≤ jxw (y3 + 1) from by omega) (show jxw (y3 + 1) ≤ 3 from by omega) (show 3 ≤ a 2 1 from by omega) (show 0 ≤ jxw (y3 + 1) from by omega) (show a 2 2 = a0 2 2 from by omega) (by first | exact (fun k hk => absurd hk (by omega)) | (rw [show jxw (y3 + 1) = y3 + 1 from by omega]; exact hch)) (show y2 = (a 2 2) + 3 from by omega) (show y2 ≤ a 2 1 from by omega) (show y2 ≤ 200 from by omega) (show a0 2 3 = 0 from by omega) (show a0 2 2 < a0 2 1 from by omega)
  have hc29 : ∀ (y2 y3 : Int) (a : Nat → Nat → Int), (((3 - y3) * 1) + 0).toNat ≤ n → iv a → jfr jW_X8_takesWord_r1008 a0 a → 3 ≤ y2 → y2 ≤ 200 → 0 ≤ y3 → y3 ≤ 3 → 3 ≤ a 2 1 → 0 ≤ y3 → a 2 2 = a0 2 2 → (∀ k : Nat, (k : Int) < y3 → (a0 3) ((a0 2 2).toNat + k) = (wdl 1).getD k 0) → y2 = (a 2 2) + 3 → y2 ≤ a 2 1 → y2 ≤ 200 → a0 2 3 = 0 → a0 2 2 < a0 2 1 → jt (jxX E d 128 29 [some (.inr (.inr (.inl 2))), some (.inr (.inr (.inl 1008))), some (.inl y2), some (.inl y3)] [] (jxSH, a, b0)) (jQ_X8_takesWord_r1008 a0 b0) := by
    intro y2 y3 a hm hv hf hi0 hi1 hi2 hi3 hi4 hi5 hi6 hch hi8 hi9 hi10 hi11 hi12
    refine jt_eq (bq_X8_takesWord_r1008_29 E d y2 y3 a b0) ?_
    have h622_ := iv_get hv (k := 2) (j := 1) (l := 0) (u := 200) rfl
    have h623_ : a 2 1 = a0 2 1 := hf 2 1 rfl
    have h624_ := iv_get hv0 (k := 2) (j := 1) (l := 0) (u := 200) rfl
    have h625_ := iv_get hv (k := 2) (j := 2) (l := 0) (u := 200) rfl
    have h626_ := iv_get hv0 (k := 2) (j := 2) (l := 0) (u := 200) rfl
    have h3 : a 3 = a0 3 := funext fun j => hf 3 j rfl
    have h21 := hf 2 1 rfl
    refine jt_eI (eq_J0_length_8abf5_r1008 E d (jd_le hd rfl) a b0) ?_
    have h627_ := ff_J0_length_8abf5_r1008 a b0
    refine jt_ite (fun c628_ => ?_) (fun c628_ => ?_)
    ·
      have h629_ : jxw ((a 2 2) + y3) = (a 2 2) + y3 := jxw_id (by omega) (by omega)
      refine jt_grd (by omega) ?_
      refine jt_eI (eq_J0_charAt_5068e_r1008 E d (jd_le hd rfl) y3 a b0 (show (0 ≤ y3 ∧ y3 < 3) from by omega)) ?_
      have h630_ := iv_get hv (k := 3) (j := (jxw ((a 2 2) + y3)).toNat) (l := 0) (u := 255) rfl
      have h631_ : a 3 ((jxw ((a 2 2) + y3)).toNat) = a0 3 ((jxw ((a 2 2) + y3)).toNat) := hf 3 ((jxw ((a 2 2) + y3)).toNat) rfl
      have h632_ := iv_get hv0 (k := 3) (j := (jxw ((a 2 2) + y3)).toNat) (l := 0) (u := 255) rfl
      have h633_ := f_J0_charAt_5068e_r1008_eq a b0 y3
      have h634_ := f_J0_isLatin1_aae02_r1008_eq a b0
      have h635_ := f_J1_charAt_3b067_r2008_eq a b0 y3
      have h636_ := jxand_r (([97, 110, 100] : List Int).getD (y3.toNat) 0) 255 (by decide) (by decide)
      have h637_ := jxi2c_b (jxand (([97, 110, 100] : List Int).getD (y3.toNat) 0) 255)
      refine jt_ite (fun c638_ => ?_) (fun c638_ => ?_)
      ·
        exact hc58 y2 y3 a (show (((3 - y3) * 1) + 0).toNat ≤ n from by omega) hv hf (show 3 ≤ y2 from by omega) (show y2 ≤ 200 from by omega) (show 0 ≤ y3 from by omega) (show y3 ≤ 2 from by omega) (show 3 ≤ a 2 1 from by omega) (show y3 < 3 from by omega) (show 0 ≤ y3 from by omega) (show a 2 2 = a0 2 2 from by omega) (ch_ext hch (by omega) (q := (jxw ((a 2 2) + y3)).toNat) (by omega) (v := f_J0_charAt_5068e_r1008 a b0 y3) (by rw [← h3]; assumption) (cw_1008 a b0 y3 (by omega) (by omega))) (show y2 = (a 2 2) + 3 from by omega) (show y2 ≤ a 2 1 from by omega) (show y2 ≤ 200 from by omega) (show a0 2 3 = 0 from by omega) (show a0 2 2 < a0 2 1 from by omega)
      ·
        exact cp_X8_takesWord_r1008_56 E d hd a0 b0 hv0 a hv hf (show 3 ≤ a 2 1 from by omega) (show a 2 2 = a0 2 2 from by omega) (TW_no (y := y3) (by omega) (show y3 < 3 by omega) (q := (jxw ((a 2 2) + y3)).toNat) (by omega) (v := f_J0_charAt_5068e_r1008 a b0 y3) (cw_1008 a b0 y3 (by omega) (by omega)) (by rw [← h3]; assumption)) (show a0 2 3 = 0 from by omega) (show a0 2 2 < a0 2 1 from by omega)
    ·
      refine jt_ite (fun c639_ => ?_) (fun c639_ => ?_)
      ·
        refine jt_grd (by omega) ?_
        have h640_ := iv_get hv (k := 3) (j := y2.toNat) (l := 0) (u := 255) rfl
        have h641_ : a 3 (y2.toNat) = a0 3 (y2.toNat) := hf 3 (y2.toNat) rfl
        have h642_ := iv_get hv0 (k := 3) (j := y2.toNat) (l := 0) (u := 255) rfl
        refine jt_ite (fun c643_ => ?_) (fun c643_ => ?_)
        ·
          exact cp_X8_takesWord_r1008_96 E d hd a0 b0 hv0 y2 a hv hf (show 3 ≤ y2 from by omega) (show y2 ≤ 200 from by omega) (show 3 ≤ a 2 1 from by omega) (show a 2 2 = a0 2 2 from by omega) (TW_mk (q := y2.toNat) (show y2.toNat = (a0 2 2).toNat + 3 by omega) (by omega) (by first | exact hall | exact (fun k hk => hch k (by have hw : ((wdn 1 : Nat) : Int) = 3 := rfl; omega))) (LT_no1 (by rw [← h3]; omega))) (show y2 = (a 2 2) + 3 from by omega) (show y2 ≤ a 2 1 from by omega) (show y2 ≤ 200 from by omega) (show a0 2 3 = 0 from by omega) (show a0 2 2 < a0 2 1 from by omega)
        ·
          exact cp_X8_takesWord_r1008_83 E d hd a0 b0 hv0 y2 a hv hf (show 3 ≤ y2 from by omega) (show y2 ≤ 199 from by omega) (show 4 ≤ a 2 1 from by omega) (show a 2 2 = a0 2 2 from by omega) (show y2 < a 2 1 from by omega) (fun k hk => hch k (by have hw : ((wdn 1 : Nat) : Int) = 3 := rfl; omega)) (by rw [← h3]; omega) (show y2 = (a 2 2) + 3 from by omega) (show y2 ≤ a 2 1 from by omega) (show y2 ≤ 200 from by omega) (show a0 2 3 = 0 from by omega) (show a0 2 2 < a0 2 1 from by omega)
      ·
        exact cp_X8_takesWord_r1008_96 E d hd a0 b0 hv0 y2 a hv hf (show 3 ≤ y2 from by omega) (show y2 ≤ 200 from by omega) (show 3 ≤ a 2 1 from by omega) (show a 2 2 = a0 2 2 from by omega) (TW_mk (q := y2.toNat) (show y2.toNat = (a0 2 2).toNat + 3 by omega) (by omega) (by first | exact hall | exact (fun k hk => hch k (by have hw : ((wdn 1 : Nat) : Int) = 3 := rfl; omega))) (LT_no1 (by rw [← h3]; omega))) (show y2 = (a 2 2) + 3 from by omega) (show y2 ≤ a 2 1 from by omega) (show y2 ≤ 200 from by omega) (show a0 2 3 = 0 from by omega) (show a0 2 2 < a0 2 1 from by omega)
  exact ⟨hc58, hc29⟩
theorem sp_X8_takesWord_r1008 (E : jxE) (d : Nat) (hd : Nat.ble 5 d = true) (a0 b0 : Nat → Nat → Int) (hv0 : iv a0) : jt (jxC E d 128 [.inr (.inr (.inl 2)), .inr (.inr (.inl 1008))] (jxSH, a0, b0)) (jQ_X8_takesWord_r1008 a0 b0) := by
  obtain ⟨d, rfl⟩ := jd_succ hd
  refine jt_eq (bq_X8_takesWord_r1008 E d a0 b0) ?_
  refine jt_eI (eq_J0_length_8abf5_r1008 E d (jd_le hd rfl) a0 b0) ?_
  refine jt_eI (eq_X8_isFaulty E d (jd_le hd rfl) a0 b0) ?_
  have h644_ := f_X8_isFaulty_eq a0 b0
  refine jt_ite (fun c645_ => ?_) (fun c645_ => ?_)
  ·
    have h646_ := iv_get hv0 (k := 2) (j := 1) (l := 0) (u := 200) rfl
    have h647_ := iv_get hv0 (k := 2) (j := 2) (l := 0) (u := 200) rfl
    have h648_ := ff_J0_length_8abf5_r1008 a0 b0
    have h649_ : jxw ((a0 2 2) + (f_J0_length_8abf5_r1008 a0 b0)) = (a0 2 2) + (f_J0_length_8abf5_r1008 a0 b0) := jxw_id (by omega) (by omega)
    refine jt_ite (fun c650_ => ?_) (fun c650_ => ?_)
    ·
      exact jt_rI ⟨hv0, (jfr_rf _ _), rfl, (show (0 ≤ 0 ∧ 0 ≤ 1) from by omega), (show ((¬ a0 2 3 = 0 ∨ a0 2 1 ≤ a0 2 2) → 0 = 0) from by omega), (show (0 = 0 → a0 2 2 = a0 2 2) from by omega), (by first | exact (fun h => absurd h (by decide)) | exact (fun _ => ⟨by omega, htw, by have h := hq0_1; rw [show (a0 2 2).toNat + wdn 1 = y2.toNat from (by show _ + 3 = _; omega), ← h3, ← h21]; exact h⟩)), (by first | exact (fun h => absurd h (by decide)) | exact (fun _ => Or.inr hnt) | exact (fun _ => Or.inl (by omega)) | exact (fun _ => Or.inr (TW_short (show _ < _ + 3 by omega))) | exact (fun _ => Or.inr (TW_let (q := y2.toNat) (show y2.toNat = (a0 2 2).toNat + 3 by omega) ⟨by omega, h97, by rw [← h3]; omega⟩)))⟩
    ·
      exact (cp_X8_takesWord_r1008_29 E d hd a0 b0 hv0 _).2 (jxw ((a0 2 2) + (f_J0_length_8abf5_r1008 a0 b0))) 0 a0 (Nat.le_refl _) hv0 (jfr_rf _ _) (show 3 ≤ jxw ((a0 2 2) + (f_J0_length_8abf5_r1008 a0 b0)) from by omega) (show jxw ((a0 2 2) + (f_J0_length_8abf5_r1008 a0 b0)) ≤ 200 from by omega) (show 0 ≤ 0 from by omega) (show 0 ≤ 3 from by omega) (show 3 ≤ a0 2 1 from by omega) (show 0 ≤ 0 from by omega) (show a0 2 2 = a0 2 2 from by omega) (by first | exact (fun k hk => absurd hk (by omega)) | (rw [show jxw (y3 + 1) = y3 + 1 from by omega]; exact hch)) (show jxw ((a0 2 2) + (f_J0_length_8abf5_r1008 a0 b0)) = (a0 2 2) + 3 from by omega) (show jxw ((a0 2 2) + (f_J0_length_8abf5_r1008 a0 b0)) ≤ a0 2 1 from by omega) (show jxw ((a0 2 2) + (f_J0_length_8abf5_r1008 a0 b0)) ≤ 200 from by omega) (show a0 2 3 = 0 from by omega) (show a0 2 2 < a0 2 1 from by omega)
  ·
    have h651_ := iv_get hv0 (k := 2) (j := 1) (l := 0) (u := 200) rfl
    have h652_ := iv_get hv0 (k := 2) (j := 2) (l := 0) (u := 200) rfl
    exact jt_rI ⟨hv0, (jfr_rf _ _), rfl, (show (0 ≤ 0 ∧ 0 ≤ 1) from by omega), (show ((¬ a0 2 3 = 0 ∨ a0 2 1 ≤ a0 2 2) → 0 = 0) from by omega), (show (0 = 0 → a0 2 2 = a0 2 2) from by omega), (by first | exact (fun h => absurd h (by decide)) | exact (fun _ => ⟨by omega, htw, by have h := hq0_1; rw [show (a0 2 2).toNat + wdn 1 = y2.toNat from (by show _ + 3 = _; omega), ← h3, ← h21]; exact h⟩)), (by first | exact (fun h => absurd h (by decide)) | exact (fun _ => Or.inr hnt) | exact (fun _ => Or.inl (by omega)) | exact (fun _ => Or.inr (TW_short (show _ < _ + 3 by omega))) | exact (fun _ => Or.inr (TW_let (q := y2.toNat) (show y2.toNat = (a0 2 2).toNat + 3 by omega) ⟨by omega, h97, by rw [← h3]; omega⟩)))⟩
def jW_X8_takesWord_r1009 : List (Nat × Nat) := [(2, 2)]
abbrev jQ_X8_takesWord_r1009 (a0 b0 : Nat → Nat → Int) : List jxV → (Nat → Nat → Int) → (Nat → Nat → Int) → Prop := rI (fun r a b => (iv a) ∧ (jfr jW_X8_takesWord_r1009 a0 a) ∧ (b0 = b) ∧ ((0 ≤ r ∧ r ≤ 1)) ∧ (((¬ a0 2 3 = 0 ∨ a0 2 1 ≤ a0 2 2) → r = 0)) ∧ ((r = 0 → a 2 2 = a0 2 2)) ∧ (r = 1 → a0 2 3 = 0 ∧ TW (a0 3) (a0 2 1).toNat (a0 2 2).toNat 0 ∧ a 2 2 = ((SK (a0 3) (a0 2 1).toNat ((a0 2 2).toNat + wdn 0) : Nat) : Int)) ∧ (r = 0 → ¬ a0 2 3 = 0 ∨ ¬ TW (a0 3) (a0 2 1).toNat (a0 2 2).toNat 0))
theorem cp_X8_takesWord_r1009_56 (E : jxE) (d : Nat) (hd : Nat.ble 5 (d + 1) = true) (a0 b0 : Nat → Nat → Int) (hv0 : iv a0) : ∀ (a : Nat → Nat → Int), iv a → jfr jW_X8_takesWord_r1009 a0 a → 2 ≤ a 2 1 → a 2 2 = a0 2 2 → (¬ TW (a0 3) (a0 2 1).toNat (a0 2 2).toNat 0) → a0 2 3 = 0 → a0 2 2 < a0 2 1 → jt (jxX E d 128 56 [none, none, none, none] [] (jxSH, a, b0)) (jQ_X8_takesWord_r1009 a0 b0) := by
  intro a hv hf hi0 hi1 hnt hi3 hi4
  refine jt_eq (bq_X8_takesWord_r1009_56 E d a b0) ?_
  have h653_ := iv_get hv (k := 2) (j := 1) (l := 0) (u := 200) rfl
  have h654_ : a 2 1 = a0 2 1 := hf 2 1 rfl
  have h655_ := iv_get hv0 (k := 2) (j := 1) (l := 0) (u := 200) rfl
  have h656_ := iv_get hv (k := 2) (j := 2) (l := 0) (u := 200) rfl
  have h657_ := iv_get hv0 (k := 2) (j := 2) (l := 0) (u := 200) rfl
  have h3 : a 3 = a0 3 := funext fun j => hf 3 j rfl
  have h21 := hf 2 1 rfl
  exact jt_rI ⟨hv, hf, rfl, (show (0 ≤ 0 ∧ 0 ≤ 1) from by omega), (show ((¬ a0 2 3 = 0 ∨ a0 2 1 ≤ a0 2 2) → 0 = 0) from by omega), (show (0 = 0 → a 2 2 = a0 2 2) from by omega), (by first | exact (fun h => absurd h (by decide)) | exact (fun _ => ⟨by omega, htw, by have h := hq0_1; rw [show (a0 2 2).toNat + wdn 0 = y2.toNat from (by show _ + 2 = _; omega), ← h3, ← h21]; exact h⟩)), (by first | exact (fun h => absurd h (by decide)) | exact (fun _ => Or.inr hnt) | exact (fun _ => Or.inl (by omega)) | exact (fun _ => Or.inr (TW_short (show _ < _ + 2 by omega))) | exact (fun _ => Or.inr (TW_let (q := y2.toNat) (show y2.toNat = (a0 2 2).toNat + 2 by omega) ⟨by omega, h97, by rw [← h3]; omega⟩)))⟩
theorem cp_X8_takesWord_r1009_96 (E : jxE) (d : Nat) (hd : Nat.ble 5 (d + 1) = true) (a0 b0 : Nat → Nat → Int) (hv0 : iv a0) : ∀ (y2 : Int) (a : Nat → Nat → Int), iv a → jfr jW_X8_takesWord_r1009 a0 a → 2 ≤ y2 → y2 ≤ 200 → 2 ≤ a 2 1 → a 2 2 = a0 2 2 → (TW (a0 3) (a0 2 1).toNat (a0 2 2).toNat 0) → y2 = (a 2 2) + 2 → y2 ≤ a 2 1 → y2 ≤ 200 → a0 2 3 = 0 → a0 2 2 < a0 2 1 → jt (jxX E d 128 96 [some (.inr (.inr (.inl 2))), none, some (.inl y2), none] [] (jxSH, a, b0)) (jQ_X8_takesWord_r1009 a0 b0) := by
  intro y2 a hv hf hi0 hi1 hi2 hi3 htw hi5 hi6 hi7 hi8 hi9
  refine jt_eq (bq_X8_takesWord_r1009_96 E d y2 a b0) ?_
  have h658_ := iv_get hv (k := 2) (j := 1) (l := 0) (u := 200) rfl
  have h659_ : a 2 1 = a0 2 1 := hf 2 1 rfl
  have h660_ := iv_get hv0 (k := 2) (j := 1) (l := 0) (u := 200) rfl
  have h661_ := iv_get hv (k := 2) (j := 2) (l := 0) (u := 200) rfl
  have h662_ := iv_get hv0 (k := 2) (j := 2) (l := 0) (u := 200) rfl
  have h3 : a 3 = a0 3 := funext fun j => hf 3 j rfl
  have h21 := hf 2 1 rfl
  have hv663_ : iv (jxu a 2 2 y2) := iv_put hv (l := 0) (u := 200) rfl (by omega) (by omega)
  refine jt_bV (sp_X8_skipBlanks E d (jd_le hd rfl) (jxu a 2 2 y2) b0 hv663_) (fun a664_ b664_ h664_ => ?_)
  obtain ⟨hv664_, hf664_, rfl, hq664_0, hq664_1⟩ := h664_
  have h665_ := iv_get hv664_ (k := 2) (j := 2) (l := 0) (u := 200) rfl
  have h666_ : (a 2 1 ≤ y2 → a664_ 2 2 = y2) := hq664_0
  have hf667_ : jfr jW_X8_takesWord_r1009 a0 (jxu a 2 2 y2) := jfr_put hf rfl
  have hf668_ : jfr jW_X8_takesWord_r1009 a0 a664_ := jfr_tr hf667_ hf664_ rfl
  exact jt_rI ⟨hv664_, hf668_, rfl, (show (0 ≤ 1 ∧ 1 ≤ 1) from by omega), (show ((¬ a0 2 3 = 0 ∨ a0 2 1 ≤ a0 2 2) → 1 = 0) from by omega), (show (1 = 0 → a664_ 2 2 = a0 2 2) from by omega), (by first | exact (fun h => absurd h (by decide)) | exact (fun _ => ⟨by omega, htw, by have h := hq664_1; rw [show (a0 2 2).toNat + wdn 0 = y2.toNat from (by show _ + 2 = _; omega), ← h3, ← h21]; exact h⟩)), (by first | exact (fun h => absurd h (by decide)) | exact (fun _ => Or.inr hnt) | exact (fun _ => Or.inl (by omega)) | exact (fun _ => Or.inr (TW_short (show _ < _ + 2 by omega))) | exact (fun _ => Or.inr (TW_let (q := y2.toNat) (show y2.toNat = (a0 2 2).toNat + 2 by omega) ⟨by omega, h97, by rw [← h3]; omega⟩)))⟩
theorem cp_X8_takesWord_r1009_83 (E : jxE) (d : Nat) (hd : Nat.ble 5 (d + 1) = true) (a0 b0 : Nat → Nat → Int) (hv0 : iv a0) : ∀ (y2 : Int) (a : Nat → Nat → Int), iv a → jfr jW_X8_takesWord_r1009 a0 a → 2 ≤ y2 → y2 ≤ 199 → 3 ≤ a 2 1 → a 2 2 = a0 2 2 → y2 < a 2 1 → (∀ k : Nat, (k : Int) < (wdn 0 : Int) → (a0 3) ((a0 2 2).toNat + k) = (wdl 0).getD k 0) → (97 ≤ a0 3 y2.toNat) → y2 = (a 2 2) + 2 → y2 ≤ a 2 1 → y2 ≤ 200 → a0 2 3 = 0 → a0 2 2 < a0 2 1 → jt (jxX E d 128 83 [some (.inr (.inr (.inl 2))), none, some (.inl y2), none] [] (jxSH, a, b0)) (jQ_X8_takesWord_r1009 a0 b0) := by
  intro y2 a hv hf hi0 hi1 hi2 hi3 hi4 hall h97 hi7 hi8 hi9 hi10 hi11
  refine jt_eq (bq_X8_takesWord_r1009_83 E d y2 a b0) ?_
  have h669_ := iv_get hv (k := 2) (j := 1) (l := 0) (u := 200) rfl
  have h670_ : a 2 1 = a0 2 1 := hf 2 1 rfl
  have h671_ := iv_get hv0 (k := 2) (j := 1) (l := 0) (u := 200) rfl
  have h672_ := iv_get hv (k := 2) (j := 2) (l := 0) (u := 200) rfl
  have h673_ := iv_get hv0 (k := 2) (j := 2) (l := 0) (u := 200) rfl
  have h3 : a 3 = a0 3 := funext fun j => hf 3 j rfl
  have h21 := hf 2 1 rfl
  refine jt_grd (by omega) ?_
  have h674_ := iv_get hv (k := 3) (j := y2.toNat) (l := 0) (u := 255) rfl
  have h675_ : a 3 (y2.toNat) = a0 3 (y2.toNat) := hf 3 (y2.toNat) rfl
  have h676_ := iv_get hv0 (k := 3) (j := y2.toNat) (l := 0) (u := 255) rfl
  refine jt_ite (fun c677_ => ?_) (fun c677_ => ?_)
  ·
    exact cp_X8_takesWord_r1009_96 E d hd a0 b0 hv0 y2 a hv hf (show 2 ≤ y2 from by omega) (show y2 ≤ 200 from by omega) (show 2 ≤ a 2 1 from by omega) (show a 2 2 = a0 2 2 from by omega) (TW_mk (q := y2.toNat) (show y2.toNat = (a0 2 2).toNat + 2 by omega) (by omega) (by first | exact hall | exact (fun k hk => hch k (by have hw : ((wdn 0 : Nat) : Int) = 2 := rfl; omega))) (LT_no1 (by rw [← h3]; omega))) (show y2 = (a 2 2) + 2 from by omega) (show y2 ≤ a 2 1 from by omega) (show y2 ≤ 200 from by omega) (show a0 2 3 = 0 from by omega) (show a0 2 2 < a0 2 1 from by omega)
  ·
    exact jt_rI ⟨hv, hf, rfl, (show (0 ≤ 0 ∧ 0 ≤ 1) from by omega), (show ((¬ a0 2 3 = 0 ∨ a0 2 1 ≤ a0 2 2) → 0 = 0) from by omega), (show (0 = 0 → a 2 2 = a0 2 2) from by omega), (by first | exact (fun h => absurd h (by decide)) | exact (fun _ => ⟨by omega, htw, by have h := hq0_1; rw [show (a0 2 2).toNat + wdn 0 = y2.toNat from (by show _ + 2 = _; omega), ← h3, ← h21]; exact h⟩)), (by first | exact (fun h => absurd h (by decide)) | exact (fun _ => Or.inr hnt) | exact (fun _ => Or.inl (by omega)) | exact (fun _ => Or.inr (TW_short (show _ < _ + 2 by omega))) | exact (fun _ => Or.inr (TW_let (q := y2.toNat) (show y2.toNat = (a0 2 2).toNat + 2 by omega) ⟨by omega, h97, by rw [← h3]; omega⟩)))⟩
theorem cp_X8_takesWord_r1009_29 (E : jxE) (d : Nat) (hd : Nat.ble 5 (d + 1) = true) (a0 b0 : Nat → Nat → Int) (hv0 : iv a0) : ∀ n : Nat, (∀ (y2 y3 : Int) (a : Nat → Nat → Int), (((2 - y3) * 1) + 0).toNat ≤ n → iv a → jfr jW_X8_takesWord_r1009 a0 a → 2 ≤ y2 → y2 ≤ 200 → 0 ≤ y3 → y3 ≤ 1 → 2 ≤ a 2 1 → y3 < 2 → 0 ≤ y3 → a 2 2 = a0 2 2 → (∀ k : Nat, (k : Int) < y3 + 1 → (a0 3) ((a0 2 2).toNat + k) = (wdl 0).getD k 0) → y2 = (a 2 2) + 2 → y2 ≤ a 2 1 → y2 ≤ 200 → a0 2 3 = 0 → a0 2 2 < a0 2 1 → jt (jxX E d 128 58 [some (.inr (.inr (.inl 2))), some (.inr (.inr (.inl 1009))), some (.inl y2), some (.inl y3)] [] (jxSH, a, b0)) (jQ_X8_takesWord_r1009 a0 b0)) ∧ (∀ (y2 y3 : Int) (a : Nat → Nat → Int), (((2 - y3) * 1) + 0).toNat ≤ n → iv a → jfr jW_X8_takesWord_r1009 a0 a → 2 ≤ y2 → y2 ≤ 200 → 0 ≤ y3 → y3 ≤ 2 → 2 ≤ a 2 1 → 0 ≤ y3 → a 2 2 = a0 2 2 → (∀ k : Nat, (k : Int) < y3 → (a0 3) ((a0 2 2).toNat + k) = (wdl 0).getD k 0) → y2 = (a 2 2) + 2 → y2 ≤ a 2 1 → y2 ≤ 200 → a0 2 3 = 0 → a0 2 2 < a0 2 1 → jt (jxX E d 128 29 [some (.inr (.inr (.inl 2))), some (.inr (.inr (.inl 1009))), some (.inl y2), some (.inl y3)] [] (jxSH, a, b0)) (jQ_X8_takesWord_r1009 a0 b0)) := by
  refine jx_ind fun n ih => ?_
  have ih58 : ∀ (y2 y3 : Int) (a : Nat → Nat → Int), (((2 - y3) * 1) + 0).toNat < n → iv a → jfr jW_X8_takesWord_r1009 a0 a → 2 ≤ y2 → y2 ≤ 200 → 0 ≤ y3 → y3 ≤ 1 → 2 ≤ a 2 1 → y3 < 2 → 0 ≤ y3 → a 2 2 = a0 2 2 → (∀ k : Nat, (k : Int) < y3 + 1 → (a0 3) ((a0 2 2).toNat + k) = (wdl 0).getD k 0) → y2 = (a 2 2) + 2 → y2 ≤ a 2 1 → y2 ≤ 200 → a0 2 3 = 0 → a0 2 2 < a0 2 1 → jt (jxX E d 128 58 [some (.inr (.inr (.inl 2))), some (.inr (.inr (.inl 1009))), some (.inl y2), some (.inl y3)] [] (jxSH, a, b0)) (jQ_X8_takesWord_r1009 a0 b0) := fun y2 y3 a hlt i0 i1 i2 i3 i4 i5 i6 i7 i8 i9 i10 i11 i12 i13 i14 i15 => (ih _ hlt).1 y2 y3 a (Nat.le_refl _) i0 i1 i2 i3 i4 i5 i6 i7 i8 i9 i10 i11 i12 i13 i14 i15
  have ih29 : ∀ (y2 y3 : Int) (a : Nat → Nat → Int), (((2 - y3) * 1) + 0).toNat < n → iv a → jfr jW_X8_takesWord_r1009 a0 a → 2 ≤ y2 → y2 ≤ 200 → 0 ≤ y3 → y3 ≤ 2 → 2 ≤ a 2 1 → 0 ≤ y3 → a 2 2 = a0 2 2 → (∀ k : Nat, (k : Int) < y3 → (a0 3) ((a0 2 2).toNat + k) = (wdl 0).getD k 0) → y2 = (a 2 2) + 2 → y2 ≤ a 2 1 → y2 ≤ 200 → a0 2 3 = 0 → a0 2 2 < a0 2 1 → jt (jxX E d 128 29 [some (.inr (.inr (.inl 2))), some (.inr (.inr (.inl 1009))), some (.inl y2), some (.inl y3)] [] (jxSH, a, b0)) (jQ_X8_takesWord_r1009 a0 b0) := fun y2 y3 a hlt i0 i1 i2 i3 i4 i5 i6 i7 i8 i9 i10 i11 i12 i13 i14 => (ih _ hlt).2 y2 y3 a (Nat.le_refl _) i0 i1 i2 i3 i4 i5 i6 i7 i8 i9 i10 i11 i12 i13 i14
  have hc58 : ∀ (y2 y3 : Int) (a : Nat → Nat → Int), (((2 - y3) * 1) + 0).toNat ≤ n → iv a → jfr jW_X8_takesWord_r1009 a0 a → 2 ≤ y2 → y2 ≤ 200 → 0 ≤ y3 → y3 ≤ 1 → 2 ≤ a 2 1 → y3 < 2 → 0 ≤ y3 → a 2 2 = a0 2 2 → (∀ k : Nat, (k : Int) < y3 + 1 → (a0 3) ((a0 2 2).toNat + k) = (wdl 0).getD k 0) → y2 = (a 2 2) + 2 → y2 ≤ a 2 1 → y2 ≤ 200 → a0 2 3 = 0 → a0 2 2 < a0 2 1 → jt (jxX E d 128 58 [some (.inr (.inr (.inl 2))), some (.inr (.inr (.inl 1009))), some (.inl y2), some (.inl y3)] [] (jxSH, a, b0)) (jQ_X8_takesWord_r1009 a0 b0) := by
    intro y2 y3 a hm hv hf hi0 hi1 hi2 hi3 hi4 hi5 hi6 hi7 hch hi9 hi10 hi11 hi12 hi13
    refine jt_eq (bq_X8_takesWord_r1009_58 E d y2 y3 a b0) ?_
    have h678_ := iv_get hv (k := 2) (j := 1) (l := 0) (u := 200) rfl
    have h679_ : a 2 1 = a0 2 1 := hf 2 1 rfl
    have h680_ := iv_get hv0 (k := 2) (j := 1) (l := 0) (u := 200) rfl
    have h681_ := iv_get hv (k := 2) (j := 2) (l := 0) (u := 200) rfl
    have h682_ := iv_get hv0 (k := 2) (j := 2) (l := 0) (u := 200) rfl
    have h3 : a 3 = a0 3 := funext fun j => hf 3 j rfl
    have h21 := hf 2 1 rfl
    have h683_ : jxw (y3 + 1) = y3 + 1 := jxw_id (by omega) (by omega)
    exact ih29 y2 (jxw (y3 + 1)) a (show (((2 - (jxw (y3 + 1))) * 1) + 0).toNat < n from by omega) hv hf (show 2 ≤ y2 from by omega) (show y2 ≤ 200 from by omega) (show 0 ≤ jxw (y3 + 1) from by omega) (show jxw (y3 + 1) ≤ 2 from by omega) (show 2 ≤ a 2 1 from by omega) (show 0 ≤ jxw (y3 + 1) from by omega) (show a 2 2 = a0 2 2 from by omega) (by first | exact (fun k hk => absurd hk (by omega)) | (rw [show jxw (y3 + 1) = y3 + 1 from by omega]; exact hch)) (show y2 = (a 2 2) + 2 from by omega) (show y2 ≤ a 2 1 from by omega) (show y2 ≤ 200 from by omega) (show a0 2 3 = 0 from by omega) (show a0 2 2 < a0 2 1 from by omega)
  have hc29 : ∀ (y2 y3 : Int) (a : Nat → Nat → Int), (((2 - y3) * 1) + 0).toNat ≤ n → iv a → jfr jW_X8_takesWord_r1009 a0 a → 2 ≤ y2 → y2 ≤ 200 → 0 ≤ y3 → y3 ≤ 2 → 2 ≤ a 2 1 → 0 ≤ y3 → a 2 2 = a0 2 2 → (∀ k : Nat, (k : Int) < y3 → (a0 3) ((a0 2 2).toNat + k) = (wdl 0).getD k 0) → y2 = (a 2 2) + 2 → y2 ≤ a 2 1 → y2 ≤ 200 → a0 2 3 = 0 → a0 2 2 < a0 2 1 → jt (jxX E d 128 29 [some (.inr (.inr (.inl 2))), some (.inr (.inr (.inl 1009))), some (.inl y2), some (.inl y3)] [] (jxSH, a, b0)) (jQ_X8_takesWord_r1009 a0 b0) := by
    intro y2 y3 a hm hv hf hi0 hi1 hi2 hi3 hi4 hi5 hi6 hch hi8 hi9 hi10 hi11 hi12
    refine jt_eq (bq_X8_takesWord_r1009_29 E d y2 y3 a b0) ?_
    have h684_ := iv_get hv (k := 2) (j := 1) (l := 0) (u := 200) rfl
    have h685_ : a 2 1 = a0 2 1 := hf 2 1 rfl
    have h686_ := iv_get hv0 (k := 2) (j := 1) (l := 0) (u := 200) rfl
    have h687_ := iv_get hv (k := 2) (j := 2) (l := 0) (u := 200) rfl
    have h688_ := iv_get hv0 (k := 2) (j := 2) (l := 0) (u := 200) rfl
    have h3 : a 3 = a0 3 := funext fun j => hf 3 j rfl
    have h21 := hf 2 1 rfl
    refine jt_eI (eq_J0_length_8abf5_r1009 E d (jd_le hd rfl) a b0) ?_
    have h689_ := ff_J0_length_8abf5_r1009 a b0
    refine jt_ite (fun c690_ => ?_) (fun c690_ => ?_)
    ·
      have h691_ : jxw ((a 2 2) + y3) = (a 2 2) + y3 := jxw_id (by omega) (by omega)
      refine jt_grd (by omega) ?_
      refine jt_eI (eq_J0_charAt_5068e_r1009 E d (jd_le hd rfl) y3 a b0 (show (0 ≤ y3 ∧ y3 < 2) from by omega)) ?_
      have h692_ := iv_get hv (k := 3) (j := (jxw ((a 2 2) + y3)).toNat) (l := 0) (u := 255) rfl
      have h693_ : a 3 ((jxw ((a 2 2) + y3)).toNat) = a0 3 ((jxw ((a 2 2) + y3)).toNat) := hf 3 ((jxw ((a 2 2) + y3)).toNat) rfl
      have h694_ := iv_get hv0 (k := 3) (j := (jxw ((a 2 2) + y3)).toNat) (l := 0) (u := 255) rfl
      have h695_ := f_J0_charAt_5068e_r1009_eq a b0 y3
      have h696_ := f_J0_isLatin1_aae02_r1009_eq a b0
      have h697_ := f_J1_charAt_3b067_r2009_eq a b0 y3
      have h698_ := jxand_r (([111, 114] : List Int).getD (y3.toNat) 0) 255 (by decide) (by decide)
      have h699_ := jxi2c_b (jxand (([111, 114] : List Int).getD (y3.toNat) 0) 255)
      refine jt_ite (fun c700_ => ?_) (fun c700_ => ?_)
      ·
        exact hc58 y2 y3 a (show (((2 - y3) * 1) + 0).toNat ≤ n from by omega) hv hf (show 2 ≤ y2 from by omega) (show y2 ≤ 200 from by omega) (show 0 ≤ y3 from by omega) (show y3 ≤ 1 from by omega) (show 2 ≤ a 2 1 from by omega) (show y3 < 2 from by omega) (show 0 ≤ y3 from by omega) (show a 2 2 = a0 2 2 from by omega) (ch_ext hch (by omega) (q := (jxw ((a 2 2) + y3)).toNat) (by omega) (v := f_J0_charAt_5068e_r1009 a b0 y3) (by rw [← h3]; assumption) (cw_1009 a b0 y3 (by omega) (by omega))) (show y2 = (a 2 2) + 2 from by omega) (show y2 ≤ a 2 1 from by omega) (show y2 ≤ 200 from by omega) (show a0 2 3 = 0 from by omega) (show a0 2 2 < a0 2 1 from by omega)
      ·
        exact cp_X8_takesWord_r1009_56 E d hd a0 b0 hv0 a hv hf (show 2 ≤ a 2 1 from by omega) (show a 2 2 = a0 2 2 from by omega) (TW_no (y := y3) (by omega) (show y3 < 2 by omega) (q := (jxw ((a 2 2) + y3)).toNat) (by omega) (v := f_J0_charAt_5068e_r1009 a b0 y3) (cw_1009 a b0 y3 (by omega) (by omega)) (by rw [← h3]; assumption)) (show a0 2 3 = 0 from by omega) (show a0 2 2 < a0 2 1 from by omega)
    ·
      refine jt_ite (fun c701_ => ?_) (fun c701_ => ?_)
      ·
        refine jt_grd (by omega) ?_
        have h702_ := iv_get hv (k := 3) (j := y2.toNat) (l := 0) (u := 255) rfl
        have h703_ : a 3 (y2.toNat) = a0 3 (y2.toNat) := hf 3 (y2.toNat) rfl
        have h704_ := iv_get hv0 (k := 3) (j := y2.toNat) (l := 0) (u := 255) rfl
        refine jt_ite (fun c705_ => ?_) (fun c705_ => ?_)
        ·
          exact cp_X8_takesWord_r1009_96 E d hd a0 b0 hv0 y2 a hv hf (show 2 ≤ y2 from by omega) (show y2 ≤ 200 from by omega) (show 2 ≤ a 2 1 from by omega) (show a 2 2 = a0 2 2 from by omega) (TW_mk (q := y2.toNat) (show y2.toNat = (a0 2 2).toNat + 2 by omega) (by omega) (by first | exact hall | exact (fun k hk => hch k (by have hw : ((wdn 0 : Nat) : Int) = 2 := rfl; omega))) (LT_no1 (by rw [← h3]; omega))) (show y2 = (a 2 2) + 2 from by omega) (show y2 ≤ a 2 1 from by omega) (show y2 ≤ 200 from by omega) (show a0 2 3 = 0 from by omega) (show a0 2 2 < a0 2 1 from by omega)
        ·
          exact cp_X8_takesWord_r1009_83 E d hd a0 b0 hv0 y2 a hv hf (show 2 ≤ y2 from by omega) (show y2 ≤ 199 from by omega) (show 3 ≤ a 2 1 from by omega) (show a 2 2 = a0 2 2 from by omega) (show y2 < a 2 1 from by omega) (fun k hk => hch k (by have hw : ((wdn 0 : Nat) : Int) = 2 := rfl; omega)) (by rw [← h3]; omega) (show y2 = (a 2 2) + 2 from by omega) (show y2 ≤ a 2 1 from by omega) (show y2 ≤ 200 from by omega) (show a0 2 3 = 0 from by omega) (show a0 2 2 < a0 2 1 from by omega)
      ·
        exact cp_X8_takesWord_r1009_96 E d hd a0 b0 hv0 y2 a hv hf (show 2 ≤ y2 from by omega) (show y2 ≤ 200 from by omega) (show 2 ≤ a 2 1 from by omega) (show a 2 2 = a0 2 2 from by omega) (TW_mk (q := y2.toNat) (show y2.toNat = (a0 2 2).toNat + 2 by omega) (by omega) (by first | exact hall | exact (fun k hk => hch k (by have hw : ((wdn 0 : Nat) : Int) = 2 := rfl; omega))) (LT_no1 (by rw [← h3]; omega))) (show y2 = (a 2 2) + 2 from by omega) (show y2 ≤ a 2 1 from by omega) (show y2 ≤ 200 from by omega) (show a0 2 3 = 0 from by omega) (show a0 2 2 < a0 2 1 from by omega)
  exact ⟨hc58, hc29⟩
theorem sp_X8_takesWord_r1009 (E : jxE) (d : Nat) (hd : Nat.ble 5 d = true) (a0 b0 : Nat → Nat → Int) (hv0 : iv a0) : jt (jxC E d 128 [.inr (.inr (.inl 2)), .inr (.inr (.inl 1009))] (jxSH, a0, b0)) (jQ_X8_takesWord_r1009 a0 b0) := by
  obtain ⟨d, rfl⟩ := jd_succ hd
  refine jt_eq (bq_X8_takesWord_r1009 E d a0 b0) ?_
  refine jt_eI (eq_J0_length_8abf5_r1009 E d (jd_le hd rfl) a0 b0) ?_
  refine jt_eI (eq_X8_isFaulty E d (jd_le hd rfl) a0 b0) ?_
  have h706_ := f_X8_isFaulty_eq a0 b0
  refine jt_ite (fun c707_ => ?_) (fun c707_ => ?_)
  ·
    have h708_ := iv_get hv0 (k := 2) (j := 1) (l := 0) (u := 200) rfl
    have h709_ := iv_get hv0 (k := 2) (j := 2) (l := 0) (u := 200) rfl
    have h710_ := ff_J0_length_8abf5_r1009 a0 b0
    have h711_ : jxw ((a0 2 2) + (f_J0_length_8abf5_r1009 a0 b0)) = (a0 2 2) + (f_J0_length_8abf5_r1009 a0 b0) := jxw_id (by omega) (by omega)
    refine jt_ite (fun c712_ => ?_) (fun c712_ => ?_)
    ·
      exact jt_rI ⟨hv0, (jfr_rf _ _), rfl, (show (0 ≤ 0 ∧ 0 ≤ 1) from by omega), (show ((¬ a0 2 3 = 0 ∨ a0 2 1 ≤ a0 2 2) → 0 = 0) from by omega), (show (0 = 0 → a0 2 2 = a0 2 2) from by omega), (by first | exact (fun h => absurd h (by decide)) | exact (fun _ => ⟨by omega, htw, by have h := hq0_1; rw [show (a0 2 2).toNat + wdn 0 = y2.toNat from (by show _ + 2 = _; omega), ← h3, ← h21]; exact h⟩)), (by first | exact (fun h => absurd h (by decide)) | exact (fun _ => Or.inr hnt) | exact (fun _ => Or.inl (by omega)) | exact (fun _ => Or.inr (TW_short (show _ < _ + 2 by omega))) | exact (fun _ => Or.inr (TW_let (q := y2.toNat) (show y2.toNat = (a0 2 2).toNat + 2 by omega) ⟨by omega, h97, by rw [← h3]; omega⟩)))⟩
    ·
      exact (cp_X8_takesWord_r1009_29 E d hd a0 b0 hv0 _).2 (jxw ((a0 2 2) + (f_J0_length_8abf5_r1009 a0 b0))) 0 a0 (Nat.le_refl _) hv0 (jfr_rf _ _) (show 2 ≤ jxw ((a0 2 2) + (f_J0_length_8abf5_r1009 a0 b0)) from by omega) (show jxw ((a0 2 2) + (f_J0_length_8abf5_r1009 a0 b0)) ≤ 200 from by omega) (show 0 ≤ 0 from by omega) (show 0 ≤ 2 from by omega) (show 2 ≤ a0 2 1 from by omega) (show 0 ≤ 0 from by omega) (show a0 2 2 = a0 2 2 from by omega) (by first | exact (fun k hk => absurd hk (by omega)) | (rw [show jxw (y3 + 1) = y3 + 1 from by omega]; exact hch)) (show jxw ((a0 2 2) + (f_J0_length_8abf5_r1009 a0 b0)) = (a0 2 2) + 2 from by omega) (show jxw ((a0 2 2) + (f_J0_length_8abf5_r1009 a0 b0)) ≤ a0 2 1 from by omega) (show jxw ((a0 2 2) + (f_J0_length_8abf5_r1009 a0 b0)) ≤ 200 from by omega) (show a0 2 3 = 0 from by omega) (show a0 2 2 < a0 2 1 from by omega)
  ·
    have h713_ := iv_get hv0 (k := 2) (j := 1) (l := 0) (u := 200) rfl
    have h714_ := iv_get hv0 (k := 2) (j := 2) (l := 0) (u := 200) rfl
    exact jt_rI ⟨hv0, (jfr_rf _ _), rfl, (show (0 ≤ 0 ∧ 0 ≤ 1) from by omega), (show ((¬ a0 2 3 = 0 ∨ a0 2 1 ≤ a0 2 2) → 0 = 0) from by omega), (show (0 = 0 → a0 2 2 = a0 2 2) from by omega), (by first | exact (fun h => absurd h (by decide)) | exact (fun _ => ⟨by omega, htw, by have h := hq0_1; rw [show (a0 2 2).toNat + wdn 0 = y2.toNat from (by show _ + 2 = _; omega), ← h3, ← h21]; exact h⟩)), (by first | exact (fun h => absurd h (by decide)) | exact (fun _ => Or.inr hnt) | exact (fun _ => Or.inl (by omega)) | exact (fun _ => Or.inr (TW_short (show _ < _ + 2 by omega))) | exact (fun _ => Or.inr (TW_let (q := y2.toNat) (show y2.toNat = (a0 2 2).toNat + 2 by omega) ⟨by omega, h97, by rw [← h3]; omega⟩)))⟩
def jW_X8_takesWord_r1010 : List (Nat × Nat) := [(2, 2)]
abbrev jQ_X8_takesWord_r1010 (a0 b0 : Nat → Nat → Int) : List jxV → (Nat → Nat → Int) → (Nat → Nat → Int) → Prop := rI (fun r a b => (iv a) ∧ (jfr jW_X8_takesWord_r1010 a0 a) ∧ (b0 = b) ∧ ((0 ≤ r ∧ r ≤ 1)) ∧ (((¬ a0 2 3 = 0 ∨ a0 2 1 ≤ a0 2 2) → r = 0)) ∧ ((r = 0 → a 2 2 = a0 2 2)) ∧ (r = 1 → a0 2 3 = 0 ∧ TW (a0 3) (a0 2 1).toNat (a0 2 2).toNat 10 ∧ a 2 2 = ((SK (a0 3) (a0 2 1).toNat ((a0 2 2).toNat + wdn 10) : Nat) : Int)) ∧ (r = 0 → ¬ a0 2 3 = 0 ∨ ¬ TW (a0 3) (a0 2 1).toNat (a0 2 2).toNat 10))
theorem cp_X8_takesWord_r1010_56 (E : jxE) (d : Nat) (hd : Nat.ble 5 (d + 1) = true) (a0 b0 : Nat → Nat → Int) (hv0 : iv a0) : ∀ (a : Nat → Nat → Int), iv a → jfr jW_X8_takesWord_r1010 a0 a → 5 ≤ a 2 1 → a 2 2 = a0 2 2 → (¬ TW (a0 3) (a0 2 1).toNat (a0 2 2).toNat 10) → a0 2 3 = 0 → a0 2 2 < a0 2 1 → jt (jxX E d 128 56 [none, none, none, none] [] (jxSH, a, b0)) (jQ_X8_takesWord_r1010 a0 b0) := by
  intro a hv hf hi0 hi1 hnt hi3 hi4
  refine jt_eq (bq_X8_takesWord_r1010_56 E d a b0) ?_
  have h715_ := iv_get hv (k := 2) (j := 1) (l := 0) (u := 200) rfl
  have h716_ : a 2 1 = a0 2 1 := hf 2 1 rfl
  have h717_ := iv_get hv0 (k := 2) (j := 1) (l := 0) (u := 200) rfl
  have h718_ := iv_get hv (k := 2) (j := 2) (l := 0) (u := 200) rfl
  have h719_ := iv_get hv0 (k := 2) (j := 2) (l := 0) (u := 200) rfl
  have h3 : a 3 = a0 3 := funext fun j => hf 3 j rfl
  have h21 := hf 2 1 rfl
  exact jt_rI ⟨hv, hf, rfl, (show (0 ≤ 0 ∧ 0 ≤ 1) from by omega), (show ((¬ a0 2 3 = 0 ∨ a0 2 1 ≤ a0 2 2) → 0 = 0) from by omega), (show (0 = 0 → a 2 2 = a0 2 2) from by omega), (by first | exact (fun h => absurd h (by decide)) | exact (fun _ => ⟨by omega, htw, by have h := hq0_1; rw [show (a0 2 2).toNat + wdn 10 = y2.toNat from (by show _ + 5 = _; omega), ← h3, ← h21]; exact h⟩)), (by first | exact (fun h => absurd h (by decide)) | exact (fun _ => Or.inr hnt) | exact (fun _ => Or.inl (by omega)) | exact (fun _ => Or.inr (TW_short (show _ < _ + 5 by omega))) | exact (fun _ => Or.inr (TW_let (q := y2.toNat) (show y2.toNat = (a0 2 2).toNat + 5 by omega) ⟨by omega, h97, by rw [← h3]; omega⟩)))⟩
theorem cp_X8_takesWord_r1010_96 (E : jxE) (d : Nat) (hd : Nat.ble 5 (d + 1) = true) (a0 b0 : Nat → Nat → Int) (hv0 : iv a0) : ∀ (y2 : Int) (a : Nat → Nat → Int), iv a → jfr jW_X8_takesWord_r1010 a0 a → 5 ≤ y2 → y2 ≤ 200 → 5 ≤ a 2 1 → a 2 2 = a0 2 2 → (TW (a0 3) (a0 2 1).toNat (a0 2 2).toNat 10) → y2 = (a 2 2) + 5 → y2 ≤ a 2 1 → y2 ≤ 200 → a0 2 3 = 0 → a0 2 2 < a0 2 1 → jt (jxX E d 128 96 [some (.inr (.inr (.inl 2))), none, some (.inl y2), none] [] (jxSH, a, b0)) (jQ_X8_takesWord_r1010 a0 b0) := by
  intro y2 a hv hf hi0 hi1 hi2 hi3 htw hi5 hi6 hi7 hi8 hi9
  refine jt_eq (bq_X8_takesWord_r1010_96 E d y2 a b0) ?_
  have h720_ := iv_get hv (k := 2) (j := 1) (l := 0) (u := 200) rfl
  have h721_ : a 2 1 = a0 2 1 := hf 2 1 rfl
  have h722_ := iv_get hv0 (k := 2) (j := 1) (l := 0) (u := 200) rfl
  have h723_ := iv_get hv (k := 2) (j := 2) (l := 0) (u := 200) rfl
  have h724_ := iv_get hv0 (k := 2) (j := 2) (l := 0) (u := 200) rfl
  have h3 : a 3 = a0 3 := funext fun j => hf 3 j rfl
  have h21 := hf 2 1 rfl
  have hv725_ : iv (jxu a 2 2 y2) := iv_put hv (l := 0) (u := 200) rfl (by omega) (by omega)
  refine jt_bV (sp_X8_skipBlanks E d (jd_le hd rfl) (jxu a 2 2 y2) b0 hv725_) (fun a726_ b726_ h726_ => ?_)
  obtain ⟨hv726_, hf726_, rfl, hq726_0, hq726_1⟩ := h726_
  have h727_ := iv_get hv726_ (k := 2) (j := 2) (l := 0) (u := 200) rfl
  have h728_ : (a 2 1 ≤ y2 → a726_ 2 2 = y2) := hq726_0
  have hf729_ : jfr jW_X8_takesWord_r1010 a0 (jxu a 2 2 y2) := jfr_put hf rfl
  have hf730_ : jfr jW_X8_takesWord_r1010 a0 a726_ := jfr_tr hf729_ hf726_ rfl
  exact jt_rI ⟨hv726_, hf730_, rfl, (show (0 ≤ 1 ∧ 1 ≤ 1) from by omega), (show ((¬ a0 2 3 = 0 ∨ a0 2 1 ≤ a0 2 2) → 1 = 0) from by omega), (show (1 = 0 → a726_ 2 2 = a0 2 2) from by omega), (by first | exact (fun h => absurd h (by decide)) | exact (fun _ => ⟨by omega, htw, by have h := hq726_1; rw [show (a0 2 2).toNat + wdn 10 = y2.toNat from (by show _ + 5 = _; omega), ← h3, ← h21]; exact h⟩)), (by first | exact (fun h => absurd h (by decide)) | exact (fun _ => Or.inr hnt) | exact (fun _ => Or.inl (by omega)) | exact (fun _ => Or.inr (TW_short (show _ < _ + 5 by omega))) | exact (fun _ => Or.inr (TW_let (q := y2.toNat) (show y2.toNat = (a0 2 2).toNat + 5 by omega) ⟨by omega, h97, by rw [← h3]; omega⟩)))⟩
theorem cp_X8_takesWord_r1010_83 (E : jxE) (d : Nat) (hd : Nat.ble 5 (d + 1) = true) (a0 b0 : Nat → Nat → Int) (hv0 : iv a0) : ∀ (y2 : Int) (a : Nat → Nat → Int), iv a → jfr jW_X8_takesWord_r1010 a0 a → 5 ≤ y2 → y2 ≤ 199 → 6 ≤ a 2 1 → a 2 2 = a0 2 2 → y2 < a 2 1 → (∀ k : Nat, (k : Int) < (wdn 10 : Int) → (a0 3) ((a0 2 2).toNat + k) = (wdl 10).getD k 0) → (97 ≤ a0 3 y2.toNat) → y2 = (a 2 2) + 5 → y2 ≤ a 2 1 → y2 ≤ 200 → a0 2 3 = 0 → a0 2 2 < a0 2 1 → jt (jxX E d 128 83 [some (.inr (.inr (.inl 2))), none, some (.inl y2), none] [] (jxSH, a, b0)) (jQ_X8_takesWord_r1010 a0 b0) := by
  intro y2 a hv hf hi0 hi1 hi2 hi3 hi4 hall h97 hi7 hi8 hi9 hi10 hi11
  refine jt_eq (bq_X8_takesWord_r1010_83 E d y2 a b0) ?_
  have h731_ := iv_get hv (k := 2) (j := 1) (l := 0) (u := 200) rfl
  have h732_ : a 2 1 = a0 2 1 := hf 2 1 rfl
  have h733_ := iv_get hv0 (k := 2) (j := 1) (l := 0) (u := 200) rfl
  have h734_ := iv_get hv (k := 2) (j := 2) (l := 0) (u := 200) rfl
  have h735_ := iv_get hv0 (k := 2) (j := 2) (l := 0) (u := 200) rfl
  have h3 : a 3 = a0 3 := funext fun j => hf 3 j rfl
  have h21 := hf 2 1 rfl
  refine jt_grd (by omega) ?_
  have h736_ := iv_get hv (k := 3) (j := y2.toNat) (l := 0) (u := 255) rfl
  have h737_ : a 3 (y2.toNat) = a0 3 (y2.toNat) := hf 3 (y2.toNat) rfl
  have h738_ := iv_get hv0 (k := 3) (j := y2.toNat) (l := 0) (u := 255) rfl
  refine jt_ite (fun c739_ => ?_) (fun c739_ => ?_)
  ·
    exact cp_X8_takesWord_r1010_96 E d hd a0 b0 hv0 y2 a hv hf (show 5 ≤ y2 from by omega) (show y2 ≤ 200 from by omega) (show 5 ≤ a 2 1 from by omega) (show a 2 2 = a0 2 2 from by omega) (TW_mk (q := y2.toNat) (show y2.toNat = (a0 2 2).toNat + 5 by omega) (by omega) (by first | exact hall | exact (fun k hk => hch k (by have hw : ((wdn 10 : Nat) : Int) = 5 := rfl; omega))) (LT_no1 (by rw [← h3]; omega))) (show y2 = (a 2 2) + 5 from by omega) (show y2 ≤ a 2 1 from by omega) (show y2 ≤ 200 from by omega) (show a0 2 3 = 0 from by omega) (show a0 2 2 < a0 2 1 from by omega)
  ·
    exact jt_rI ⟨hv, hf, rfl, (show (0 ≤ 0 ∧ 0 ≤ 1) from by omega), (show ((¬ a0 2 3 = 0 ∨ a0 2 1 ≤ a0 2 2) → 0 = 0) from by omega), (show (0 = 0 → a 2 2 = a0 2 2) from by omega), (by first | exact (fun h => absurd h (by decide)) | exact (fun _ => ⟨by omega, htw, by have h := hq0_1; rw [show (a0 2 2).toNat + wdn 10 = y2.toNat from (by show _ + 5 = _; omega), ← h3, ← h21]; exact h⟩)), (by first | exact (fun h => absurd h (by decide)) | exact (fun _ => Or.inr hnt) | exact (fun _ => Or.inl (by omega)) | exact (fun _ => Or.inr (TW_short (show _ < _ + 5 by omega))) | exact (fun _ => Or.inr (TW_let (q := y2.toNat) (show y2.toNat = (a0 2 2).toNat + 5 by omega) ⟨by omega, h97, by rw [← h3]; omega⟩)))⟩
theorem cp_X8_takesWord_r1010_29 (E : jxE) (d : Nat) (hd : Nat.ble 5 (d + 1) = true) (a0 b0 : Nat → Nat → Int) (hv0 : iv a0) : ∀ n : Nat, (∀ (y2 y3 : Int) (a : Nat → Nat → Int), (((5 - y3) * 1) + 0).toNat ≤ n → iv a → jfr jW_X8_takesWord_r1010 a0 a → 5 ≤ y2 → y2 ≤ 200 → 0 ≤ y3 → y3 ≤ 4 → 5 ≤ a 2 1 → y3 < 5 → 0 ≤ y3 → a 2 2 = a0 2 2 → (∀ k : Nat, (k : Int) < y3 + 1 → (a0 3) ((a0 2 2).toNat + k) = (wdl 10).getD k 0) → y2 = (a 2 2) + 5 → y2 ≤ a 2 1 → y2 ≤ 200 → a0 2 3 = 0 → a0 2 2 < a0 2 1 → jt (jxX E d 128 58 [some (.inr (.inr (.inl 2))), some (.inr (.inr (.inl 1010))), some (.inl y2), some (.inl y3)] [] (jxSH, a, b0)) (jQ_X8_takesWord_r1010 a0 b0)) ∧ (∀ (y2 y3 : Int) (a : Nat → Nat → Int), (((5 - y3) * 1) + 0).toNat ≤ n → iv a → jfr jW_X8_takesWord_r1010 a0 a → 5 ≤ y2 → y2 ≤ 200 → 0 ≤ y3 → y3 ≤ 5 → 5 ≤ a 2 1 → 0 ≤ y3 → a 2 2 = a0 2 2 → (∀ k : Nat, (k : Int) < y3 → (a0 3) ((a0 2 2).toNat + k) = (wdl 10).getD k 0) → y2 = (a 2 2) + 5 → y2 ≤ a 2 1 → y2 ≤ 200 → a0 2 3 = 0 → a0 2 2 < a0 2 1 → jt (jxX E d 128 29 [some (.inr (.inr (.inl 2))), some (.inr (.inr (.inl 1010))), some (.inl y2), some (.inl y3)] [] (jxSH, a, b0)) (jQ_X8_takesWord_r1010 a0 b0)) := by
  refine jx_ind fun n ih => ?_
  have ih58 : ∀ (y2 y3 : Int) (a : Nat → Nat → Int), (((5 - y3) * 1) + 0).toNat < n → iv a → jfr jW_X8_takesWord_r1010 a0 a → 5 ≤ y2 → y2 ≤ 200 → 0 ≤ y3 → y3 ≤ 4 → 5 ≤ a 2 1 → y3 < 5 → 0 ≤ y3 → a 2 2 = a0 2 2 → (∀ k : Nat, (k : Int) < y3 + 1 → (a0 3) ((a0 2 2).toNat + k) = (wdl 10).getD k 0) → y2 = (a 2 2) + 5 → y2 ≤ a 2 1 → y2 ≤ 200 → a0 2 3 = 0 → a0 2 2 < a0 2 1 → jt (jxX E d 128 58 [some (.inr (.inr (.inl 2))), some (.inr (.inr (.inl 1010))), some (.inl y2), some (.inl y3)] [] (jxSH, a, b0)) (jQ_X8_takesWord_r1010 a0 b0) := fun y2 y3 a hlt i0 i1 i2 i3 i4 i5 i6 i7 i8 i9 i10 i11 i12 i13 i14 i15 => (ih _ hlt).1 y2 y3 a (Nat.le_refl _) i0 i1 i2 i3 i4 i5 i6 i7 i8 i9 i10 i11 i12 i13 i14 i15
  have ih29 : ∀ (y2 y3 : Int) (a : Nat → Nat → Int), (((5 - y3) * 1) + 0).toNat < n → iv a → jfr jW_X8_takesWord_r1010 a0 a → 5 ≤ y2 → y2 ≤ 200 → 0 ≤ y3 → y3 ≤ 5 → 5 ≤ a 2 1 → 0 ≤ y3 → a 2 2 = a0 2 2 → (∀ k : Nat, (k : Int) < y3 → (a0 3) ((a0 2 2).toNat + k) = (wdl 10).getD k 0) → y2 = (a 2 2) + 5 → y2 ≤ a 2 1 → y2 ≤ 200 → a0 2 3 = 0 → a0 2 2 < a0 2 1 → jt (jxX E d 128 29 [some (.inr (.inr (.inl 2))), some (.inr (.inr (.inl 1010))), some (.inl y2), some (.inl y3)] [] (jxSH, a, b0)) (jQ_X8_takesWord_r1010 a0 b0) := fun y2 y3 a hlt i0 i1 i2 i3 i4 i5 i6 i7 i8 i9 i10 i11 i12 i13 i14 => (ih _ hlt).2 y2 y3 a (Nat.le_refl _) i0 i1 i2 i3 i4 i5 i6 i7 i8 i9 i10 i11 i12 i13 i14
  have hc58 : ∀ (y2 y3 : Int) (a : Nat → Nat → Int), (((5 - y3) * 1) + 0).toNat ≤ n → iv a → jfr jW_X8_takesWord_r1010 a0 a → 5 ≤ y2 → y2 ≤ 200 → 0 ≤ y3 → y3 ≤ 4 → 5 ≤ a 2 1 → y3 < 5 → 0 ≤ y3 → a 2 2 = a0 2 2 → (∀ k : Nat, (k : Int) < y3 + 1 → (a0 3) ((a0 2 2).toNat + k) = (wdl 10).getD k 0) → y2 = (a 2 2) + 5 → y2 ≤ a 2 1 → y2 ≤ 200 → a0 2 3 = 0 → a0 2 2 < a0 2 1 → jt (jxX E d 128 58 [some (.inr (.inr (.inl 2))), some (.inr (.inr (.inl 1010))), some (.inl y2), some (.inl y3)] [] (jxSH, a, b0)) (jQ_X8_takesWord_r1010 a0 b0) := by
    intro y2 y3 a hm hv hf hi0 hi1 hi2 hi3 hi4 hi5 hi6 hi7 hch hi9 hi10 hi11 hi12 hi13
    refine jt_eq (bq_X8_takesWord_r1010_58 E d y2 y3 a b0) ?_
    have h740_ := iv_get hv (k := 2) (j := 1) (l := 0) (u := 200) rfl
    have h741_ : a 2 1 = a0 2 1 := hf 2 1 rfl
    have h742_ := iv_get hv0 (k := 2) (j := 1) (l := 0) (u := 200) rfl
    have h743_ := iv_get hv (k := 2) (j := 2) (l := 0) (u := 200) rfl
    have h744_ := iv_get hv0 (k := 2) (j := 2) (l := 0) (u := 200) rfl
    have h3 : a 3 = a0 3 := funext fun j => hf 3 j rfl
    have h21 := hf 2 1 rfl
    have h745_ : jxw (y3 + 1) = y3 + 1 := jxw_id (by omega) (by omega)
    exact ih29 y2 (jxw (y3 + 1)) a (show (((5 - (jxw (y3 + 1))) * 1) + 0).toNat < n from by omega) hv hf (show 5 ≤ y2 from by omega) (show y2 ≤ 200 from by omega) (show 0 ≤ jxw (y3 + 1) from by omega) (show jxw (y3 + 1) ≤ 5 from by omega) (show 5 ≤ a 2 1 from by omega) (show 0 ≤ jxw (y3 + 1) from by omega) (show a 2 2 = a0 2 2 from by omega) (by first | exact (fun k hk => absurd hk (by omega)) | (rw [show jxw (y3 + 1) = y3 + 1 from by omega]; exact hch)) (show y2 = (a 2 2) + 5 from by omega) (show y2 ≤ a 2 1 from by omega) (show y2 ≤ 200 from by omega) (show a0 2 3 = 0 from by omega) (show a0 2 2 < a0 2 1 from by omega)
  have hc29 : ∀ (y2 y3 : Int) (a : Nat → Nat → Int), (((5 - y3) * 1) + 0).toNat ≤ n → iv a → jfr jW_X8_takesWord_r1010 a0 a → 5 ≤ y2 → y2 ≤ 200 → 0 ≤ y3 → y3 ≤ 5 → 5 ≤ a 2 1 → 0 ≤ y3 → a 2 2 = a0 2 2 → (∀ k : Nat, (k : Int) < y3 → (a0 3) ((a0 2 2).toNat + k) = (wdl 10).getD k 0) → y2 = (a 2 2) + 5 → y2 ≤ a 2 1 → y2 ≤ 200 → a0 2 3 = 0 → a0 2 2 < a0 2 1 → jt (jxX E d 128 29 [some (.inr (.inr (.inl 2))), some (.inr (.inr (.inl 1010))), some (.inl y2), some (.inl y3)] [] (jxSH, a, b0)) (jQ_X8_takesWord_r1010 a0 b0) := by
    intro y2 y3 a hm hv hf hi0 hi1 hi2 hi3 hi4 hi5 hi6 hch hi8 hi9 hi10 hi11 hi12
    refine jt_eq (bq_X8_takesWord_r1010_29 E d y2 y3 a b0) ?_
    have h746_ := iv_get hv (k := 2) (j := 1) (l := 0) (u := 200) rfl
    have h747_ : a 2 1 = a0 2 1 := hf 2 1 rfl
    have h748_ := iv_get hv0 (k := 2) (j := 1) (l := 0) (u := 200) rfl
    have h749_ := iv_get hv (k := 2) (j := 2) (l := 0) (u := 200) rfl
    have h750_ := iv_get hv0 (k := 2) (j := 2) (l := 0) (u := 200) rfl
    have h3 : a 3 = a0 3 := funext fun j => hf 3 j rfl
    have h21 := hf 2 1 rfl
    refine jt_eI (eq_J0_length_8abf5_r1010 E d (jd_le hd rfl) a b0) ?_
    have h751_ := ff_J0_length_8abf5_r1010 a b0
    refine jt_ite (fun c752_ => ?_) (fun c752_ => ?_)
    ·
      have h753_ : jxw ((a 2 2) + y3) = (a 2 2) + y3 := jxw_id (by omega) (by omega)
      refine jt_grd (by omega) ?_
      refine jt_eI (eq_J0_charAt_5068e_r1010 E d (jd_le hd rfl) y3 a b0 (show (0 ≤ y3 ∧ y3 < 5) from by omega)) ?_
      have h754_ := iv_get hv (k := 3) (j := (jxw ((a 2 2) + y3)).toNat) (l := 0) (u := 255) rfl
      have h755_ : a 3 ((jxw ((a 2 2) + y3)).toNat) = a0 3 ((jxw ((a 2 2) + y3)).toNat) := hf 3 ((jxw ((a 2 2) + y3)).toNat) rfl
      have h756_ := iv_get hv0 (k := 3) (j := (jxw ((a 2 2) + y3)).toNat) (l := 0) (u := 255) rfl
      have h757_ := f_J0_charAt_5068e_r1010_eq a b0 y3
      have h758_ := f_J0_isLatin1_aae02_r1010_eq a b0
      have h759_ := f_J1_charAt_3b067_r2010_eq a b0 y3
      have h760_ := jxand_r (([117, 110, 100, 101, 114] : List Int).getD (y3.toNat) 0) 255 (by decide) (by decide)
      have h761_ := jxi2c_b (jxand (([117, 110, 100, 101, 114] : List Int).getD (y3.toNat) 0) 255)
      refine jt_ite (fun c762_ => ?_) (fun c762_ => ?_)
      ·
        exact hc58 y2 y3 a (show (((5 - y3) * 1) + 0).toNat ≤ n from by omega) hv hf (show 5 ≤ y2 from by omega) (show y2 ≤ 200 from by omega) (show 0 ≤ y3 from by omega) (show y3 ≤ 4 from by omega) (show 5 ≤ a 2 1 from by omega) (show y3 < 5 from by omega) (show 0 ≤ y3 from by omega) (show a 2 2 = a0 2 2 from by omega) (ch_ext hch (by omega) (q := (jxw ((a 2 2) + y3)).toNat) (by omega) (v := f_J0_charAt_5068e_r1010 a b0 y3) (by rw [← h3]; assumption) (cw_1010 a b0 y3 (by omega) (by omega))) (show y2 = (a 2 2) + 5 from by omega) (show y2 ≤ a 2 1 from by omega) (show y2 ≤ 200 from by omega) (show a0 2 3 = 0 from by omega) (show a0 2 2 < a0 2 1 from by omega)
      ·
        exact cp_X8_takesWord_r1010_56 E d hd a0 b0 hv0 a hv hf (show 5 ≤ a 2 1 from by omega) (show a 2 2 = a0 2 2 from by omega) (TW_no (y := y3) (by omega) (show y3 < 5 by omega) (q := (jxw ((a 2 2) + y3)).toNat) (by omega) (v := f_J0_charAt_5068e_r1010 a b0 y3) (cw_1010 a b0 y3 (by omega) (by omega)) (by rw [← h3]; assumption)) (show a0 2 3 = 0 from by omega) (show a0 2 2 < a0 2 1 from by omega)
    ·
      refine jt_ite (fun c763_ => ?_) (fun c763_ => ?_)
      ·
        refine jt_grd (by omega) ?_
        have h764_ := iv_get hv (k := 3) (j := y2.toNat) (l := 0) (u := 255) rfl
        have h765_ : a 3 (y2.toNat) = a0 3 (y2.toNat) := hf 3 (y2.toNat) rfl
        have h766_ := iv_get hv0 (k := 3) (j := y2.toNat) (l := 0) (u := 255) rfl
        refine jt_ite (fun c767_ => ?_) (fun c767_ => ?_)
        ·
          exact cp_X8_takesWord_r1010_96 E d hd a0 b0 hv0 y2 a hv hf (show 5 ≤ y2 from by omega) (show y2 ≤ 200 from by omega) (show 5 ≤ a 2 1 from by omega) (show a 2 2 = a0 2 2 from by omega) (TW_mk (q := y2.toNat) (show y2.toNat = (a0 2 2).toNat + 5 by omega) (by omega) (by first | exact hall | exact (fun k hk => hch k (by have hw : ((wdn 10 : Nat) : Int) = 5 := rfl; omega))) (LT_no1 (by rw [← h3]; omega))) (show y2 = (a 2 2) + 5 from by omega) (show y2 ≤ a 2 1 from by omega) (show y2 ≤ 200 from by omega) (show a0 2 3 = 0 from by omega) (show a0 2 2 < a0 2 1 from by omega)
        ·
          exact cp_X8_takesWord_r1010_83 E d hd a0 b0 hv0 y2 a hv hf (show 5 ≤ y2 from by omega) (show y2 ≤ 199 from by omega) (show 6 ≤ a 2 1 from by omega) (show a 2 2 = a0 2 2 from by omega) (show y2 < a 2 1 from by omega) (fun k hk => hch k (by have hw : ((wdn 10 : Nat) : Int) = 5 := rfl; omega)) (by rw [← h3]; omega) (show y2 = (a 2 2) + 5 from by omega) (show y2 ≤ a 2 1 from by omega) (show y2 ≤ 200 from by omega) (show a0 2 3 = 0 from by omega) (show a0 2 2 < a0 2 1 from by omega)
      ·
        exact cp_X8_takesWord_r1010_96 E d hd a0 b0 hv0 y2 a hv hf (show 5 ≤ y2 from by omega) (show y2 ≤ 200 from by omega) (show 5 ≤ a 2 1 from by omega) (show a 2 2 = a0 2 2 from by omega) (TW_mk (q := y2.toNat) (show y2.toNat = (a0 2 2).toNat + 5 by omega) (by omega) (by first | exact hall | exact (fun k hk => hch k (by have hw : ((wdn 10 : Nat) : Int) = 5 := rfl; omega))) (LT_no1 (by rw [← h3]; omega))) (show y2 = (a 2 2) + 5 from by omega) (show y2 ≤ a 2 1 from by omega) (show y2 ≤ 200 from by omega) (show a0 2 3 = 0 from by omega) (show a0 2 2 < a0 2 1 from by omega)
  exact ⟨hc58, hc29⟩
theorem sp_X8_takesWord_r1010 (E : jxE) (d : Nat) (hd : Nat.ble 5 d = true) (a0 b0 : Nat → Nat → Int) (hv0 : iv a0) : jt (jxC E d 128 [.inr (.inr (.inl 2)), .inr (.inr (.inl 1010))] (jxSH, a0, b0)) (jQ_X8_takesWord_r1010 a0 b0) := by
  obtain ⟨d, rfl⟩ := jd_succ hd
  refine jt_eq (bq_X8_takesWord_r1010 E d a0 b0) ?_
  refine jt_eI (eq_J0_length_8abf5_r1010 E d (jd_le hd rfl) a0 b0) ?_
  refine jt_eI (eq_X8_isFaulty E d (jd_le hd rfl) a0 b0) ?_
  have h768_ := f_X8_isFaulty_eq a0 b0
  refine jt_ite (fun c769_ => ?_) (fun c769_ => ?_)
  ·
    have h770_ := iv_get hv0 (k := 2) (j := 1) (l := 0) (u := 200) rfl
    have h771_ := iv_get hv0 (k := 2) (j := 2) (l := 0) (u := 200) rfl
    have h772_ := ff_J0_length_8abf5_r1010 a0 b0
    have h773_ : jxw ((a0 2 2) + (f_J0_length_8abf5_r1010 a0 b0)) = (a0 2 2) + (f_J0_length_8abf5_r1010 a0 b0) := jxw_id (by omega) (by omega)
    refine jt_ite (fun c774_ => ?_) (fun c774_ => ?_)
    ·
      exact jt_rI ⟨hv0, (jfr_rf _ _), rfl, (show (0 ≤ 0 ∧ 0 ≤ 1) from by omega), (show ((¬ a0 2 3 = 0 ∨ a0 2 1 ≤ a0 2 2) → 0 = 0) from by omega), (show (0 = 0 → a0 2 2 = a0 2 2) from by omega), (by first | exact (fun h => absurd h (by decide)) | exact (fun _ => ⟨by omega, htw, by have h := hq0_1; rw [show (a0 2 2).toNat + wdn 10 = y2.toNat from (by show _ + 5 = _; omega), ← h3, ← h21]; exact h⟩)), (by first | exact (fun h => absurd h (by decide)) | exact (fun _ => Or.inr hnt) | exact (fun _ => Or.inl (by omega)) | exact (fun _ => Or.inr (TW_short (show _ < _ + 5 by omega))) | exact (fun _ => Or.inr (TW_let (q := y2.toNat) (show y2.toNat = (a0 2 2).toNat + 5 by omega) ⟨by omega, h97, by rw [← h3]; omega⟩)))⟩
    ·
      exact (cp_X8_takesWord_r1010_29 E d hd a0 b0 hv0 _).2 (jxw ((a0 2 2) + (f_J0_length_8abf5_r1010 a0 b0))) 0 a0 (Nat.le_refl _) hv0 (jfr_rf _ _) (show 5 ≤ jxw ((a0 2 2) + (f_J0_length_8abf5_r1010 a0 b0)) from by omega) (show jxw ((a0 2 2) + (f_J0_length_8abf5_r1010 a0 b0)) ≤ 200 from by omega) (show 0 ≤ 0 from by omega) (show 0 ≤ 5 from by omega) (show 5 ≤ a0 2 1 from by omega) (show 0 ≤ 0 from by omega) (show a0 2 2 = a0 2 2 from by omega) (by first | exact (fun k hk => absurd hk (by omega)) | (rw [show jxw (y3 + 1) = y3 + 1 from by omega]; exact hch)) (show jxw ((a0 2 2) + (f_J0_length_8abf5_r1010 a0 b0)) = (a0 2 2) + 5 from by omega) (show jxw ((a0 2 2) + (f_J0_length_8abf5_r1010 a0 b0)) ≤ a0 2 1 from by omega) (show jxw ((a0 2 2) + (f_J0_length_8abf5_r1010 a0 b0)) ≤ 200 from by omega) (show a0 2 3 = 0 from by omega) (show a0 2 2 < a0 2 1 from by omega)
  ·
    have h775_ := iv_get hv0 (k := 2) (j := 1) (l := 0) (u := 200) rfl
    have h776_ := iv_get hv0 (k := 2) (j := 2) (l := 0) (u := 200) rfl
    exact jt_rI ⟨hv0, (jfr_rf _ _), rfl, (show (0 ≤ 0 ∧ 0 ≤ 1) from by omega), (show ((¬ a0 2 3 = 0 ∨ a0 2 1 ≤ a0 2 2) → 0 = 0) from by omega), (show (0 = 0 → a0 2 2 = a0 2 2) from by omega), (by first | exact (fun h => absurd h (by decide)) | exact (fun _ => ⟨by omega, htw, by have h := hq0_1; rw [show (a0 2 2).toNat + wdn 10 = y2.toNat from (by show _ + 5 = _; omega), ← h3, ← h21]; exact h⟩)), (by first | exact (fun h => absurd h (by decide)) | exact (fun _ => Or.inr hnt) | exact (fun _ => Or.inl (by omega)) | exact (fun _ => Or.inr (TW_short (show _ < _ + 5 by omega))) | exact (fun _ => Or.inr (TW_let (q := y2.toNat) (show y2.toNat = (a0 2 2).toNat + 5 by omega) ⟨by omega, h97, by rw [← h3]; omega⟩)))⟩
def jW_X8_takesWord_r1011 : List (Nat × Nat) := [(2, 2)]
abbrev jQ_X8_takesWord_r1011 (a0 b0 : Nat → Nat → Int) : List jxV → (Nat → Nat → Int) → (Nat → Nat → Int) → Prop := rI (fun r a b => (iv a) ∧ (jfr jW_X8_takesWord_r1011 a0 a) ∧ (b0 = b) ∧ ((0 ≤ r ∧ r ≤ 1)) ∧ (((¬ a0 2 3 = 0 ∨ a0 2 1 ≤ a0 2 2) → r = 0)) ∧ ((r = 0 → a 2 2 = a0 2 2)) ∧ (r = 1 → a0 2 3 = 0 ∧ TW (a0 3) (a0 2 1).toNat (a0 2 2).toNat 11 ∧ a 2 2 = ((SK (a0 3) (a0 2 1).toNat ((a0 2 2).toNat + wdn 11) : Nat) : Int)) ∧ (r = 0 → ¬ a0 2 3 = 0 ∨ ¬ TW (a0 3) (a0 2 1).toNat (a0 2 2).toNat 11))
theorem cp_X8_takesWord_r1011_56 (E : jxE) (d : Nat) (hd : Nat.ble 5 (d + 1) = true) (a0 b0 : Nat → Nat → Int) (hv0 : iv a0) : ∀ (a : Nat → Nat → Int), iv a → jfr jW_X8_takesWord_r1011 a0 a → 4 ≤ a 2 1 → a 2 2 = a0 2 2 → (¬ TW (a0 3) (a0 2 1).toNat (a0 2 2).toNat 11) → a0 2 3 = 0 → a0 2 2 < a0 2 1 → jt (jxX E d 128 56 [none, none, none, none] [] (jxSH, a, b0)) (jQ_X8_takesWord_r1011 a0 b0) := by
  intro a hv hf hi0 hi1 hnt hi3 hi4
  refine jt_eq (bq_X8_takesWord_r1011_56 E d a b0) ?_
  have h777_ := iv_get hv (k := 2) (j := 1) (l := 0) (u := 200) rfl
  have h778_ : a 2 1 = a0 2 1 := hf 2 1 rfl
  have h779_ := iv_get hv0 (k := 2) (j := 1) (l := 0) (u := 200) rfl
  have h780_ := iv_get hv (k := 2) (j := 2) (l := 0) (u := 200) rfl
  have h781_ := iv_get hv0 (k := 2) (j := 2) (l := 0) (u := 200) rfl
  have h3 : a 3 = a0 3 := funext fun j => hf 3 j rfl
  have h21 := hf 2 1 rfl
  exact jt_rI ⟨hv, hf, rfl, (show (0 ≤ 0 ∧ 0 ≤ 1) from by omega), (show ((¬ a0 2 3 = 0 ∨ a0 2 1 ≤ a0 2 2) → 0 = 0) from by omega), (show (0 = 0 → a 2 2 = a0 2 2) from by omega), (by first | exact (fun h => absurd h (by decide)) | exact (fun _ => ⟨by omega, htw, by have h := hq0_1; rw [show (a0 2 2).toNat + wdn 11 = y2.toNat from (by show _ + 4 = _; omega), ← h3, ← h21]; exact h⟩)), (by first | exact (fun h => absurd h (by decide)) | exact (fun _ => Or.inr hnt) | exact (fun _ => Or.inl (by omega)) | exact (fun _ => Or.inr (TW_short (show _ < _ + 4 by omega))) | exact (fun _ => Or.inr (TW_let (q := y2.toNat) (show y2.toNat = (a0 2 2).toNat + 4 by omega) ⟨by omega, h97, by rw [← h3]; omega⟩)))⟩
theorem cp_X8_takesWord_r1011_96 (E : jxE) (d : Nat) (hd : Nat.ble 5 (d + 1) = true) (a0 b0 : Nat → Nat → Int) (hv0 : iv a0) : ∀ (y2 : Int) (a : Nat → Nat → Int), iv a → jfr jW_X8_takesWord_r1011 a0 a → 4 ≤ y2 → y2 ≤ 200 → 4 ≤ a 2 1 → a 2 2 = a0 2 2 → (TW (a0 3) (a0 2 1).toNat (a0 2 2).toNat 11) → y2 = (a 2 2) + 4 → y2 ≤ a 2 1 → y2 ≤ 200 → a0 2 3 = 0 → a0 2 2 < a0 2 1 → jt (jxX E d 128 96 [some (.inr (.inr (.inl 2))), none, some (.inl y2), none] [] (jxSH, a, b0)) (jQ_X8_takesWord_r1011 a0 b0) := by
  intro y2 a hv hf hi0 hi1 hi2 hi3 htw hi5 hi6 hi7 hi8 hi9
  refine jt_eq (bq_X8_takesWord_r1011_96 E d y2 a b0) ?_
  have h782_ := iv_get hv (k := 2) (j := 1) (l := 0) (u := 200) rfl
  have h783_ : a 2 1 = a0 2 1 := hf 2 1 rfl
  have h784_ := iv_get hv0 (k := 2) (j := 1) (l := 0) (u := 200) rfl
  have h785_ := iv_get hv (k := 2) (j := 2) (l := 0) (u := 200) rfl
  have h786_ := iv_get hv0 (k := 2) (j := 2) (l := 0) (u := 200) rfl
  have h3 : a 3 = a0 3 := funext fun j => hf 3 j rfl
  have h21 := hf 2 1 rfl
  have hv787_ : iv (jxu a 2 2 y2) := iv_put hv (l := 0) (u := 200) rfl (by omega) (by omega)
  refine jt_bV (sp_X8_skipBlanks E d (jd_le hd rfl) (jxu a 2 2 y2) b0 hv787_) (fun a788_ b788_ h788_ => ?_)
  obtain ⟨hv788_, hf788_, rfl, hq788_0, hq788_1⟩ := h788_
  have h789_ := iv_get hv788_ (k := 2) (j := 2) (l := 0) (u := 200) rfl
  have h790_ : (a 2 1 ≤ y2 → a788_ 2 2 = y2) := hq788_0
  have hf791_ : jfr jW_X8_takesWord_r1011 a0 (jxu a 2 2 y2) := jfr_put hf rfl
  have hf792_ : jfr jW_X8_takesWord_r1011 a0 a788_ := jfr_tr hf791_ hf788_ rfl
  exact jt_rI ⟨hv788_, hf792_, rfl, (show (0 ≤ 1 ∧ 1 ≤ 1) from by omega), (show ((¬ a0 2 3 = 0 ∨ a0 2 1 ≤ a0 2 2) → 1 = 0) from by omega), (show (1 = 0 → a788_ 2 2 = a0 2 2) from by omega), (by first | exact (fun h => absurd h (by decide)) | exact (fun _ => ⟨by omega, htw, by have h := hq788_1; rw [show (a0 2 2).toNat + wdn 11 = y2.toNat from (by show _ + 4 = _; omega), ← h3, ← h21]; exact h⟩)), (by first | exact (fun h => absurd h (by decide)) | exact (fun _ => Or.inr hnt) | exact (fun _ => Or.inl (by omega)) | exact (fun _ => Or.inr (TW_short (show _ < _ + 4 by omega))) | exact (fun _ => Or.inr (TW_let (q := y2.toNat) (show y2.toNat = (a0 2 2).toNat + 4 by omega) ⟨by omega, h97, by rw [← h3]; omega⟩)))⟩
theorem cp_X8_takesWord_r1011_83 (E : jxE) (d : Nat) (hd : Nat.ble 5 (d + 1) = true) (a0 b0 : Nat → Nat → Int) (hv0 : iv a0) : ∀ (y2 : Int) (a : Nat → Nat → Int), iv a → jfr jW_X8_takesWord_r1011 a0 a → 4 ≤ y2 → y2 ≤ 199 → 5 ≤ a 2 1 → a 2 2 = a0 2 2 → y2 < a 2 1 → (∀ k : Nat, (k : Int) < (wdn 11 : Int) → (a0 3) ((a0 2 2).toNat + k) = (wdl 11).getD k 0) → (97 ≤ a0 3 y2.toNat) → y2 = (a 2 2) + 4 → y2 ≤ a 2 1 → y2 ≤ 200 → a0 2 3 = 0 → a0 2 2 < a0 2 1 → jt (jxX E d 128 83 [some (.inr (.inr (.inl 2))), none, some (.inl y2), none] [] (jxSH, a, b0)) (jQ_X8_takesWord_r1011 a0 b0) := by
  intro y2 a hv hf hi0 hi1 hi2 hi3 hi4 hall h97 hi7 hi8 hi9 hi10 hi11
  refine jt_eq (bq_X8_takesWord_r1011_83 E d y2 a b0) ?_
  have h793_ := iv_get hv (k := 2) (j := 1) (l := 0) (u := 200) rfl
  have h794_ : a 2 1 = a0 2 1 := hf 2 1 rfl
  have h795_ := iv_get hv0 (k := 2) (j := 1) (l := 0) (u := 200) rfl
  have h796_ := iv_get hv (k := 2) (j := 2) (l := 0) (u := 200) rfl
  have h797_ := iv_get hv0 (k := 2) (j := 2) (l := 0) (u := 200) rfl
  have h3 : a 3 = a0 3 := funext fun j => hf 3 j rfl
  have h21 := hf 2 1 rfl
  refine jt_grd (by omega) ?_
  have h798_ := iv_get hv (k := 3) (j := y2.toNat) (l := 0) (u := 255) rfl
  have h799_ : a 3 (y2.toNat) = a0 3 (y2.toNat) := hf 3 (y2.toNat) rfl
  have h800_ := iv_get hv0 (k := 3) (j := y2.toNat) (l := 0) (u := 255) rfl
  refine jt_ite (fun c801_ => ?_) (fun c801_ => ?_)
  ·
    exact cp_X8_takesWord_r1011_96 E d hd a0 b0 hv0 y2 a hv hf (show 4 ≤ y2 from by omega) (show y2 ≤ 200 from by omega) (show 4 ≤ a 2 1 from by omega) (show a 2 2 = a0 2 2 from by omega) (TW_mk (q := y2.toNat) (show y2.toNat = (a0 2 2).toNat + 4 by omega) (by omega) (by first | exact hall | exact (fun k hk => hch k (by have hw : ((wdn 11 : Nat) : Int) = 4 := rfl; omega))) (LT_no1 (by rw [← h3]; omega))) (show y2 = (a 2 2) + 4 from by omega) (show y2 ≤ a 2 1 from by omega) (show y2 ≤ 200 from by omega) (show a0 2 3 = 0 from by omega) (show a0 2 2 < a0 2 1 from by omega)
  ·
    exact jt_rI ⟨hv, hf, rfl, (show (0 ≤ 0 ∧ 0 ≤ 1) from by omega), (show ((¬ a0 2 3 = 0 ∨ a0 2 1 ≤ a0 2 2) → 0 = 0) from by omega), (show (0 = 0 → a 2 2 = a0 2 2) from by omega), (by first | exact (fun h => absurd h (by decide)) | exact (fun _ => ⟨by omega, htw, by have h := hq0_1; rw [show (a0 2 2).toNat + wdn 11 = y2.toNat from (by show _ + 4 = _; omega), ← h3, ← h21]; exact h⟩)), (by first | exact (fun h => absurd h (by decide)) | exact (fun _ => Or.inr hnt) | exact (fun _ => Or.inl (by omega)) | exact (fun _ => Or.inr (TW_short (show _ < _ + 4 by omega))) | exact (fun _ => Or.inr (TW_let (q := y2.toNat) (show y2.toNat = (a0 2 2).toNat + 4 by omega) ⟨by omega, h97, by rw [← h3]; omega⟩)))⟩
theorem cp_X8_takesWord_r1011_29 (E : jxE) (d : Nat) (hd : Nat.ble 5 (d + 1) = true) (a0 b0 : Nat → Nat → Int) (hv0 : iv a0) : ∀ n : Nat, (∀ (y2 y3 : Int) (a : Nat → Nat → Int), (((4 - y3) * 1) + 0).toNat ≤ n → iv a → jfr jW_X8_takesWord_r1011 a0 a → 4 ≤ y2 → y2 ≤ 200 → 0 ≤ y3 → y3 ≤ 3 → 4 ≤ a 2 1 → y3 < 4 → 0 ≤ y3 → a 2 2 = a0 2 2 → (∀ k : Nat, (k : Int) < y3 + 1 → (a0 3) ((a0 2 2).toNat + k) = (wdl 11).getD k 0) → y2 = (a 2 2) + 4 → y2 ≤ a 2 1 → y2 ≤ 200 → a0 2 3 = 0 → a0 2 2 < a0 2 1 → jt (jxX E d 128 58 [some (.inr (.inr (.inl 2))), some (.inr (.inr (.inl 1011))), some (.inl y2), some (.inl y3)] [] (jxSH, a, b0)) (jQ_X8_takesWord_r1011 a0 b0)) ∧ (∀ (y2 y3 : Int) (a : Nat → Nat → Int), (((4 - y3) * 1) + 0).toNat ≤ n → iv a → jfr jW_X8_takesWord_r1011 a0 a → 4 ≤ y2 → y2 ≤ 200 → 0 ≤ y3 → y3 ≤ 4 → 4 ≤ a 2 1 → 0 ≤ y3 → a 2 2 = a0 2 2 → (∀ k : Nat, (k : Int) < y3 → (a0 3) ((a0 2 2).toNat + k) = (wdl 11).getD k 0) → y2 = (a 2 2) + 4 → y2 ≤ a 2 1 → y2 ≤ 200 → a0 2 3 = 0 → a0 2 2 < a0 2 1 → jt (jxX E d 128 29 [some (.inr (.inr (.inl 2))), some (.inr (.inr (.inl 1011))), some (.inl y2), some (.inl y3)] [] (jxSH, a, b0)) (jQ_X8_takesWord_r1011 a0 b0)) := by
  refine jx_ind fun n ih => ?_
  have ih58 : ∀ (y2 y3 : Int) (a : Nat → Nat → Int), (((4 - y3) * 1) + 0).toNat < n → iv a → jfr jW_X8_takesWord_r1011 a0 a → 4 ≤ y2 → y2 ≤ 200 → 0 ≤ y3 → y3 ≤ 3 → 4 ≤ a 2 1 → y3 < 4 → 0 ≤ y3 → a 2 2 = a0 2 2 → (∀ k : Nat, (k : Int) < y3 + 1 → (a0 3) ((a0 2 2).toNat + k) = (wdl 11).getD k 0) → y2 = (a 2 2) + 4 → y2 ≤ a 2 1 → y2 ≤ 200 → a0 2 3 = 0 → a0 2 2 < a0 2 1 → jt (jxX E d 128 58 [some (.inr (.inr (.inl 2))), some (.inr (.inr (.inl 1011))), some (.inl y2), some (.inl y3)] [] (jxSH, a, b0)) (jQ_X8_takesWord_r1011 a0 b0) := fun y2 y3 a hlt i0 i1 i2 i3 i4 i5 i6 i7 i8 i9 i10 i11 i12 i13 i14 i15 => (ih _ hlt).1 y2 y3 a (Nat.le_refl _) i0 i1 i2 i3 i4 i5 i6 i7 i8 i9 i10 i11 i12 i13 i14 i15
  have ih29 : ∀ (y2 y3 : Int) (a : Nat → Nat → Int), (((4 - y3) * 1) + 0).toNat < n → iv a → jfr jW_X8_takesWord_r1011 a0 a → 4 ≤ y2 → y2 ≤ 200 → 0 ≤ y3 → y3 ≤ 4 → 4 ≤ a 2 1 → 0 ≤ y3 → a 2 2 = a0 2 2 → (∀ k : Nat, (k : Int) < y3 → (a0 3) ((a0 2 2).toNat + k) = (wdl 11).getD k 0) → y2 = (a 2 2) + 4 → y2 ≤ a 2 1 → y2 ≤ 200 → a0 2 3 = 0 → a0 2 2 < a0 2 1 → jt (jxX E d 128 29 [some (.inr (.inr (.inl 2))), some (.inr (.inr (.inl 1011))), some (.inl y2), some (.inl y3)] [] (jxSH, a, b0)) (jQ_X8_takesWord_r1011 a0 b0) := fun y2 y3 a hlt i0 i1 i2 i3 i4 i5 i6 i7 i8 i9 i10 i11 i12 i13 i14 => (ih _ hlt).2 y2 y3 a (Nat.le_refl _) i0 i1 i2 i3 i4 i5 i6 i7 i8 i9 i10 i11 i12 i13 i14
  have hc58 : ∀ (y2 y3 : Int) (a : Nat → Nat → Int), (((4 - y3) * 1) + 0).toNat ≤ n → iv a → jfr jW_X8_takesWord_r1011 a0 a → 4 ≤ y2 → y2 ≤ 200 → 0 ≤ y3 → y3 ≤ 3 → 4 ≤ a 2 1 → y3 < 4 → 0 ≤ y3 → a 2 2 = a0 2 2 → (∀ k : Nat, (k : Int) < y3 + 1 → (a0 3) ((a0 2 2).toNat + k) = (wdl 11).getD k 0) → y2 = (a 2 2) + 4 → y2 ≤ a 2 1 → y2 ≤ 200 → a0 2 3 = 0 → a0 2 2 < a0 2 1 → jt (jxX E d 128 58 [some (.inr (.inr (.inl 2))), some (.inr (.inr (.inl 1011))), some (.inl y2), some (.inl y3)] [] (jxSH, a, b0)) (jQ_X8_takesWord_r1011 a0 b0) := by
    intro y2 y3 a hm hv hf hi0 hi1 hi2 hi3 hi4 hi5 hi6 hi7 hch hi9 hi10 hi11 hi12 hi13
    refine jt_eq (bq_X8_takesWord_r1011_58 E d y2 y3 a b0) ?_
    have h802_ := iv_get hv (k := 2) (j := 1) (l := 0) (u := 200) rfl
    have h803_ : a 2 1 = a0 2 1 := hf 2 1 rfl
    have h804_ := iv_get hv0 (k := 2) (j := 1) (l := 0) (u := 200) rfl
    have h805_ := iv_get hv (k := 2) (j := 2) (l := 0) (u := 200) rfl
    have h806_ := iv_get hv0 (k := 2) (j := 2) (l := 0) (u := 200) rfl
    have h3 : a 3 = a0 3 := funext fun j => hf 3 j rfl
    have h21 := hf 2 1 rfl
    have h807_ : jxw (y3 + 1) = y3 + 1 := jxw_id (by omega) (by omega)
    exact ih29 y2 (jxw (y3 + 1)) a (show (((4 - (jxw (y3 + 1))) * 1) + 0).toNat < n from by omega) hv hf (show 4 ≤ y2 from by omega) (show y2 ≤ 200 from by omega) (show 0 ≤ jxw (y3 + 1) from by omega) (show jxw (y3 + 1) ≤ 4 from by omega) (show 4 ≤ a 2 1 from by omega) (show 0 ≤ jxw (y3 + 1) from by omega) (show a 2 2 = a0 2 2 from by omega) (by first | exact (fun k hk => absurd hk (by omega)) | (rw [show jxw (y3 + 1) = y3 + 1 from by omega]; exact hch)) (show y2 = (a 2 2) + 4 from by omega) (show y2 ≤ a 2 1 from by omega) (show y2 ≤ 200 from by omega) (show a0 2 3 = 0 from by omega) (show a0 2 2 < a0 2 1 from by omega)
  have hc29 : ∀ (y2 y3 : Int) (a : Nat → Nat → Int), (((4 - y3) * 1) + 0).toNat ≤ n → iv a → jfr jW_X8_takesWord_r1011 a0 a → 4 ≤ y2 → y2 ≤ 200 → 0 ≤ y3 → y3 ≤ 4 → 4 ≤ a 2 1 → 0 ≤ y3 → a 2 2 = a0 2 2 → (∀ k : Nat, (k : Int) < y3 → (a0 3) ((a0 2 2).toNat + k) = (wdl 11).getD k 0) → y2 = (a 2 2) + 4 → y2 ≤ a 2 1 → y2 ≤ 200 → a0 2 3 = 0 → a0 2 2 < a0 2 1 → jt (jxX E d 128 29 [some (.inr (.inr (.inl 2))), some (.inr (.inr (.inl 1011))), some (.inl y2), some (.inl y3)] [] (jxSH, a, b0)) (jQ_X8_takesWord_r1011 a0 b0) := by
    intro y2 y3 a hm hv hf hi0 hi1 hi2 hi3 hi4 hi5 hi6 hch hi8 hi9 hi10 hi11 hi12
    refine jt_eq (bq_X8_takesWord_r1011_29 E d y2 y3 a b0) ?_
    have h808_ := iv_get hv (k := 2) (j := 1) (l := 0) (u := 200) rfl
    have h809_ : a 2 1 = a0 2 1 := hf 2 1 rfl
    have h810_ := iv_get hv0 (k := 2) (j := 1) (l := 0) (u := 200) rfl
    have h811_ := iv_get hv (k := 2) (j := 2) (l := 0) (u := 200) rfl
    have h812_ := iv_get hv0 (k := 2) (j := 2) (l := 0) (u := 200) rfl
    have h3 : a 3 = a0 3 := funext fun j => hf 3 j rfl
    have h21 := hf 2 1 rfl
    refine jt_eI (eq_J0_length_8abf5_r1011 E d (jd_le hd rfl) a b0) ?_
    have h813_ := ff_J0_length_8abf5_r1011 a b0
    refine jt_ite (fun c814_ => ?_) (fun c814_ => ?_)
    ·
      have h815_ : jxw ((a 2 2) + y3) = (a 2 2) + y3 := jxw_id (by omega) (by omega)
      refine jt_grd (by omega) ?_
      refine jt_eI (eq_J0_charAt_5068e_r1011 E d (jd_le hd rfl) y3 a b0 (show (0 ≤ y3 ∧ y3 < 4) from by omega)) ?_
      have h816_ := iv_get hv (k := 3) (j := (jxw ((a 2 2) + y3)).toNat) (l := 0) (u := 255) rfl
      have h817_ : a 3 ((jxw ((a 2 2) + y3)).toNat) = a0 3 ((jxw ((a 2 2) + y3)).toNat) := hf 3 ((jxw ((a 2 2) + y3)).toNat) rfl
      have h818_ := iv_get hv0 (k := 3) (j := (jxw ((a 2 2) + y3)).toNat) (l := 0) (u := 255) rfl
      have h819_ := f_J0_charAt_5068e_r1011_eq a b0 y3
      have h820_ := f_J0_isLatin1_aae02_r1011_eq a b0
      have h821_ := f_J1_charAt_3b067_r2011_eq a b0 y3
      have h822_ := jxand_r (([109, 111, 114, 101] : List Int).getD (y3.toNat) 0) 255 (by decide) (by decide)
      have h823_ := jxi2c_b (jxand (([109, 111, 114, 101] : List Int).getD (y3.toNat) 0) 255)
      refine jt_ite (fun c824_ => ?_) (fun c824_ => ?_)
      ·
        exact hc58 y2 y3 a (show (((4 - y3) * 1) + 0).toNat ≤ n from by omega) hv hf (show 4 ≤ y2 from by omega) (show y2 ≤ 200 from by omega) (show 0 ≤ y3 from by omega) (show y3 ≤ 3 from by omega) (show 4 ≤ a 2 1 from by omega) (show y3 < 4 from by omega) (show 0 ≤ y3 from by omega) (show a 2 2 = a0 2 2 from by omega) (ch_ext hch (by omega) (q := (jxw ((a 2 2) + y3)).toNat) (by omega) (v := f_J0_charAt_5068e_r1011 a b0 y3) (by rw [← h3]; assumption) (cw_1011 a b0 y3 (by omega) (by omega))) (show y2 = (a 2 2) + 4 from by omega) (show y2 ≤ a 2 1 from by omega) (show y2 ≤ 200 from by omega) (show a0 2 3 = 0 from by omega) (show a0 2 2 < a0 2 1 from by omega)
      ·
        exact cp_X8_takesWord_r1011_56 E d hd a0 b0 hv0 a hv hf (show 4 ≤ a 2 1 from by omega) (show a 2 2 = a0 2 2 from by omega) (TW_no (y := y3) (by omega) (show y3 < 4 by omega) (q := (jxw ((a 2 2) + y3)).toNat) (by omega) (v := f_J0_charAt_5068e_r1011 a b0 y3) (cw_1011 a b0 y3 (by omega) (by omega)) (by rw [← h3]; assumption)) (show a0 2 3 = 0 from by omega) (show a0 2 2 < a0 2 1 from by omega)
    ·
      refine jt_ite (fun c825_ => ?_) (fun c825_ => ?_)
      ·
        refine jt_grd (by omega) ?_
        have h826_ := iv_get hv (k := 3) (j := y2.toNat) (l := 0) (u := 255) rfl
        have h827_ : a 3 (y2.toNat) = a0 3 (y2.toNat) := hf 3 (y2.toNat) rfl
        have h828_ := iv_get hv0 (k := 3) (j := y2.toNat) (l := 0) (u := 255) rfl
        refine jt_ite (fun c829_ => ?_) (fun c829_ => ?_)
        ·
          exact cp_X8_takesWord_r1011_96 E d hd a0 b0 hv0 y2 a hv hf (show 4 ≤ y2 from by omega) (show y2 ≤ 200 from by omega) (show 4 ≤ a 2 1 from by omega) (show a 2 2 = a0 2 2 from by omega) (TW_mk (q := y2.toNat) (show y2.toNat = (a0 2 2).toNat + 4 by omega) (by omega) (by first | exact hall | exact (fun k hk => hch k (by have hw : ((wdn 11 : Nat) : Int) = 4 := rfl; omega))) (LT_no1 (by rw [← h3]; omega))) (show y2 = (a 2 2) + 4 from by omega) (show y2 ≤ a 2 1 from by omega) (show y2 ≤ 200 from by omega) (show a0 2 3 = 0 from by omega) (show a0 2 2 < a0 2 1 from by omega)
        ·
          exact cp_X8_takesWord_r1011_83 E d hd a0 b0 hv0 y2 a hv hf (show 4 ≤ y2 from by omega) (show y2 ≤ 199 from by omega) (show 5 ≤ a 2 1 from by omega) (show a 2 2 = a0 2 2 from by omega) (show y2 < a 2 1 from by omega) (fun k hk => hch k (by have hw : ((wdn 11 : Nat) : Int) = 4 := rfl; omega)) (by rw [← h3]; omega) (show y2 = (a 2 2) + 4 from by omega) (show y2 ≤ a 2 1 from by omega) (show y2 ≤ 200 from by omega) (show a0 2 3 = 0 from by omega) (show a0 2 2 < a0 2 1 from by omega)
      ·
        exact cp_X8_takesWord_r1011_96 E d hd a0 b0 hv0 y2 a hv hf (show 4 ≤ y2 from by omega) (show y2 ≤ 200 from by omega) (show 4 ≤ a 2 1 from by omega) (show a 2 2 = a0 2 2 from by omega) (TW_mk (q := y2.toNat) (show y2.toNat = (a0 2 2).toNat + 4 by omega) (by omega) (by first | exact hall | exact (fun k hk => hch k (by have hw : ((wdn 11 : Nat) : Int) = 4 := rfl; omega))) (LT_no1 (by rw [← h3]; omega))) (show y2 = (a 2 2) + 4 from by omega) (show y2 ≤ a 2 1 from by omega) (show y2 ≤ 200 from by omega) (show a0 2 3 = 0 from by omega) (show a0 2 2 < a0 2 1 from by omega)
  exact ⟨hc58, hc29⟩
theorem sp_X8_takesWord_r1011 (E : jxE) (d : Nat) (hd : Nat.ble 5 d = true) (a0 b0 : Nat → Nat → Int) (hv0 : iv a0) : jt (jxC E d 128 [.inr (.inr (.inl 2)), .inr (.inr (.inl 1011))] (jxSH, a0, b0)) (jQ_X8_takesWord_r1011 a0 b0) := by
  obtain ⟨d, rfl⟩ := jd_succ hd
  refine jt_eq (bq_X8_takesWord_r1011 E d a0 b0) ?_
  refine jt_eI (eq_J0_length_8abf5_r1011 E d (jd_le hd rfl) a0 b0) ?_
  refine jt_eI (eq_X8_isFaulty E d (jd_le hd rfl) a0 b0) ?_
  have h830_ := f_X8_isFaulty_eq a0 b0
  refine jt_ite (fun c831_ => ?_) (fun c831_ => ?_)
  ·
    have h832_ := iv_get hv0 (k := 2) (j := 1) (l := 0) (u := 200) rfl
    have h833_ := iv_get hv0 (k := 2) (j := 2) (l := 0) (u := 200) rfl
    have h834_ := ff_J0_length_8abf5_r1011 a0 b0
    have h835_ : jxw ((a0 2 2) + (f_J0_length_8abf5_r1011 a0 b0)) = (a0 2 2) + (f_J0_length_8abf5_r1011 a0 b0) := jxw_id (by omega) (by omega)
    refine jt_ite (fun c836_ => ?_) (fun c836_ => ?_)
    ·
      exact jt_rI ⟨hv0, (jfr_rf _ _), rfl, (show (0 ≤ 0 ∧ 0 ≤ 1) from by omega), (show ((¬ a0 2 3 = 0 ∨ a0 2 1 ≤ a0 2 2) → 0 = 0) from by omega), (show (0 = 0 → a0 2 2 = a0 2 2) from by omega), (by first | exact (fun h => absurd h (by decide)) | exact (fun _ => ⟨by omega, htw, by have h := hq0_1; rw [show (a0 2 2).toNat + wdn 11 = y2.toNat from (by show _ + 4 = _; omega), ← h3, ← h21]; exact h⟩)), (by first | exact (fun h => absurd h (by decide)) | exact (fun _ => Or.inr hnt) | exact (fun _ => Or.inl (by omega)) | exact (fun _ => Or.inr (TW_short (show _ < _ + 4 by omega))) | exact (fun _ => Or.inr (TW_let (q := y2.toNat) (show y2.toNat = (a0 2 2).toNat + 4 by omega) ⟨by omega, h97, by rw [← h3]; omega⟩)))⟩
    ·
      exact (cp_X8_takesWord_r1011_29 E d hd a0 b0 hv0 _).2 (jxw ((a0 2 2) + (f_J0_length_8abf5_r1011 a0 b0))) 0 a0 (Nat.le_refl _) hv0 (jfr_rf _ _) (show 4 ≤ jxw ((a0 2 2) + (f_J0_length_8abf5_r1011 a0 b0)) from by omega) (show jxw ((a0 2 2) + (f_J0_length_8abf5_r1011 a0 b0)) ≤ 200 from by omega) (show 0 ≤ 0 from by omega) (show 0 ≤ 4 from by omega) (show 4 ≤ a0 2 1 from by omega) (show 0 ≤ 0 from by omega) (show a0 2 2 = a0 2 2 from by omega) (by first | exact (fun k hk => absurd hk (by omega)) | (rw [show jxw (y3 + 1) = y3 + 1 from by omega]; exact hch)) (show jxw ((a0 2 2) + (f_J0_length_8abf5_r1011 a0 b0)) = (a0 2 2) + 4 from by omega) (show jxw ((a0 2 2) + (f_J0_length_8abf5_r1011 a0 b0)) ≤ a0 2 1 from by omega) (show jxw ((a0 2 2) + (f_J0_length_8abf5_r1011 a0 b0)) ≤ 200 from by omega) (show a0 2 3 = 0 from by omega) (show a0 2 2 < a0 2 1 from by omega)
  ·
    have h837_ := iv_get hv0 (k := 2) (j := 1) (l := 0) (u := 200) rfl
    have h838_ := iv_get hv0 (k := 2) (j := 2) (l := 0) (u := 200) rfl
    exact jt_rI ⟨hv0, (jfr_rf _ _), rfl, (show (0 ≤ 0 ∧ 0 ≤ 1) from by omega), (show ((¬ a0 2 3 = 0 ∨ a0 2 1 ≤ a0 2 2) → 0 = 0) from by omega), (show (0 = 0 → a0 2 2 = a0 2 2) from by omega), (by first | exact (fun h => absurd h (by decide)) | exact (fun _ => ⟨by omega, htw, by have h := hq0_1; rw [show (a0 2 2).toNat + wdn 11 = y2.toNat from (by show _ + 4 = _; omega), ← h3, ← h21]; exact h⟩)), (by first | exact (fun h => absurd h (by decide)) | exact (fun _ => Or.inr hnt) | exact (fun _ => Or.inl (by omega)) | exact (fun _ => Or.inr (TW_short (show _ < _ + 4 by omega))) | exact (fun _ => Or.inr (TW_let (q := y2.toNat) (show y2.toNat = (a0 2 2).toNat + 4 by omega) ⟨by omega, h97, by rw [← h3]; omega⟩)))⟩
def jW_X8_takesWord_r1012 : List (Nat × Nat) := [(2, 2)]
abbrev jQ_X8_takesWord_r1012 (a0 b0 : Nat → Nat → Int) : List jxV → (Nat → Nat → Int) → (Nat → Nat → Int) → Prop := rI (fun r a b => (iv a) ∧ (jfr jW_X8_takesWord_r1012 a0 a) ∧ (b0 = b) ∧ ((0 ≤ r ∧ r ≤ 1)) ∧ (((¬ a0 2 3 = 0 ∨ a0 2 1 ≤ a0 2 2) → r = 0)) ∧ ((r = 0 → a 2 2 = a0 2 2)) ∧ (r = 1 → a0 2 3 = 0 ∧ TW (a0 3) (a0 2 1).toNat (a0 2 2).toNat 12 ∧ a 2 2 = ((SK (a0 3) (a0 2 1).toNat ((a0 2 2).toNat + wdn 12) : Nat) : Int)) ∧ (r = 0 → ¬ a0 2 3 = 0 ∨ ¬ TW (a0 3) (a0 2 1).toNat (a0 2 2).toNat 12))
theorem cp_X8_takesWord_r1012_56 (E : jxE) (d : Nat) (hd : Nat.ble 5 (d + 1) = true) (a0 b0 : Nat → Nat → Int) (hv0 : iv a0) : ∀ (a : Nat → Nat → Int), iv a → jfr jW_X8_takesWord_r1012 a0 a → 5 ≤ a 2 1 → a 2 2 = a0 2 2 → (¬ TW (a0 3) (a0 2 1).toNat (a0 2 2).toNat 12) → a0 2 3 = 0 → a0 2 2 < a0 2 1 → jt (jxX E d 128 56 [none, none, none, none] [] (jxSH, a, b0)) (jQ_X8_takesWord_r1012 a0 b0) := by
  intro a hv hf hi0 hi1 hnt hi3 hi4
  refine jt_eq (bq_X8_takesWord_r1012_56 E d a b0) ?_
  have h839_ := iv_get hv (k := 2) (j := 1) (l := 0) (u := 200) rfl
  have h840_ : a 2 1 = a0 2 1 := hf 2 1 rfl
  have h841_ := iv_get hv0 (k := 2) (j := 1) (l := 0) (u := 200) rfl
  have h842_ := iv_get hv (k := 2) (j := 2) (l := 0) (u := 200) rfl
  have h843_ := iv_get hv0 (k := 2) (j := 2) (l := 0) (u := 200) rfl
  have h3 : a 3 = a0 3 := funext fun j => hf 3 j rfl
  have h21 := hf 2 1 rfl
  exact jt_rI ⟨hv, hf, rfl, (show (0 ≤ 0 ∧ 0 ≤ 1) from by omega), (show ((¬ a0 2 3 = 0 ∨ a0 2 1 ≤ a0 2 2) → 0 = 0) from by omega), (show (0 = 0 → a 2 2 = a0 2 2) from by omega), (by first | exact (fun h => absurd h (by decide)) | exact (fun _ => ⟨by omega, htw, by have h := hq0_1; rw [show (a0 2 2).toNat + wdn 12 = y2.toNat from (by show _ + 5 = _; omega), ← h3, ← h21]; exact h⟩)), (by first | exact (fun h => absurd h (by decide)) | exact (fun _ => Or.inr hnt) | exact (fun _ => Or.inl (by omega)) | exact (fun _ => Or.inr (TW_short (show _ < _ + 5 by omega))) | exact (fun _ => Or.inr (TW_let (q := y2.toNat) (show y2.toNat = (a0 2 2).toNat + 5 by omega) ⟨by omega, h97, by rw [← h3]; omega⟩)))⟩
theorem cp_X8_takesWord_r1012_96 (E : jxE) (d : Nat) (hd : Nat.ble 5 (d + 1) = true) (a0 b0 : Nat → Nat → Int) (hv0 : iv a0) : ∀ (y2 : Int) (a : Nat → Nat → Int), iv a → jfr jW_X8_takesWord_r1012 a0 a → 5 ≤ y2 → y2 ≤ 200 → 5 ≤ a 2 1 → a 2 2 = a0 2 2 → (TW (a0 3) (a0 2 1).toNat (a0 2 2).toNat 12) → y2 = (a 2 2) + 5 → y2 ≤ a 2 1 → y2 ≤ 200 → a0 2 3 = 0 → a0 2 2 < a0 2 1 → jt (jxX E d 128 96 [some (.inr (.inr (.inl 2))), none, some (.inl y2), none] [] (jxSH, a, b0)) (jQ_X8_takesWord_r1012 a0 b0) := by
  intro y2 a hv hf hi0 hi1 hi2 hi3 htw hi5 hi6 hi7 hi8 hi9
  refine jt_eq (bq_X8_takesWord_r1012_96 E d y2 a b0) ?_
  have h844_ := iv_get hv (k := 2) (j := 1) (l := 0) (u := 200) rfl
  have h845_ : a 2 1 = a0 2 1 := hf 2 1 rfl
  have h846_ := iv_get hv0 (k := 2) (j := 1) (l := 0) (u := 200) rfl
  have h847_ := iv_get hv (k := 2) (j := 2) (l := 0) (u := 200) rfl
  have h848_ := iv_get hv0 (k := 2) (j := 2) (l := 0) (u := 200) rfl
  have h3 : a 3 = a0 3 := funext fun j => hf 3 j rfl
  have h21 := hf 2 1 rfl
  have hv849_ : iv (jxu a 2 2 y2) := iv_put hv (l := 0) (u := 200) rfl (by omega) (by omega)
  refine jt_bV (sp_X8_skipBlanks E d (jd_le hd rfl) (jxu a 2 2 y2) b0 hv849_) (fun a850_ b850_ h850_ => ?_)
  obtain ⟨hv850_, hf850_, rfl, hq850_0, hq850_1⟩ := h850_
  have h851_ := iv_get hv850_ (k := 2) (j := 2) (l := 0) (u := 200) rfl
  have h852_ : (a 2 1 ≤ y2 → a850_ 2 2 = y2) := hq850_0
  have hf853_ : jfr jW_X8_takesWord_r1012 a0 (jxu a 2 2 y2) := jfr_put hf rfl
  have hf854_ : jfr jW_X8_takesWord_r1012 a0 a850_ := jfr_tr hf853_ hf850_ rfl
  exact jt_rI ⟨hv850_, hf854_, rfl, (show (0 ≤ 1 ∧ 1 ≤ 1) from by omega), (show ((¬ a0 2 3 = 0 ∨ a0 2 1 ≤ a0 2 2) → 1 = 0) from by omega), (show (1 = 0 → a850_ 2 2 = a0 2 2) from by omega), (by first | exact (fun h => absurd h (by decide)) | exact (fun _ => ⟨by omega, htw, by have h := hq850_1; rw [show (a0 2 2).toNat + wdn 12 = y2.toNat from (by show _ + 5 = _; omega), ← h3, ← h21]; exact h⟩)), (by first | exact (fun h => absurd h (by decide)) | exact (fun _ => Or.inr hnt) | exact (fun _ => Or.inl (by omega)) | exact (fun _ => Or.inr (TW_short (show _ < _ + 5 by omega))) | exact (fun _ => Or.inr (TW_let (q := y2.toNat) (show y2.toNat = (a0 2 2).toNat + 5 by omega) ⟨by omega, h97, by rw [← h3]; omega⟩)))⟩
theorem cp_X8_takesWord_r1012_83 (E : jxE) (d : Nat) (hd : Nat.ble 5 (d + 1) = true) (a0 b0 : Nat → Nat → Int) (hv0 : iv a0) : ∀ (y2 : Int) (a : Nat → Nat → Int), iv a → jfr jW_X8_takesWord_r1012 a0 a → 5 ≤ y2 → y2 ≤ 199 → 6 ≤ a 2 1 → a 2 2 = a0 2 2 → y2 < a 2 1 → (∀ k : Nat, (k : Int) < (wdn 12 : Int) → (a0 3) ((a0 2 2).toNat + k) = (wdl 12).getD k 0) → (97 ≤ a0 3 y2.toNat) → y2 = (a 2 2) + 5 → y2 ≤ a 2 1 → y2 ≤ 200 → a0 2 3 = 0 → a0 2 2 < a0 2 1 → jt (jxX E d 128 83 [some (.inr (.inr (.inl 2))), none, some (.inl y2), none] [] (jxSH, a, b0)) (jQ_X8_takesWord_r1012 a0 b0) := by
  intro y2 a hv hf hi0 hi1 hi2 hi3 hi4 hall h97 hi7 hi8 hi9 hi10 hi11
  refine jt_eq (bq_X8_takesWord_r1012_83 E d y2 a b0) ?_
  have h855_ := iv_get hv (k := 2) (j := 1) (l := 0) (u := 200) rfl
  have h856_ : a 2 1 = a0 2 1 := hf 2 1 rfl
  have h857_ := iv_get hv0 (k := 2) (j := 1) (l := 0) (u := 200) rfl
  have h858_ := iv_get hv (k := 2) (j := 2) (l := 0) (u := 200) rfl
  have h859_ := iv_get hv0 (k := 2) (j := 2) (l := 0) (u := 200) rfl
  have h3 : a 3 = a0 3 := funext fun j => hf 3 j rfl
  have h21 := hf 2 1 rfl
  refine jt_grd (by omega) ?_
  have h860_ := iv_get hv (k := 3) (j := y2.toNat) (l := 0) (u := 255) rfl
  have h861_ : a 3 (y2.toNat) = a0 3 (y2.toNat) := hf 3 (y2.toNat) rfl
  have h862_ := iv_get hv0 (k := 3) (j := y2.toNat) (l := 0) (u := 255) rfl
  refine jt_ite (fun c863_ => ?_) (fun c863_ => ?_)
  ·
    exact cp_X8_takesWord_r1012_96 E d hd a0 b0 hv0 y2 a hv hf (show 5 ≤ y2 from by omega) (show y2 ≤ 200 from by omega) (show 5 ≤ a 2 1 from by omega) (show a 2 2 = a0 2 2 from by omega) (TW_mk (q := y2.toNat) (show y2.toNat = (a0 2 2).toNat + 5 by omega) (by omega) (by first | exact hall | exact (fun k hk => hch k (by have hw : ((wdn 12 : Nat) : Int) = 5 := rfl; omega))) (LT_no1 (by rw [← h3]; omega))) (show y2 = (a 2 2) + 5 from by omega) (show y2 ≤ a 2 1 from by omega) (show y2 ≤ 200 from by omega) (show a0 2 3 = 0 from by omega) (show a0 2 2 < a0 2 1 from by omega)
  ·
    exact jt_rI ⟨hv, hf, rfl, (show (0 ≤ 0 ∧ 0 ≤ 1) from by omega), (show ((¬ a0 2 3 = 0 ∨ a0 2 1 ≤ a0 2 2) → 0 = 0) from by omega), (show (0 = 0 → a 2 2 = a0 2 2) from by omega), (by first | exact (fun h => absurd h (by decide)) | exact (fun _ => ⟨by omega, htw, by have h := hq0_1; rw [show (a0 2 2).toNat + wdn 12 = y2.toNat from (by show _ + 5 = _; omega), ← h3, ← h21]; exact h⟩)), (by first | exact (fun h => absurd h (by decide)) | exact (fun _ => Or.inr hnt) | exact (fun _ => Or.inl (by omega)) | exact (fun _ => Or.inr (TW_short (show _ < _ + 5 by omega))) | exact (fun _ => Or.inr (TW_let (q := y2.toNat) (show y2.toNat = (a0 2 2).toNat + 5 by omega) ⟨by omega, h97, by rw [← h3]; omega⟩)))⟩
theorem cp_X8_takesWord_r1012_29 (E : jxE) (d : Nat) (hd : Nat.ble 5 (d + 1) = true) (a0 b0 : Nat → Nat → Int) (hv0 : iv a0) : ∀ n : Nat, (∀ (y2 y3 : Int) (a : Nat → Nat → Int), (((5 - y3) * 1) + 0).toNat ≤ n → iv a → jfr jW_X8_takesWord_r1012 a0 a → 5 ≤ y2 → y2 ≤ 200 → 0 ≤ y3 → y3 ≤ 4 → 5 ≤ a 2 1 → y3 < 5 → 0 ≤ y3 → a 2 2 = a0 2 2 → (∀ k : Nat, (k : Int) < y3 + 1 → (a0 3) ((a0 2 2).toNat + k) = (wdl 12).getD k 0) → y2 = (a 2 2) + 5 → y2 ≤ a 2 1 → y2 ≤ 200 → a0 2 3 = 0 → a0 2 2 < a0 2 1 → jt (jxX E d 128 58 [some (.inr (.inr (.inl 2))), some (.inr (.inr (.inl 1012))), some (.inl y2), some (.inl y3)] [] (jxSH, a, b0)) (jQ_X8_takesWord_r1012 a0 b0)) ∧ (∀ (y2 y3 : Int) (a : Nat → Nat → Int), (((5 - y3) * 1) + 0).toNat ≤ n → iv a → jfr jW_X8_takesWord_r1012 a0 a → 5 ≤ y2 → y2 ≤ 200 → 0 ≤ y3 → y3 ≤ 5 → 5 ≤ a 2 1 → 0 ≤ y3 → a 2 2 = a0 2 2 → (∀ k : Nat, (k : Int) < y3 → (a0 3) ((a0 2 2).toNat + k) = (wdl 12).getD k 0) → y2 = (a 2 2) + 5 → y2 ≤ a 2 1 → y2 ≤ 200 → a0 2 3 = 0 → a0 2 2 < a0 2 1 → jt (jxX E d 128 29 [some (.inr (.inr (.inl 2))), some (.inr (.inr (.inl 1012))), some (.inl y2), some (.inl y3)] [] (jxSH, a, b0)) (jQ_X8_takesWord_r1012 a0 b0)) := by
  refine jx_ind fun n ih => ?_
  have ih58 : ∀ (y2 y3 : Int) (a : Nat → Nat → Int), (((5 - y3) * 1) + 0).toNat < n → iv a → jfr jW_X8_takesWord_r1012 a0 a → 5 ≤ y2 → y2 ≤ 200 → 0 ≤ y3 → y3 ≤ 4 → 5 ≤ a 2 1 → y3 < 5 → 0 ≤ y3 → a 2 2 = a0 2 2 → (∀ k : Nat, (k : Int) < y3 + 1 → (a0 3) ((a0 2 2).toNat + k) = (wdl 12).getD k 0) → y2 = (a 2 2) + 5 → y2 ≤ a 2 1 → y2 ≤ 200 → a0 2 3 = 0 → a0 2 2 < a0 2 1 → jt (jxX E d 128 58 [some (.inr (.inr (.inl 2))), some (.inr (.inr (.inl 1012))), some (.inl y2), some (.inl y3)] [] (jxSH, a, b0)) (jQ_X8_takesWord_r1012 a0 b0) := fun y2 y3 a hlt i0 i1 i2 i3 i4 i5 i6 i7 i8 i9 i10 i11 i12 i13 i14 i15 => (ih _ hlt).1 y2 y3 a (Nat.le_refl _) i0 i1 i2 i3 i4 i5 i6 i7 i8 i9 i10 i11 i12 i13 i14 i15
  have ih29 : ∀ (y2 y3 : Int) (a : Nat → Nat → Int), (((5 - y3) * 1) + 0).toNat < n → iv a → jfr jW_X8_takesWord_r1012 a0 a → 5 ≤ y2 → y2 ≤ 200 → 0 ≤ y3 → y3 ≤ 5 → 5 ≤ a 2 1 → 0 ≤ y3 → a 2 2 = a0 2 2 → (∀ k : Nat, (k : Int) < y3 → (a0 3) ((a0 2 2).toNat + k) = (wdl 12).getD k 0) → y2 = (a 2 2) + 5 → y2 ≤ a 2 1 → y2 ≤ 200 → a0 2 3 = 0 → a0 2 2 < a0 2 1 → jt (jxX E d 128 29 [some (.inr (.inr (.inl 2))), some (.inr (.inr (.inl 1012))), some (.inl y2), some (.inl y3)] [] (jxSH, a, b0)) (jQ_X8_takesWord_r1012 a0 b0) := fun y2 y3 a hlt i0 i1 i2 i3 i4 i5 i6 i7 i8 i9 i10 i11 i12 i13 i14 => (ih _ hlt).2 y2 y3 a (Nat.le_refl _) i0 i1 i2 i3 i4 i5 i6 i7 i8 i9 i10 i11 i12 i13 i14
  have hc58 : ∀ (y2 y3 : Int) (a : Nat → Nat → Int), (((5 - y3) * 1) + 0).toNat ≤ n → iv a → jfr jW_X8_takesWord_r1012 a0 a → 5 ≤ y2 → y2 ≤ 200 → 0 ≤ y3 → y3 ≤ 4 → 5 ≤ a 2 1 → y3 < 5 → 0 ≤ y3 → a 2 2 = a0 2 2 → (∀ k : Nat, (k : Int) < y3 + 1 → (a0 3) ((a0 2 2).toNat + k) = (wdl 12).getD k 0) → y2 = (a 2 2) + 5 → y2 ≤ a 2 1 → y2 ≤ 200 → a0 2 3 = 0 → a0 2 2 < a0 2 1 → jt (jxX E d 128 58 [some (.inr (.inr (.inl 2))), some (.inr (.inr (.inl 1012))), some (.inl y2), some (.inl y3)] [] (jxSH, a, b0)) (jQ_X8_takesWord_r1012 a0 b0) := by
    intro y2 y3 a hm hv hf hi0 hi1 hi2 hi3 hi4 hi5 hi6 hi7 hch hi9 hi10 hi11 hi12 hi13
    refine jt_eq (bq_X8_takesWord_r1012_58 E d y2 y3 a b0) ?_
    have h864_ := iv_get hv (k := 2) (j := 1) (l := 0) (u := 200) rfl
    have h865_ : a 2 1 = a0 2 1 := hf 2 1 rfl
    have h866_ := iv_get hv0 (k := 2) (j := 1) (l := 0) (u := 200) rfl
    have h867_ := iv_get hv (k := 2) (j := 2) (l := 0) (u := 200) rfl
    have h868_ := iv_get hv0 (k := 2) (j := 2) (l := 0) (u := 200) rfl
    have h3 : a 3 = a0 3 := funext fun j => hf 3 j rfl
    have h21 := hf 2 1 rfl
    have h869_ : jxw (y3 + 1) = y3 + 1 := jxw_id (by omega) (by omega)
    exact ih29 y2 (jxw (y3 + 1)) a (show (((5 - (jxw (y3 + 1))) * 1) + 0).toNat < n from by omega) hv hf (show 5 ≤ y2 from by omega) (show y2 ≤ 200 from by omega) (show 0 ≤ jxw (y3 + 1) from by omega) (show jxw (y3 + 1) ≤ 5 from by omega) (show 5 ≤ a 2 1 from by omega) (show 0 ≤ jxw (y3 + 1) from by omega) (show a 2 2 = a0 2 2 from by omega) (by first | exact (fun k hk => absurd hk (by omega)) | (rw [show jxw (y3 + 1) = y3 + 1 from by omega]; exact hch)) (show y2 = (a 2 2) + 5 from by omega) (show y2 ≤ a 2 1 from by omega) (show y2 ≤ 200 from by omega) (show a0 2 3 = 0 from by omega) (show a0 2 2 < a0 2 1 from by omega)
  have hc29 : ∀ (y2 y3 : Int) (a : Nat → Nat → Int), (((5 - y3) * 1) + 0).toNat ≤ n → iv a → jfr jW_X8_takesWord_r1012 a0 a → 5 ≤ y2 → y2 ≤ 200 → 0 ≤ y3 → y3 ≤ 5 → 5 ≤ a 2 1 → 0 ≤ y3 → a 2 2 = a0 2 2 → (∀ k : Nat, (k : Int) < y3 → (a0 3) ((a0 2 2).toNat + k) = (wdl 12).getD k 0) → y2 = (a 2 2) + 5 → y2 ≤ a 2 1 → y2 ≤ 200 → a0 2 3 = 0 → a0 2 2 < a0 2 1 → jt (jxX E d 128 29 [some (.inr (.inr (.inl 2))), some (.inr (.inr (.inl 1012))), some (.inl y2), some (.inl y3)] [] (jxSH, a, b0)) (jQ_X8_takesWord_r1012 a0 b0) := by
    intro y2 y3 a hm hv hf hi0 hi1 hi2 hi3 hi4 hi5 hi6 hch hi8 hi9 hi10 hi11 hi12
    refine jt_eq (bq_X8_takesWord_r1012_29 E d y2 y3 a b0) ?_
    have h870_ := iv_get hv (k := 2) (j := 1) (l := 0) (u := 200) rfl
    have h871_ : a 2 1 = a0 2 1 := hf 2 1 rfl
    have h872_ := iv_get hv0 (k := 2) (j := 1) (l := 0) (u := 200) rfl
    have h873_ := iv_get hv (k := 2) (j := 2) (l := 0) (u := 200) rfl
    have h874_ := iv_get hv0 (k := 2) (j := 2) (l := 0) (u := 200) rfl
    have h3 : a 3 = a0 3 := funext fun j => hf 3 j rfl
    have h21 := hf 2 1 rfl
    refine jt_eI (eq_J0_length_8abf5_r1012 E d (jd_le hd rfl) a b0) ?_
    have h875_ := ff_J0_length_8abf5_r1012 a b0
    refine jt_ite (fun c876_ => ?_) (fun c876_ => ?_)
    ·
      have h877_ : jxw ((a 2 2) + y3) = (a 2 2) + y3 := jxw_id (by omega) (by omega)
      refine jt_grd (by omega) ?_
      refine jt_eI (eq_J0_charAt_5068e_r1012 E d (jd_le hd rfl) y3 a b0 (show (0 ≤ y3 ∧ y3 < 5) from by omega)) ?_
      have h878_ := iv_get hv (k := 3) (j := (jxw ((a 2 2) + y3)).toNat) (l := 0) (u := 255) rfl
      have h879_ : a 3 ((jxw ((a 2 2) + y3)).toNat) = a0 3 ((jxw ((a 2 2) + y3)).toNat) := hf 3 ((jxw ((a 2 2) + y3)).toNat) rfl
      have h880_ := iv_get hv0 (k := 3) (j := (jxw ((a 2 2) + y3)).toNat) (l := 0) (u := 255) rfl
      have h881_ := f_J0_charAt_5068e_r1012_eq a b0 y3
      have h882_ := f_J0_isLatin1_aae02_r1012_eq a b0
      have h883_ := f_J1_charAt_3b067_r2012_eq a b0 y3
      have h884_ := jxand_r (([115, 108, 97, 99, 107] : List Int).getD (y3.toNat) 0) 255 (by decide) (by decide)
      have h885_ := jxi2c_b (jxand (([115, 108, 97, 99, 107] : List Int).getD (y3.toNat) 0) 255)
      refine jt_ite (fun c886_ => ?_) (fun c886_ => ?_)
      ·
        exact hc58 y2 y3 a (show (((5 - y3) * 1) + 0).toNat ≤ n from by omega) hv hf (show 5 ≤ y2 from by omega) (show y2 ≤ 200 from by omega) (show 0 ≤ y3 from by omega) (show y3 ≤ 4 from by omega) (show 5 ≤ a 2 1 from by omega) (show y3 < 5 from by omega) (show 0 ≤ y3 from by omega) (show a 2 2 = a0 2 2 from by omega) (ch_ext hch (by omega) (q := (jxw ((a 2 2) + y3)).toNat) (by omega) (v := f_J0_charAt_5068e_r1012 a b0 y3) (by rw [← h3]; assumption) (cw_1012 a b0 y3 (by omega) (by omega))) (show y2 = (a 2 2) + 5 from by omega) (show y2 ≤ a 2 1 from by omega) (show y2 ≤ 200 from by omega) (show a0 2 3 = 0 from by omega) (show a0 2 2 < a0 2 1 from by omega)
      ·
        exact cp_X8_takesWord_r1012_56 E d hd a0 b0 hv0 a hv hf (show 5 ≤ a 2 1 from by omega) (show a 2 2 = a0 2 2 from by omega) (TW_no (y := y3) (by omega) (show y3 < 5 by omega) (q := (jxw ((a 2 2) + y3)).toNat) (by omega) (v := f_J0_charAt_5068e_r1012 a b0 y3) (cw_1012 a b0 y3 (by omega) (by omega)) (by rw [← h3]; assumption)) (show a0 2 3 = 0 from by omega) (show a0 2 2 < a0 2 1 from by omega)
    ·
      refine jt_ite (fun c887_ => ?_) (fun c887_ => ?_)
      ·
        refine jt_grd (by omega) ?_
        have h888_ := iv_get hv (k := 3) (j := y2.toNat) (l := 0) (u := 255) rfl
        have h889_ : a 3 (y2.toNat) = a0 3 (y2.toNat) := hf 3 (y2.toNat) rfl
        have h890_ := iv_get hv0 (k := 3) (j := y2.toNat) (l := 0) (u := 255) rfl
        refine jt_ite (fun c891_ => ?_) (fun c891_ => ?_)
        ·
          exact cp_X8_takesWord_r1012_96 E d hd a0 b0 hv0 y2 a hv hf (show 5 ≤ y2 from by omega) (show y2 ≤ 200 from by omega) (show 5 ≤ a 2 1 from by omega) (show a 2 2 = a0 2 2 from by omega) (TW_mk (q := y2.toNat) (show y2.toNat = (a0 2 2).toNat + 5 by omega) (by omega) (by first | exact hall | exact (fun k hk => hch k (by have hw : ((wdn 12 : Nat) : Int) = 5 := rfl; omega))) (LT_no1 (by rw [← h3]; omega))) (show y2 = (a 2 2) + 5 from by omega) (show y2 ≤ a 2 1 from by omega) (show y2 ≤ 200 from by omega) (show a0 2 3 = 0 from by omega) (show a0 2 2 < a0 2 1 from by omega)
        ·
          exact cp_X8_takesWord_r1012_83 E d hd a0 b0 hv0 y2 a hv hf (show 5 ≤ y2 from by omega) (show y2 ≤ 199 from by omega) (show 6 ≤ a 2 1 from by omega) (show a 2 2 = a0 2 2 from by omega) (show y2 < a 2 1 from by omega) (fun k hk => hch k (by have hw : ((wdn 12 : Nat) : Int) = 5 := rfl; omega)) (by rw [← h3]; omega) (show y2 = (a 2 2) + 5 from by omega) (show y2 ≤ a 2 1 from by omega) (show y2 ≤ 200 from by omega) (show a0 2 3 = 0 from by omega) (show a0 2 2 < a0 2 1 from by omega)
      ·
        exact cp_X8_takesWord_r1012_96 E d hd a0 b0 hv0 y2 a hv hf (show 5 ≤ y2 from by omega) (show y2 ≤ 200 from by omega) (show 5 ≤ a 2 1 from by omega) (show a 2 2 = a0 2 2 from by omega) (TW_mk (q := y2.toNat) (show y2.toNat = (a0 2 2).toNat + 5 by omega) (by omega) (by first | exact hall | exact (fun k hk => hch k (by have hw : ((wdn 12 : Nat) : Int) = 5 := rfl; omega))) (LT_no1 (by rw [← h3]; omega))) (show y2 = (a 2 2) + 5 from by omega) (show y2 ≤ a 2 1 from by omega) (show y2 ≤ 200 from by omega) (show a0 2 3 = 0 from by omega) (show a0 2 2 < a0 2 1 from by omega)
  exact ⟨hc58, hc29⟩
theorem sp_X8_takesWord_r1012 (E : jxE) (d : Nat) (hd : Nat.ble 5 d = true) (a0 b0 : Nat → Nat → Int) (hv0 : iv a0) : jt (jxC E d 128 [.inr (.inr (.inl 2)), .inr (.inr (.inl 1012))] (jxSH, a0, b0)) (jQ_X8_takesWord_r1012 a0 b0) := by
  obtain ⟨d, rfl⟩ := jd_succ hd
  refine jt_eq (bq_X8_takesWord_r1012 E d a0 b0) ?_
  refine jt_eI (eq_J0_length_8abf5_r1012 E d (jd_le hd rfl) a0 b0) ?_
  refine jt_eI (eq_X8_isFaulty E d (jd_le hd rfl) a0 b0) ?_
  have h892_ := f_X8_isFaulty_eq a0 b0
  refine jt_ite (fun c893_ => ?_) (fun c893_ => ?_)
  ·
    have h894_ := iv_get hv0 (k := 2) (j := 1) (l := 0) (u := 200) rfl
    have h895_ := iv_get hv0 (k := 2) (j := 2) (l := 0) (u := 200) rfl
    have h896_ := ff_J0_length_8abf5_r1012 a0 b0
    have h897_ : jxw ((a0 2 2) + (f_J0_length_8abf5_r1012 a0 b0)) = (a0 2 2) + (f_J0_length_8abf5_r1012 a0 b0) := jxw_id (by omega) (by omega)
    refine jt_ite (fun c898_ => ?_) (fun c898_ => ?_)
    ·
      exact jt_rI ⟨hv0, (jfr_rf _ _), rfl, (show (0 ≤ 0 ∧ 0 ≤ 1) from by omega), (show ((¬ a0 2 3 = 0 ∨ a0 2 1 ≤ a0 2 2) → 0 = 0) from by omega), (show (0 = 0 → a0 2 2 = a0 2 2) from by omega), (by first | exact (fun h => absurd h (by decide)) | exact (fun _ => ⟨by omega, htw, by have h := hq0_1; rw [show (a0 2 2).toNat + wdn 12 = y2.toNat from (by show _ + 5 = _; omega), ← h3, ← h21]; exact h⟩)), (by first | exact (fun h => absurd h (by decide)) | exact (fun _ => Or.inr hnt) | exact (fun _ => Or.inl (by omega)) | exact (fun _ => Or.inr (TW_short (show _ < _ + 5 by omega))) | exact (fun _ => Or.inr (TW_let (q := y2.toNat) (show y2.toNat = (a0 2 2).toNat + 5 by omega) ⟨by omega, h97, by rw [← h3]; omega⟩)))⟩
    ·
      exact (cp_X8_takesWord_r1012_29 E d hd a0 b0 hv0 _).2 (jxw ((a0 2 2) + (f_J0_length_8abf5_r1012 a0 b0))) 0 a0 (Nat.le_refl _) hv0 (jfr_rf _ _) (show 5 ≤ jxw ((a0 2 2) + (f_J0_length_8abf5_r1012 a0 b0)) from by omega) (show jxw ((a0 2 2) + (f_J0_length_8abf5_r1012 a0 b0)) ≤ 200 from by omega) (show 0 ≤ 0 from by omega) (show 0 ≤ 5 from by omega) (show 5 ≤ a0 2 1 from by omega) (show 0 ≤ 0 from by omega) (show a0 2 2 = a0 2 2 from by omega) (by first | exact (fun k hk => absurd hk (by omega)) | (rw [show jxw (y3 + 1) = y3 + 1 from by omega]; exact hch)) (show jxw ((a0 2 2) + (f_J0_length_8abf5_r1012 a0 b0)) = (a0 2 2) + 5 from by omega) (show jxw ((a0 2 2) + (f_J0_length_8abf5_r1012 a0 b0)) ≤ a0 2 1 from by omega) (show jxw ((a0 2 2) + (f_J0_length_8abf5_r1012 a0 b0)) ≤ 200 from by omega) (show a0 2 3 = 0 from by omega) (show a0 2 2 < a0 2 1 from by omega)
  ·
    have h899_ := iv_get hv0 (k := 2) (j := 1) (l := 0) (u := 200) rfl
    have h900_ := iv_get hv0 (k := 2) (j := 2) (l := 0) (u := 200) rfl
    exact jt_rI ⟨hv0, (jfr_rf _ _), rfl, (show (0 ≤ 0 ∧ 0 ≤ 1) from by omega), (show ((¬ a0 2 3 = 0 ∨ a0 2 1 ≤ a0 2 2) → 0 = 0) from by omega), (show (0 = 0 → a0 2 2 = a0 2 2) from by omega), (by first | exact (fun h => absurd h (by decide)) | exact (fun _ => ⟨by omega, htw, by have h := hq0_1; rw [show (a0 2 2).toNat + wdn 12 = y2.toNat from (by show _ + 5 = _; omega), ← h3, ← h21]; exact h⟩)), (by first | exact (fun h => absurd h (by decide)) | exact (fun _ => Or.inr hnt) | exact (fun _ => Or.inl (by omega)) | exact (fun _ => Or.inr (TW_short (show _ < _ + 5 by omega))) | exact (fun _ => Or.inr (TW_let (q := y2.toNat) (show y2.toNat = (a0 2 2).toNat + 5 by omega) ⟨by omega, h97, by rw [← h3]; omega⟩)))⟩
def jW_X8_takesWord_r1013 : List (Nat × Nat) := [(2, 2)]
abbrev jQ_X8_takesWord_r1013 (a0 b0 : Nat → Nat → Int) : List jxV → (Nat → Nat → Int) → (Nat → Nat → Int) → Prop := rI (fun r a b => (iv a) ∧ (jfr jW_X8_takesWord_r1013 a0 a) ∧ (b0 = b) ∧ ((0 ≤ r ∧ r ≤ 1)) ∧ (((¬ a0 2 3 = 0 ∨ a0 2 1 ≤ a0 2 2) → r = 0)) ∧ ((r = 0 → a 2 2 = a0 2 2)) ∧ (r = 1 → a0 2 3 = 0 ∧ TW (a0 3) (a0 2 1).toNat (a0 2 2).toNat 13 ∧ a 2 2 = ((SK (a0 3) (a0 2 1).toNat ((a0 2 2).toNat + wdn 13) : Nat) : Int)) ∧ (r = 0 → ¬ a0 2 3 = 0 ∨ ¬ TW (a0 3) (a0 2 1).toNat (a0 2 2).toNat 13))
theorem cp_X8_takesWord_r1013_56 (E : jxE) (d : Nat) (hd : Nat.ble 5 (d + 1) = true) (a0 b0 : Nat → Nat → Int) (hv0 : iv a0) : ∀ (a : Nat → Nat → Int), iv a → jfr jW_X8_takesWord_r1013 a0 a → 4 ≤ a 2 1 → a 2 2 = a0 2 2 → (¬ TW (a0 3) (a0 2 1).toNat (a0 2 2).toNat 13) → a0 2 3 = 0 → a0 2 2 < a0 2 1 → jt (jxX E d 128 56 [none, none, none, none] [] (jxSH, a, b0)) (jQ_X8_takesWord_r1013 a0 b0) := by
  intro a hv hf hi0 hi1 hnt hi3 hi4
  refine jt_eq (bq_X8_takesWord_r1013_56 E d a b0) ?_
  have h901_ := iv_get hv (k := 2) (j := 1) (l := 0) (u := 200) rfl
  have h902_ : a 2 1 = a0 2 1 := hf 2 1 rfl
  have h903_ := iv_get hv0 (k := 2) (j := 1) (l := 0) (u := 200) rfl
  have h904_ := iv_get hv (k := 2) (j := 2) (l := 0) (u := 200) rfl
  have h905_ := iv_get hv0 (k := 2) (j := 2) (l := 0) (u := 200) rfl
  have h3 : a 3 = a0 3 := funext fun j => hf 3 j rfl
  have h21 := hf 2 1 rfl
  exact jt_rI ⟨hv, hf, rfl, (show (0 ≤ 0 ∧ 0 ≤ 1) from by omega), (show ((¬ a0 2 3 = 0 ∨ a0 2 1 ≤ a0 2 2) → 0 = 0) from by omega), (show (0 = 0 → a 2 2 = a0 2 2) from by omega), (by first | exact (fun h => absurd h (by decide)) | exact (fun _ => ⟨by omega, htw, by have h := hq0_1; rw [show (a0 2 2).toNat + wdn 13 = y2.toNat from (by show _ + 4 = _; omega), ← h3, ← h21]; exact h⟩)), (by first | exact (fun h => absurd h (by decide)) | exact (fun _ => Or.inr hnt) | exact (fun _ => Or.inl (by omega)) | exact (fun _ => Or.inr (TW_short (show _ < _ + 4 by omega))) | exact (fun _ => Or.inr (TW_let (q := y2.toNat) (show y2.toNat = (a0 2 2).toNat + 4 by omega) ⟨by omega, h97, by rw [← h3]; omega⟩)))⟩
theorem cp_X8_takesWord_r1013_96 (E : jxE) (d : Nat) (hd : Nat.ble 5 (d + 1) = true) (a0 b0 : Nat → Nat → Int) (hv0 : iv a0) : ∀ (y2 : Int) (a : Nat → Nat → Int), iv a → jfr jW_X8_takesWord_r1013 a0 a → 4 ≤ y2 → y2 ≤ 200 → 4 ≤ a 2 1 → a 2 2 = a0 2 2 → (TW (a0 3) (a0 2 1).toNat (a0 2 2).toNat 13) → y2 = (a 2 2) + 4 → y2 ≤ a 2 1 → y2 ≤ 200 → a0 2 3 = 0 → a0 2 2 < a0 2 1 → jt (jxX E d 128 96 [some (.inr (.inr (.inl 2))), none, some (.inl y2), none] [] (jxSH, a, b0)) (jQ_X8_takesWord_r1013 a0 b0) := by
  intro y2 a hv hf hi0 hi1 hi2 hi3 htw hi5 hi6 hi7 hi8 hi9
  refine jt_eq (bq_X8_takesWord_r1013_96 E d y2 a b0) ?_
  have h906_ := iv_get hv (k := 2) (j := 1) (l := 0) (u := 200) rfl
  have h907_ : a 2 1 = a0 2 1 := hf 2 1 rfl
  have h908_ := iv_get hv0 (k := 2) (j := 1) (l := 0) (u := 200) rfl
  have h909_ := iv_get hv (k := 2) (j := 2) (l := 0) (u := 200) rfl
  have h910_ := iv_get hv0 (k := 2) (j := 2) (l := 0) (u := 200) rfl
  have h3 : a 3 = a0 3 := funext fun j => hf 3 j rfl
  have h21 := hf 2 1 rfl
  have hv911_ : iv (jxu a 2 2 y2) := iv_put hv (l := 0) (u := 200) rfl (by omega) (by omega)
  refine jt_bV (sp_X8_skipBlanks E d (jd_le hd rfl) (jxu a 2 2 y2) b0 hv911_) (fun a912_ b912_ h912_ => ?_)
  obtain ⟨hv912_, hf912_, rfl, hq912_0, hq912_1⟩ := h912_
  have h913_ := iv_get hv912_ (k := 2) (j := 2) (l := 0) (u := 200) rfl
  have h914_ : (a 2 1 ≤ y2 → a912_ 2 2 = y2) := hq912_0
  have hf915_ : jfr jW_X8_takesWord_r1013 a0 (jxu a 2 2 y2) := jfr_put hf rfl
  have hf916_ : jfr jW_X8_takesWord_r1013 a0 a912_ := jfr_tr hf915_ hf912_ rfl
  exact jt_rI ⟨hv912_, hf916_, rfl, (show (0 ≤ 1 ∧ 1 ≤ 1) from by omega), (show ((¬ a0 2 3 = 0 ∨ a0 2 1 ≤ a0 2 2) → 1 = 0) from by omega), (show (1 = 0 → a912_ 2 2 = a0 2 2) from by omega), (by first | exact (fun h => absurd h (by decide)) | exact (fun _ => ⟨by omega, htw, by have h := hq912_1; rw [show (a0 2 2).toNat + wdn 13 = y2.toNat from (by show _ + 4 = _; omega), ← h3, ← h21]; exact h⟩)), (by first | exact (fun h => absurd h (by decide)) | exact (fun _ => Or.inr hnt) | exact (fun _ => Or.inl (by omega)) | exact (fun _ => Or.inr (TW_short (show _ < _ + 4 by omega))) | exact (fun _ => Or.inr (TW_let (q := y2.toNat) (show y2.toNat = (a0 2 2).toNat + 4 by omega) ⟨by omega, h97, by rw [← h3]; omega⟩)))⟩
theorem cp_X8_takesWord_r1013_83 (E : jxE) (d : Nat) (hd : Nat.ble 5 (d + 1) = true) (a0 b0 : Nat → Nat → Int) (hv0 : iv a0) : ∀ (y2 : Int) (a : Nat → Nat → Int), iv a → jfr jW_X8_takesWord_r1013 a0 a → 4 ≤ y2 → y2 ≤ 199 → 5 ≤ a 2 1 → a 2 2 = a0 2 2 → y2 < a 2 1 → (∀ k : Nat, (k : Int) < (wdn 13 : Int) → (a0 3) ((a0 2 2).toNat + k) = (wdl 13).getD k 0) → (97 ≤ a0 3 y2.toNat) → y2 = (a 2 2) + 4 → y2 ≤ a 2 1 → y2 ≤ 200 → a0 2 3 = 0 → a0 2 2 < a0 2 1 → jt (jxX E d 128 83 [some (.inr (.inr (.inl 2))), none, some (.inl y2), none] [] (jxSH, a, b0)) (jQ_X8_takesWord_r1013 a0 b0) := by
  intro y2 a hv hf hi0 hi1 hi2 hi3 hi4 hall h97 hi7 hi8 hi9 hi10 hi11
  refine jt_eq (bq_X8_takesWord_r1013_83 E d y2 a b0) ?_
  have h917_ := iv_get hv (k := 2) (j := 1) (l := 0) (u := 200) rfl
  have h918_ : a 2 1 = a0 2 1 := hf 2 1 rfl
  have h919_ := iv_get hv0 (k := 2) (j := 1) (l := 0) (u := 200) rfl
  have h920_ := iv_get hv (k := 2) (j := 2) (l := 0) (u := 200) rfl
  have h921_ := iv_get hv0 (k := 2) (j := 2) (l := 0) (u := 200) rfl
  have h3 : a 3 = a0 3 := funext fun j => hf 3 j rfl
  have h21 := hf 2 1 rfl
  refine jt_grd (by omega) ?_
  have h922_ := iv_get hv (k := 3) (j := y2.toNat) (l := 0) (u := 255) rfl
  have h923_ : a 3 (y2.toNat) = a0 3 (y2.toNat) := hf 3 (y2.toNat) rfl
  have h924_ := iv_get hv0 (k := 3) (j := y2.toNat) (l := 0) (u := 255) rfl
  refine jt_ite (fun c925_ => ?_) (fun c925_ => ?_)
  ·
    exact cp_X8_takesWord_r1013_96 E d hd a0 b0 hv0 y2 a hv hf (show 4 ≤ y2 from by omega) (show y2 ≤ 200 from by omega) (show 4 ≤ a 2 1 from by omega) (show a 2 2 = a0 2 2 from by omega) (TW_mk (q := y2.toNat) (show y2.toNat = (a0 2 2).toNat + 4 by omega) (by omega) (by first | exact hall | exact (fun k hk => hch k (by have hw : ((wdn 13 : Nat) : Int) = 4 := rfl; omega))) (LT_no1 (by rw [← h3]; omega))) (show y2 = (a 2 2) + 4 from by omega) (show y2 ≤ a 2 1 from by omega) (show y2 ≤ 200 from by omega) (show a0 2 3 = 0 from by omega) (show a0 2 2 < a0 2 1 from by omega)
  ·
    exact jt_rI ⟨hv, hf, rfl, (show (0 ≤ 0 ∧ 0 ≤ 1) from by omega), (show ((¬ a0 2 3 = 0 ∨ a0 2 1 ≤ a0 2 2) → 0 = 0) from by omega), (show (0 = 0 → a 2 2 = a0 2 2) from by omega), (by first | exact (fun h => absurd h (by decide)) | exact (fun _ => ⟨by omega, htw, by have h := hq0_1; rw [show (a0 2 2).toNat + wdn 13 = y2.toNat from (by show _ + 4 = _; omega), ← h3, ← h21]; exact h⟩)), (by first | exact (fun h => absurd h (by decide)) | exact (fun _ => Or.inr hnt) | exact (fun _ => Or.inl (by omega)) | exact (fun _ => Or.inr (TW_short (show _ < _ + 4 by omega))) | exact (fun _ => Or.inr (TW_let (q := y2.toNat) (show y2.toNat = (a0 2 2).toNat + 4 by omega) ⟨by omega, h97, by rw [← h3]; omega⟩)))⟩
theorem cp_X8_takesWord_r1013_29 (E : jxE) (d : Nat) (hd : Nat.ble 5 (d + 1) = true) (a0 b0 : Nat → Nat → Int) (hv0 : iv a0) : ∀ n : Nat, (∀ (y2 y3 : Int) (a : Nat → Nat → Int), (((4 - y3) * 1) + 0).toNat ≤ n → iv a → jfr jW_X8_takesWord_r1013 a0 a → 4 ≤ y2 → y2 ≤ 200 → 0 ≤ y3 → y3 ≤ 3 → 4 ≤ a 2 1 → y3 < 4 → 0 ≤ y3 → a 2 2 = a0 2 2 → (∀ k : Nat, (k : Int) < y3 + 1 → (a0 3) ((a0 2 2).toNat + k) = (wdl 13).getD k 0) → y2 = (a 2 2) + 4 → y2 ≤ a 2 1 → y2 ≤ 200 → a0 2 3 = 0 → a0 2 2 < a0 2 1 → jt (jxX E d 128 58 [some (.inr (.inr (.inl 2))), some (.inr (.inr (.inl 1013))), some (.inl y2), some (.inl y3)] [] (jxSH, a, b0)) (jQ_X8_takesWord_r1013 a0 b0)) ∧ (∀ (y2 y3 : Int) (a : Nat → Nat → Int), (((4 - y3) * 1) + 0).toNat ≤ n → iv a → jfr jW_X8_takesWord_r1013 a0 a → 4 ≤ y2 → y2 ≤ 200 → 0 ≤ y3 → y3 ≤ 4 → 4 ≤ a 2 1 → 0 ≤ y3 → a 2 2 = a0 2 2 → (∀ k : Nat, (k : Int) < y3 → (a0 3) ((a0 2 2).toNat + k) = (wdl 13).getD k 0) → y2 = (a 2 2) + 4 → y2 ≤ a 2 1 → y2 ≤ 200 → a0 2 3 = 0 → a0 2 2 < a0 2 1 → jt (jxX E d 128 29 [some (.inr (.inr (.inl 2))), some (.inr (.inr (.inl 1013))), some (.inl y2), some (.inl y3)] [] (jxSH, a, b0)) (jQ_X8_takesWord_r1013 a0 b0)) := by
  refine jx_ind fun n ih => ?_
  have ih58 : ∀ (y2 y3 : Int) (a : Nat → Nat → Int), (((4 - y3) * 1) + 0).toNat < n → iv a → jfr jW_X8_takesWord_r1013 a0 a → 4 ≤ y2 → y2 ≤ 200 → 0 ≤ y3 → y3 ≤ 3 → 4 ≤ a 2 1 → y3 < 4 → 0 ≤ y3 → a 2 2 = a0 2 2 → (∀ k : Nat, (k : Int) < y3 + 1 → (a0 3) ((a0 2 2).toNat + k) = (wdl 13).getD k 0) → y2 = (a 2 2) + 4 → y2 ≤ a 2 1 → y2 ≤ 200 → a0 2 3 = 0 → a0 2 2 < a0 2 1 → jt (jxX E d 128 58 [some (.inr (.inr (.inl 2))), some (.inr (.inr (.inl 1013))), some (.inl y2), some (.inl y3)] [] (jxSH, a, b0)) (jQ_X8_takesWord_r1013 a0 b0) := fun y2 y3 a hlt i0 i1 i2 i3 i4 i5 i6 i7 i8 i9 i10 i11 i12 i13 i14 i15 => (ih _ hlt).1 y2 y3 a (Nat.le_refl _) i0 i1 i2 i3 i4 i5 i6 i7 i8 i9 i10 i11 i12 i13 i14 i15
  have ih29 : ∀ (y2 y3 : Int) (a : Nat → Nat → Int), (((4 - y3) * 1) + 0).toNat < n → iv a → jfr jW_X8_takesWord_r1013 a0 a → 4 ≤ y2 → y2 ≤ 200 → 0 ≤ y3 → y3 ≤ 4 → 4 ≤ a 2 1 → 0 ≤ y3 → a 2 2 = a0 2 2 → (∀ k : Nat, (k : Int) < y3 → (a0 3) ((a0 2 2).toNat + k) = (wdl 13).getD k 0) → y2 = (a 2 2) + 4 → y2 ≤ a 2 1 → y2 ≤ 200 → a0 2 3 = 0 → a0 2 2 < a0 2 1 → jt (jxX E d 128 29 [some (.inr (.inr (.inl 2))), some (.inr (.inr (.inl 1013))), some (.inl y2), some (.inl y3)] [] (jxSH, a, b0)) (jQ_X8_takesWord_r1013 a0 b0) := fun y2 y3 a hlt i0 i1 i2 i3 i4 i5 i6 i7 i8 i9 i10 i11 i12 i13 i14 => (ih _ hlt).2 y2 y3 a (Nat.le_refl _) i0 i1 i2 i3 i4 i5 i6 i7 i8 i9 i10 i11 i12 i13 i14
  have hc58 : ∀ (y2 y3 : Int) (a : Nat → Nat → Int), (((4 - y3) * 1) + 0).toNat ≤ n → iv a → jfr jW_X8_takesWord_r1013 a0 a → 4 ≤ y2 → y2 ≤ 200 → 0 ≤ y3 → y3 ≤ 3 → 4 ≤ a 2 1 → y3 < 4 → 0 ≤ y3 → a 2 2 = a0 2 2 → (∀ k : Nat, (k : Int) < y3 + 1 → (a0 3) ((a0 2 2).toNat + k) = (wdl 13).getD k 0) → y2 = (a 2 2) + 4 → y2 ≤ a 2 1 → y2 ≤ 200 → a0 2 3 = 0 → a0 2 2 < a0 2 1 → jt (jxX E d 128 58 [some (.inr (.inr (.inl 2))), some (.inr (.inr (.inl 1013))), some (.inl y2), some (.inl y3)] [] (jxSH, a, b0)) (jQ_X8_takesWord_r1013 a0 b0) := by
    intro y2 y3 a hm hv hf hi0 hi1 hi2 hi3 hi4 hi5 hi6 hi7 hch hi9 hi10 hi11 hi12 hi13
    refine jt_eq (bq_X8_takesWord_r1013_58 E d y2 y3 a b0) ?_
    have h926_ := iv_get hv (k := 2) (j := 1) (l := 0) (u := 200) rfl
    have h927_ : a 2 1 = a0 2 1 := hf 2 1 rfl
    have h928_ := iv_get hv0 (k := 2) (j := 1) (l := 0) (u := 200) rfl
    have h929_ := iv_get hv (k := 2) (j := 2) (l := 0) (u := 200) rfl
    have h930_ := iv_get hv0 (k := 2) (j := 2) (l := 0) (u := 200) rfl
    have h3 : a 3 = a0 3 := funext fun j => hf 3 j rfl
    have h21 := hf 2 1 rfl
    have h931_ : jxw (y3 + 1) = y3 + 1 := jxw_id (by omega) (by omega)
    exact ih29 y2 (jxw (y3 + 1)) a (show (((4 - (jxw (y3 + 1))) * 1) + 0).toNat < n from by omega) hv hf (show 4 ≤ y2 from by omega) (show y2 ≤ 200 from by omega) (show 0 ≤ jxw (y3 + 1) from by omega) (show jxw (y3 + 1) ≤ 4 from by omega) (show 4 ≤ a 2 1 from by omega) (show 0 ≤ jxw (y3 + 1) from by omega) (show a 2 2 = a0 2 2 from by omega) (by first | exact (fun k hk => absurd hk (by omega)) | (rw [show jxw (y3 + 1) = y3 + 1 from by omega]; exact hch)) (show y2 = (a 2 2) + 4 from by omega) (show y2 ≤ a 2 1 from by omega) (show y2 ≤ 200 from by omega) (show a0 2 3 = 0 from by omega) (show a0 2 2 < a0 2 1 from by omega)
  have hc29 : ∀ (y2 y3 : Int) (a : Nat → Nat → Int), (((4 - y3) * 1) + 0).toNat ≤ n → iv a → jfr jW_X8_takesWord_r1013 a0 a → 4 ≤ y2 → y2 ≤ 200 → 0 ≤ y3 → y3 ≤ 4 → 4 ≤ a 2 1 → 0 ≤ y3 → a 2 2 = a0 2 2 → (∀ k : Nat, (k : Int) < y3 → (a0 3) ((a0 2 2).toNat + k) = (wdl 13).getD k 0) → y2 = (a 2 2) + 4 → y2 ≤ a 2 1 → y2 ≤ 200 → a0 2 3 = 0 → a0 2 2 < a0 2 1 → jt (jxX E d 128 29 [some (.inr (.inr (.inl 2))), some (.inr (.inr (.inl 1013))), some (.inl y2), some (.inl y3)] [] (jxSH, a, b0)) (jQ_X8_takesWord_r1013 a0 b0) := by
    intro y2 y3 a hm hv hf hi0 hi1 hi2 hi3 hi4 hi5 hi6 hch hi8 hi9 hi10 hi11 hi12
    refine jt_eq (bq_X8_takesWord_r1013_29 E d y2 y3 a b0) ?_
    have h932_ := iv_get hv (k := 2) (j := 1) (l := 0) (u := 200) rfl
    have h933_ : a 2 1 = a0 2 1 := hf 2 1 rfl
    have h934_ := iv_get hv0 (k := 2) (j := 1) (l := 0) (u := 200) rfl
    have h935_ := iv_get hv (k := 2) (j := 2) (l := 0) (u := 200) rfl
    have h936_ := iv_get hv0 (k := 2) (j := 2) (l := 0) (u := 200) rfl
    have h3 : a 3 = a0 3 := funext fun j => hf 3 j rfl
    have h21 := hf 2 1 rfl
    refine jt_eI (eq_J0_length_8abf5_r1013 E d (jd_le hd rfl) a b0) ?_
    have h937_ := ff_J0_length_8abf5_r1013 a b0
    refine jt_ite (fun c938_ => ?_) (fun c938_ => ?_)
    ·
      have h939_ : jxw ((a 2 2) + y3) = (a 2 2) + y3 := jxw_id (by omega) (by omega)
      refine jt_grd (by omega) ?_
      refine jt_eI (eq_J0_charAt_5068e_r1013 E d (jd_le hd rfl) y3 a b0 (show (0 ≤ y3 ∧ y3 < 4) from by omega)) ?_
      have h940_ := iv_get hv (k := 3) (j := (jxw ((a 2 2) + y3)).toNat) (l := 0) (u := 255) rfl
      have h941_ : a 3 ((jxw ((a 2 2) + y3)).toNat) = a0 3 ((jxw ((a 2 2) + y3)).toNat) := hf 3 ((jxw ((a 2 2) + y3)).toNat) rfl
      have h942_ := iv_get hv0 (k := 3) (j := (jxw ((a 2 2) + y3)).toNat) (l := 0) (u := 255) rfl
      have h943_ := f_J0_charAt_5068e_r1013_eq a b0 y3
      have h944_ := f_J0_isLatin1_aae02_r1013_eq a b0
      have h945_ := f_J1_charAt_3b067_r2013_eq a b0 y3
      have h946_ := jxand_r (([108, 111, 115, 116] : List Int).getD (y3.toNat) 0) 255 (by decide) (by decide)
      have h947_ := jxi2c_b (jxand (([108, 111, 115, 116] : List Int).getD (y3.toNat) 0) 255)
      refine jt_ite (fun c948_ => ?_) (fun c948_ => ?_)
      ·
        exact hc58 y2 y3 a (show (((4 - y3) * 1) + 0).toNat ≤ n from by omega) hv hf (show 4 ≤ y2 from by omega) (show y2 ≤ 200 from by omega) (show 0 ≤ y3 from by omega) (show y3 ≤ 3 from by omega) (show 4 ≤ a 2 1 from by omega) (show y3 < 4 from by omega) (show 0 ≤ y3 from by omega) (show a 2 2 = a0 2 2 from by omega) (ch_ext hch (by omega) (q := (jxw ((a 2 2) + y3)).toNat) (by omega) (v := f_J0_charAt_5068e_r1013 a b0 y3) (by rw [← h3]; assumption) (cw_1013 a b0 y3 (by omega) (by omega))) (show y2 = (a 2 2) + 4 from by omega) (show y2 ≤ a 2 1 from by omega) (show y2 ≤ 200 from by omega) (show a0 2 3 = 0 from by omega) (show a0 2 2 < a0 2 1 from by omega)
      ·
        exact cp_X8_takesWord_r1013_56 E d hd a0 b0 hv0 a hv hf (show 4 ≤ a 2 1 from by omega) (show a 2 2 = a0 2 2 from by omega) (TW_no (y := y3) (by omega) (show y3 < 4 by omega) (q := (jxw ((a 2 2) + y3)).toNat) (by omega) (v := f_J0_charAt_5068e_r1013 a b0 y3) (cw_1013 a b0 y3 (by omega) (by omega)) (by rw [← h3]; assumption)) (show a0 2 3 = 0 from by omega) (show a0 2 2 < a0 2 1 from by omega)
    ·
      refine jt_ite (fun c949_ => ?_) (fun c949_ => ?_)
      ·
        refine jt_grd (by omega) ?_
        have h950_ := iv_get hv (k := 3) (j := y2.toNat) (l := 0) (u := 255) rfl
        have h951_ : a 3 (y2.toNat) = a0 3 (y2.toNat) := hf 3 (y2.toNat) rfl
        have h952_ := iv_get hv0 (k := 3) (j := y2.toNat) (l := 0) (u := 255) rfl
        refine jt_ite (fun c953_ => ?_) (fun c953_ => ?_)
        ·
          exact cp_X8_takesWord_r1013_96 E d hd a0 b0 hv0 y2 a hv hf (show 4 ≤ y2 from by omega) (show y2 ≤ 200 from by omega) (show 4 ≤ a 2 1 from by omega) (show a 2 2 = a0 2 2 from by omega) (TW_mk (q := y2.toNat) (show y2.toNat = (a0 2 2).toNat + 4 by omega) (by omega) (by first | exact hall | exact (fun k hk => hch k (by have hw : ((wdn 13 : Nat) : Int) = 4 := rfl; omega))) (LT_no1 (by rw [← h3]; omega))) (show y2 = (a 2 2) + 4 from by omega) (show y2 ≤ a 2 1 from by omega) (show y2 ≤ 200 from by omega) (show a0 2 3 = 0 from by omega) (show a0 2 2 < a0 2 1 from by omega)
        ·
          exact cp_X8_takesWord_r1013_83 E d hd a0 b0 hv0 y2 a hv hf (show 4 ≤ y2 from by omega) (show y2 ≤ 199 from by omega) (show 5 ≤ a 2 1 from by omega) (show a 2 2 = a0 2 2 from by omega) (show y2 < a 2 1 from by omega) (fun k hk => hch k (by have hw : ((wdn 13 : Nat) : Int) = 4 := rfl; omega)) (by rw [← h3]; omega) (show y2 = (a 2 2) + 4 from by omega) (show y2 ≤ a 2 1 from by omega) (show y2 ≤ 200 from by omega) (show a0 2 3 = 0 from by omega) (show a0 2 2 < a0 2 1 from by omega)
      ·
        exact cp_X8_takesWord_r1013_96 E d hd a0 b0 hv0 y2 a hv hf (show 4 ≤ y2 from by omega) (show y2 ≤ 200 from by omega) (show 4 ≤ a 2 1 from by omega) (show a 2 2 = a0 2 2 from by omega) (TW_mk (q := y2.toNat) (show y2.toNat = (a0 2 2).toNat + 4 by omega) (by omega) (by first | exact hall | exact (fun k hk => hch k (by have hw : ((wdn 13 : Nat) : Int) = 4 := rfl; omega))) (LT_no1 (by rw [← h3]; omega))) (show y2 = (a 2 2) + 4 from by omega) (show y2 ≤ a 2 1 from by omega) (show y2 ≤ 200 from by omega) (show a0 2 3 = 0 from by omega) (show a0 2 2 < a0 2 1 from by omega)
  exact ⟨hc58, hc29⟩
theorem sp_X8_takesWord_r1013 (E : jxE) (d : Nat) (hd : Nat.ble 5 d = true) (a0 b0 : Nat → Nat → Int) (hv0 : iv a0) : jt (jxC E d 128 [.inr (.inr (.inl 2)), .inr (.inr (.inl 1013))] (jxSH, a0, b0)) (jQ_X8_takesWord_r1013 a0 b0) := by
  obtain ⟨d, rfl⟩ := jd_succ hd
  refine jt_eq (bq_X8_takesWord_r1013 E d a0 b0) ?_
  refine jt_eI (eq_J0_length_8abf5_r1013 E d (jd_le hd rfl) a0 b0) ?_
  refine jt_eI (eq_X8_isFaulty E d (jd_le hd rfl) a0 b0) ?_
  have h954_ := f_X8_isFaulty_eq a0 b0
  refine jt_ite (fun c955_ => ?_) (fun c955_ => ?_)
  ·
    have h956_ := iv_get hv0 (k := 2) (j := 1) (l := 0) (u := 200) rfl
    have h957_ := iv_get hv0 (k := 2) (j := 2) (l := 0) (u := 200) rfl
    have h958_ := ff_J0_length_8abf5_r1013 a0 b0
    have h959_ : jxw ((a0 2 2) + (f_J0_length_8abf5_r1013 a0 b0)) = (a0 2 2) + (f_J0_length_8abf5_r1013 a0 b0) := jxw_id (by omega) (by omega)
    refine jt_ite (fun c960_ => ?_) (fun c960_ => ?_)
    ·
      exact jt_rI ⟨hv0, (jfr_rf _ _), rfl, (show (0 ≤ 0 ∧ 0 ≤ 1) from by omega), (show ((¬ a0 2 3 = 0 ∨ a0 2 1 ≤ a0 2 2) → 0 = 0) from by omega), (show (0 = 0 → a0 2 2 = a0 2 2) from by omega), (by first | exact (fun h => absurd h (by decide)) | exact (fun _ => ⟨by omega, htw, by have h := hq0_1; rw [show (a0 2 2).toNat + wdn 13 = y2.toNat from (by show _ + 4 = _; omega), ← h3, ← h21]; exact h⟩)), (by first | exact (fun h => absurd h (by decide)) | exact (fun _ => Or.inr hnt) | exact (fun _ => Or.inl (by omega)) | exact (fun _ => Or.inr (TW_short (show _ < _ + 4 by omega))) | exact (fun _ => Or.inr (TW_let (q := y2.toNat) (show y2.toNat = (a0 2 2).toNat + 4 by omega) ⟨by omega, h97, by rw [← h3]; omega⟩)))⟩
    ·
      exact (cp_X8_takesWord_r1013_29 E d hd a0 b0 hv0 _).2 (jxw ((a0 2 2) + (f_J0_length_8abf5_r1013 a0 b0))) 0 a0 (Nat.le_refl _) hv0 (jfr_rf _ _) (show 4 ≤ jxw ((a0 2 2) + (f_J0_length_8abf5_r1013 a0 b0)) from by omega) (show jxw ((a0 2 2) + (f_J0_length_8abf5_r1013 a0 b0)) ≤ 200 from by omega) (show 0 ≤ 0 from by omega) (show 0 ≤ 4 from by omega) (show 4 ≤ a0 2 1 from by omega) (show 0 ≤ 0 from by omega) (show a0 2 2 = a0 2 2 from by omega) (by first | exact (fun k hk => absurd hk (by omega)) | (rw [show jxw (y3 + 1) = y3 + 1 from by omega]; exact hch)) (show jxw ((a0 2 2) + (f_J0_length_8abf5_r1013 a0 b0)) = (a0 2 2) + 4 from by omega) (show jxw ((a0 2 2) + (f_J0_length_8abf5_r1013 a0 b0)) ≤ a0 2 1 from by omega) (show jxw ((a0 2 2) + (f_J0_length_8abf5_r1013 a0 b0)) ≤ 200 from by omega) (show a0 2 3 = 0 from by omega) (show a0 2 2 < a0 2 1 from by omega)
  ·
    have h961_ := iv_get hv0 (k := 2) (j := 1) (l := 0) (u := 200) rfl
    have h962_ := iv_get hv0 (k := 2) (j := 2) (l := 0) (u := 200) rfl
    exact jt_rI ⟨hv0, (jfr_rf _ _), rfl, (show (0 ≤ 0 ∧ 0 ≤ 1) from by omega), (show ((¬ a0 2 3 = 0 ∨ a0 2 1 ≤ a0 2 2) → 0 = 0) from by omega), (show (0 = 0 → a0 2 2 = a0 2 2) from by omega), (by first | exact (fun h => absurd h (by decide)) | exact (fun _ => ⟨by omega, htw, by have h := hq0_1; rw [show (a0 2 2).toNat + wdn 13 = y2.toNat from (by show _ + 4 = _; omega), ← h3, ← h21]; exact h⟩)), (by first | exact (fun h => absurd h (by decide)) | exact (fun _ => Or.inr hnt) | exact (fun _ => Or.inl (by omega)) | exact (fun _ => Or.inr (TW_short (show _ < _ + 4 by omega))) | exact (fun _ => Or.inr (TW_let (q := y2.toNat) (show y2.toNat = (a0 2 2).toNat + 4 by omega) ⟨by omega, h97, by rw [← h3]; omega⟩)))⟩
def jW_X8_takesWord_r1014 : List (Nat × Nat) := [(2, 2)]
abbrev jQ_X8_takesWord_r1014 (a0 b0 : Nat → Nat → Int) : List jxV → (Nat → Nat → Int) → (Nat → Nat → Int) → Prop := rI (fun r a b => (iv a) ∧ (jfr jW_X8_takesWord_r1014 a0 a) ∧ (b0 = b) ∧ ((0 ≤ r ∧ r ≤ 1)) ∧ (((¬ a0 2 3 = 0 ∨ a0 2 1 ≤ a0 2 2) → r = 0)) ∧ ((r = 0 → a 2 2 = a0 2 2)) ∧ (r = 1 → a0 2 3 = 0 ∧ TW (a0 3) (a0 2 1).toNat (a0 2 2).toNat 14 ∧ a 2 2 = ((SK (a0 3) (a0 2 1).toNat ((a0 2 2).toNat + wdn 14) : Nat) : Int)) ∧ (r = 0 → ¬ a0 2 3 = 0 ∨ ¬ TW (a0 3) (a0 2 1).toNat (a0 2 2).toNat 14))
theorem cp_X8_takesWord_r1014_56 (E : jxE) (d : Nat) (hd : Nat.ble 5 (d + 1) = true) (a0 b0 : Nat → Nat → Int) (hv0 : iv a0) : ∀ (a : Nat → Nat → Int), iv a → jfr jW_X8_takesWord_r1014 a0 a → 6 ≤ a 2 1 → a 2 2 = a0 2 2 → (¬ TW (a0 3) (a0 2 1).toNat (a0 2 2).toNat 14) → a0 2 3 = 0 → a0 2 2 < a0 2 1 → jt (jxX E d 128 56 [none, none, none, none] [] (jxSH, a, b0)) (jQ_X8_takesWord_r1014 a0 b0) := by
  intro a hv hf hi0 hi1 hnt hi3 hi4
  refine jt_eq (bq_X8_takesWord_r1014_56 E d a b0) ?_
  have h963_ := iv_get hv (k := 2) (j := 1) (l := 0) (u := 200) rfl
  have h964_ : a 2 1 = a0 2 1 := hf 2 1 rfl
  have h965_ := iv_get hv0 (k := 2) (j := 1) (l := 0) (u := 200) rfl
  have h966_ := iv_get hv (k := 2) (j := 2) (l := 0) (u := 200) rfl
  have h967_ := iv_get hv0 (k := 2) (j := 2) (l := 0) (u := 200) rfl
  have h3 : a 3 = a0 3 := funext fun j => hf 3 j rfl
  have h21 := hf 2 1 rfl
  exact jt_rI ⟨hv, hf, rfl, (show (0 ≤ 0 ∧ 0 ≤ 1) from by omega), (show ((¬ a0 2 3 = 0 ∨ a0 2 1 ≤ a0 2 2) → 0 = 0) from by omega), (show (0 = 0 → a 2 2 = a0 2 2) from by omega), (by first | exact (fun h => absurd h (by decide)) | exact (fun _ => ⟨by omega, htw, by have h := hq0_1; rw [show (a0 2 2).toNat + wdn 14 = y2.toNat from (by show _ + 6 = _; omega), ← h3, ← h21]; exact h⟩)), (by first | exact (fun h => absurd h (by decide)) | exact (fun _ => Or.inr hnt) | exact (fun _ => Or.inl (by omega)) | exact (fun _ => Or.inr (TW_short (show _ < _ + 6 by omega))) | exact (fun _ => Or.inr (TW_let (q := y2.toNat) (show y2.toNat = (a0 2 2).toNat + 6 by omega) ⟨by omega, h97, by rw [← h3]; omega⟩)))⟩
theorem cp_X8_takesWord_r1014_96 (E : jxE) (d : Nat) (hd : Nat.ble 5 (d + 1) = true) (a0 b0 : Nat → Nat → Int) (hv0 : iv a0) : ∀ (y2 : Int) (a : Nat → Nat → Int), iv a → jfr jW_X8_takesWord_r1014 a0 a → 6 ≤ y2 → y2 ≤ 200 → 6 ≤ a 2 1 → a 2 2 = a0 2 2 → (TW (a0 3) (a0 2 1).toNat (a0 2 2).toNat 14) → y2 = (a 2 2) + 6 → y2 ≤ a 2 1 → y2 ≤ 200 → a0 2 3 = 0 → a0 2 2 < a0 2 1 → jt (jxX E d 128 96 [some (.inr (.inr (.inl 2))), none, some (.inl y2), none] [] (jxSH, a, b0)) (jQ_X8_takesWord_r1014 a0 b0) := by
  intro y2 a hv hf hi0 hi1 hi2 hi3 htw hi5 hi6 hi7 hi8 hi9
  refine jt_eq (bq_X8_takesWord_r1014_96 E d y2 a b0) ?_
  have h968_ := iv_get hv (k := 2) (j := 1) (l := 0) (u := 200) rfl
  have h969_ : a 2 1 = a0 2 1 := hf 2 1 rfl
  have h970_ := iv_get hv0 (k := 2) (j := 1) (l := 0) (u := 200) rfl
  have h971_ := iv_get hv (k := 2) (j := 2) (l := 0) (u := 200) rfl
  have h972_ := iv_get hv0 (k := 2) (j := 2) (l := 0) (u := 200) rfl
  have h3 : a 3 = a0 3 := funext fun j => hf 3 j rfl
  have h21 := hf 2 1 rfl
  have hv973_ : iv (jxu a 2 2 y2) := iv_put hv (l := 0) (u := 200) rfl (by omega) (by omega)
  refine jt_bV (sp_X8_skipBlanks E d (jd_le hd rfl) (jxu a 2 2 y2) b0 hv973_) (fun a974_ b974_ h974_ => ?_)
  obtain ⟨hv974_, hf974_, rfl, hq974_0, hq974_1⟩ := h974_
  have h975_ := iv_get hv974_ (k := 2) (j := 2) (l := 0) (u := 200) rfl
  have h976_ : (a 2 1 ≤ y2 → a974_ 2 2 = y2) := hq974_0
  have hf977_ : jfr jW_X8_takesWord_r1014 a0 (jxu a 2 2 y2) := jfr_put hf rfl
  have hf978_ : jfr jW_X8_takesWord_r1014 a0 a974_ := jfr_tr hf977_ hf974_ rfl
  exact jt_rI ⟨hv974_, hf978_, rfl, (show (0 ≤ 1 ∧ 1 ≤ 1) from by omega), (show ((¬ a0 2 3 = 0 ∨ a0 2 1 ≤ a0 2 2) → 1 = 0) from by omega), (show (1 = 0 → a974_ 2 2 = a0 2 2) from by omega), (by first | exact (fun h => absurd h (by decide)) | exact (fun _ => ⟨by omega, htw, by have h := hq974_1; rw [show (a0 2 2).toNat + wdn 14 = y2.toNat from (by show _ + 6 = _; omega), ← h3, ← h21]; exact h⟩)), (by first | exact (fun h => absurd h (by decide)) | exact (fun _ => Or.inr hnt) | exact (fun _ => Or.inl (by omega)) | exact (fun _ => Or.inr (TW_short (show _ < _ + 6 by omega))) | exact (fun _ => Or.inr (TW_let (q := y2.toNat) (show y2.toNat = (a0 2 2).toNat + 6 by omega) ⟨by omega, h97, by rw [← h3]; omega⟩)))⟩
theorem cp_X8_takesWord_r1014_83 (E : jxE) (d : Nat) (hd : Nat.ble 5 (d + 1) = true) (a0 b0 : Nat → Nat → Int) (hv0 : iv a0) : ∀ (y2 : Int) (a : Nat → Nat → Int), iv a → jfr jW_X8_takesWord_r1014 a0 a → 6 ≤ y2 → y2 ≤ 199 → 7 ≤ a 2 1 → a 2 2 = a0 2 2 → y2 < a 2 1 → (∀ k : Nat, (k : Int) < (wdn 14 : Int) → (a0 3) ((a0 2 2).toNat + k) = (wdl 14).getD k 0) → (97 ≤ a0 3 y2.toNat) → y2 = (a 2 2) + 6 → y2 ≤ a 2 1 → y2 ≤ 200 → a0 2 3 = 0 → a0 2 2 < a0 2 1 → jt (jxX E d 128 83 [some (.inr (.inr (.inl 2))), none, some (.inl y2), none] [] (jxSH, a, b0)) (jQ_X8_takesWord_r1014 a0 b0) := by
  intro y2 a hv hf hi0 hi1 hi2 hi3 hi4 hall h97 hi7 hi8 hi9 hi10 hi11
  refine jt_eq (bq_X8_takesWord_r1014_83 E d y2 a b0) ?_
  have h979_ := iv_get hv (k := 2) (j := 1) (l := 0) (u := 200) rfl
  have h980_ : a 2 1 = a0 2 1 := hf 2 1 rfl
  have h981_ := iv_get hv0 (k := 2) (j := 1) (l := 0) (u := 200) rfl
  have h982_ := iv_get hv (k := 2) (j := 2) (l := 0) (u := 200) rfl
  have h983_ := iv_get hv0 (k := 2) (j := 2) (l := 0) (u := 200) rfl
  have h3 : a 3 = a0 3 := funext fun j => hf 3 j rfl
  have h21 := hf 2 1 rfl
  refine jt_grd (by omega) ?_
  have h984_ := iv_get hv (k := 3) (j := y2.toNat) (l := 0) (u := 255) rfl
  have h985_ : a 3 (y2.toNat) = a0 3 (y2.toNat) := hf 3 (y2.toNat) rfl
  have h986_ := iv_get hv0 (k := 3) (j := y2.toNat) (l := 0) (u := 255) rfl
  refine jt_ite (fun c987_ => ?_) (fun c987_ => ?_)
  ·
    exact cp_X8_takesWord_r1014_96 E d hd a0 b0 hv0 y2 a hv hf (show 6 ≤ y2 from by omega) (show y2 ≤ 200 from by omega) (show 6 ≤ a 2 1 from by omega) (show a 2 2 = a0 2 2 from by omega) (TW_mk (q := y2.toNat) (show y2.toNat = (a0 2 2).toNat + 6 by omega) (by omega) (by first | exact hall | exact (fun k hk => hch k (by have hw : ((wdn 14 : Nat) : Int) = 6 := rfl; omega))) (LT_no1 (by rw [← h3]; omega))) (show y2 = (a 2 2) + 6 from by omega) (show y2 ≤ a 2 1 from by omega) (show y2 ≤ 200 from by omega) (show a0 2 3 = 0 from by omega) (show a0 2 2 < a0 2 1 from by omega)
  ·
    exact jt_rI ⟨hv, hf, rfl, (show (0 ≤ 0 ∧ 0 ≤ 1) from by omega), (show ((¬ a0 2 3 = 0 ∨ a0 2 1 ≤ a0 2 2) → 0 = 0) from by omega), (show (0 = 0 → a 2 2 = a0 2 2) from by omega), (by first | exact (fun h => absurd h (by decide)) | exact (fun _ => ⟨by omega, htw, by have h := hq0_1; rw [show (a0 2 2).toNat + wdn 14 = y2.toNat from (by show _ + 6 = _; omega), ← h3, ← h21]; exact h⟩)), (by first | exact (fun h => absurd h (by decide)) | exact (fun _ => Or.inr hnt) | exact (fun _ => Or.inl (by omega)) | exact (fun _ => Or.inr (TW_short (show _ < _ + 6 by omega))) | exact (fun _ => Or.inr (TW_let (q := y2.toNat) (show y2.toNat = (a0 2 2).toNat + 6 by omega) ⟨by omega, h97, by rw [← h3]; omega⟩)))⟩
theorem cp_X8_takesWord_r1014_29 (E : jxE) (d : Nat) (hd : Nat.ble 5 (d + 1) = true) (a0 b0 : Nat → Nat → Int) (hv0 : iv a0) : ∀ n : Nat, (∀ (y2 y3 : Int) (a : Nat → Nat → Int), (((6 - y3) * 1) + 0).toNat ≤ n → iv a → jfr jW_X8_takesWord_r1014 a0 a → 6 ≤ y2 → y2 ≤ 200 → 0 ≤ y3 → y3 ≤ 5 → 6 ≤ a 2 1 → y3 < 6 → 0 ≤ y3 → a 2 2 = a0 2 2 → (∀ k : Nat, (k : Int) < y3 + 1 → (a0 3) ((a0 2 2).toNat + k) = (wdl 14).getD k 0) → y2 = (a 2 2) + 6 → y2 ≤ a 2 1 → y2 ≤ 200 → a0 2 3 = 0 → a0 2 2 < a0 2 1 → jt (jxX E d 128 58 [some (.inr (.inr (.inl 2))), some (.inr (.inr (.inl 1014))), some (.inl y2), some (.inl y3)] [] (jxSH, a, b0)) (jQ_X8_takesWord_r1014 a0 b0)) ∧ (∀ (y2 y3 : Int) (a : Nat → Nat → Int), (((6 - y3) * 1) + 0).toNat ≤ n → iv a → jfr jW_X8_takesWord_r1014 a0 a → 6 ≤ y2 → y2 ≤ 200 → 0 ≤ y3 → y3 ≤ 6 → 6 ≤ a 2 1 → 0 ≤ y3 → a 2 2 = a0 2 2 → (∀ k : Nat, (k : Int) < y3 → (a0 3) ((a0 2 2).toNat + k) = (wdl 14).getD k 0) → y2 = (a 2 2) + 6 → y2 ≤ a 2 1 → y2 ≤ 200 → a0 2 3 = 0 → a0 2 2 < a0 2 1 → jt (jxX E d 128 29 [some (.inr (.inr (.inl 2))), some (.inr (.inr (.inl 1014))), some (.inl y2), some (.inl y3)] [] (jxSH, a, b0)) (jQ_X8_takesWord_r1014 a0 b0)) := by
  refine jx_ind fun n ih => ?_
  have ih58 : ∀ (y2 y3 : Int) (a : Nat → Nat → Int), (((6 - y3) * 1) + 0).toNat < n → iv a → jfr jW_X8_takesWord_r1014 a0 a → 6 ≤ y2 → y2 ≤ 200 → 0 ≤ y3 → y3 ≤ 5 → 6 ≤ a 2 1 → y3 < 6 → 0 ≤ y3 → a 2 2 = a0 2 2 → (∀ k : Nat, (k : Int) < y3 + 1 → (a0 3) ((a0 2 2).toNat + k) = (wdl 14).getD k 0) → y2 = (a 2 2) + 6 → y2 ≤ a 2 1 → y2 ≤ 200 → a0 2 3 = 0 → a0 2 2 < a0 2 1 → jt (jxX E d 128 58 [some (.inr (.inr (.inl 2))), some (.inr (.inr (.inl 1014))), some (.inl y2), some (.inl y3)] [] (jxSH, a, b0)) (jQ_X8_takesWord_r1014 a0 b0) := fun y2 y3 a hlt i0 i1 i2 i3 i4 i5 i6 i7 i8 i9 i10 i11 i12 i13 i14 i15 => (ih _ hlt).1 y2 y3 a (Nat.le_refl _) i0 i1 i2 i3 i4 i5 i6 i7 i8 i9 i10 i11 i12 i13 i14 i15
  have ih29 : ∀ (y2 y3 : Int) (a : Nat → Nat → Int), (((6 - y3) * 1) + 0).toNat < n → iv a → jfr jW_X8_takesWord_r1014 a0 a → 6 ≤ y2 → y2 ≤ 200 → 0 ≤ y3 → y3 ≤ 6 → 6 ≤ a 2 1 → 0 ≤ y3 → a 2 2 = a0 2 2 → (∀ k : Nat, (k : Int) < y3 → (a0 3) ((a0 2 2).toNat + k) = (wdl 14).getD k 0) → y2 = (a 2 2) + 6 → y2 ≤ a 2 1 → y2 ≤ 200 → a0 2 3 = 0 → a0 2 2 < a0 2 1 → jt (jxX E d 128 29 [some (.inr (.inr (.inl 2))), some (.inr (.inr (.inl 1014))), some (.inl y2), some (.inl y3)] [] (jxSH, a, b0)) (jQ_X8_takesWord_r1014 a0 b0) := fun y2 y3 a hlt i0 i1 i2 i3 i4 i5 i6 i7 i8 i9 i10 i11 i12 i13 i14 => (ih _ hlt).2 y2 y3 a (Nat.le_refl _) i0 i1 i2 i3 i4 i5 i6 i7 i8 i9 i10 i11 i12 i13 i14
  have hc58 : ∀ (y2 y3 : Int) (a : Nat → Nat → Int), (((6 - y3) * 1) + 0).toNat ≤ n → iv a → jfr jW_X8_takesWord_r1014 a0 a → 6 ≤ y2 → y2 ≤ 200 → 0 ≤ y3 → y3 ≤ 5 → 6 ≤ a 2 1 → y3 < 6 → 0 ≤ y3 → a 2 2 = a0 2 2 → (∀ k : Nat, (k : Int) < y3 + 1 → (a0 3) ((a0 2 2).toNat + k) = (wdl 14).getD k 0) → y2 = (a 2 2) + 6 → y2 ≤ a 2 1 → y2 ≤ 200 → a0 2 3 = 0 → a0 2 2 < a0 2 1 → jt (jxX E d 128 58 [some (.inr (.inr (.inl 2))), some (.inr (.inr (.inl 1014))), some (.inl y2), some (.inl y3)] [] (jxSH, a, b0)) (jQ_X8_takesWord_r1014 a0 b0) := by
    intro y2 y3 a hm hv hf hi0 hi1 hi2 hi3 hi4 hi5 hi6 hi7 hch hi9 hi10 hi11 hi12 hi13
    refine jt_eq (bq_X8_takesWord_r1014_58 E d y2 y3 a b0) ?_
    have h988_ := iv_get hv (k := 2) (j := 1) (l := 0) (u := 200) rfl
    have h989_ : a 2 1 = a0 2 1 := hf 2 1 rfl
    have h990_ := iv_get hv0 (k := 2) (j := 1) (l := 0) (u := 200) rfl
    have h991_ := iv_get hv (k := 2) (j := 2) (l := 0) (u := 200) rfl
    have h992_ := iv_get hv0 (k := 2) (j := 2) (l := 0) (u := 200) rfl
    have h3 : a 3 = a0 3 := funext fun j => hf 3 j rfl
    have h21 := hf 2 1 rfl
    have h993_ : jxw (y3 + 1) = y3 + 1 := jxw_id (by omega) (by omega)
    exact ih29 y2 (jxw (y3 + 1)) a (show (((6 - (jxw (y3 + 1))) * 1) + 0).toNat < n from by omega) hv hf (show 6 ≤ y2 from by omega) (show y2 ≤ 200 from by omega) (show 0 ≤ jxw (y3 + 1) from by omega) (show jxw (y3 + 1) ≤ 6 from by omega) (show 6 ≤ a 2 1 from by omega) (show 0 ≤ jxw (y3 + 1) from by omega) (show a 2 2 = a0 2 2 from by omega) (by first | exact (fun k hk => absurd hk (by omega)) | (rw [show jxw (y3 + 1) = y3 + 1 from by omega]; exact hch)) (show y2 = (a 2 2) + 6 from by omega) (show y2 ≤ a 2 1 from by omega) (show y2 ≤ 200 from by omega) (show a0 2 3 = 0 from by omega) (show a0 2 2 < a0 2 1 from by omega)
  have hc29 : ∀ (y2 y3 : Int) (a : Nat → Nat → Int), (((6 - y3) * 1) + 0).toNat ≤ n → iv a → jfr jW_X8_takesWord_r1014 a0 a → 6 ≤ y2 → y2 ≤ 200 → 0 ≤ y3 → y3 ≤ 6 → 6 ≤ a 2 1 → 0 ≤ y3 → a 2 2 = a0 2 2 → (∀ k : Nat, (k : Int) < y3 → (a0 3) ((a0 2 2).toNat + k) = (wdl 14).getD k 0) → y2 = (a 2 2) + 6 → y2 ≤ a 2 1 → y2 ≤ 200 → a0 2 3 = 0 → a0 2 2 < a0 2 1 → jt (jxX E d 128 29 [some (.inr (.inr (.inl 2))), some (.inr (.inr (.inl 1014))), some (.inl y2), some (.inl y3)] [] (jxSH, a, b0)) (jQ_X8_takesWord_r1014 a0 b0) := by
    intro y2 y3 a hm hv hf hi0 hi1 hi2 hi3 hi4 hi5 hi6 hch hi8 hi9 hi10 hi11 hi12
    refine jt_eq (bq_X8_takesWord_r1014_29 E d y2 y3 a b0) ?_
    have h994_ := iv_get hv (k := 2) (j := 1) (l := 0) (u := 200) rfl
    have h995_ : a 2 1 = a0 2 1 := hf 2 1 rfl
    have h996_ := iv_get hv0 (k := 2) (j := 1) (l := 0) (u := 200) rfl
    have h997_ := iv_get hv (k := 2) (j := 2) (l := 0) (u := 200) rfl
    have h998_ := iv_get hv0 (k := 2) (j := 2) (l := 0) (u := 200) rfl
    have h3 : a 3 = a0 3 := funext fun j => hf 3 j rfl
    have h21 := hf 2 1 rfl
    refine jt_eI (eq_J0_length_8abf5_r1014 E d (jd_le hd rfl) a b0) ?_
    have h999_ := ff_J0_length_8abf5_r1014 a b0
    refine jt_ite (fun c1000_ => ?_) (fun c1000_ => ?_)
    ·
      have h1001_ : jxw ((a 2 2) + y3) = (a 2 2) + y3 := jxw_id (by omega) (by omega)
      refine jt_grd (by omega) ?_
      refine jt_eI (eq_J0_charAt_5068e_r1014 E d (jd_le hd rfl) y3 a b0 (show (0 ≤ y3 ∧ y3 < 6) from by omega)) ?_
      have h1002_ := iv_get hv (k := 3) (j := (jxw ((a 2 2) + y3)).toNat) (l := 0) (u := 255) rfl
      have h1003_ : a 3 ((jxw ((a 2 2) + y3)).toNat) = a0 3 ((jxw ((a 2 2) + y3)).toNat) := hf 3 ((jxw ((a 2 2) + y3)).toNat) rfl
      have h1004_ := iv_get hv0 (k := 3) (j := (jxw ((a 2 2) + y3)).toNat) (l := 0) (u := 255) rfl
      have h1005_ := f_J0_charAt_5068e_r1014_eq a b0 y3
      have h1006_ := f_J0_isLatin1_aae02_r1014_eq a b0
      have h1007_ := f_J1_charAt_3b067_r2014_eq a b0 y3
      have h1008_ := jxand_r (([115, 116, 114, 105, 99, 116] : List Int).getD (y3.toNat) 0) 255 (by decide) (by decide)
      have h1009_ := jxi2c_b (jxand (([115, 116, 114, 105, 99, 116] : List Int).getD (y3.toNat) 0) 255)
      refine jt_ite (fun c1010_ => ?_) (fun c1010_ => ?_)
      ·
        exact hc58 y2 y3 a (show (((6 - y3) * 1) + 0).toNat ≤ n from by omega) hv hf (show 6 ≤ y2 from by omega) (show y2 ≤ 200 from by omega) (show 0 ≤ y3 from by omega) (show y3 ≤ 5 from by omega) (show 6 ≤ a 2 1 from by omega) (show y3 < 6 from by omega) (show 0 ≤ y3 from by omega) (show a 2 2 = a0 2 2 from by omega) (ch_ext hch (by omega) (q := (jxw ((a 2 2) + y3)).toNat) (by omega) (v := f_J0_charAt_5068e_r1014 a b0 y3) (by rw [← h3]; assumption) (cw_1014 a b0 y3 (by omega) (by omega))) (show y2 = (a 2 2) + 6 from by omega) (show y2 ≤ a 2 1 from by omega) (show y2 ≤ 200 from by omega) (show a0 2 3 = 0 from by omega) (show a0 2 2 < a0 2 1 from by omega)
      ·
        exact cp_X8_takesWord_r1014_56 E d hd a0 b0 hv0 a hv hf (show 6 ≤ a 2 1 from by omega) (show a 2 2 = a0 2 2 from by omega) (TW_no (y := y3) (by omega) (show y3 < 6 by omega) (q := (jxw ((a 2 2) + y3)).toNat) (by omega) (v := f_J0_charAt_5068e_r1014 a b0 y3) (cw_1014 a b0 y3 (by omega) (by omega)) (by rw [← h3]; assumption)) (show a0 2 3 = 0 from by omega) (show a0 2 2 < a0 2 1 from by omega)
    ·
      refine jt_ite (fun c1011_ => ?_) (fun c1011_ => ?_)
      ·
        refine jt_grd (by omega) ?_
        have h1012_ := iv_get hv (k := 3) (j := y2.toNat) (l := 0) (u := 255) rfl
        have h1013_ : a 3 (y2.toNat) = a0 3 (y2.toNat) := hf 3 (y2.toNat) rfl
        have h1014_ := iv_get hv0 (k := 3) (j := y2.toNat) (l := 0) (u := 255) rfl
        refine jt_ite (fun c1015_ => ?_) (fun c1015_ => ?_)
        ·
          exact cp_X8_takesWord_r1014_96 E d hd a0 b0 hv0 y2 a hv hf (show 6 ≤ y2 from by omega) (show y2 ≤ 200 from by omega) (show 6 ≤ a 2 1 from by omega) (show a 2 2 = a0 2 2 from by omega) (TW_mk (q := y2.toNat) (show y2.toNat = (a0 2 2).toNat + 6 by omega) (by omega) (by first | exact hall | exact (fun k hk => hch k (by have hw : ((wdn 14 : Nat) : Int) = 6 := rfl; omega))) (LT_no1 (by rw [← h3]; omega))) (show y2 = (a 2 2) + 6 from by omega) (show y2 ≤ a 2 1 from by omega) (show y2 ≤ 200 from by omega) (show a0 2 3 = 0 from by omega) (show a0 2 2 < a0 2 1 from by omega)
        ·
          exact cp_X8_takesWord_r1014_83 E d hd a0 b0 hv0 y2 a hv hf (show 6 ≤ y2 from by omega) (show y2 ≤ 199 from by omega) (show 7 ≤ a 2 1 from by omega) (show a 2 2 = a0 2 2 from by omega) (show y2 < a 2 1 from by omega) (fun k hk => hch k (by have hw : ((wdn 14 : Nat) : Int) = 6 := rfl; omega)) (by rw [← h3]; omega) (show y2 = (a 2 2) + 6 from by omega) (show y2 ≤ a 2 1 from by omega) (show y2 ≤ 200 from by omega) (show a0 2 3 = 0 from by omega) (show a0 2 2 < a0 2 1 from by omega)
      ·
        exact cp_X8_takesWord_r1014_96 E d hd a0 b0 hv0 y2 a hv hf (show 6 ≤ y2 from by omega) (show y2 ≤ 200 from by omega) (show 6 ≤ a 2 1 from by omega) (show a 2 2 = a0 2 2 from by omega) (TW_mk (q := y2.toNat) (show y2.toNat = (a0 2 2).toNat + 6 by omega) (by omega) (by first | exact hall | exact (fun k hk => hch k (by have hw : ((wdn 14 : Nat) : Int) = 6 := rfl; omega))) (LT_no1 (by rw [← h3]; omega))) (show y2 = (a 2 2) + 6 from by omega) (show y2 ≤ a 2 1 from by omega) (show y2 ≤ 200 from by omega) (show a0 2 3 = 0 from by omega) (show a0 2 2 < a0 2 1 from by omega)
  exact ⟨hc58, hc29⟩
theorem sp_X8_takesWord_r1014 (E : jxE) (d : Nat) (hd : Nat.ble 5 d = true) (a0 b0 : Nat → Nat → Int) (hv0 : iv a0) : jt (jxC E d 128 [.inr (.inr (.inl 2)), .inr (.inr (.inl 1014))] (jxSH, a0, b0)) (jQ_X8_takesWord_r1014 a0 b0) := by
  obtain ⟨d, rfl⟩ := jd_succ hd
  refine jt_eq (bq_X8_takesWord_r1014 E d a0 b0) ?_
  refine jt_eI (eq_J0_length_8abf5_r1014 E d (jd_le hd rfl) a0 b0) ?_
  refine jt_eI (eq_X8_isFaulty E d (jd_le hd rfl) a0 b0) ?_
  have h1016_ := f_X8_isFaulty_eq a0 b0
  refine jt_ite (fun c1017_ => ?_) (fun c1017_ => ?_)
  ·
    have h1018_ := iv_get hv0 (k := 2) (j := 1) (l := 0) (u := 200) rfl
    have h1019_ := iv_get hv0 (k := 2) (j := 2) (l := 0) (u := 200) rfl
    have h1020_ := ff_J0_length_8abf5_r1014 a0 b0
    have h1021_ : jxw ((a0 2 2) + (f_J0_length_8abf5_r1014 a0 b0)) = (a0 2 2) + (f_J0_length_8abf5_r1014 a0 b0) := jxw_id (by omega) (by omega)
    refine jt_ite (fun c1022_ => ?_) (fun c1022_ => ?_)
    ·
      exact jt_rI ⟨hv0, (jfr_rf _ _), rfl, (show (0 ≤ 0 ∧ 0 ≤ 1) from by omega), (show ((¬ a0 2 3 = 0 ∨ a0 2 1 ≤ a0 2 2) → 0 = 0) from by omega), (show (0 = 0 → a0 2 2 = a0 2 2) from by omega), (by first | exact (fun h => absurd h (by decide)) | exact (fun _ => ⟨by omega, htw, by have h := hq0_1; rw [show (a0 2 2).toNat + wdn 14 = y2.toNat from (by show _ + 6 = _; omega), ← h3, ← h21]; exact h⟩)), (by first | exact (fun h => absurd h (by decide)) | exact (fun _ => Or.inr hnt) | exact (fun _ => Or.inl (by omega)) | exact (fun _ => Or.inr (TW_short (show _ < _ + 6 by omega))) | exact (fun _ => Or.inr (TW_let (q := y2.toNat) (show y2.toNat = (a0 2 2).toNat + 6 by omega) ⟨by omega, h97, by rw [← h3]; omega⟩)))⟩
    ·
      exact (cp_X8_takesWord_r1014_29 E d hd a0 b0 hv0 _).2 (jxw ((a0 2 2) + (f_J0_length_8abf5_r1014 a0 b0))) 0 a0 (Nat.le_refl _) hv0 (jfr_rf _ _) (show 6 ≤ jxw ((a0 2 2) + (f_J0_length_8abf5_r1014 a0 b0)) from by omega) (show jxw ((a0 2 2) + (f_J0_length_8abf5_r1014 a0 b0)) ≤ 200 from by omega) (show 0 ≤ 0 from by omega) (show 0 ≤ 6 from by omega) (show 6 ≤ a0 2 1 from by omega) (show 0 ≤ 0 from by omega) (show a0 2 2 = a0 2 2 from by omega) (by first | exact (fun k hk => absurd hk (by omega)) | (rw [show jxw (y3 + 1) = y3 + 1 from by omega]; exact hch)) (show jxw ((a0 2 2) + (f_J0_length_8abf5_r1014 a0 b0)) = (a0 2 2) + 6 from by omega) (show jxw ((a0 2 2) + (f_J0_length_8abf5_r1014 a0 b0)) ≤ a0 2 1 from by omega) (show jxw ((a0 2 2) + (f_J0_length_8abf5_r1014 a0 b0)) ≤ 200 from by omega) (show a0 2 3 = 0 from by omega) (show a0 2 2 < a0 2 1 from by omega)
  ·
    have h1023_ := iv_get hv0 (k := 2) (j := 1) (l := 0) (u := 200) rfl
    have h1024_ := iv_get hv0 (k := 2) (j := 2) (l := 0) (u := 200) rfl
    exact jt_rI ⟨hv0, (jfr_rf _ _), rfl, (show (0 ≤ 0 ∧ 0 ≤ 1) from by omega), (show ((¬ a0 2 3 = 0 ∨ a0 2 1 ≤ a0 2 2) → 0 = 0) from by omega), (show (0 = 0 → a0 2 2 = a0 2 2) from by omega), (by first | exact (fun h => absurd h (by decide)) | exact (fun _ => ⟨by omega, htw, by have h := hq0_1; rw [show (a0 2 2).toNat + wdn 14 = y2.toNat from (by show _ + 6 = _; omega), ← h3, ← h21]; exact h⟩)), (by first | exact (fun h => absurd h (by decide)) | exact (fun _ => Or.inr hnt) | exact (fun _ => Or.inl (by omega)) | exact (fun _ => Or.inr (TW_short (show _ < _ + 6 by omega))) | exact (fun _ => Or.inr (TW_let (q := y2.toNat) (show y2.toNat = (a0 2 2).toNat + 6 by omega) ⟨by omega, h97, by rw [← h3]; omega⟩)))⟩
def jW_X8_takesWord_r1015 : List (Nat × Nat) := [(2, 2)]
abbrev jQ_X8_takesWord_r1015 (a0 b0 : Nat → Nat → Int) : List jxV → (Nat → Nat → Int) → (Nat → Nat → Int) → Prop := rI (fun r a b => (iv a) ∧ (jfr jW_X8_takesWord_r1015 a0 a) ∧ (b0 = b) ∧ ((0 ≤ r ∧ r ≤ 1)) ∧ (((¬ a0 2 3 = 0 ∨ a0 2 1 ≤ a0 2 2) → r = 0)) ∧ ((r = 0 → a 2 2 = a0 2 2)) ∧ (r = 1 → a0 2 3 = 0 ∧ TW (a0 3) (a0 2 1).toNat (a0 2 2).toNat 15 ∧ a 2 2 = ((SK (a0 3) (a0 2 1).toNat ((a0 2 2).toNat + wdn 15) : Nat) : Int)) ∧ (r = 0 → ¬ a0 2 3 = 0 ∨ ¬ TW (a0 3) (a0 2 1).toNat (a0 2 2).toNat 15))
theorem cp_X8_takesWord_r1015_56 (E : jxE) (d : Nat) (hd : Nat.ble 5 (d + 1) = true) (a0 b0 : Nat → Nat → Int) (hv0 : iv a0) : ∀ (a : Nat → Nat → Int), iv a → jfr jW_X8_takesWord_r1015 a0 a → 4 ≤ a 2 1 → a 2 2 = a0 2 2 → (¬ TW (a0 3) (a0 2 1).toNat (a0 2 2).toNat 15) → a0 2 3 = 0 → a0 2 2 < a0 2 1 → jt (jxX E d 128 56 [none, none, none, none] [] (jxSH, a, b0)) (jQ_X8_takesWord_r1015 a0 b0) := by
  intro a hv hf hi0 hi1 hnt hi3 hi4
  refine jt_eq (bq_X8_takesWord_r1015_56 E d a b0) ?_
  have h1025_ := iv_get hv (k := 2) (j := 1) (l := 0) (u := 200) rfl
  have h1026_ : a 2 1 = a0 2 1 := hf 2 1 rfl
  have h1027_ := iv_get hv0 (k := 2) (j := 1) (l := 0) (u := 200) rfl
  have h1028_ := iv_get hv (k := 2) (j := 2) (l := 0) (u := 200) rfl
  have h1029_ := iv_get hv0 (k := 2) (j := 2) (l := 0) (u := 200) rfl
  have h3 : a 3 = a0 3 := funext fun j => hf 3 j rfl
  have h21 := hf 2 1 rfl
  exact jt_rI ⟨hv, hf, rfl, (show (0 ≤ 0 ∧ 0 ≤ 1) from by omega), (show ((¬ a0 2 3 = 0 ∨ a0 2 1 ≤ a0 2 2) → 0 = 0) from by omega), (show (0 = 0 → a 2 2 = a0 2 2) from by omega), (by first | exact (fun h => absurd h (by decide)) | exact (fun _ => ⟨by omega, htw, by have h := hq0_1; rw [show (a0 2 2).toNat + wdn 15 = y2.toNat from (by show _ + 4 = _; omega), ← h3, ← h21]; exact h⟩)), (by first | exact (fun h => absurd h (by decide)) | exact (fun _ => Or.inr hnt) | exact (fun _ => Or.inl (by omega)) | exact (fun _ => Or.inr (TW_short (show _ < _ + 4 by omega))) | exact (fun _ => Or.inr (TW_let (q := y2.toNat) (show y2.toNat = (a0 2 2).toNat + 4 by omega) ⟨by omega, h97, by rw [← h3]; omega⟩)))⟩
theorem cp_X8_takesWord_r1015_96 (E : jxE) (d : Nat) (hd : Nat.ble 5 (d + 1) = true) (a0 b0 : Nat → Nat → Int) (hv0 : iv a0) : ∀ (y2 : Int) (a : Nat → Nat → Int), iv a → jfr jW_X8_takesWord_r1015 a0 a → 4 ≤ y2 → y2 ≤ 200 → 4 ≤ a 2 1 → a 2 2 = a0 2 2 → (TW (a0 3) (a0 2 1).toNat (a0 2 2).toNat 15) → y2 = (a 2 2) + 4 → y2 ≤ a 2 1 → y2 ≤ 200 → a0 2 3 = 0 → a0 2 2 < a0 2 1 → jt (jxX E d 128 96 [some (.inr (.inr (.inl 2))), none, some (.inl y2), none] [] (jxSH, a, b0)) (jQ_X8_takesWord_r1015 a0 b0) := by
  intro y2 a hv hf hi0 hi1 hi2 hi3 htw hi5 hi6 hi7 hi8 hi9
  refine jt_eq (bq_X8_takesWord_r1015_96 E d y2 a b0) ?_
  have h1030_ := iv_get hv (k := 2) (j := 1) (l := 0) (u := 200) rfl
  have h1031_ : a 2 1 = a0 2 1 := hf 2 1 rfl
  have h1032_ := iv_get hv0 (k := 2) (j := 1) (l := 0) (u := 200) rfl
  have h1033_ := iv_get hv (k := 2) (j := 2) (l := 0) (u := 200) rfl
  have h1034_ := iv_get hv0 (k := 2) (j := 2) (l := 0) (u := 200) rfl
  have h3 : a 3 = a0 3 := funext fun j => hf 3 j rfl
  have h21 := hf 2 1 rfl
  have hv1035_ : iv (jxu a 2 2 y2) := iv_put hv (l := 0) (u := 200) rfl (by omega) (by omega)
  refine jt_bV (sp_X8_skipBlanks E d (jd_le hd rfl) (jxu a 2 2 y2) b0 hv1035_) (fun a1036_ b1036_ h1036_ => ?_)
  obtain ⟨hv1036_, hf1036_, rfl, hq1036_0, hq1036_1⟩ := h1036_
  have h1037_ := iv_get hv1036_ (k := 2) (j := 2) (l := 0) (u := 200) rfl
  have h1038_ : (a 2 1 ≤ y2 → a1036_ 2 2 = y2) := hq1036_0
  have hf1039_ : jfr jW_X8_takesWord_r1015 a0 (jxu a 2 2 y2) := jfr_put hf rfl
  have hf1040_ : jfr jW_X8_takesWord_r1015 a0 a1036_ := jfr_tr hf1039_ hf1036_ rfl
  exact jt_rI ⟨hv1036_, hf1040_, rfl, (show (0 ≤ 1 ∧ 1 ≤ 1) from by omega), (show ((¬ a0 2 3 = 0 ∨ a0 2 1 ≤ a0 2 2) → 1 = 0) from by omega), (show (1 = 0 → a1036_ 2 2 = a0 2 2) from by omega), (by first | exact (fun h => absurd h (by decide)) | exact (fun _ => ⟨by omega, htw, by have h := hq1036_1; rw [show (a0 2 2).toNat + wdn 15 = y2.toNat from (by show _ + 4 = _; omega), ← h3, ← h21]; exact h⟩)), (by first | exact (fun h => absurd h (by decide)) | exact (fun _ => Or.inr hnt) | exact (fun _ => Or.inl (by omega)) | exact (fun _ => Or.inr (TW_short (show _ < _ + 4 by omega))) | exact (fun _ => Or.inr (TW_let (q := y2.toNat) (show y2.toNat = (a0 2 2).toNat + 4 by omega) ⟨by omega, h97, by rw [← h3]; omega⟩)))⟩
theorem cp_X8_takesWord_r1015_83 (E : jxE) (d : Nat) (hd : Nat.ble 5 (d + 1) = true) (a0 b0 : Nat → Nat → Int) (hv0 : iv a0) : ∀ (y2 : Int) (a : Nat → Nat → Int), iv a → jfr jW_X8_takesWord_r1015 a0 a → 4 ≤ y2 → y2 ≤ 199 → 5 ≤ a 2 1 → a 2 2 = a0 2 2 → y2 < a 2 1 → (∀ k : Nat, (k : Int) < (wdn 15 : Int) → (a0 3) ((a0 2 2).toNat + k) = (wdl 15).getD k 0) → (97 ≤ a0 3 y2.toNat) → y2 = (a 2 2) + 4 → y2 ≤ a 2 1 → y2 ≤ 200 → a0 2 3 = 0 → a0 2 2 < a0 2 1 → jt (jxX E d 128 83 [some (.inr (.inr (.inl 2))), none, some (.inl y2), none] [] (jxSH, a, b0)) (jQ_X8_takesWord_r1015 a0 b0) := by
  intro y2 a hv hf hi0 hi1 hi2 hi3 hi4 hall h97 hi7 hi8 hi9 hi10 hi11
  refine jt_eq (bq_X8_takesWord_r1015_83 E d y2 a b0) ?_
  have h1041_ := iv_get hv (k := 2) (j := 1) (l := 0) (u := 200) rfl
  have h1042_ : a 2 1 = a0 2 1 := hf 2 1 rfl
  have h1043_ := iv_get hv0 (k := 2) (j := 1) (l := 0) (u := 200) rfl
  have h1044_ := iv_get hv (k := 2) (j := 2) (l := 0) (u := 200) rfl
  have h1045_ := iv_get hv0 (k := 2) (j := 2) (l := 0) (u := 200) rfl
  have h3 : a 3 = a0 3 := funext fun j => hf 3 j rfl
  have h21 := hf 2 1 rfl
  refine jt_grd (by omega) ?_
  have h1046_ := iv_get hv (k := 3) (j := y2.toNat) (l := 0) (u := 255) rfl
  have h1047_ : a 3 (y2.toNat) = a0 3 (y2.toNat) := hf 3 (y2.toNat) rfl
  have h1048_ := iv_get hv0 (k := 3) (j := y2.toNat) (l := 0) (u := 255) rfl
  refine jt_ite (fun c1049_ => ?_) (fun c1049_ => ?_)
  ·
    exact cp_X8_takesWord_r1015_96 E d hd a0 b0 hv0 y2 a hv hf (show 4 ≤ y2 from by omega) (show y2 ≤ 200 from by omega) (show 4 ≤ a 2 1 from by omega) (show a 2 2 = a0 2 2 from by omega) (TW_mk (q := y2.toNat) (show y2.toNat = (a0 2 2).toNat + 4 by omega) (by omega) (by first | exact hall | exact (fun k hk => hch k (by have hw : ((wdn 15 : Nat) : Int) = 4 := rfl; omega))) (LT_no1 (by rw [← h3]; omega))) (show y2 = (a 2 2) + 4 from by omega) (show y2 ≤ a 2 1 from by omega) (show y2 ≤ 200 from by omega) (show a0 2 3 = 0 from by omega) (show a0 2 2 < a0 2 1 from by omega)
  ·
    exact jt_rI ⟨hv, hf, rfl, (show (0 ≤ 0 ∧ 0 ≤ 1) from by omega), (show ((¬ a0 2 3 = 0 ∨ a0 2 1 ≤ a0 2 2) → 0 = 0) from by omega), (show (0 = 0 → a 2 2 = a0 2 2) from by omega), (by first | exact (fun h => absurd h (by decide)) | exact (fun _ => ⟨by omega, htw, by have h := hq0_1; rw [show (a0 2 2).toNat + wdn 15 = y2.toNat from (by show _ + 4 = _; omega), ← h3, ← h21]; exact h⟩)), (by first | exact (fun h => absurd h (by decide)) | exact (fun _ => Or.inr hnt) | exact (fun _ => Or.inl (by omega)) | exact (fun _ => Or.inr (TW_short (show _ < _ + 4 by omega))) | exact (fun _ => Or.inr (TW_let (q := y2.toNat) (show y2.toNat = (a0 2 2).toNat + 4 by omega) ⟨by omega, h97, by rw [← h3]; omega⟩)))⟩
theorem cp_X8_takesWord_r1015_29 (E : jxE) (d : Nat) (hd : Nat.ble 5 (d + 1) = true) (a0 b0 : Nat → Nat → Int) (hv0 : iv a0) : ∀ n : Nat, (∀ (y2 y3 : Int) (a : Nat → Nat → Int), (((4 - y3) * 1) + 0).toNat ≤ n → iv a → jfr jW_X8_takesWord_r1015 a0 a → 4 ≤ y2 → y2 ≤ 200 → 0 ≤ y3 → y3 ≤ 3 → 4 ≤ a 2 1 → y3 < 4 → 0 ≤ y3 → a 2 2 = a0 2 2 → (∀ k : Nat, (k : Int) < y3 + 1 → (a0 3) ((a0 2 2).toNat + k) = (wdl 15).getD k 0) → y2 = (a 2 2) + 4 → y2 ≤ a 2 1 → y2 ≤ 200 → a0 2 3 = 0 → a0 2 2 < a0 2 1 → jt (jxX E d 128 58 [some (.inr (.inr (.inl 2))), some (.inr (.inr (.inl 1015))), some (.inl y2), some (.inl y3)] [] (jxSH, a, b0)) (jQ_X8_takesWord_r1015 a0 b0)) ∧ (∀ (y2 y3 : Int) (a : Nat → Nat → Int), (((4 - y3) * 1) + 0).toNat ≤ n → iv a → jfr jW_X8_takesWord_r1015 a0 a → 4 ≤ y2 → y2 ≤ 200 → 0 ≤ y3 → y3 ≤ 4 → 4 ≤ a 2 1 → 0 ≤ y3 → a 2 2 = a0 2 2 → (∀ k : Nat, (k : Int) < y3 → (a0 3) ((a0 2 2).toNat + k) = (wdl 15).getD k 0) → y2 = (a 2 2) + 4 → y2 ≤ a 2 1 → y2 ≤ 200 → a0 2 3 = 0 → a0 2 2 < a0 2 1 → jt (jxX E d 128 29 [some (.inr (.inr (.inl 2))), some (.inr (.inr (.inl 1015))), some (.inl y2), some (.inl y3)] [] (jxSH, a, b0)) (jQ_X8_takesWord_r1015 a0 b0)) := by
  refine jx_ind fun n ih => ?_
  have ih58 : ∀ (y2 y3 : Int) (a : Nat → Nat → Int), (((4 - y3) * 1) + 0).toNat < n → iv a → jfr jW_X8_takesWord_r1015 a0 a → 4 ≤ y2 → y2 ≤ 200 → 0 ≤ y3 → y3 ≤ 3 → 4 ≤ a 2 1 → y3 < 4 → 0 ≤ y3 → a 2 2 = a0 2 2 → (∀ k : Nat, (k : Int) < y3 + 1 → (a0 3) ((a0 2 2).toNat + k) = (wdl 15).getD k 0) → y2 = (a 2 2) + 4 → y2 ≤ a 2 1 → y2 ≤ 200 → a0 2 3 = 0 → a0 2 2 < a0 2 1 → jt (jxX E d 128 58 [some (.inr (.inr (.inl 2))), some (.inr (.inr (.inl 1015))), some (.inl y2), some (.inl y3)] [] (jxSH, a, b0)) (jQ_X8_takesWord_r1015 a0 b0) := fun y2 y3 a hlt i0 i1 i2 i3 i4 i5 i6 i7 i8 i9 i10 i11 i12 i13 i14 i15 => (ih _ hlt).1 y2 y3 a (Nat.le_refl _) i0 i1 i2 i3 i4 i5 i6 i7 i8 i9 i10 i11 i12 i13 i14 i15
  have ih29 : ∀ (y2 y3 : Int) (a : Nat → Nat → Int), (((4 - y3) * 1) + 0).toNat < n → iv a → jfr jW_X8_takesWord_r1015 a0 a → 4 ≤ y2 → y2 ≤ 200 → 0 ≤ y3 → y3 ≤ 4 → 4 ≤ a 2 1 → 0 ≤ y3 → a 2 2 = a0 2 2 → (∀ k : Nat, (k : Int) < y3 → (a0 3) ((a0 2 2).toNat + k) = (wdl 15).getD k 0) → y2 = (a 2 2) + 4 → y2 ≤ a 2 1 → y2 ≤ 200 → a0 2 3 = 0 → a0 2 2 < a0 2 1 → jt (jxX E d 128 29 [some (.inr (.inr (.inl 2))), some (.inr (.inr (.inl 1015))), some (.inl y2), some (.inl y3)] [] (jxSH, a, b0)) (jQ_X8_takesWord_r1015 a0 b0) := fun y2 y3 a hlt i0 i1 i2 i3 i4 i5 i6 i7 i8 i9 i10 i11 i12 i13 i14 => (ih _ hlt).2 y2 y3 a (Nat.le_refl _) i0 i1 i2 i3 i4 i5 i6 i7 i8 i9 i10 i11 i12 i13 i14
  have hc58 : ∀ (y2 y3 : Int) (a : Nat → Nat → Int), (((4 - y3) * 1) + 0).toNat ≤ n → iv a → jfr jW_X8_takesWord_r1015 a0 a → 4 ≤ y2 → y2 ≤ 200 → 0 ≤ y3 → y3 ≤ 3 → 4 ≤ a 2 1 → y3 < 4 → 0 ≤ y3 → a 2 2 = a0 2 2 → (∀ k : Nat, (k : Int) < y3 + 1 → (a0 3) ((a0 2 2).toNat + k) = (wdl 15).getD k 0) → y2 = (a 2 2) + 4 → y2 ≤ a 2 1 → y2 ≤ 200 → a0 2 3 = 0 → a0 2 2 < a0 2 1 → jt (jxX E d 128 58 [some (.inr (.inr (.inl 2))), some (.inr (.inr (.inl 1015))), some (.inl y2), some (.inl y3)] [] (jxSH, a, b0)) (jQ_X8_takesWord_r1015 a0 b0) := by
    intro y2 y3 a hm hv hf hi0 hi1 hi2 hi3 hi4 hi5 hi6 hi7 hch hi9 hi10 hi11 hi12 hi13
    refine jt_eq (bq_X8_takesWord_r1015_58 E d y2 y3 a b0) ?_
    have h1050_ := iv_get hv (k := 2) (j := 1) (l := 0) (u := 200) rfl
    have h1051_ : a 2 1 = a0 2 1 := hf 2 1 rfl
    have h1052_ := iv_get hv0 (k := 2) (j := 1) (l := 0) (u := 200) rfl
    have h1053_ := iv_get hv (k := 2) (j := 2) (l := 0) (u := 200) rfl
    have h1054_ := iv_get hv0 (k := 2) (j := 2) (l := 0) (u := 200) rfl
    have h3 : a 3 = a0 3 := funext fun j => hf 3 j rfl
    have h21 := hf 2 1 rfl
    have h1055_ : jxw (y3 + 1) = y3 + 1 := jxw_id (by omega) (by omega)
    exact ih29 y2 (jxw (y3 + 1)) a (show (((4 - (jxw (y3 + 1))) * 1) + 0).toNat < n from by omega) hv hf (show 4 ≤ y2 from by omega) (show y2 ≤ 200 from by omega) (show 0 ≤ jxw (y3 + 1) from by omega) (show jxw (y3 + 1) ≤ 4 from by omega) (show 4 ≤ a 2 1 from by omega) (show 0 ≤ jxw (y3 + 1) from by omega) (show a 2 2 = a0 2 2 from by omega) (by first | exact (fun k hk => absurd hk (by omega)) | (rw [show jxw (y3 + 1) = y3 + 1 from by omega]; exact hch)) (show y2 = (a 2 2) + 4 from by omega) (show y2 ≤ a 2 1 from by omega) (show y2 ≤ 200 from by omega) (show a0 2 3 = 0 from by omega) (show a0 2 2 < a0 2 1 from by omega)
  have hc29 : ∀ (y2 y3 : Int) (a : Nat → Nat → Int), (((4 - y3) * 1) + 0).toNat ≤ n → iv a → jfr jW_X8_takesWord_r1015 a0 a → 4 ≤ y2 → y2 ≤ 200 → 0 ≤ y3 → y3 ≤ 4 → 4 ≤ a 2 1 → 0 ≤ y3 → a 2 2 = a0 2 2 → (∀ k : Nat, (k : Int) < y3 → (a0 3) ((a0 2 2).toNat + k) = (wdl 15).getD k 0) → y2 = (a 2 2) + 4 → y2 ≤ a 2 1 → y2 ≤ 200 → a0 2 3 = 0 → a0 2 2 < a0 2 1 → jt (jxX E d 128 29 [some (.inr (.inr (.inl 2))), some (.inr (.inr (.inl 1015))), some (.inl y2), some (.inl y3)] [] (jxSH, a, b0)) (jQ_X8_takesWord_r1015 a0 b0) := by
    intro y2 y3 a hm hv hf hi0 hi1 hi2 hi3 hi4 hi5 hi6 hch hi8 hi9 hi10 hi11 hi12
    refine jt_eq (bq_X8_takesWord_r1015_29 E d y2 y3 a b0) ?_
    have h1056_ := iv_get hv (k := 2) (j := 1) (l := 0) (u := 200) rfl
    have h1057_ : a 2 1 = a0 2 1 := hf 2 1 rfl
    have h1058_ := iv_get hv0 (k := 2) (j := 1) (l := 0) (u := 200) rfl
    have h1059_ := iv_get hv (k := 2) (j := 2) (l := 0) (u := 200) rfl
    have h1060_ := iv_get hv0 (k := 2) (j := 2) (l := 0) (u := 200) rfl
    have h3 : a 3 = a0 3 := funext fun j => hf 3 j rfl
    have h21 := hf 2 1 rfl
    refine jt_eI (eq_J0_length_8abf5_r1015 E d (jd_le hd rfl) a b0) ?_
    have h1061_ := ff_J0_length_8abf5_r1015 a b0
    refine jt_ite (fun c1062_ => ?_) (fun c1062_ => ?_)
    ·
      have h1063_ : jxw ((a 2 2) + y3) = (a 2 2) + y3 := jxw_id (by omega) (by omega)
      refine jt_grd (by omega) ?_
      refine jt_eI (eq_J0_charAt_5068e_r1015 E d (jd_le hd rfl) y3 a b0 (show (0 ≤ y3 ∧ y3 < 4) from by omega)) ?_
      have h1064_ := iv_get hv (k := 3) (j := (jxw ((a 2 2) + y3)).toNat) (l := 0) (u := 255) rfl
      have h1065_ : a 3 ((jxw ((a 2 2) + y3)).toNat) = a0 3 ((jxw ((a 2 2) + y3)).toNat) := hf 3 ((jxw ((a 2 2) + y3)).toNat) rfl
      have h1066_ := iv_get hv0 (k := 3) (j := (jxw ((a 2 2) + y3)).toNat) (l := 0) (u := 255) rfl
      have h1067_ := f_J0_charAt_5068e_r1015_eq a b0 y3
      have h1068_ := f_J0_isLatin1_aae02_r1015_eq a b0
      have h1069_ := f_J1_charAt_3b067_r2015_eq a b0 y3
      have h1070_ := jxand_r (([122, 111, 110, 101] : List Int).getD (y3.toNat) 0) 255 (by decide) (by decide)
      have h1071_ := jxi2c_b (jxand (([122, 111, 110, 101] : List Int).getD (y3.toNat) 0) 255)
      refine jt_ite (fun c1072_ => ?_) (fun c1072_ => ?_)
      ·
        exact hc58 y2 y3 a (show (((4 - y3) * 1) + 0).toNat ≤ n from by omega) hv hf (show 4 ≤ y2 from by omega) (show y2 ≤ 200 from by omega) (show 0 ≤ y3 from by omega) (show y3 ≤ 3 from by omega) (show 4 ≤ a 2 1 from by omega) (show y3 < 4 from by omega) (show 0 ≤ y3 from by omega) (show a 2 2 = a0 2 2 from by omega) (ch_ext hch (by omega) (q := (jxw ((a 2 2) + y3)).toNat) (by omega) (v := f_J0_charAt_5068e_r1015 a b0 y3) (by rw [← h3]; assumption) (cw_1015 a b0 y3 (by omega) (by omega))) (show y2 = (a 2 2) + 4 from by omega) (show y2 ≤ a 2 1 from by omega) (show y2 ≤ 200 from by omega) (show a0 2 3 = 0 from by omega) (show a0 2 2 < a0 2 1 from by omega)
      ·
        exact cp_X8_takesWord_r1015_56 E d hd a0 b0 hv0 a hv hf (show 4 ≤ a 2 1 from by omega) (show a 2 2 = a0 2 2 from by omega) (TW_no (y := y3) (by omega) (show y3 < 4 by omega) (q := (jxw ((a 2 2) + y3)).toNat) (by omega) (v := f_J0_charAt_5068e_r1015 a b0 y3) (cw_1015 a b0 y3 (by omega) (by omega)) (by rw [← h3]; assumption)) (show a0 2 3 = 0 from by omega) (show a0 2 2 < a0 2 1 from by omega)
    ·
      refine jt_ite (fun c1073_ => ?_) (fun c1073_ => ?_)
      ·
        refine jt_grd (by omega) ?_
        have h1074_ := iv_get hv (k := 3) (j := y2.toNat) (l := 0) (u := 255) rfl
        have h1075_ : a 3 (y2.toNat) = a0 3 (y2.toNat) := hf 3 (y2.toNat) rfl
        have h1076_ := iv_get hv0 (k := 3) (j := y2.toNat) (l := 0) (u := 255) rfl
        refine jt_ite (fun c1077_ => ?_) (fun c1077_ => ?_)
        ·
          exact cp_X8_takesWord_r1015_96 E d hd a0 b0 hv0 y2 a hv hf (show 4 ≤ y2 from by omega) (show y2 ≤ 200 from by omega) (show 4 ≤ a 2 1 from by omega) (show a 2 2 = a0 2 2 from by omega) (TW_mk (q := y2.toNat) (show y2.toNat = (a0 2 2).toNat + 4 by omega) (by omega) (by first | exact hall | exact (fun k hk => hch k (by have hw : ((wdn 15 : Nat) : Int) = 4 := rfl; omega))) (LT_no1 (by rw [← h3]; omega))) (show y2 = (a 2 2) + 4 from by omega) (show y2 ≤ a 2 1 from by omega) (show y2 ≤ 200 from by omega) (show a0 2 3 = 0 from by omega) (show a0 2 2 < a0 2 1 from by omega)
        ·
          exact cp_X8_takesWord_r1015_83 E d hd a0 b0 hv0 y2 a hv hf (show 4 ≤ y2 from by omega) (show y2 ≤ 199 from by omega) (show 5 ≤ a 2 1 from by omega) (show a 2 2 = a0 2 2 from by omega) (show y2 < a 2 1 from by omega) (fun k hk => hch k (by have hw : ((wdn 15 : Nat) : Int) = 4 := rfl; omega)) (by rw [← h3]; omega) (show y2 = (a 2 2) + 4 from by omega) (show y2 ≤ a 2 1 from by omega) (show y2 ≤ 200 from by omega) (show a0 2 3 = 0 from by omega) (show a0 2 2 < a0 2 1 from by omega)
      ·
        exact cp_X8_takesWord_r1015_96 E d hd a0 b0 hv0 y2 a hv hf (show 4 ≤ y2 from by omega) (show y2 ≤ 200 from by omega) (show 4 ≤ a 2 1 from by omega) (show a 2 2 = a0 2 2 from by omega) (TW_mk (q := y2.toNat) (show y2.toNat = (a0 2 2).toNat + 4 by omega) (by omega) (by first | exact hall | exact (fun k hk => hch k (by have hw : ((wdn 15 : Nat) : Int) = 4 := rfl; omega))) (LT_no1 (by rw [← h3]; omega))) (show y2 = (a 2 2) + 4 from by omega) (show y2 ≤ a 2 1 from by omega) (show y2 ≤ 200 from by omega) (show a0 2 3 = 0 from by omega) (show a0 2 2 < a0 2 1 from by omega)
  exact ⟨hc58, hc29⟩
theorem sp_X8_takesWord_r1015 (E : jxE) (d : Nat) (hd : Nat.ble 5 d = true) (a0 b0 : Nat → Nat → Int) (hv0 : iv a0) : jt (jxC E d 128 [.inr (.inr (.inl 2)), .inr (.inr (.inl 1015))] (jxSH, a0, b0)) (jQ_X8_takesWord_r1015 a0 b0) := by
  obtain ⟨d, rfl⟩ := jd_succ hd
  refine jt_eq (bq_X8_takesWord_r1015 E d a0 b0) ?_
  refine jt_eI (eq_J0_length_8abf5_r1015 E d (jd_le hd rfl) a0 b0) ?_
  refine jt_eI (eq_X8_isFaulty E d (jd_le hd rfl) a0 b0) ?_
  have h1078_ := f_X8_isFaulty_eq a0 b0
  refine jt_ite (fun c1079_ => ?_) (fun c1079_ => ?_)
  ·
    have h1080_ := iv_get hv0 (k := 2) (j := 1) (l := 0) (u := 200) rfl
    have h1081_ := iv_get hv0 (k := 2) (j := 2) (l := 0) (u := 200) rfl
    have h1082_ := ff_J0_length_8abf5_r1015 a0 b0
    have h1083_ : jxw ((a0 2 2) + (f_J0_length_8abf5_r1015 a0 b0)) = (a0 2 2) + (f_J0_length_8abf5_r1015 a0 b0) := jxw_id (by omega) (by omega)
    refine jt_ite (fun c1084_ => ?_) (fun c1084_ => ?_)
    ·
      exact jt_rI ⟨hv0, (jfr_rf _ _), rfl, (show (0 ≤ 0 ∧ 0 ≤ 1) from by omega), (show ((¬ a0 2 3 = 0 ∨ a0 2 1 ≤ a0 2 2) → 0 = 0) from by omega), (show (0 = 0 → a0 2 2 = a0 2 2) from by omega), (by first | exact (fun h => absurd h (by decide)) | exact (fun _ => ⟨by omega, htw, by have h := hq0_1; rw [show (a0 2 2).toNat + wdn 15 = y2.toNat from (by show _ + 4 = _; omega), ← h3, ← h21]; exact h⟩)), (by first | exact (fun h => absurd h (by decide)) | exact (fun _ => Or.inr hnt) | exact (fun _ => Or.inl (by omega)) | exact (fun _ => Or.inr (TW_short (show _ < _ + 4 by omega))) | exact (fun _ => Or.inr (TW_let (q := y2.toNat) (show y2.toNat = (a0 2 2).toNat + 4 by omega) ⟨by omega, h97, by rw [← h3]; omega⟩)))⟩
    ·
      exact (cp_X8_takesWord_r1015_29 E d hd a0 b0 hv0 _).2 (jxw ((a0 2 2) + (f_J0_length_8abf5_r1015 a0 b0))) 0 a0 (Nat.le_refl _) hv0 (jfr_rf _ _) (show 4 ≤ jxw ((a0 2 2) + (f_J0_length_8abf5_r1015 a0 b0)) from by omega) (show jxw ((a0 2 2) + (f_J0_length_8abf5_r1015 a0 b0)) ≤ 200 from by omega) (show 0 ≤ 0 from by omega) (show 0 ≤ 4 from by omega) (show 4 ≤ a0 2 1 from by omega) (show 0 ≤ 0 from by omega) (show a0 2 2 = a0 2 2 from by omega) (by first | exact (fun k hk => absurd hk (by omega)) | (rw [show jxw (y3 + 1) = y3 + 1 from by omega]; exact hch)) (show jxw ((a0 2 2) + (f_J0_length_8abf5_r1015 a0 b0)) = (a0 2 2) + 4 from by omega) (show jxw ((a0 2 2) + (f_J0_length_8abf5_r1015 a0 b0)) ≤ a0 2 1 from by omega) (show jxw ((a0 2 2) + (f_J0_length_8abf5_r1015 a0 b0)) ≤ 200 from by omega) (show a0 2 3 = 0 from by omega) (show a0 2 2 < a0 2 1 from by omega)
  ·
    have h1085_ := iv_get hv0 (k := 2) (j := 1) (l := 0) (u := 200) rfl
    have h1086_ := iv_get hv0 (k := 2) (j := 2) (l := 0) (u := 200) rfl
    exact jt_rI ⟨hv0, (jfr_rf _ _), rfl, (show (0 ≤ 0 ∧ 0 ≤ 1) from by omega), (show ((¬ a0 2 3 = 0 ∨ a0 2 1 ≤ a0 2 2) → 0 = 0) from by omega), (show (0 = 0 → a0 2 2 = a0 2 2) from by omega), (by first | exact (fun h => absurd h (by decide)) | exact (fun _ => ⟨by omega, htw, by have h := hq0_1; rw [show (a0 2 2).toNat + wdn 15 = y2.toNat from (by show _ + 4 = _; omega), ← h3, ← h21]; exact h⟩)), (by first | exact (fun h => absurd h (by decide)) | exact (fun _ => Or.inr hnt) | exact (fun _ => Or.inl (by omega)) | exact (fun _ => Or.inr (TW_short (show _ < _ + 4 by omega))) | exact (fun _ => Or.inr (TW_let (q := y2.toNat) (show y2.toNat = (a0 2 2).toNat + 4 by omega) ⟨by omega, h97, by rw [← h3]; omega⟩)))⟩
