def jW_X8_noteFault : List (Nat × Nat) := [(2, 3)]
abbrev jQ_X8_noteFault (x1 x2 : Int) (a0 b0 : Nat → Nat → Int) : List jxV → (Nat → Nat → Int) → (Nat → Nat → Int) → Prop := rV (fun a b => (iv a) ∧ (jfr jW_X8_noteFault a0 a) ∧ (b0 = b) ∧ ((((((a0 2 3 = 0 ∧ 0 ≤ x1) ∧ x1 ≤ 200) ∧ 0 ≤ x2) ∧ x2 ≤ 7) → a 2 3 = (1 + (8 * x1)) + x2)) ∧ ((¬ a0 2 3 = 0 → a 2 3 = a0 2 3)))
theorem sp_X8_noteFault (E : jxE) (d : Nat) (hd : Nat.ble 1 d = true) (x1 x2 : Int) (a0 b0 : Nat → Nat → Int) (hv0 : iv a0) : jt (jxC E d 124 [.inr (.inr (.inl 2)), .inl x1, .inl x2] (jxSH, a0, b0)) (jQ_X8_noteFault x1 x2 a0 b0) := by
  obtain ⟨d, rfl⟩ := jd_succ hd
  refine jt_eq (bq_X8_noteFault E d x1 x2 a0 b0) ?_
  refine jt_ite (fun c1_ => ?_) (fun c1_ => ?_)
  ·
    have hv2_ : iv (jxu a0 2 3 (jxw ((jxw (1 + (jxw (8 * x1)))) + x2))) := iv_putf hv0 rfl
    have hf3_ : jfr jW_X8_noteFault a0 (jxu a0 2 3 (jxw ((jxw (1 + (jxw (8 * x1)))) + x2))) := jfr_put (jfr_rf _ _) rfl
    have h4_ := jxw_im (8 * x1)
    have h5_ := jxw_rg (8 * x1)
    have h6_ := jxw_im (1 + (jxw (8 * x1)))
    have h7_ := jxw_rg (1 + (jxw (8 * x1)))
    have h8_ := jxw_im ((jxw (1 + (jxw (8 * x1)))) + x2)
    have h9_ := jxw_rg ((jxw (1 + (jxw (8 * x1)))) + x2)
    exact jt_rV ⟨hv2_, hf3_, rfl, (show (((((a0 2 3 = 0 ∧ 0 ≤ x1) ∧ x1 ≤ 200) ∧ 0 ≤ x2) ∧ x2 ≤ 7) → jxw ((jxw (1 + (jxw (8 * x1)))) + x2) = (1 + (8 * x1)) + x2) from by omega), (show (¬ a0 2 3 = 0 → jxw ((jxw (1 + (jxw (8 * x1)))) + x2) = a0 2 3) from by omega)⟩
  ·
    exact jt_rV ⟨hv0, (jfr_rf _ _), rfl, (show (((((a0 2 3 = 0 ∧ 0 ≤ x1) ∧ x1 ≤ 200) ∧ 0 ≤ x2) ∧ x2 ≤ 7) → a0 2 3 = (1 + (8 * x1)) + x2) from by omega), (show (¬ a0 2 3 = 0 → a0 2 3 = a0 2 3) from by omega)⟩
def jW_X8_noteCannotStand : List (Nat × Nat) := [(2, 3)]
abbrev jQ_X8_noteCannotStand (a0 b0 : Nat → Nat → Int) : List jxV → (Nat → Nat → Int) → (Nat → Nat → Int) → Prop := rV (fun a b => (iv a) ∧ (jfr jW_X8_noteCannotStand a0 a) ∧ (b0 = b) ∧ ((a0 2 3 = 0 → a 2 3 = 1 + (8 * (a0 2 2)))) ∧ ((¬ a0 2 3 = 0 → a 2 3 = a0 2 3)))
theorem sp_X8_noteCannotStand (E : jxE) (d : Nat) (hd : Nat.ble 2 d = true) (a0 b0 : Nat → Nat → Int) (hv0 : iv a0) : jt (jxC E d 125 [.inr (.inr (.inl 2))] (jxSH, a0, b0)) (jQ_X8_noteCannotStand a0 b0) := by
  obtain ⟨d, rfl⟩ := jd_succ hd
  refine jt_eq (bq_X8_noteCannotStand E d a0 b0) ?_
  refine jt_bV (sp_X8_noteFault E d (jd_le hd rfl) (a0 2 2) 0 a0 b0 hv0) (fun a10_ b10_ h10_ => ?_)
  obtain ⟨hv10_, hf10_, rfl, hq10_0, hq10_1⟩ := h10_
  have h11_ := iv_get hv0 (k := 2) (j := 2) (l := 0) (u := 200) rfl
  have hf12_ : jfr jW_X8_noteCannotStand a0 a10_ := jfr_tr (jfr_rf _ _) hf10_ rfl
  exact jt_rV ⟨hv10_, hf12_, rfl, (show (a0 2 3 = 0 → a10_ 2 3 = 1 + (8 * (a0 2 2))) from by omega), (show (¬ a0 2 3 = 0 → a10_ 2 3 = a0 2 3) from by omega)⟩
def jW_X8_skipBlanks : List (Nat × Nat) := [(2, 2)]
abbrev jQ_X8_skipBlanks (a0 b0 : Nat → Nat → Int) : List jxV → (Nat → Nat → Int) → (Nat → Nat → Int) → Prop := rV (fun a b => (iv a) ∧ (jfr jW_X8_skipBlanks a0 a) ∧ (b0 = b) ∧ ((a0 2 1 ≤ a0 2 2 → a 2 2 = a0 2 2)) ∧ (a 2 2 = ((SK (a0 3) (a0 2 1).toNat (a0 2 2).toNat : Nat) : Int)))
theorem cp_X8_skipBlanks_0 (E : jxE) (d : Nat) (hd : Nat.ble 1 (d + 1) = true) (a0 b0 : Nat → Nat → Int) (hv0 : iv a0) : ∀ n : Nat, (∀ (a : Nat → Nat → Int), ((((a 2 1) - (a 2 2)) * 2) + 1).toNat ≤ n → iv a → jfr jW_X8_skipBlanks a0 a → 1 ≤ a 2 1 → 1 ≤ a 2 2 → a 2 2 ≤ a 2 1 → a0 2 2 < a0 2 1 → (SK (a 3) (a 2 1).toNat (a 2 2).toNat = SK (a0 3) (a0 2 1).toNat (a0 2 2).toNat) → jt (jxX E d 131 35 [some (.inr (.inr (.inl 2)))] [] (jxSH, a, b0)) (jQ_X8_skipBlanks a0 b0)) ∧ (∀ (a : Nat → Nat → Int), ((((a 2 1) - (a 2 2)) * 2) + 0).toNat ≤ n → iv a → jfr jW_X8_skipBlanks a0 a → 1 ≤ a 2 1 → 1 ≤ a 2 2 → a0 2 2 < a0 2 1 → (SK (a 3) (a 2 1).toNat (a 2 2).toNat = SK (a0 3) (a0 2 1).toNat (a0 2 2).toNat) → jt (jxX E d 131 0 [some (.inr (.inr (.inl 2)))] [] (jxSH, a, b0)) (jQ_X8_skipBlanks a0 b0)) := by
  refine jx_ind fun n ih => ?_
  have ih35 : ∀ (a : Nat → Nat → Int), ((((a 2 1) - (a 2 2)) * 2) + 1).toNat < n → iv a → jfr jW_X8_skipBlanks a0 a → 1 ≤ a 2 1 → 1 ≤ a 2 2 → a 2 2 ≤ a 2 1 → a0 2 2 < a0 2 1 → (SK (a 3) (a 2 1).toNat (a 2 2).toNat = SK (a0 3) (a0 2 1).toNat (a0 2 2).toNat) → jt (jxX E d 131 35 [some (.inr (.inr (.inl 2)))] [] (jxSH, a, b0)) (jQ_X8_skipBlanks a0 b0) := fun a hlt i0 i1 i2 i3 i4 i5 i6 => (ih _ hlt).1 a (Nat.le_refl _) i0 i1 i2 i3 i4 i5 i6
  have ih0 : ∀ (a : Nat → Nat → Int), ((((a 2 1) - (a 2 2)) * 2) + 0).toNat < n → iv a → jfr jW_X8_skipBlanks a0 a → 1 ≤ a 2 1 → 1 ≤ a 2 2 → a0 2 2 < a0 2 1 → (SK (a 3) (a 2 1).toNat (a 2 2).toNat = SK (a0 3) (a0 2 1).toNat (a0 2 2).toNat) → jt (jxX E d 131 0 [some (.inr (.inr (.inl 2)))] [] (jxSH, a, b0)) (jQ_X8_skipBlanks a0 b0) := fun a hlt i0 i1 i2 i3 i4 i5 => (ih _ hlt).2 a (Nat.le_refl _) i0 i1 i2 i3 i4 i5
  have hc35 : ∀ (a : Nat → Nat → Int), ((((a 2 1) - (a 2 2)) * 2) + 1).toNat ≤ n → iv a → jfr jW_X8_skipBlanks a0 a → 1 ≤ a 2 1 → 1 ≤ a 2 2 → a 2 2 ≤ a 2 1 → a0 2 2 < a0 2 1 → (SK (a 3) (a 2 1).toNat (a 2 2).toNat = SK (a0 3) (a0 2 1).toNat (a0 2 2).toNat) → jt (jxX E d 131 35 [some (.inr (.inr (.inl 2)))] [] (jxSH, a, b0)) (jQ_X8_skipBlanks a0 b0) := by
    intro a hm hv hf hi0 hi1 hi2 hi3 hk
    refine jt_eq (bq_X8_skipBlanks_35 E d a b0) ?_
    have h13_ := iv_get hv (k := 2) (j := 1) (l := 0) (u := 200) rfl
    have h14_ : a 2 1 = a0 2 1 := hf 2 1 rfl
    have h15_ := iv_get hv0 (k := 2) (j := 1) (l := 0) (u := 200) rfl
    have h16_ := iv_get hv (k := 2) (j := 2) (l := 0) (u := 200) rfl
    have h17_ := iv_get hv0 (k := 2) (j := 2) (l := 0) (u := 200) rfl
    exact ih0 a (show ((((a 2 1) - (a 2 2)) * 2) + 0).toNat < n from by omega) hv hf (show 1 ≤ a 2 1 from by omega) (show 1 ≤ a 2 2 from by omega) (show a0 2 2 < a0 2 1 from by omega) hk
  have hc0 : ∀ (a : Nat → Nat → Int), ((((a 2 1) - (a 2 2)) * 2) + 0).toNat ≤ n → iv a → jfr jW_X8_skipBlanks a0 a → 1 ≤ a 2 1 → 1 ≤ a 2 2 → a0 2 2 < a0 2 1 → (SK (a 3) (a 2 1).toNat (a 2 2).toNat = SK (a0 3) (a0 2 1).toNat (a0 2 2).toNat) → jt (jxX E d 131 0 [some (.inr (.inr (.inl 2)))] [] (jxSH, a, b0)) (jQ_X8_skipBlanks a0 b0) := by
    intro a hm hv hf hi0 hi1 hi2 hk
    refine jt_eq (bq_X8_skipBlanks_0 E d a b0) ?_
    have h18_ := iv_get hv (k := 2) (j := 1) (l := 0) (u := 200) rfl
    have h19_ : a 2 1 = a0 2 1 := hf 2 1 rfl
    have h20_ := iv_get hv0 (k := 2) (j := 1) (l := 0) (u := 200) rfl
    have h21_ := iv_get hv (k := 2) (j := 2) (l := 0) (u := 200) rfl
    have h22_ := iv_get hv0 (k := 2) (j := 2) (l := 0) (u := 200) rfl
    refine jt_ite (fun c23_ => ?_) (fun c23_ => ?_)
    ·
      refine jt_grd (by omega) ?_
      have h24_ := iv_get hv (k := 3) (j := (a 2 2).toNat) (l := 0) (u := 255) rfl
      have h25_ : a 3 ((a 2 2).toNat) = a0 3 ((a 2 2).toNat) := hf 3 ((a 2 2).toNat) rfl
      have h26_ := iv_get hv0 (k := 3) (j := (a 2 2).toNat) (l := 0) (u := 255) rfl
      refine jt_ite (fun c27_ => ?_) (fun c27_ => ?_)
      ·
        have h29_ : jxw ((a 2 2) + 1) = (a 2 2) + 1 := jxw_id (by omega) (by omega)
        have hv28_ : iv (jxu a 2 2 (jxw ((a 2 2) + 1))) := iv_put hv (l := 0) (u := 200) rfl (by omega) (by omega)
        have hf30_ : jfr jW_X8_skipBlanks a0 (jxu a 2 2 (jxw ((a 2 2) + 1))) := jfr_put hf rfl
        exact hc35 (jxu a 2 2 (jxw ((a 2 2) + 1))) (show ((((a 2 1) - (jxw ((a 2 2) + 1))) * 2) + 1).toNat ≤ n from by omega) hv28_ hf30_ (show 1 ≤ a 2 1 from by omega) (show 1 ≤ jxw ((a 2 2) + 1) from by omega) (show jxw ((a 2 2) + 1) ≤ a 2 1 from by omega) (show a0 2 2 < a0 2 1 from by omega) (by have e : (jxw ((a 2 2) + 1)).toNat = (a 2 2).toNat + 1 := (by omega); show SK (a 3) (a 2 1).toNat (jxw ((a 2 2) + 1)).toNat = _; rw [e, ← SK_step (by omega) (by assumption)]; exact hk)
      ·
        exact jt_rV ⟨hv, hf, rfl, (show (a0 2 1 ≤ a0 2 2 → a 2 2 = a0 2 2) from by omega), (by first | (rw [← hk, SK_end (by omega)]; omega) | (rw [← hk, SK_stay (by assumption)]; omega) | (rw [SK_end (by omega)]; omega) | (rw [SK_stay (by assumption)]; omega))⟩
    ·
      exact jt_rV ⟨hv, hf, rfl, (show (a0 2 1 ≤ a0 2 2 → a 2 2 = a0 2 2) from by omega), (by first | (rw [← hk, SK_end (by omega)]; omega) | (rw [← hk, SK_stay (by assumption)]; omega) | (rw [SK_end (by omega)]; omega) | (rw [SK_stay (by assumption)]; omega))⟩
  exact ⟨hc35, hc0⟩
theorem sp_X8_skipBlanks (E : jxE) (d : Nat) (hd : Nat.ble 1 d = true) (a0 b0 : Nat → Nat → Int) (hv0 : iv a0) : jt (jxC E d 131 [.inr (.inr (.inl 2))] (jxSH, a0, b0)) (jQ_X8_skipBlanks a0 b0) := by
  obtain ⟨d, rfl⟩ := jd_succ hd
  refine jt_eq (bq_X8_skipBlanks E d a0 b0) ?_
  have h31_ := iv_get hv0 (k := 2) (j := 2) (l := 0) (u := 200) rfl
  have h32_ := iv_get hv0 (k := 2) (j := 1) (l := 0) (u := 200) rfl
  refine jt_ite (fun c33_ => ?_) (fun c33_ => ?_)
  ·
    refine jt_grd (by omega) ?_
    have h34_ := iv_get hv0 (k := 3) (j := (a0 2 2).toNat) (l := 0) (u := 255) rfl
    refine jt_ite (fun c35_ => ?_) (fun c35_ => ?_)
    ·
      have h37_ : jxw ((a0 2 2) + 1) = (a0 2 2) + 1 := jxw_id (by omega) (by omega)
      have hv36_ : iv (jxu a0 2 2 (jxw ((a0 2 2) + 1))) := iv_put hv0 (l := 0) (u := 200) rfl (by omega) (by omega)
      have hf38_ : jfr jW_X8_skipBlanks a0 (jxu a0 2 2 (jxw ((a0 2 2) + 1))) := jfr_put (jfr_rf _ _) rfl
      exact (cp_X8_skipBlanks_0 E d hd a0 b0 hv0 _).1 (jxu a0 2 2 (jxw ((a0 2 2) + 1))) (Nat.le_refl _) hv36_ hf38_ (show 1 ≤ a0 2 1 from by omega) (show 1 ≤ jxw ((a0 2 2) + 1) from by omega) (show jxw ((a0 2 2) + 1) ≤ a0 2 1 from by omega) (show a0 2 2 < a0 2 1 from by omega) (by have e : (jxw ((a0 2 2) + 1)).toNat = (a0 2 2).toNat + 1 := (by omega); show SK (a0 3) (a0 2 1).toNat (jxw ((a0 2 2) + 1)).toNat = _; rw [e, ← SK_step (by omega) (by assumption)])
    ·
      exact jt_rV ⟨hv0, (jfr_rf _ _), rfl, (show (a0 2 1 ≤ a0 2 2 → a0 2 2 = a0 2 2) from by omega), (by first | (rw [← hk, SK_end (by omega)]; omega) | (rw [← hk, SK_stay (by assumption)]; omega) | (rw [SK_end (by omega)]; omega) | (rw [SK_stay (by assumption)]; omega))⟩
  ·
    exact jt_rV ⟨hv0, (jfr_rf _ _), rfl, (show (a0 2 1 ≤ a0 2 2 → a0 2 2 = a0 2 2) from by omega), (by first | (rw [← hk, SK_end (by omega)]; omega) | (rw [← hk, SK_stay (by assumption)]; omega) | (rw [SK_end (by omega)]; omega) | (rw [SK_stay (by assumption)]; omega))⟩
def jW_X8_takeNumber : List (Nat × Nat) := [(2, 2), (2, 3)]
abbrev jQ_X8_takeNumber (x1 x2 : Int) (a0 b0 : Nat → Nat → Int) : List jxV → (Nat → Nat → Int) → (Nat → Nat → Int) → Prop := rI (fun r a b => (iv a) ∧ (jfr jW_X8_takeNumber a0 a) ∧ (b0 = b) ∧ (r = NV (a0 3) (a0 2 1).toNat (a0 2 2).toNat) ∧ (a 2 2 = ((SK (a0 3) (a0 2 1).toNat (DE (a0 3) (a0 2 1).toNat (a0 2 2).toNat) : Nat) : Int)) ∧ (a 2 3 = (if a0 2 3 = 0 then NF (a0 3) (a0 2 1).toNat (a0 2 2).toNat x1 x2 else a0 2 3)) ∧ ((0 ≤ r ∧ r ≤ 999)))
theorem cp_X8_takeNumber_133 (E : jxE) (d : Nat) (hd : Nat.ble 2 (d + 1) = true) (x1 x2 : Int) (a0 b0 : Nat → Nat → Int) (hv0 : iv a0) : ∀ (y4 : Int) (a : Nat → Nat → Int), iv a → jfr jW_X8_takeNumber a0 a → (DE (a0 3) (a0 2 1).toNat (a0 2 2).toNat = (a 2 2).toNat) → (y4 = NV (a0 3) (a0 2 1).toNat (a0 2 2).toNat) → (a 2 3 = (if a0 2 3 = 0 then NF (a0 3) (a0 2 1).toNat (a0 2 2).toNat x1 x2 else a0 2 3)) → jt (jxX E d 130 133 [some (.inr (.inr (.inl 2))), none, none, none, some (.inl y4)] [] (jxSH, a, b0)) (jQ_X8_takeNumber x1 x2 a0 b0) := by
  intro y4 a hv hf hde hnv hnf
  refine jt_eq (bq_X8_takeNumber_133 E d y4 a b0) ?_
  have h3 : a 3 = a0 3 := funext fun j => hf 3 j rfl
  have h21 := hf 2 1 rfl
  have hnb := NV_bd (a0 3) (a0 2 1).toNat (a0 2 2).toNat
  refine jt_bV (sp_X8_skipBlanks E d (jd_le hd rfl) a b0 hv) (fun a39_ b39_ h39_ => ?_)
  obtain ⟨hv39_, hf39_, rfl, hq39_0, hq39_1⟩ := h39_
  have h40_ := iv_get hv (k := 2) (j := 1) (l := 0) (u := 200) rfl
  have h41_ : a 2 1 = a0 2 1 := hf 2 1 rfl
  have h42_ := iv_get hv0 (k := 2) (j := 1) (l := 0) (u := 200) rfl
  have h43_ := iv_get hv (k := 2) (j := 2) (l := 0) (u := 200) rfl
  have h44_ := iv_get hv39_ (k := 2) (j := 2) (l := 0) (u := 200) rfl
  have hf45_ : jfr jW_X8_takeNumber a0 a39_ := jfr_tr hf hf39_ rfl
  exact jt_rI ⟨hv39_, hf45_, rfl, hnv, (by have h := hq39_1; rw [hde, ← h3, ← h21]; exact h), (by rw [hf39_ 2 3 rfl]; exact hnf), (show (0 ≤ y4 ∧ y4 ≤ 999) from by omega)⟩
theorem cp_X8_takeNumber_127 (E : jxE) (d : Nat) (hd : Nat.ble 2 (d + 1) = true) (x1 x2 : Int) (a0 b0 : Nat → Nat → Int) (hv0 : iv a0) : ∀ (y3 y4 : Int) (a : Nat → Nat → Int), iv a → jfr jW_X8_takeNumber a0 a → 0 ≤ y3 → y3 ≤ 200 → (y3 = a0 2 2) → a0 2 2 < a 2 2 → a 2 3 = a0 2 3 → (DE (a0 3) (a0 2 1).toNat (a0 2 2).toNat = (a 2 2).toNat) → (y4 = NV (a0 3) (a0 2 1).toNat (a0 2 2).toNat) → (3 < (a 2 2) - (a0 2 2) ∨ y4 < x1 ∨ x2 < y4) → jt (jxX E d 130 127 [some (.inr (.inr (.inl 2))), none, none, some (.inl y3), some (.inl y4)] [] (jxSH, a, b0)) (jQ_X8_takeNumber x1 x2 a0 b0) := by
  intro y3 y4 a hv hf hi0 hi1 hy3 hi3 hi4 hde hnv hbad
  refine jt_eq (bq_X8_takeNumber_127 E d y3 y4 a b0) ?_
  have h46_ := iv_get hv0 (k := 2) (j := 2) (l := 0) (u := 200) rfl
  have h47_ := iv_get hv (k := 2) (j := 2) (l := 0) (u := 200) rfl
  have h3 : a 3 = a0 3 := funext fun j => hf 3 j rfl
  have h21 := hf 2 1 rfl
  refine jt_bV (sp_X8_noteFault E d (jd_le hd rfl) y3 1 a b0 hv) (fun a48_ b48_ h48_ => ?_)
  obtain ⟨hv48_, hf48_, rfl, hq48_0, hq48_1⟩ := h48_
  have hf49_ : jfr jW_X8_takeNumber a0 a48_ := jfr_tr hf hf48_ rfl
  exact cp_X8_takeNumber_133 E d hd x1 x2 a0 b0 hv0 y4 a48_ hv48_ hf49_ (by first | exact hde | (rw [hde]; omega)) hnv (by unfold NF; first | (rw [hde, if_pos (by omega)]; split <;> omega) | (rw [hde, if_neg (by omega), if_pos (by rw [← hnv]; omega)]; split <;> omega))
theorem cp_X8_takeNumber_90 (E : jxE) (d : Nat) (hd : Nat.ble 2 (d + 1) = true) (x1 x2 : Int) (a0 b0 : Nat → Nat → Int) (hv0 : iv a0) : ∀ (y1 y2 y3 y4 : Int) (a : Nat → Nat → Int), iv a → jfr jW_X8_takeNumber a0 a → 0 ≤ y3 → y3 ≤ 200 → (y1 = x1) → (y2 = x2) → (y3 = a0 2 2) → a0 2 2 ≤ a 2 2 → a 2 3 = a0 2 3 → (DE (a0 3) (a0 2 1).toNat (a0 2 2).toNat = (a 2 2).toNat) → (y4 = NV (a0 3) (a0 2 1).toNat (a0 2 2).toNat) → jt (jxX E d 130 90 [some (.inr (.inr (.inl 2))), some (.inl y1), some (.inl y2), some (.inl y3), some (.inl y4)] [] (jxSH, a, b0)) (jQ_X8_takeNumber x1 x2 a0 b0) := by
  intro y1 y2 y3 y4 a hv hf hi0 hi1 hy1 hy2 hy3 hi5 hi6 hde hnv
  refine jt_eq (bq_X8_takeNumber_90 E d y1 y2 y3 y4 a b0) ?_
  have h50_ := iv_get hv0 (k := 2) (j := 2) (l := 0) (u := 200) rfl
  have h51_ := iv_get hv (k := 2) (j := 2) (l := 0) (u := 200) rfl
  have h3 : a 3 = a0 3 := funext fun j => hf 3 j rfl
  have h21 := hf 2 1 rfl
  refine jt_ite (fun c52_ => ?_) (fun c52_ => ?_)
  ·
    refine jt_bV (sp_X8_noteFault E d (jd_le hd rfl) y3 0 a b0 hv) (fun a53_ b53_ h53_ => ?_)
    obtain ⟨hv53_, hf53_, rfl, hq53_0, hq53_1⟩ := h53_
    have hf54_ : jfr jW_X8_takeNumber a0 a53_ := jfr_tr hf hf53_ rfl
    exact cp_X8_takeNumber_133 E d hd x1 x2 a0 b0 hv0 y4 a53_ hv53_ hf54_ (by first | exact hde | (rw [hde]; omega)) hnv (by unfold NF; first | (rw [hde, if_pos (by omega)]; split <;> omega) | (rw [hde, if_neg (by omega), if_pos (by rw [← hnv]; omega)]; split <;> omega))
  ·
    have h55_ : jxw ((a 2 2) - y3) = (a 2 2) - y3 := jxw_id (by omega) (by omega)
    refine jt_ite (fun c56_ => ?_) (fun c56_ => ?_)
    ·
      exact cp_X8_takeNumber_127 E d hd x1 x2 a0 b0 hv0 y3 y4 a hv hf (show 0 ≤ y3 from by omega) (show y3 ≤ 200 from by omega) (by first | rfl | assumption) (show a0 2 2 < a 2 2 from by omega) (show a 2 3 = a0 2 3 from by omega) hde hnv (by omega)
    ·
      refine jt_eI (eq_X11_within E d (jd_le hd rfl) y4 y1 y2 a b0) ?_
      have h57_ := f_X11_within_eq a b0 y4 y1 y2
      refine jt_ite (fun c58_ => ?_) (fun c58_ => ?_)
      ·
        exact cp_X8_takeNumber_127 E d hd x1 x2 a0 b0 hv0 y3 y4 a hv hf (show 0 ≤ y3 from by omega) (show y3 ≤ 200 from by omega) (by first | rfl | assumption) (show a0 2 2 < a 2 2 from by omega) (show a 2 3 = a0 2 3 from by omega) hde hnv (by omega)
      ·
        exact cp_X8_takeNumber_133 E d hd x1 x2 a0 b0 hv0 y4 a hv hf (by first | exact hde | (rw [hde]; omega)) hnv (by unfold NF; rw [hde, if_neg (by omega), if_neg (by rw [← hnv]; omega)]; split <;> omega)
theorem cp_X8_takeNumber_8 (E : jxE) (d : Nat) (hd : Nat.ble 2 (d + 1) = true) (x1 x2 : Int) (a0 b0 : Nat → Nat → Int) (hv0 : iv a0) : ∀ n : Nat, (∀ (y1 y2 y3 y4 : Int) (a : Nat → Nat → Int), ((((a 2 1) - (a 2 2)) * 1) + 0).toNat ≤ n → iv a → jfr jW_X8_takeNumber a0 a → 0 ≤ y3 → y3 ≤ 200 → 1 ≤ a 2 1 → a 2 2 ≤ 199 → a 2 2 < a 2 1 → (y1 = x1) → (y2 = x2) → (y3 = a0 2 2) → a0 2 2 ≤ a 2 2 → (∀ j : Nat, (a0 2 2).toNat ≤ j → (j : Int) < a 2 2 → DG (a0 3) (a0 2 1).toNat j) → (DG (a0 3) (a0 2 1).toNat (a 2 2).toNat) → (y4 = DV (a0 3) (a0 2 2).toNat ((a 2 2).toNat - (a0 2 2).toNat + 1)) → a 2 3 = a0 2 3 → jt (jxX E d 130 77 [some (.inr (.inr (.inl 2))), some (.inl y1), some (.inl y2), some (.inl y3), some (.inl y4)] [] (jxSH, a, b0)) (jQ_X8_takeNumber x1 x2 a0 b0)) ∧ (∀ (y1 y2 y3 y4 : Int) (a : Nat → Nat → Int), ((((a 2 1) - (a 2 2)) * 1) + 0).toNat ≤ n → iv a → jfr jW_X8_takeNumber a0 a → 0 ≤ y3 → y3 ≤ 200 → 1 ≤ a 2 1 → a 2 2 ≤ 199 → a 2 2 < a 2 1 → (y1 = x1) → (y2 = x2) → (y3 = a0 2 2) → a0 2 2 ≤ a 2 2 → (∀ j : Nat, (a0 2 2).toNat ≤ j → (j : Int) < a 2 2 → DG (a0 3) (a0 2 1).toNat j) → (y4 = DV (a0 3) (a0 2 2).toNat ((a 2 2).toNat - (a0 2 2).toNat)) → (DG (a0 3) (a0 2 1).toNat (a 2 2).toNat) → a 2 3 = a0 2 3 → jt (jxX E d 130 47 [some (.inr (.inr (.inl 2))), some (.inl y1), some (.inl y2), some (.inl y3), some (.inl y4)] [] (jxSH, a, b0)) (jQ_X8_takeNumber x1 x2 a0 b0)) ∧ (∀ (y1 y2 y3 y4 : Int) (a : Nat → Nat → Int), ((((a 2 1) - (a 2 2)) * 1) + 0).toNat ≤ n → iv a → jfr jW_X8_takeNumber a0 a → 0 ≤ y3 → y3 ≤ 200 → (y1 = x1) → (y2 = x2) → (y3 = a0 2 2) → a0 2 2 ≤ a 2 2 → (∀ j : Nat, (a0 2 2).toNat ≤ j → (j : Int) < a 2 2 → DG (a0 3) (a0 2 1).toNat j) → (y4 = DV (a0 3) (a0 2 2).toNat ((a 2 2).toNat - (a0 2 2).toNat)) → a 2 3 = a0 2 3 → jt (jxX E d 130 8 [some (.inr (.inr (.inl 2))), some (.inl y1), some (.inl y2), some (.inl y3), some (.inl y4)] [] (jxSH, a, b0)) (jQ_X8_takeNumber x1 x2 a0 b0)) := by
  refine jx_ind fun n ih => ?_
  have ih77 : ∀ (y1 y2 y3 y4 : Int) (a : Nat → Nat → Int), ((((a 2 1) - (a 2 2)) * 1) + 0).toNat < n → iv a → jfr jW_X8_takeNumber a0 a → 0 ≤ y3 → y3 ≤ 200 → 1 ≤ a 2 1 → a 2 2 ≤ 199 → a 2 2 < a 2 1 → (y1 = x1) → (y2 = x2) → (y3 = a0 2 2) → a0 2 2 ≤ a 2 2 → (∀ j : Nat, (a0 2 2).toNat ≤ j → (j : Int) < a 2 2 → DG (a0 3) (a0 2 1).toNat j) → (DG (a0 3) (a0 2 1).toNat (a 2 2).toNat) → (y4 = DV (a0 3) (a0 2 2).toNat ((a 2 2).toNat - (a0 2 2).toNat + 1)) → a 2 3 = a0 2 3 → jt (jxX E d 130 77 [some (.inr (.inr (.inl 2))), some (.inl y1), some (.inl y2), some (.inl y3), some (.inl y4)] [] (jxSH, a, b0)) (jQ_X8_takeNumber x1 x2 a0 b0) := fun y1 y2 y3 y4 a hlt i0 i1 i2 i3 i4 i5 i6 i7 i8 i9 i10 i11 i12 i13 i14 => (ih _ hlt).1 y1 y2 y3 y4 a (Nat.le_refl _) i0 i1 i2 i3 i4 i5 i6 i7 i8 i9 i10 i11 i12 i13 i14
  have ih47 : ∀ (y1 y2 y3 y4 : Int) (a : Nat → Nat → Int), ((((a 2 1) - (a 2 2)) * 1) + 0).toNat < n → iv a → jfr jW_X8_takeNumber a0 a → 0 ≤ y3 → y3 ≤ 200 → 1 ≤ a 2 1 → a 2 2 ≤ 199 → a 2 2 < a 2 1 → (y1 = x1) → (y2 = x2) → (y3 = a0 2 2) → a0 2 2 ≤ a 2 2 → (∀ j : Nat, (a0 2 2).toNat ≤ j → (j : Int) < a 2 2 → DG (a0 3) (a0 2 1).toNat j) → (y4 = DV (a0 3) (a0 2 2).toNat ((a 2 2).toNat - (a0 2 2).toNat)) → (DG (a0 3) (a0 2 1).toNat (a 2 2).toNat) → a 2 3 = a0 2 3 → jt (jxX E d 130 47 [some (.inr (.inr (.inl 2))), some (.inl y1), some (.inl y2), some (.inl y3), some (.inl y4)] [] (jxSH, a, b0)) (jQ_X8_takeNumber x1 x2 a0 b0) := fun y1 y2 y3 y4 a hlt i0 i1 i2 i3 i4 i5 i6 i7 i8 i9 i10 i11 i12 i13 i14 => (ih _ hlt).2.1 y1 y2 y3 y4 a (Nat.le_refl _) i0 i1 i2 i3 i4 i5 i6 i7 i8 i9 i10 i11 i12 i13 i14
  have ih8 : ∀ (y1 y2 y3 y4 : Int) (a : Nat → Nat → Int), ((((a 2 1) - (a 2 2)) * 1) + 0).toNat < n → iv a → jfr jW_X8_takeNumber a0 a → 0 ≤ y3 → y3 ≤ 200 → (y1 = x1) → (y2 = x2) → (y3 = a0 2 2) → a0 2 2 ≤ a 2 2 → (∀ j : Nat, (a0 2 2).toNat ≤ j → (j : Int) < a 2 2 → DG (a0 3) (a0 2 1).toNat j) → (y4 = DV (a0 3) (a0 2 2).toNat ((a 2 2).toNat - (a0 2 2).toNat)) → a 2 3 = a0 2 3 → jt (jxX E d 130 8 [some (.inr (.inr (.inl 2))), some (.inl y1), some (.inl y2), some (.inl y3), some (.inl y4)] [] (jxSH, a, b0)) (jQ_X8_takeNumber x1 x2 a0 b0) := fun y1 y2 y3 y4 a hlt i0 i1 i2 i3 i4 i5 i6 i7 i8 i9 i10 => (ih _ hlt).2.2 y1 y2 y3 y4 a (Nat.le_refl _) i0 i1 i2 i3 i4 i5 i6 i7 i8 i9 i10
  have hc77 : ∀ (y1 y2 y3 y4 : Int) (a : Nat → Nat → Int), ((((a 2 1) - (a 2 2)) * 1) + 0).toNat ≤ n → iv a → jfr jW_X8_takeNumber a0 a → 0 ≤ y3 → y3 ≤ 200 → 1 ≤ a 2 1 → a 2 2 ≤ 199 → a 2 2 < a 2 1 → (y1 = x1) → (y2 = x2) → (y3 = a0 2 2) → a0 2 2 ≤ a 2 2 → (∀ j : Nat, (a0 2 2).toNat ≤ j → (j : Int) < a 2 2 → DG (a0 3) (a0 2 1).toNat j) → (DG (a0 3) (a0 2 1).toNat (a 2 2).toNat) → (y4 = DV (a0 3) (a0 2 2).toNat ((a 2 2).toNat - (a0 2 2).toNat + 1)) → a 2 3 = a0 2 3 → jt (jxX E d 130 77 [some (.inr (.inr (.inl 2))), some (.inl y1), some (.inl y2), some (.inl y3), some (.inl y4)] [] (jxSH, a, b0)) (jQ_X8_takeNumber x1 x2 a0 b0) := by
    intro y1 y2 y3 y4 a hm hv hf hi0 hi1 hi2 hi3 hi4 hy1 hy2 hy3 hi8 hdg hd1 hdv hi12
    refine jt_eq (bq_X8_takeNumber_77 E d y1 y2 y3 y4 a b0) ?_
    have h59_ := iv_get hv (k := 2) (j := 1) (l := 0) (u := 200) rfl
    have h60_ : a 2 1 = a0 2 1 := hf 2 1 rfl
    have h61_ := iv_get hv0 (k := 2) (j := 1) (l := 0) (u := 200) rfl
    have h62_ := iv_get hv (k := 2) (j := 2) (l := 0) (u := 200) rfl
    have h63_ := iv_get hv0 (k := 2) (j := 2) (l := 0) (u := 200) rfl
    have h3 : a 3 = a0 3 := funext fun j => hf 3 j rfl
    have h21 := hf 2 1 rfl
    have h65_ : jxw ((a 2 2) + 1) = (a 2 2) + 1 := jxw_id (by omega) (by omega)
    have hv64_ : iv (jxu a 2 2 (jxw ((a 2 2) + 1))) := iv_put hv (l := 0) (u := 200) rfl (by omega) (by omega)
    have hf66_ : jfr jW_X8_takeNumber a0 (jxu a 2 2 (jxw ((a 2 2) + 1))) := jfr_put hf rfl
    exact ih8 y1 y2 y3 y4 (jxu a 2 2 (jxw ((a 2 2) + 1))) (show ((((a 2 1) - (jxw ((a 2 2) + 1))) * 1) + 0).toNat < n from by omega) hv64_ hf66_ (show 0 ≤ y3 from by omega) (show y3 ≤ 200 from by omega) (by first | rfl | assumption) (by first | rfl | assumption) (by first | rfl | assumption) (show a0 2 2 ≤ jxw ((a 2 2) + 1) from by omega) (by first | exact (fun j h1 h2 => absurd h2 (by omega)) | exact (dg_ext hdg hd1 (by omega) (show jxw ((a 2 2) + 1) = a 2 2 + 1 by omega))) (by first | (rw [show (a0 2 2).toNat - (a0 2 2).toNat = 0 from by omega]; rfl) | (show y4 = DV (a0 3) (a0 2 2).toNat ((jxw ((a 2 2) + 1)).toNat - (a0 2 2).toNat); rw [show (jxw ((a 2 2) + 1)).toNat - (a0 2 2).toNat = (a 2 2).toNat - (a0 2 2).toNat + 1 from by omega]; exact hdv)) (show a 2 3 = a0 2 3 from by omega)
  have hc47 : ∀ (y1 y2 y3 y4 : Int) (a : Nat → Nat → Int), ((((a 2 1) - (a 2 2)) * 1) + 0).toNat ≤ n → iv a → jfr jW_X8_takeNumber a0 a → 0 ≤ y3 → y3 ≤ 200 → 1 ≤ a 2 1 → a 2 2 ≤ 199 → a 2 2 < a 2 1 → (y1 = x1) → (y2 = x2) → (y3 = a0 2 2) → a0 2 2 ≤ a 2 2 → (∀ j : Nat, (a0 2 2).toNat ≤ j → (j : Int) < a 2 2 → DG (a0 3) (a0 2 1).toNat j) → (y4 = DV (a0 3) (a0 2 2).toNat ((a 2 2).toNat - (a0 2 2).toNat)) → (DG (a0 3) (a0 2 1).toNat (a 2 2).toNat) → a 2 3 = a0 2 3 → jt (jxX E d 130 47 [some (.inr (.inr (.inl 2))), some (.inl y1), some (.inl y2), some (.inl y3), some (.inl y4)] [] (jxSH, a, b0)) (jQ_X8_takeNumber x1 x2 a0 b0) := by
    intro y1 y2 y3 y4 a hm hv hf hi0 hi1 hi2 hi3 hi4 hy1 hy2 hy3 hi8 hdg hdv hd1 hi12
    refine jt_eq (bq_X8_takeNumber_47 E d y1 y2 y3 y4 a b0) ?_
    have h67_ := iv_get hv (k := 2) (j := 1) (l := 0) (u := 200) rfl
    have h68_ : a 2 1 = a0 2 1 := hf 2 1 rfl
    have h69_ := iv_get hv0 (k := 2) (j := 1) (l := 0) (u := 200) rfl
    have h70_ := iv_get hv (k := 2) (j := 2) (l := 0) (u := 200) rfl
    have h71_ := iv_get hv0 (k := 2) (j := 2) (l := 0) (u := 200) rfl
    have h3 : a 3 = a0 3 := funext fun j => hf 3 j rfl
    have h21 := hf 2 1 rfl
    have hdb := DV_bd (f := a0 3) (n := (a0 2 1).toNat) (p := (a0 2 2).toNat) (m := (a 2 2).toNat - (a0 2 2).toNat) (fun k hk => hdg _ (by omega) (by omega))
    have h72_ : jxw ((a 2 2) - y3) = (a 2 2) - y3 := jxw_id (by omega) (by omega)
    refine jt_ite (fun c73_ => ?_) (fun c73_ => ?_)
    ·
      refine jt_grd (by omega) ?_
      have h74_ := jxw_im (y4 * 10)
      have h75_ := jxw_rg (y4 * 10)
      have h76_ := iv_get hv (k := 3) (j := (a 2 2).toNat) (l := 0) (u := 255) rfl
      have h77_ : a 3 ((a 2 2).toNat) = a0 3 ((a 2 2).toNat) := hf 3 ((a 2 2).toNat) rfl
      have h78_ := iv_get hv0 (k := 3) (j := (a 2 2).toNat) (l := 0) (u := 255) rfl
      have h79_ := jxw_im ((jxw (y4 * 10)) + (a 3 ((a 2 2).toNat)))
      have h80_ := jxw_rg ((jxw (y4 * 10)) + (a 3 ((a 2 2).toNat)))
      have h81_ := jxw_im ((jxw ((jxw (y4 * 10)) + (a 3 ((a 2 2).toNat)))) - 48)
      have h82_ := jxw_rg ((jxw ((jxw (y4 * 10)) + (a 3 ((a 2 2).toNat)))) - 48)
      exact hc77 y1 y2 y3 (jxw ((jxw ((jxw (y4 * 10)) + (a 3 ((a 2 2).toNat)))) - 48)) a (show ((((a 2 1) - (a 2 2)) * 1) + 0).toNat ≤ n from by omega) hv hf (show 0 ≤ y3 from by omega) (show y3 ≤ 200 from by omega) (show 1 ≤ a 2 1 from by omega) (show a 2 2 ≤ 199 from by omega) (show a 2 2 < a 2 1 from by omega) (by first | rfl | assumption) (by first | rfl | assumption) (by first | rfl | assumption) (show a0 2 2 ≤ a 2 2 from by omega) hdg hd1 (by first | (rw [DV_lt (by omega), ← hdv, show (a0 2 2).toNat + ((a 2 2).toNat - (a0 2 2).toNat) = (a 2 2).toNat from by omega, ← h3]; have hd2 := hd1; rw [← h3] at hd2; obtain ⟨q1, q2, q3⟩ := hd2; omega) | (rw [DV_ge (by omega)]; exact hdv)) (show a 2 3 = a0 2 3 from by omega)
    ·
      exact hc77 y1 y2 y3 y4 a (show ((((a 2 1) - (a 2 2)) * 1) + 0).toNat ≤ n from by omega) hv hf (show 0 ≤ y3 from by omega) (show y3 ≤ 200 from by omega) (show 1 ≤ a 2 1 from by omega) (show a 2 2 ≤ 199 from by omega) (show a 2 2 < a 2 1 from by omega) (by first | rfl | assumption) (by first | rfl | assumption) (by first | rfl | assumption) (show a0 2 2 ≤ a 2 2 from by omega) hdg hd1 (by first | (rw [DV_lt (by omega), ← hdv, show (a0 2 2).toNat + ((a 2 2).toNat - (a0 2 2).toNat) = (a 2 2).toNat from by omega, ← h3]; have hd2 := hd1; rw [← h3] at hd2; obtain ⟨q1, q2, q3⟩ := hd2; omega) | (rw [DV_ge (by omega)]; exact hdv)) (show a 2 3 = a0 2 3 from by omega)
  have hc8 : ∀ (y1 y2 y3 y4 : Int) (a : Nat → Nat → Int), ((((a 2 1) - (a 2 2)) * 1) + 0).toNat ≤ n → iv a → jfr jW_X8_takeNumber a0 a → 0 ≤ y3 → y3 ≤ 200 → (y1 = x1) → (y2 = x2) → (y3 = a0 2 2) → a0 2 2 ≤ a 2 2 → (∀ j : Nat, (a0 2 2).toNat ≤ j → (j : Int) < a 2 2 → DG (a0 3) (a0 2 1).toNat j) → (y4 = DV (a0 3) (a0 2 2).toNat ((a 2 2).toNat - (a0 2 2).toNat)) → a 2 3 = a0 2 3 → jt (jxX E d 130 8 [some (.inr (.inr (.inl 2))), some (.inl y1), some (.inl y2), some (.inl y3), some (.inl y4)] [] (jxSH, a, b0)) (jQ_X8_takeNumber x1 x2 a0 b0) := by
    intro y1 y2 y3 y4 a hm hv hf hi0 hi1 hy1 hy2 hy3 hi5 hdg hdv hi8
    refine jt_eq (bq_X8_takeNumber_8 E d y1 y2 y3 y4 a b0) ?_
    have h83_ := iv_get hv0 (k := 2) (j := 2) (l := 0) (u := 200) rfl
    have h84_ := iv_get hv (k := 2) (j := 2) (l := 0) (u := 200) rfl
    have h85_ := iv_get hv (k := 2) (j := 1) (l := 0) (u := 200) rfl
    have h86_ : a 2 1 = a0 2 1 := hf 2 1 rfl
    have h87_ := iv_get hv0 (k := 2) (j := 1) (l := 0) (u := 200) rfl
    have h3 : a 3 = a0 3 := funext fun j => hf 3 j rfl
    have h21 := hf 2 1 rfl
    refine jt_ite (fun c88_ => ?_) (fun c88_ => ?_)
    ·
      refine jt_grd (by omega) ?_
      have h89_ := iv_get hv (k := 3) (j := (a 2 2).toNat) (l := 0) (u := 255) rfl
      have h90_ : a 3 ((a 2 2).toNat) = a0 3 ((a 2 2).toNat) := hf 3 ((a 2 2).toNat) rfl
      have h91_ := iv_get hv0 (k := 3) (j := (a 2 2).toNat) (l := 0) (u := 255) rfl
      refine jt_ite (fun c92_ => ?_) (fun c92_ => ?_)
      ·
        exact cp_X8_takeNumber_90 E d hd x1 x2 a0 b0 hv0 y1 y2 y3 y4 a hv hf (show 0 ≤ y3 from by omega) (show y3 ≤ 200 from by omega) (by first | rfl | assumption) (by first | rfl | assumption) (by first | rfl | assumption) (show a0 2 2 ≤ a 2 2 from by omega) (show a 2 3 = a0 2 3 from by omega) (DE_un (by omega) (fun j h1 h2 => hdg j h1 (by omega)) (fun h => by rw [← h3] at h; obtain ⟨q1, q2, q3⟩ := h; omega)) (by unfold NV; rw [DE_un (q := (a 2 2).toNat) (by omega) (fun j h1 h2 => hdg j h1 (by omega)) (fun h => by rw [← h3] at h; obtain ⟨q1, q2, q3⟩ := h; omega)]; exact hdv)
      ·
        refine jt_grd (by omega) ?_
        refine jt_ite (fun c93_ => ?_) (fun c93_ => ?_)
        ·
          exact cp_X8_takeNumber_90 E d hd x1 x2 a0 b0 hv0 y1 y2 y3 y4 a hv hf (show 0 ≤ y3 from by omega) (show y3 ≤ 200 from by omega) (by first | rfl | assumption) (by first | rfl | assumption) (by first | rfl | assumption) (show a0 2 2 ≤ a 2 2 from by omega) (show a 2 3 = a0 2 3 from by omega) (DE_un (by omega) (fun j h1 h2 => hdg j h1 (by omega)) (fun h => by rw [← h3] at h; obtain ⟨q1, q2, q3⟩ := h; omega)) (by unfold NV; rw [DE_un (q := (a 2 2).toNat) (by omega) (fun j h1 h2 => hdg j h1 (by omega)) (fun h => by rw [← h3] at h; obtain ⟨q1, q2, q3⟩ := h; omega)]; exact hdv)
        ·
          exact hc47 y1 y2 y3 y4 a (show ((((a 2 1) - (a 2 2)) * 1) + 0).toNat ≤ n from by omega) hv hf (show 0 ≤ y3 from by omega) (show y3 ≤ 200 from by omega) (show 1 ≤ a 2 1 from by omega) (show a 2 2 ≤ 199 from by omega) (show a 2 2 < a 2 1 from by omega) (by first | rfl | assumption) (by first | rfl | assumption) (by first | rfl | assumption) (show a0 2 2 ≤ a 2 2 from by omega) hdg hdv (by refine ⟨by omega, ?_, ?_⟩ <;> (rw [← h3]; omega)) (show a 2 3 = a0 2 3 from by omega)
    ·
      exact cp_X8_takeNumber_90 E d hd x1 x2 a0 b0 hv0 y1 y2 y3 y4 a hv hf (show 0 ≤ y3 from by omega) (show y3 ≤ 200 from by omega) (by first | rfl | assumption) (by first | rfl | assumption) (by first | rfl | assumption) (show a0 2 2 ≤ a 2 2 from by omega) (show a 2 3 = a0 2 3 from by omega) (DE_un (by omega) (fun j h1 h2 => hdg j h1 (by omega)) (fun h => by rw [← h3] at h; obtain ⟨q1, q2, q3⟩ := h; omega)) (by unfold NV; rw [DE_un (q := (a 2 2).toNat) (by omega) (fun j h1 h2 => hdg j h1 (by omega)) (fun h => by rw [← h3] at h; obtain ⟨q1, q2, q3⟩ := h; omega)]; exact hdv)
  exact ⟨hc77, hc47, hc8⟩
theorem sp_X8_takeNumber (E : jxE) (d : Nat) (hd : Nat.ble 2 d = true) (x1 x2 : Int) (a0 b0 : Nat → Nat → Int) (hv0 : iv a0) : jt (jxC E d 130 [.inr (.inr (.inl 2)), .inl x1, .inl x2] (jxSH, a0, b0)) (jQ_X8_takeNumber x1 x2 a0 b0) := by
  obtain ⟨d, rfl⟩ := jd_succ hd
  refine jt_eq (bq_X8_takeNumber E d x1 x2 a0 b0) ?_
  have h94_ := iv_get hv0 (k := 2) (j := 2) (l := 0) (u := 200) rfl
  exact (cp_X8_takeNumber_8 E d hd x1 x2 a0 b0 hv0 _).2.2 x1 x2 (a0 2 2) 0 a0 (Nat.le_refl _) hv0 (jfr_rf _ _) (show 0 ≤ a0 2 2 from by omega) (show a0 2 2 ≤ 200 from by omega) (by first | rfl | assumption) (by first | rfl | assumption) (by first | rfl | assumption) (show a0 2 2 ≤ a0 2 2 from by omega) (by first | exact (fun j h1 h2 => absurd h2 (by omega)) | exact (dg_ext hdg hd1 (by omega) (show jxw ((a 2 2) + 1) = a 2 2 + 1 by omega))) (by first | (rw [show (a0 2 2).toNat - (a0 2 2).toNat = 0 from by omega]; rfl) | (show y4 = DV (a0 3) (a0 2 2).toNat ((jxw ((a 2 2) + 1)).toNat - (a0 2 2).toNat); rw [show (jxw ((a 2 2) + 1)).toNat - (a0 2 2).toNat = (a 2 2).toNat - (a0 2 2).toNat + 1 from by omega]; exact hdv)) (show a0 2 3 = a0 2 3 from by omega)
def jW_X8_takesWord_r1000 : List (Nat × Nat) := [(2, 2)]
abbrev jQ_X8_takesWord_r1000 (a0 b0 : Nat → Nat → Int) : List jxV → (Nat → Nat → Int) → (Nat → Nat → Int) → Prop := rI (fun r a b => (iv a) ∧ (jfr jW_X8_takesWord_r1000 a0 a) ∧ (b0 = b) ∧ ((0 ≤ r ∧ r ≤ 1)) ∧ (((¬ a0 2 3 = 0 ∨ a0 2 1 ≤ a0 2 2) → r = 0)) ∧ ((r = 0 → a 2 2 = a0 2 2)) ∧ (r = 1 → a0 2 3 = 0 ∧ TW (a0 3) (a0 2 1).toNat (a0 2 2).toNat 2 ∧ a 2 2 = ((SK (a0 3) (a0 2 1).toNat ((a0 2 2).toNat + wdn 2) : Nat) : Int)) ∧ (r = 0 → ¬ a0 2 3 = 0 ∨ ¬ TW (a0 3) (a0 2 1).toNat (a0 2 2).toNat 2))
theorem cp_X8_takesWord_r1000_56 (E : jxE) (d : Nat) (hd : Nat.ble 5 (d + 1) = true) (a0 b0 : Nat → Nat → Int) (hv0 : iv a0) : ∀ (a : Nat → Nat → Int), iv a → jfr jW_X8_takesWord_r1000 a0 a → 3 ≤ a 2 1 → a 2 2 = a0 2 2 → (¬ TW (a0 3) (a0 2 1).toNat (a0 2 2).toNat 2) → a0 2 3 = 0 → a0 2 2 < a0 2 1 → jt (jxX E d 128 56 [none, none, none, none] [] (jxSH, a, b0)) (jQ_X8_takesWord_r1000 a0 b0) := by
  intro a hv hf hi0 hi1 hnt hi3 hi4
  refine jt_eq (bq_X8_takesWord_r1000_56 E d a b0) ?_
  have h95_ := iv_get hv (k := 2) (j := 1) (l := 0) (u := 200) rfl
  have h96_ : a 2 1 = a0 2 1 := hf 2 1 rfl
  have h97_ := iv_get hv0 (k := 2) (j := 1) (l := 0) (u := 200) rfl
  have h98_ := iv_get hv (k := 2) (j := 2) (l := 0) (u := 200) rfl
  have h99_ := iv_get hv0 (k := 2) (j := 2) (l := 0) (u := 200) rfl
  have h3 : a 3 = a0 3 := funext fun j => hf 3 j rfl
  have h21 := hf 2 1 rfl
  exact jt_rI ⟨hv, hf, rfl, (show (0 ≤ 0 ∧ 0 ≤ 1) from by omega), (show ((¬ a0 2 3 = 0 ∨ a0 2 1 ≤ a0 2 2) → 0 = 0) from by omega), (show (0 = 0 → a 2 2 = a0 2 2) from by omega), (by first | exact (fun h => absurd h (by decide)) | exact (fun _ => ⟨by omega, htw, by have h := hq0_1; rw [show (a0 2 2).toNat + wdn 2 = y2.toNat from (by show _ + 3 = _; omega), ← h3, ← h21]; exact h⟩)), (by first | exact (fun h => absurd h (by decide)) | exact (fun _ => Or.inr hnt) | exact (fun _ => Or.inl (by omega)) | exact (fun _ => Or.inr (TW_short (show _ < _ + 3 by omega))) | exact (fun _ => Or.inr (TW_let (q := y2.toNat) (show y2.toNat = (a0 2 2).toNat + 3 by omega) ⟨by omega, h97, by rw [← h3]; omega⟩)))⟩
theorem cp_X8_takesWord_r1000_96 (E : jxE) (d : Nat) (hd : Nat.ble 5 (d + 1) = true) (a0 b0 : Nat → Nat → Int) (hv0 : iv a0) : ∀ (y2 : Int) (a : Nat → Nat → Int), iv a → jfr jW_X8_takesWord_r1000 a0 a → 3 ≤ y2 → y2 ≤ 200 → 3 ≤ a 2 1 → a 2 2 = a0 2 2 → (TW (a0 3) (a0 2 1).toNat (a0 2 2).toNat 2) → y2 = (a 2 2) + 3 → y2 ≤ a 2 1 → y2 ≤ 200 → a0 2 3 = 0 → a0 2 2 < a0 2 1 → jt (jxX E d 128 96 [some (.inr (.inr (.inl 2))), none, some (.inl y2), none] [] (jxSH, a, b0)) (jQ_X8_takesWord_r1000 a0 b0) := by
  intro y2 a hv hf hi0 hi1 hi2 hi3 htw hi5 hi6 hi7 hi8 hi9
  refine jt_eq (bq_X8_takesWord_r1000_96 E d y2 a b0) ?_
  have h100_ := iv_get hv (k := 2) (j := 1) (l := 0) (u := 200) rfl
  have h101_ : a 2 1 = a0 2 1 := hf 2 1 rfl
  have h102_ := iv_get hv0 (k := 2) (j := 1) (l := 0) (u := 200) rfl
  have h103_ := iv_get hv (k := 2) (j := 2) (l := 0) (u := 200) rfl
  have h104_ := iv_get hv0 (k := 2) (j := 2) (l := 0) (u := 200) rfl
  have h3 : a 3 = a0 3 := funext fun j => hf 3 j rfl
  have h21 := hf 2 1 rfl
  have hv105_ : iv (jxu a 2 2 y2) := iv_put hv (l := 0) (u := 200) rfl (by omega) (by omega)
  refine jt_bV (sp_X8_skipBlanks E d (jd_le hd rfl) (jxu a 2 2 y2) b0 hv105_) (fun a106_ b106_ h106_ => ?_)
  obtain ⟨hv106_, hf106_, rfl, hq106_0, hq106_1⟩ := h106_
  have h107_ := iv_get hv106_ (k := 2) (j := 2) (l := 0) (u := 200) rfl
  have h108_ : (a 2 1 ≤ y2 → a106_ 2 2 = y2) := hq106_0
  have hf109_ : jfr jW_X8_takesWord_r1000 a0 (jxu a 2 2 y2) := jfr_put hf rfl
  have hf110_ : jfr jW_X8_takesWord_r1000 a0 a106_ := jfr_tr hf109_ hf106_ rfl
  exact jt_rI ⟨hv106_, hf110_, rfl, (show (0 ≤ 1 ∧ 1 ≤ 1) from by omega), (show ((¬ a0 2 3 = 0 ∨ a0 2 1 ≤ a0 2 2) → 1 = 0) from by omega), (show (1 = 0 → a106_ 2 2 = a0 2 2) from by omega), (by first | exact (fun h => absurd h (by decide)) | exact (fun _ => ⟨by omega, htw, by have h := hq106_1; rw [show (a0 2 2).toNat + wdn 2 = y2.toNat from (by show _ + 3 = _; omega), ← h3, ← h21]; exact h⟩)), (by first | exact (fun h => absurd h (by decide)) | exact (fun _ => Or.inr hnt) | exact (fun _ => Or.inl (by omega)) | exact (fun _ => Or.inr (TW_short (show _ < _ + 3 by omega))) | exact (fun _ => Or.inr (TW_let (q := y2.toNat) (show y2.toNat = (a0 2 2).toNat + 3 by omega) ⟨by omega, h97, by rw [← h3]; omega⟩)))⟩
theorem cp_X8_takesWord_r1000_83 (E : jxE) (d : Nat) (hd : Nat.ble 5 (d + 1) = true) (a0 b0 : Nat → Nat → Int) (hv0 : iv a0) : ∀ (y2 : Int) (a : Nat → Nat → Int), iv a → jfr jW_X8_takesWord_r1000 a0 a → 3 ≤ y2 → y2 ≤ 199 → 4 ≤ a 2 1 → a 2 2 = a0 2 2 → (∀ k : Nat, (k : Int) < (wdn 2 : Int) → (a0 3) ((a0 2 2).toNat + k) = (wdl 2).getD k 0) → (97 ≤ a0 3 y2.toNat) → y2 = (a 2 2) + 3 → y2 ≤ a 2 1 → y2 ≤ 200 → a0 2 3 = 0 → a0 2 2 < a0 2 1 → jt (jxX E d 128 83 [some (.inr (.inr (.inl 2))), none, some (.inl y2), none] [] (jxSH, a, b0)) (jQ_X8_takesWord_r1000 a0 b0) := by
  intro y2 a hv hf hi0 hi1 hi2 hi3 hall h97 hi6 hi7 hi8 hi9 hi10
  refine jt_eq (bq_X8_takesWord_r1000_83 E d y2 a b0) ?_
  have h111_ := iv_get hv (k := 2) (j := 1) (l := 0) (u := 200) rfl
  have h112_ : a 2 1 = a0 2 1 := hf 2 1 rfl
  have h113_ := iv_get hv0 (k := 2) (j := 1) (l := 0) (u := 200) rfl
  have h114_ := iv_get hv (k := 2) (j := 2) (l := 0) (u := 200) rfl
  have h115_ := iv_get hv0 (k := 2) (j := 2) (l := 0) (u := 200) rfl
  have h3 : a 3 = a0 3 := funext fun j => hf 3 j rfl
  have h21 := hf 2 1 rfl
  refine jt_grd (by omega) ?_
  have h116_ := iv_get hv (k := 3) (j := y2.toNat) (l := 0) (u := 255) rfl
  have h117_ : a 3 (y2.toNat) = a0 3 (y2.toNat) := hf 3 (y2.toNat) rfl
  have h118_ := iv_get hv0 (k := 3) (j := y2.toNat) (l := 0) (u := 255) rfl
  refine jt_ite (fun c119_ => ?_) (fun c119_ => ?_)
  ·
    exact cp_X8_takesWord_r1000_96 E d hd a0 b0 hv0 y2 a hv hf (show 3 ≤ y2 from by omega) (show y2 ≤ 200 from by omega) (show 3 ≤ a 2 1 from by omega) (show a 2 2 = a0 2 2 from by omega) (TW_mk (q := y2.toNat) (show y2.toNat = (a0 2 2).toNat + 3 by omega) (by omega) (by first | exact hall | exact (fun k hk => hch k (by have hw : ((wdn 2 : Nat) : Int) = 3 := rfl; omega))) (LT_no1 (by rw [← h3]; omega))) (show y2 = (a 2 2) + 3 from by omega) (show y2 ≤ a 2 1 from by omega) (show y2 ≤ 200 from by omega) (show a0 2 3 = 0 from by omega) (show a0 2 2 < a0 2 1 from by omega)
  ·
    exact jt_rI ⟨hv, hf, rfl, (show (0 ≤ 0 ∧ 0 ≤ 1) from by omega), (show ((¬ a0 2 3 = 0 ∨ a0 2 1 ≤ a0 2 2) → 0 = 0) from by omega), (show (0 = 0 → a 2 2 = a0 2 2) from by omega), (by first | exact (fun h => absurd h (by decide)) | exact (fun _ => ⟨by omega, htw, by have h := hq0_1; rw [show (a0 2 2).toNat + wdn 2 = y2.toNat from (by show _ + 3 = _; omega), ← h3, ← h21]; exact h⟩)), (by first | exact (fun h => absurd h (by decide)) | exact (fun _ => Or.inr hnt) | exact (fun _ => Or.inl (by omega)) | exact (fun _ => Or.inr (TW_short (show _ < _ + 3 by omega))) | exact (fun _ => Or.inr (TW_let (q := y2.toNat) (show y2.toNat = (a0 2 2).toNat + 3 by omega) ⟨by omega, h97, by rw [← h3]; omega⟩)))⟩
theorem cp_X8_takesWord_r1000_29 (E : jxE) (d : Nat) (hd : Nat.ble 5 (d + 1) = true) (a0 b0 : Nat → Nat → Int) (hv0 : iv a0) : ∀ n : Nat, (∀ (y2 y3 : Int) (a : Nat → Nat → Int), (((3 - y3) * 1) + 0).toNat ≤ n → iv a → jfr jW_X8_takesWord_r1000 a0 a → 3 ≤ y2 → y2 ≤ 200 → 0 ≤ y3 → y3 ≤ 2 → 3 ≤ a 2 1 → y3 < 3 → 0 ≤ y3 → a 2 2 = a0 2 2 → (∀ k : Nat, (k : Int) < y3 + 1 → (a0 3) ((a0 2 2).toNat + k) = (wdl 2).getD k 0) → y2 = (a 2 2) + 3 → y2 ≤ a 2 1 → y2 ≤ 200 → a0 2 3 = 0 → a0 2 2 < a0 2 1 → jt (jxX E d 128 58 [some (.inr (.inr (.inl 2))), some (.inr (.inr (.inl 1000))), some (.inl y2), some (.inl y3)] [] (jxSH, a, b0)) (jQ_X8_takesWord_r1000 a0 b0)) ∧ (∀ (y2 y3 : Int) (a : Nat → Nat → Int), (((3 - y3) * 1) + 0).toNat ≤ n → iv a → jfr jW_X8_takesWord_r1000 a0 a → 3 ≤ y2 → y2 ≤ 200 → 0 ≤ y3 → y3 ≤ 3 → 3 ≤ a 2 1 → 0 ≤ y3 → a 2 2 = a0 2 2 → (∀ k : Nat, (k : Int) < y3 → (a0 3) ((a0 2 2).toNat + k) = (wdl 2).getD k 0) → y2 = (a 2 2) + 3 → y2 ≤ a 2 1 → y2 ≤ 200 → a0 2 3 = 0 → a0 2 2 < a0 2 1 → jt (jxX E d 128 29 [some (.inr (.inr (.inl 2))), some (.inr (.inr (.inl 1000))), some (.inl y2), some (.inl y3)] [] (jxSH, a, b0)) (jQ_X8_takesWord_r1000 a0 b0)) := by
  refine jx_ind fun n ih => ?_
  have ih58 : ∀ (y2 y3 : Int) (a : Nat → Nat → Int), (((3 - y3) * 1) + 0).toNat < n → iv a → jfr jW_X8_takesWord_r1000 a0 a → 3 ≤ y2 → y2 ≤ 200 → 0 ≤ y3 → y3 ≤ 2 → 3 ≤ a 2 1 → y3 < 3 → 0 ≤ y3 → a 2 2 = a0 2 2 → (∀ k : Nat, (k : Int) < y3 + 1 → (a0 3) ((a0 2 2).toNat + k) = (wdl 2).getD k 0) → y2 = (a 2 2) + 3 → y2 ≤ a 2 1 → y2 ≤ 200 → a0 2 3 = 0 → a0 2 2 < a0 2 1 → jt (jxX E d 128 58 [some (.inr (.inr (.inl 2))), some (.inr (.inr (.inl 1000))), some (.inl y2), some (.inl y3)] [] (jxSH, a, b0)) (jQ_X8_takesWord_r1000 a0 b0) := fun y2 y3 a hlt i0 i1 i2 i3 i4 i5 i6 i7 i8 i9 i10 i11 i12 i13 i14 i15 => (ih _ hlt).1 y2 y3 a (Nat.le_refl _) i0 i1 i2 i3 i4 i5 i6 i7 i8 i9 i10 i11 i12 i13 i14 i15
  have ih29 : ∀ (y2 y3 : Int) (a : Nat → Nat → Int), (((3 - y3) * 1) + 0).toNat < n → iv a → jfr jW_X8_takesWord_r1000 a0 a → 3 ≤ y2 → y2 ≤ 200 → 0 ≤ y3 → y3 ≤ 3 → 3 ≤ a 2 1 → 0 ≤ y3 → a 2 2 = a0 2 2 → (∀ k : Nat, (k : Int) < y3 → (a0 3) ((a0 2 2).toNat + k) = (wdl 2).getD k 0) → y2 = (a 2 2) + 3 → y2 ≤ a 2 1 → y2 ≤ 200 → a0 2 3 = 0 → a0 2 2 < a0 2 1 → jt (jxX E d 128 29 [some (.inr (.inr (.inl 2))), some (.inr (.inr (.inl 1000))), some (.inl y2), some (.inl y3)] [] (jxSH, a, b0)) (jQ_X8_takesWord_r1000 a0 b0) := fun y2 y3 a hlt i0 i1 i2 i3 i4 i5 i6 i7 i8 i9 i10 i11 i12 i13 i14 => (ih _ hlt).2 y2 y3 a (Nat.le_refl _) i0 i1 i2 i3 i4 i5 i6 i7 i8 i9 i10 i11 i12 i13 i14
  have hc58 : ∀ (y2 y3 : Int) (a : Nat → Nat → Int), (((3 - y3) * 1) + 0).toNat ≤ n → iv a → jfr jW_X8_takesWord_r1000 a0 a → 3 ≤ y2 → y2 ≤ 200 → 0 ≤ y3 → y3 ≤ 2 → 3 ≤ a 2 1 → y3 < 3 → 0 ≤ y3 → a 2 2 = a0 2 2 → (∀ k : Nat, (k : Int) < y3 + 1 → (a0 3) ((a0 2 2).toNat + k) = (wdl 2).getD k 0) → y2 = (a 2 2) + 3 → y2 ≤ a 2 1 → y2 ≤ 200 → a0 2 3 = 0 → a0 2 2 < a0 2 1 → jt (jxX E d 128 58 [some (.inr (.inr (.inl 2))), some (.inr (.inr (.inl 1000))), some (.inl y2), some (.inl y3)] [] (jxSH, a, b0)) (jQ_X8_takesWord_r1000 a0 b0) := by
    intro y2 y3 a hm hv hf hi0 hi1 hi2 hi3 hi4 hi5 hi6 hi7 hch hi9 hi10 hi11 hi12 hi13
    refine jt_eq (bq_X8_takesWord_r1000_58 E d y2 y3 a b0) ?_
    have h120_ := iv_get hv (k := 2) (j := 1) (l := 0) (u := 200) rfl
    have h121_ : a 2 1 = a0 2 1 := hf 2 1 rfl
    have h122_ := iv_get hv0 (k := 2) (j := 1) (l := 0) (u := 200) rfl
    have h123_ := iv_get hv (k := 2) (j := 2) (l := 0) (u := 200) rfl
    have h124_ := iv_get hv0 (k := 2) (j := 2) (l := 0) (u := 200) rfl
    have h3 : a 3 = a0 3 := funext fun j => hf 3 j rfl
    have h21 := hf 2 1 rfl
    have h125_ : jxw (y3 + 1) = y3 + 1 := jxw_id (by omega) (by omega)
    exact ih29 y2 (jxw (y3 + 1)) a (show (((3 - (jxw (y3 + 1))) * 1) + 0).toNat < n from by omega) hv hf (show 3 ≤ y2 from by omega) (show y2 ≤ 200 from by omega) (show 0 ≤ jxw (y3 + 1) from by omega) (show jxw (y3 + 1) ≤ 3 from by omega) (show 3 ≤ a 2 1 from by omega) (show 0 ≤ jxw (y3 + 1) from by omega) (show a 2 2 = a0 2 2 from by omega) (by first | exact (fun k hk => absurd hk (by omega)) | (rw [show jxw (y3 + 1) = y3 + 1 from by omega]; exact hch)) (show y2 = (a 2 2) + 3 from by omega) (show y2 ≤ a 2 1 from by omega) (show y2 ≤ 200 from by omega) (show a0 2 3 = 0 from by omega) (show a0 2 2 < a0 2 1 from by omega)
  have hc29 : ∀ (y2 y3 : Int) (a : Nat → Nat → Int), (((3 - y3) * 1) + 0).toNat ≤ n → iv a → jfr jW_X8_takesWord_r1000 a0 a → 3 ≤ y2 → y2 ≤ 200 → 0 ≤ y3 → y3 ≤ 3 → 3 ≤ a 2 1 → 0 ≤ y3 → a 2 2 = a0 2 2 → (∀ k : Nat, (k : Int) < y3 → (a0 3) ((a0 2 2).toNat + k) = (wdl 2).getD k 0) → y2 = (a 2 2) + 3 → y2 ≤ a 2 1 → y2 ≤ 200 → a0 2 3 = 0 → a0 2 2 < a0 2 1 → jt (jxX E d 128 29 [some (.inr (.inr (.inl 2))), some (.inr (.inr (.inl 1000))), some (.inl y2), some (.inl y3)] [] (jxSH, a, b0)) (jQ_X8_takesWord_r1000 a0 b0) := by
    intro y2 y3 a hm hv hf hi0 hi1 hi2 hi3 hi4 hi5 hi6 hch hi8 hi9 hi10 hi11 hi12
    refine jt_eq (bq_X8_takesWord_r1000_29 E d y2 y3 a b0) ?_
    have h126_ := iv_get hv (k := 2) (j := 1) (l := 0) (u := 200) rfl
    have h127_ : a 2 1 = a0 2 1 := hf 2 1 rfl
    have h128_ := iv_get hv0 (k := 2) (j := 1) (l := 0) (u := 200) rfl
    have h129_ := iv_get hv (k := 2) (j := 2) (l := 0) (u := 200) rfl
    have h130_ := iv_get hv0 (k := 2) (j := 2) (l := 0) (u := 200) rfl
    have h3 : a 3 = a0 3 := funext fun j => hf 3 j rfl
    have h21 := hf 2 1 rfl
    refine jt_eI (eq_J0_length_8abf5_r1000 E d (jd_le hd rfl) a b0) ?_
    have h131_ := ff_J0_length_8abf5_r1000 a b0
    refine jt_ite (fun c132_ => ?_) (fun c132_ => ?_)
    ·
      have h133_ : jxw ((a 2 2) + y3) = (a 2 2) + y3 := jxw_id (by omega) (by omega)
      refine jt_grd (by omega) ?_
      refine jt_eI (eq_J0_charAt_5068e_r1000 E d (jd_le hd rfl) y3 a b0 (show (0 ≤ y3 ∧ y3 < 3) from by omega)) ?_
      have h134_ := iv_get hv (k := 3) (j := (jxw ((a 2 2) + y3)).toNat) (l := 0) (u := 255) rfl
      have h135_ : a 3 ((jxw ((a 2 2) + y3)).toNat) = a0 3 ((jxw ((a 2 2) + y3)).toNat) := hf 3 ((jxw ((a 2 2) + y3)).toNat) rfl
      have h136_ := iv_get hv0 (k := 3) (j := (jxw ((a 2 2) + y3)).toNat) (l := 0) (u := 255) rfl
      have h137_ := f_J0_charAt_5068e_r1000_eq a b0 y3
      have h138_ := f_J0_isLatin1_aae02_r1000_eq a b0
      have h139_ := f_J1_charAt_3b067_r2000_eq a b0 y3
      have h140_ := jxand_r (([110, 111, 116] : List Int).getD (y3.toNat) 0) 255 (by decide) (by decide)
      have h141_ := jxi2c_b (jxand (([110, 111, 116] : List Int).getD (y3.toNat) 0) 255)
      refine jt_ite (fun c142_ => ?_) (fun c142_ => ?_)
      ·
        exact hc58 y2 y3 a (show (((3 - y3) * 1) + 0).toNat ≤ n from by omega) hv hf (show 3 ≤ y2 from by omega) (show y2 ≤ 200 from by omega) (show 0 ≤ y3 from by omega) (show y3 ≤ 2 from by omega) (show 3 ≤ a 2 1 from by omega) (show y3 < 3 from by omega) (show 0 ≤ y3 from by omega) (show a 2 2 = a0 2 2 from by omega) (ch_ext hch (by omega) (q := (jxw ((a 2 2) + y3)).toNat) (by omega) (v := f_J0_charAt_5068e_r1000 a b0 y3) (by rw [← h3]; assumption) (cw_1000 a b0 y3 (by omega) (by omega))) (show y2 = (a 2 2) + 3 from by omega) (show y2 ≤ a 2 1 from by omega) (show y2 ≤ 200 from by omega) (show a0 2 3 = 0 from by omega) (show a0 2 2 < a0 2 1 from by omega)
      ·
        exact cp_X8_takesWord_r1000_56 E d hd a0 b0 hv0 a hv hf (show 3 ≤ a 2 1 from by omega) (show a 2 2 = a0 2 2 from by omega) (TW_no (y := y3) (by omega) (show y3 < 3 by omega) (q := (jxw ((a 2 2) + y3)).toNat) (by omega) (v := f_J0_charAt_5068e_r1000 a b0 y3) (cw_1000 a b0 y3 (by omega) (by omega)) (by rw [← h3]; assumption)) (show a0 2 3 = 0 from by omega) (show a0 2 2 < a0 2 1 from by omega)
    ·
      refine jt_ite (fun c143_ => ?_) (fun c143_ => ?_)
      ·
        refine jt_grd (by omega) ?_
        have h144_ := iv_get hv (k := 3) (j := y2.toNat) (l := 0) (u := 255) rfl
        have h145_ : a 3 (y2.toNat) = a0 3 (y2.toNat) := hf 3 (y2.toNat) rfl
        have h146_ := iv_get hv0 (k := 3) (j := y2.toNat) (l := 0) (u := 255) rfl
        refine jt_ite (fun c147_ => ?_) (fun c147_ => ?_)
        ·
          exact cp_X8_takesWord_r1000_96 E d hd a0 b0 hv0 y2 a hv hf (show 3 ≤ y2 from by omega) (show y2 ≤ 200 from by omega) (show 3 ≤ a 2 1 from by omega) (show a 2 2 = a0 2 2 from by omega) (TW_mk (q := y2.toNat) (show y2.toNat = (a0 2 2).toNat + 3 by omega) (by omega) (by first | exact hall | exact (fun k hk => hch k (by have hw : ((wdn 2 : Nat) : Int) = 3 := rfl; omega))) (LT_no1 (by rw [← h3]; omega))) (show y2 = (a 2 2) + 3 from by omega) (show y2 ≤ a 2 1 from by omega) (show y2 ≤ 200 from by omega) (show a0 2 3 = 0 from by omega) (show a0 2 2 < a0 2 1 from by omega)
        ·
          exact cp_X8_takesWord_r1000_83 E d hd a0 b0 hv0 y2 a hv hf (show 3 ≤ y2 from by omega) (show y2 ≤ 199 from by omega) (show 4 ≤ a 2 1 from by omega) (show a 2 2 = a0 2 2 from by omega) (fun k hk => hch k (by have hw : ((wdn 2 : Nat) : Int) = 3 := rfl; omega)) (by rw [← h3]; omega) (show y2 = (a 2 2) + 3 from by omega) (show y2 ≤ a 2 1 from by omega) (show y2 ≤ 200 from by omega) (show a0 2 3 = 0 from by omega) (show a0 2 2 < a0 2 1 from by omega)
      ·
        exact cp_X8_takesWord_r1000_96 E d hd a0 b0 hv0 y2 a hv hf (show 3 ≤ y2 from by omega) (show y2 ≤ 200 from by omega) (show 3 ≤ a 2 1 from by omega) (show a 2 2 = a0 2 2 from by omega) (TW_mk (q := y2.toNat) (show y2.toNat = (a0 2 2).toNat + 3 by omega) (by omega) (by first | exact hall | exact (fun k hk => hch k (by have hw : ((wdn 2 : Nat) : Int) = 3 := rfl; omega))) (LT_no1 (by rw [← h3]; omega))) (show y2 = (a 2 2) + 3 from by omega) (show y2 ≤ a 2 1 from by omega) (show y2 ≤ 200 from by omega) (show a0 2 3 = 0 from by omega) (show a0 2 2 < a0 2 1 from by omega)
  exact ⟨hc58, hc29⟩
theorem sp_X8_takesWord_r1000 (E : jxE) (d : Nat) (hd : Nat.ble 5 d = true) (a0 b0 : Nat → Nat → Int) (hv0 : iv a0) : jt (jxC E d 128 [.inr (.inr (.inl 2)), .inr (.inr (.inl 1000))] (jxSH, a0, b0)) (jQ_X8_takesWord_r1000 a0 b0) := by
  obtain ⟨d, rfl⟩ := jd_succ hd
  refine jt_eq (bq_X8_takesWord_r1000 E d a0 b0) ?_
  refine jt_eI (eq_J0_length_8abf5_r1000 E d (jd_le hd rfl) a0 b0) ?_
  refine jt_eI (eq_X8_isFaulty E d (jd_le hd rfl) a0 b0) ?_
  have h148_ := f_X8_isFaulty_eq a0 b0
  refine jt_ite (fun c149_ => ?_) (fun c149_ => ?_)
  ·
    have h150_ := iv_get hv0 (k := 2) (j := 1) (l := 0) (u := 200) rfl
    have h151_ := iv_get hv0 (k := 2) (j := 2) (l := 0) (u := 200) rfl
    have h152_ := ff_J0_length_8abf5_r1000 a0 b0
    have h153_ : jxw ((a0 2 2) + (f_J0_length_8abf5_r1000 a0 b0)) = (a0 2 2) + (f_J0_length_8abf5_r1000 a0 b0) := jxw_id (by omega) (by omega)
    refine jt_ite (fun c154_ => ?_) (fun c154_ => ?_)
    ·
      exact jt_rI ⟨hv0, (jfr_rf _ _), rfl, (show (0 ≤ 0 ∧ 0 ≤ 1) from by omega), (show ((¬ a0 2 3 = 0 ∨ a0 2 1 ≤ a0 2 2) → 0 = 0) from by omega), (show (0 = 0 → a0 2 2 = a0 2 2) from by omega), (by first | exact (fun h => absurd h (by decide)) | exact (fun _ => ⟨by omega, htw, by have h := hq0_1; rw [show (a0 2 2).toNat + wdn 2 = y2.toNat from (by show _ + 3 = _; omega), ← h3, ← h21]; exact h⟩)), (by first | exact (fun h => absurd h (by decide)) | exact (fun _ => Or.inr hnt) | exact (fun _ => Or.inl (by omega)) | exact (fun _ => Or.inr (TW_short (show _ < _ + 3 by omega))) | exact (fun _ => Or.inr (TW_let (q := y2.toNat) (show y2.toNat = (a0 2 2).toNat + 3 by omega) ⟨by omega, h97, by rw [← h3]; omega⟩)))⟩
    ·
      exact (cp_X8_takesWord_r1000_29 E d hd a0 b0 hv0 _).2 (jxw ((a0 2 2) + (f_J0_length_8abf5_r1000 a0 b0))) 0 a0 (Nat.le_refl _) hv0 (jfr_rf _ _) (show 3 ≤ jxw ((a0 2 2) + (f_J0_length_8abf5_r1000 a0 b0)) from by omega) (show jxw ((a0 2 2) + (f_J0_length_8abf5_r1000 a0 b0)) ≤ 200 from by omega) (show 0 ≤ 0 from by omega) (show 0 ≤ 3 from by omega) (show 3 ≤ a0 2 1 from by omega) (show 0 ≤ 0 from by omega) (show a0 2 2 = a0 2 2 from by omega) (by first | exact (fun k hk => absurd hk (by omega)) | (rw [show jxw (y3 + 1) = y3 + 1 from by omega]; exact hch)) (show jxw ((a0 2 2) + (f_J0_length_8abf5_r1000 a0 b0)) = (a0 2 2) + 3 from by omega) (show jxw ((a0 2 2) + (f_J0_length_8abf5_r1000 a0 b0)) ≤ a0 2 1 from by omega) (show jxw ((a0 2 2) + (f_J0_length_8abf5_r1000 a0 b0)) ≤ 200 from by omega) (show a0 2 3 = 0 from by omega) (show a0 2 2 < a0 2 1 from by omega)
  ·
    have h155_ := iv_get hv0 (k := 2) (j := 1) (l := 0) (u := 200) rfl
    have h156_ := iv_get hv0 (k := 2) (j := 2) (l := 0) (u := 200) rfl
    exact jt_rI ⟨hv0, (jfr_rf _ _), rfl, (show (0 ≤ 0 ∧ 0 ≤ 1) from by omega), (show ((¬ a0 2 3 = 0 ∨ a0 2 1 ≤ a0 2 2) → 0 = 0) from by omega), (show (0 = 0 → a0 2 2 = a0 2 2) from by omega), (by first | exact (fun h => absurd h (by decide)) | exact (fun _ => ⟨by omega, htw, by have h := hq0_1; rw [show (a0 2 2).toNat + wdn 2 = y2.toNat from (by show _ + 3 = _; omega), ← h3, ← h21]; exact h⟩)), (by first | exact (fun h => absurd h (by decide)) | exact (fun _ => Or.inr hnt) | exact (fun _ => Or.inl (by omega)) | exact (fun _ => Or.inr (TW_short (show _ < _ + 3 by omega))) | exact (fun _ => Or.inr (TW_let (q := y2.toNat) (show y2.toNat = (a0 2 2).toNat + 3 by omega) ⟨by omega, h97, by rw [← h3]; omega⟩)))⟩
def jW_X8_takesWord_r1001 : List (Nat × Nat) := [(2, 2)]
abbrev jQ_X8_takesWord_r1001 (a0 b0 : Nat → Nat → Int) : List jxV → (Nat → Nat → Int) → (Nat → Nat → Int) → Prop := rI (fun r a b => (iv a) ∧ (jfr jW_X8_takesWord_r1001 a0 a) ∧ (b0 = b) ∧ ((0 ≤ r ∧ r ≤ 1)) ∧ (((¬ a0 2 3 = 0 ∨ a0 2 1 ≤ a0 2 2) → r = 0)) ∧ ((r = 0 → a 2 2 = a0 2 2)) ∧ (r = 1 → a0 2 3 = 0 ∧ TW (a0 3) (a0 2 1).toNat (a0 2 2).toNat 3 ∧ a 2 2 = ((SK (a0 3) (a0 2 1).toNat ((a0 2 2).toNat + wdn 3) : Nat) : Int)) ∧ (r = 0 → ¬ a0 2 3 = 0 ∨ ¬ TW (a0 3) (a0 2 1).toNat (a0 2 2).toNat 3))
theorem cp_X8_takesWord_r1001_56 (E : jxE) (d : Nat) (hd : Nat.ble 5 (d + 1) = true) (a0 b0 : Nat → Nat → Int) (hv0 : iv a0) : ∀ (a : Nat → Nat → Int), iv a → jfr jW_X8_takesWord_r1001 a0 a → 4 ≤ a 2 1 → a 2 2 = a0 2 2 → (¬ TW (a0 3) (a0 2 1).toNat (a0 2 2).toNat 3) → a0 2 3 = 0 → a0 2 2 < a0 2 1 → jt (jxX E d 128 56 [none, none, none, none] [] (jxSH, a, b0)) (jQ_X8_takesWord_r1001 a0 b0) := by
  intro a hv hf hi0 hi1 hnt hi3 hi4
  refine jt_eq (bq_X8_takesWord_r1001_56 E d a b0) ?_
  have h157_ := iv_get hv (k := 2) (j := 1) (l := 0) (u := 200) rfl
  have h158_ : a 2 1 = a0 2 1 := hf 2 1 rfl
  have h159_ := iv_get hv0 (k := 2) (j := 1) (l := 0) (u := 200) rfl
  have h160_ := iv_get hv (k := 2) (j := 2) (l := 0) (u := 200) rfl
  have h161_ := iv_get hv0 (k := 2) (j := 2) (l := 0) (u := 200) rfl
  have h3 : a 3 = a0 3 := funext fun j => hf 3 j rfl
  have h21 := hf 2 1 rfl
  exact jt_rI ⟨hv, hf, rfl, (show (0 ≤ 0 ∧ 0 ≤ 1) from by omega), (show ((¬ a0 2 3 = 0 ∨ a0 2 1 ≤ a0 2 2) → 0 = 0) from by omega), (show (0 = 0 → a 2 2 = a0 2 2) from by omega), (by first | exact (fun h => absurd h (by decide)) | exact (fun _ => ⟨by omega, htw, by have h := hq0_1; rw [show (a0 2 2).toNat + wdn 3 = y2.toNat from (by show _ + 4 = _; omega), ← h3, ← h21]; exact h⟩)), (by first | exact (fun h => absurd h (by decide)) | exact (fun _ => Or.inr hnt) | exact (fun _ => Or.inl (by omega)) | exact (fun _ => Or.inr (TW_short (show _ < _ + 4 by omega))) | exact (fun _ => Or.inr (TW_let (q := y2.toNat) (show y2.toNat = (a0 2 2).toNat + 4 by omega) ⟨by omega, h97, by rw [← h3]; omega⟩)))⟩
theorem cp_X8_takesWord_r1001_96 (E : jxE) (d : Nat) (hd : Nat.ble 5 (d + 1) = true) (a0 b0 : Nat → Nat → Int) (hv0 : iv a0) : ∀ (y2 : Int) (a : Nat → Nat → Int), iv a → jfr jW_X8_takesWord_r1001 a0 a → 4 ≤ y2 → y2 ≤ 200 → 4 ≤ a 2 1 → a 2 2 = a0 2 2 → (TW (a0 3) (a0 2 1).toNat (a0 2 2).toNat 3) → y2 = (a 2 2) + 4 → y2 ≤ a 2 1 → y2 ≤ 200 → a0 2 3 = 0 → a0 2 2 < a0 2 1 → jt (jxX E d 128 96 [some (.inr (.inr (.inl 2))), none, some (.inl y2), none] [] (jxSH, a, b0)) (jQ_X8_takesWord_r1001 a0 b0) := by
  intro y2 a hv hf hi0 hi1 hi2 hi3 htw hi5 hi6 hi7 hi8 hi9
  refine jt_eq (bq_X8_takesWord_r1001_96 E d y2 a b0) ?_
  have h162_ := iv_get hv (k := 2) (j := 1) (l := 0) (u := 200) rfl
  have h163_ : a 2 1 = a0 2 1 := hf 2 1 rfl
  have h164_ := iv_get hv0 (k := 2) (j := 1) (l := 0) (u := 200) rfl
  have h165_ := iv_get hv (k := 2) (j := 2) (l := 0) (u := 200) rfl
  have h166_ := iv_get hv0 (k := 2) (j := 2) (l := 0) (u := 200) rfl
  have h3 : a 3 = a0 3 := funext fun j => hf 3 j rfl
  have h21 := hf 2 1 rfl
  have hv167_ : iv (jxu a 2 2 y2) := iv_put hv (l := 0) (u := 200) rfl (by omega) (by omega)
  refine jt_bV (sp_X8_skipBlanks E d (jd_le hd rfl) (jxu a 2 2 y2) b0 hv167_) (fun a168_ b168_ h168_ => ?_)
  obtain ⟨hv168_, hf168_, rfl, hq168_0, hq168_1⟩ := h168_
  have h169_ := iv_get hv168_ (k := 2) (j := 2) (l := 0) (u := 200) rfl
  have h170_ : (a 2 1 ≤ y2 → a168_ 2 2 = y2) := hq168_0
  have hf171_ : jfr jW_X8_takesWord_r1001 a0 (jxu a 2 2 y2) := jfr_put hf rfl
  have hf172_ : jfr jW_X8_takesWord_r1001 a0 a168_ := jfr_tr hf171_ hf168_ rfl
  exact jt_rI ⟨hv168_, hf172_, rfl, (show (0 ≤ 1 ∧ 1 ≤ 1) from by omega), (show ((¬ a0 2 3 = 0 ∨ a0 2 1 ≤ a0 2 2) → 1 = 0) from by omega), (show (1 = 0 → a168_ 2 2 = a0 2 2) from by omega), (by first | exact (fun h => absurd h (by decide)) | exact (fun _ => ⟨by omega, htw, by have h := hq168_1; rw [show (a0 2 2).toNat + wdn 3 = y2.toNat from (by show _ + 4 = _; omega), ← h3, ← h21]; exact h⟩)), (by first | exact (fun h => absurd h (by decide)) | exact (fun _ => Or.inr hnt) | exact (fun _ => Or.inl (by omega)) | exact (fun _ => Or.inr (TW_short (show _ < _ + 4 by omega))) | exact (fun _ => Or.inr (TW_let (q := y2.toNat) (show y2.toNat = (a0 2 2).toNat + 4 by omega) ⟨by omega, h97, by rw [← h3]; omega⟩)))⟩
theorem cp_X8_takesWord_r1001_83 (E : jxE) (d : Nat) (hd : Nat.ble 5 (d + 1) = true) (a0 b0 : Nat → Nat → Int) (hv0 : iv a0) : ∀ (y2 : Int) (a : Nat → Nat → Int), iv a → jfr jW_X8_takesWord_r1001 a0 a → 4 ≤ y2 → y2 ≤ 199 → 5 ≤ a 2 1 → a 2 2 = a0 2 2 → (∀ k : Nat, (k : Int) < (wdn 3 : Int) → (a0 3) ((a0 2 2).toNat + k) = (wdl 3).getD k 0) → (97 ≤ a0 3 y2.toNat) → y2 = (a 2 2) + 4 → y2 ≤ a 2 1 → y2 ≤ 200 → a0 2 3 = 0 → a0 2 2 < a0 2 1 → jt (jxX E d 128 83 [some (.inr (.inr (.inl 2))), none, some (.inl y2), none] [] (jxSH, a, b0)) (jQ_X8_takesWord_r1001 a0 b0) := by
  intro y2 a hv hf hi0 hi1 hi2 hi3 hall h97 hi6 hi7 hi8 hi9 hi10
  refine jt_eq (bq_X8_takesWord_r1001_83 E d y2 a b0) ?_
  have h173_ := iv_get hv (k := 2) (j := 1) (l := 0) (u := 200) rfl
  have h174_ : a 2 1 = a0 2 1 := hf 2 1 rfl
  have h175_ := iv_get hv0 (k := 2) (j := 1) (l := 0) (u := 200) rfl
  have h176_ := iv_get hv (k := 2) (j := 2) (l := 0) (u := 200) rfl
  have h177_ := iv_get hv0 (k := 2) (j := 2) (l := 0) (u := 200) rfl
  have h3 : a 3 = a0 3 := funext fun j => hf 3 j rfl
  have h21 := hf 2 1 rfl
  refine jt_grd (by omega) ?_
  have h178_ := iv_get hv (k := 3) (j := y2.toNat) (l := 0) (u := 255) rfl
  have h179_ : a 3 (y2.toNat) = a0 3 (y2.toNat) := hf 3 (y2.toNat) rfl
  have h180_ := iv_get hv0 (k := 3) (j := y2.toNat) (l := 0) (u := 255) rfl
  refine jt_ite (fun c181_ => ?_) (fun c181_ => ?_)
  ·
    exact cp_X8_takesWord_r1001_96 E d hd a0 b0 hv0 y2 a hv hf (show 4 ≤ y2 from by omega) (show y2 ≤ 200 from by omega) (show 4 ≤ a 2 1 from by omega) (show a 2 2 = a0 2 2 from by omega) (TW_mk (q := y2.toNat) (show y2.toNat = (a0 2 2).toNat + 4 by omega) (by omega) (by first | exact hall | exact (fun k hk => hch k (by have hw : ((wdn 3 : Nat) : Int) = 4 := rfl; omega))) (LT_no1 (by rw [← h3]; omega))) (show y2 = (a 2 2) + 4 from by omega) (show y2 ≤ a 2 1 from by omega) (show y2 ≤ 200 from by omega) (show a0 2 3 = 0 from by omega) (show a0 2 2 < a0 2 1 from by omega)
  ·
    exact jt_rI ⟨hv, hf, rfl, (show (0 ≤ 0 ∧ 0 ≤ 1) from by omega), (show ((¬ a0 2 3 = 0 ∨ a0 2 1 ≤ a0 2 2) → 0 = 0) from by omega), (show (0 = 0 → a 2 2 = a0 2 2) from by omega), (by first | exact (fun h => absurd h (by decide)) | exact (fun _ => ⟨by omega, htw, by have h := hq0_1; rw [show (a0 2 2).toNat + wdn 3 = y2.toNat from (by show _ + 4 = _; omega), ← h3, ← h21]; exact h⟩)), (by first | exact (fun h => absurd h (by decide)) | exact (fun _ => Or.inr hnt) | exact (fun _ => Or.inl (by omega)) | exact (fun _ => Or.inr (TW_short (show _ < _ + 4 by omega))) | exact (fun _ => Or.inr (TW_let (q := y2.toNat) (show y2.toNat = (a0 2 2).toNat + 4 by omega) ⟨by omega, h97, by rw [← h3]; omega⟩)))⟩
theorem cp_X8_takesWord_r1001_29 (E : jxE) (d : Nat) (hd : Nat.ble 5 (d + 1) = true) (a0 b0 : Nat → Nat → Int) (hv0 : iv a0) : ∀ n : Nat, (∀ (y2 y3 : Int) (a : Nat → Nat → Int), (((4 - y3) * 1) + 0).toNat ≤ n → iv a → jfr jW_X8_takesWord_r1001 a0 a → 4 ≤ y2 → y2 ≤ 200 → 0 ≤ y3 → y3 ≤ 3 → 4 ≤ a 2 1 → y3 < 4 → 0 ≤ y3 → a 2 2 = a0 2 2 → (∀ k : Nat, (k : Int) < y3 + 1 → (a0 3) ((a0 2 2).toNat + k) = (wdl 3).getD k 0) → y2 = (a 2 2) + 4 → y2 ≤ a 2 1 → y2 ≤ 200 → a0 2 3 = 0 → a0 2 2 < a0 2 1 → jt (jxX E d 128 58 [some (.inr (.inr (.inl 2))), some (.inr (.inr (.inl 1001))), some (.inl y2), some (.inl y3)] [] (jxSH, a, b0)) (jQ_X8_takesWord_r1001 a0 b0)) ∧ (∀ (y2 y3 : Int) (a : Nat → Nat → Int), (((4 - y3) * 1) + 0).toNat ≤ n → iv a → jfr jW_X8_takesWord_r1001 a0 a → 4 ≤ y2 → y2 ≤ 200 → 0 ≤ y3 → y3 ≤ 4 → 4 ≤ a 2 1 → 0 ≤ y3 → a 2 2 = a0 2 2 → (∀ k : Nat, (k : Int) < y3 → (a0 3) ((a0 2 2).toNat + k) = (wdl 3).getD k 0) → y2 = (a 2 2) + 4 → y2 ≤ a 2 1 → y2 ≤ 200 → a0 2 3 = 0 → a0 2 2 < a0 2 1 → jt (jxX E d 128 29 [some (.inr (.inr (.inl 2))), some (.inr (.inr (.inl 1001))), some (.inl y2), some (.inl y3)] [] (jxSH, a, b0)) (jQ_X8_takesWord_r1001 a0 b0)) := by
  refine jx_ind fun n ih => ?_
  have ih58 : ∀ (y2 y3 : Int) (a : Nat → Nat → Int), (((4 - y3) * 1) + 0).toNat < n → iv a → jfr jW_X8_takesWord_r1001 a0 a → 4 ≤ y2 → y2 ≤ 200 → 0 ≤ y3 → y3 ≤ 3 → 4 ≤ a 2 1 → y3 < 4 → 0 ≤ y3 → a 2 2 = a0 2 2 → (∀ k : Nat, (k : Int) < y3 + 1 → (a0 3) ((a0 2 2).toNat + k) = (wdl 3).getD k 0) → y2 = (a 2 2) + 4 → y2 ≤ a 2 1 → y2 ≤ 200 → a0 2 3 = 0 → a0 2 2 < a0 2 1 → jt (jxX E d 128 58 [some (.inr (.inr (.inl 2))), some (.inr (.inr (.inl 1001))), some (.inl y2), some (.inl y3)] [] (jxSH, a, b0)) (jQ_X8_takesWord_r1001 a0 b0) := fun y2 y3 a hlt i0 i1 i2 i3 i4 i5 i6 i7 i8 i9 i10 i11 i12 i13 i14 i15 => (ih _ hlt).1 y2 y3 a (Nat.le_refl _) i0 i1 i2 i3 i4 i5 i6 i7 i8 i9 i10 i11 i12 i13 i14 i15
  have ih29 : ∀ (y2 y3 : Int) (a : Nat → Nat → Int), (((4 - y3) * 1) + 0).toNat < n → iv a → jfr jW_X8_takesWord_r1001 a0 a → 4 ≤ y2 → y2 ≤ 200 → 0 ≤ y3 → y3 ≤ 4 → 4 ≤ a 2 1 → 0 ≤ y3 → a 2 2 = a0 2 2 → (∀ k : Nat, (k : Int) < y3 → (a0 3) ((a0 2 2).toNat + k) = (wdl 3).getD k 0) → y2 = (a 2 2) + 4 → y2 ≤ a 2 1 → y2 ≤ 200 → a0 2 3 = 0 → a0 2 2 < a0 2 1 → jt (jxX E d 128 29 [some (.inr (.inr (.inl 2))), some (.inr (.inr (.inl 1001))), some (.inl y2), some (.inl y3)] [] (jxSH, a, b0)) (jQ_X8_takesWord_r1001 a0 b0) := fun y2 y3 a hlt i0 i1 i2 i3 i4 i5 i6 i7 i8 i9 i10 i11 i12 i13 i14 => (ih _ hlt).2 y2 y3 a (Nat.le_refl _) i0 i1 i2 i3 i4 i5 i6 i7 i8 i9 i10 i11 i12 i13 i14
  have hc58 : ∀ (y2 y3 : Int) (a : Nat → Nat → Int), (((4 - y3) * 1) + 0).toNat ≤ n → iv a → jfr jW_X8_takesWord_r1001 a0 a → 4 ≤ y2 → y2 ≤ 200 → 0 ≤ y3 → y3 ≤ 3 → 4 ≤ a 2 1 → y3 < 4 → 0 ≤ y3 → a 2 2 = a0 2 2 → (∀ k : Nat, (k : Int) < y3 + 1 → (a0 3) ((a0 2 2).toNat + k) = (wdl 3).getD k 0) → y2 = (a 2 2) + 4 → y2 ≤ a 2 1 → y2 ≤ 200 → a0 2 3 = 0 → a0 2 2 < a0 2 1 → jt (jxX E d 128 58 [some (.inr (.inr (.inl 2))), some (.inr (.inr (.inl 1001))), some (.inl y2), some (.inl y3)] [] (jxSH, a, b0)) (jQ_X8_takesWord_r1001 a0 b0) := by
    intro y2 y3 a hm hv hf hi0 hi1 hi2 hi3 hi4 hi5 hi6 hi7 hch hi9 hi10 hi11 hi12 hi13
    refine jt_eq (bq_X8_takesWord_r1001_58 E d y2 y3 a b0) ?_
    have h182_ := iv_get hv (k := 2) (j := 1) (l := 0) (u := 200) rfl
    have h183_ : a 2 1 = a0 2 1 := hf 2 1 rfl
    have h184_ := iv_get hv0 (k := 2) (j := 1) (l := 0) (u := 200) rfl
    have h185_ := iv_get hv (k := 2) (j := 2) (l := 0) (u := 200) rfl
    have h186_ := iv_get hv0 (k := 2) (j := 2) (l := 0) (u := 200) rfl
    have h3 : a 3 = a0 3 := funext fun j => hf 3 j rfl
    have h21 := hf 2 1 rfl
    have h187_ : jxw (y3 + 1) = y3 + 1 := jxw_id (by omega) (by omega)
    exact ih29 y2 (jxw (y3 + 1)) a (show (((4 - (jxw (y3 + 1))) * 1) + 0).toNat < n from by omega) hv hf (show 4 ≤ y2 from by omega) (show y2 ≤ 200 from by omega) (show 0 ≤ jxw (y3 + 1) from by omega) (show jxw (y3 + 1) ≤ 4 from by omega) (show 4 ≤ a 2 1 from by omega) (show 0 ≤ jxw (y3 + 1) from by omega) (show a 2 2 = a0 2 2 from by omega) (by first | exact (fun k hk => absurd hk (by omega)) | (rw [show jxw (y3 + 1) = y3 + 1 from by omega]; exact hch)) (show y2 = (a 2 2) + 4 from by omega) (show y2 ≤ a 2 1 from by omega) (show y2 ≤ 200 from by omega) (show a0 2 3 = 0 from by omega) (show a0 2 2 < a0 2 1 from by omega)
  have hc29 : ∀ (y2 y3 : Int) (a : Nat → Nat → Int), (((4 - y3) * 1) + 0).toNat ≤ n → iv a → jfr jW_X8_takesWord_r1001 a0 a → 4 ≤ y2 → y2 ≤ 200 → 0 ≤ y3 → y3 ≤ 4 → 4 ≤ a 2 1 → 0 ≤ y3 → a 2 2 = a0 2 2 → (∀ k : Nat, (k : Int) < y3 → (a0 3) ((a0 2 2).toNat + k) = (wdl 3).getD k 0) → y2 = (a 2 2) + 4 → y2 ≤ a 2 1 → y2 ≤ 200 → a0 2 3 = 0 → a0 2 2 < a0 2 1 → jt (jxX E d 128 29 [some (.inr (.inr (.inl 2))), some (.inr (.inr (.inl 1001))), some (.inl y2), some (.inl y3)] [] (jxSH, a, b0)) (jQ_X8_takesWord_r1001 a0 b0) := by
    intro y2 y3 a hm hv hf hi0 hi1 hi2 hi3 hi4 hi5 hi6 hch hi8 hi9 hi10 hi11 hi12
    refine jt_eq (bq_X8_takesWord_r1001_29 E d y2 y3 a b0) ?_
    have h188_ := iv_get hv (k := 2) (j := 1) (l := 0) (u := 200) rfl
    have h189_ : a 2 1 = a0 2 1 := hf 2 1 rfl
    have h190_ := iv_get hv0 (k := 2) (j := 1) (l := 0) (u := 200) rfl
    have h191_ := iv_get hv (k := 2) (j := 2) (l := 0) (u := 200) rfl
    have h192_ := iv_get hv0 (k := 2) (j := 2) (l := 0) (u := 200) rfl
    have h3 : a 3 = a0 3 := funext fun j => hf 3 j rfl
    have h21 := hf 2 1 rfl
    refine jt_eI (eq_J0_length_8abf5_r1001 E d (jd_le hd rfl) a b0) ?_
    have h193_ := ff_J0_length_8abf5_r1001 a b0
    refine jt_ite (fun c194_ => ?_) (fun c194_ => ?_)
    ·
      have h195_ : jxw ((a 2 2) + y3) = (a 2 2) + y3 := jxw_id (by omega) (by omega)
      refine jt_grd (by omega) ?_
      refine jt_eI (eq_J0_charAt_5068e_r1001 E d (jd_le hd rfl) y3 a b0 (show (0 ≤ y3 ∧ y3 < 4) from by omega)) ?_
      have h196_ := iv_get hv (k := 3) (j := (jxw ((a 2 2) + y3)).toNat) (l := 0) (u := 255) rfl
      have h197_ : a 3 ((jxw ((a 2 2) + y3)).toNat) = a0 3 ((jxw ((a 2 2) + y3)).toNat) := hf 3 ((jxw ((a 2 2) + y3)).toNat) rfl
      have h198_ := iv_get hv0 (k := 3) (j := (jxw ((a 2 2) + y3)).toNat) (l := 0) (u := 255) rfl
      have h199_ := f_J0_charAt_5068e_r1001_eq a b0 y3
      have h200_ := f_J0_isLatin1_aae02_r1001_eq a b0
      have h201_ := f_J1_charAt_3b067_r2001_eq a b0 y3
      have h202_ := jxand_r (([108, 97, 110, 100] : List Int).getD (y3.toNat) 0) 255 (by decide) (by decide)
      have h203_ := jxi2c_b (jxand (([108, 97, 110, 100] : List Int).getD (y3.toNat) 0) 255)
      refine jt_ite (fun c204_ => ?_) (fun c204_ => ?_)
      ·
        exact hc58 y2 y3 a (show (((4 - y3) * 1) + 0).toNat ≤ n from by omega) hv hf (show 4 ≤ y2 from by omega) (show y2 ≤ 200 from by omega) (show 0 ≤ y3 from by omega) (show y3 ≤ 3 from by omega) (show 4 ≤ a 2 1 from by omega) (show y3 < 4 from by omega) (show 0 ≤ y3 from by omega) (show a 2 2 = a0 2 2 from by omega) (ch_ext hch (by omega) (q := (jxw ((a 2 2) + y3)).toNat) (by omega) (v := f_J0_charAt_5068e_r1001 a b0 y3) (by rw [← h3]; assumption) (cw_1001 a b0 y3 (by omega) (by omega))) (show y2 = (a 2 2) + 4 from by omega) (show y2 ≤ a 2 1 from by omega) (show y2 ≤ 200 from by omega) (show a0 2 3 = 0 from by omega) (show a0 2 2 < a0 2 1 from by omega)
      ·
        exact cp_X8_takesWord_r1001_56 E d hd a0 b0 hv0 a hv hf (show 4 ≤ a 2 1 from by omega) (show a 2 2 = a0 2 2 from by omega) (TW_no (y := y3) (by omega) (show y3 < 4 by omega) (q := (jxw ((a 2 2) + y3)).toNat) (by omega) (v := f_J0_charAt_5068e_r1001 a b0 y3) (cw_1001 a b0 y3 (by omega) (by omega)) (by rw [← h3]; assumption)) (show a0 2 3 = 0 from by omega) (show a0 2 2 < a0 2 1 from by omega)
    ·
      refine jt_ite (fun c205_ => ?_) (fun c205_ => ?_)
      ·
        refine jt_grd (by omega) ?_
        have h206_ := iv_get hv (k := 3) (j := y2.toNat) (l := 0) (u := 255) rfl
        have h207_ : a 3 (y2.toNat) = a0 3 (y2.toNat) := hf 3 (y2.toNat) rfl
        have h208_ := iv_get hv0 (k := 3) (j := y2.toNat) (l := 0) (u := 255) rfl
        refine jt_ite (fun c209_ => ?_) (fun c209_ => ?_)
        ·
          exact cp_X8_takesWord_r1001_96 E d hd a0 b0 hv0 y2 a hv hf (show 4 ≤ y2 from by omega) (show y2 ≤ 200 from by omega) (show 4 ≤ a 2 1 from by omega) (show a 2 2 = a0 2 2 from by omega) (TW_mk (q := y2.toNat) (show y2.toNat = (a0 2 2).toNat + 4 by omega) (by omega) (by first | exact hall | exact (fun k hk => hch k (by have hw : ((wdn 3 : Nat) : Int) = 4 := rfl; omega))) (LT_no1 (by rw [← h3]; omega))) (show y2 = (a 2 2) + 4 from by omega) (show y2 ≤ a 2 1 from by omega) (show y2 ≤ 200 from by omega) (show a0 2 3 = 0 from by omega) (show a0 2 2 < a0 2 1 from by omega)
        ·
          exact cp_X8_takesWord_r1001_83 E d hd a0 b0 hv0 y2 a hv hf (show 4 ≤ y2 from by omega) (show y2 ≤ 199 from by omega) (show 5 ≤ a 2 1 from by omega) (show a 2 2 = a0 2 2 from by omega) (fun k hk => hch k (by have hw : ((wdn 3 : Nat) : Int) = 4 := rfl; omega)) (by rw [← h3]; omega) (show y2 = (a 2 2) + 4 from by omega) (show y2 ≤ a 2 1 from by omega) (show y2 ≤ 200 from by omega) (show a0 2 3 = 0 from by omega) (show a0 2 2 < a0 2 1 from by omega)
      ·
        exact cp_X8_takesWord_r1001_96 E d hd a0 b0 hv0 y2 a hv hf (show 4 ≤ y2 from by omega) (show y2 ≤ 200 from by omega) (show 4 ≤ a 2 1 from by omega) (show a 2 2 = a0 2 2 from by omega) (TW_mk (q := y2.toNat) (show y2.toNat = (a0 2 2).toNat + 4 by omega) (by omega) (by first | exact hall | exact (fun k hk => hch k (by have hw : ((wdn 3 : Nat) : Int) = 4 := rfl; omega))) (LT_no1 (by rw [← h3]; omega))) (show y2 = (a 2 2) + 4 from by omega) (show y2 ≤ a 2 1 from by omega) (show y2 ≤ 200 from by omega) (show a0 2 3 = 0 from by omega) (show a0 2 2 < a0 2 1 from by omega)
  exact ⟨hc58, hc29⟩
theorem sp_X8_takesWord_r1001 (E : jxE) (d : Nat) (hd : Nat.ble 5 d = true) (a0 b0 : Nat → Nat → Int) (hv0 : iv a0) : jt (jxC E d 128 [.inr (.inr (.inl 2)), .inr (.inr (.inl 1001))] (jxSH, a0, b0)) (jQ_X8_takesWord_r1001 a0 b0) := by
  obtain ⟨d, rfl⟩ := jd_succ hd
  refine jt_eq (bq_X8_takesWord_r1001 E d a0 b0) ?_
  refine jt_eI (eq_J0_length_8abf5_r1001 E d (jd_le hd rfl) a0 b0) ?_
  refine jt_eI (eq_X8_isFaulty E d (jd_le hd rfl) a0 b0) ?_
  have h210_ := f_X8_isFaulty_eq a0 b0
  refine jt_ite (fun c211_ => ?_) (fun c211_ => ?_)
  ·
    have h212_ := iv_get hv0 (k := 2) (j := 1) (l := 0) (u := 200) rfl
    have h213_ := iv_get hv0 (k := 2) (j := 2) (l := 0) (u := 200) rfl
    have h214_ := ff_J0_length_8abf5_r1001 a0 b0
    have h215_ : jxw ((a0 2 2) + (f_J0_length_8abf5_r1001 a0 b0)) = (a0 2 2) + (f_J0_length_8abf5_r1001 a0 b0) := jxw_id (by omega) (by omega)
    refine jt_ite (fun c216_ => ?_) (fun c216_ => ?_)
    ·
      exact jt_rI ⟨hv0, (jfr_rf _ _), rfl, (show (0 ≤ 0 ∧ 0 ≤ 1) from by omega), (show ((¬ a0 2 3 = 0 ∨ a0 2 1 ≤ a0 2 2) → 0 = 0) from by omega), (show (0 = 0 → a0 2 2 = a0 2 2) from by omega), (by first | exact (fun h => absurd h (by decide)) | exact (fun _ => ⟨by omega, htw, by have h := hq0_1; rw [show (a0 2 2).toNat + wdn 3 = y2.toNat from (by show _ + 4 = _; omega), ← h3, ← h21]; exact h⟩)), (by first | exact (fun h => absurd h (by decide)) | exact (fun _ => Or.inr hnt) | exact (fun _ => Or.inl (by omega)) | exact (fun _ => Or.inr (TW_short (show _ < _ + 4 by omega))) | exact (fun _ => Or.inr (TW_let (q := y2.toNat) (show y2.toNat = (a0 2 2).toNat + 4 by omega) ⟨by omega, h97, by rw [← h3]; omega⟩)))⟩
    ·
      exact (cp_X8_takesWord_r1001_29 E d hd a0 b0 hv0 _).2 (jxw ((a0 2 2) + (f_J0_length_8abf5_r1001 a0 b0))) 0 a0 (Nat.le_refl _) hv0 (jfr_rf _ _) (show 4 ≤ jxw ((a0 2 2) + (f_J0_length_8abf5_r1001 a0 b0)) from by omega) (show jxw ((a0 2 2) + (f_J0_length_8abf5_r1001 a0 b0)) ≤ 200 from by omega) (show 0 ≤ 0 from by omega) (show 0 ≤ 4 from by omega) (show 4 ≤ a0 2 1 from by omega) (show 0 ≤ 0 from by omega) (show a0 2 2 = a0 2 2 from by omega) (by first | exact (fun k hk => absurd hk (by omega)) | (rw [show jxw (y3 + 1) = y3 + 1 from by omega]; exact hch)) (show jxw ((a0 2 2) + (f_J0_length_8abf5_r1001 a0 b0)) = (a0 2 2) + 4 from by omega) (show jxw ((a0 2 2) + (f_J0_length_8abf5_r1001 a0 b0)) ≤ a0 2 1 from by omega) (show jxw ((a0 2 2) + (f_J0_length_8abf5_r1001 a0 b0)) ≤ 200 from by omega) (show a0 2 3 = 0 from by omega) (show a0 2 2 < a0 2 1 from by omega)
  ·
    have h217_ := iv_get hv0 (k := 2) (j := 1) (l := 0) (u := 200) rfl
    have h218_ := iv_get hv0 (k := 2) (j := 2) (l := 0) (u := 200) rfl
    exact jt_rI ⟨hv0, (jfr_rf _ _), rfl, (show (0 ≤ 0 ∧ 0 ≤ 1) from by omega), (show ((¬ a0 2 3 = 0 ∨ a0 2 1 ≤ a0 2 2) → 0 = 0) from by omega), (show (0 = 0 → a0 2 2 = a0 2 2) from by omega), (by first | exact (fun h => absurd h (by decide)) | exact (fun _ => ⟨by omega, htw, by have h := hq0_1; rw [show (a0 2 2).toNat + wdn 3 = y2.toNat from (by show _ + 4 = _; omega), ← h3, ← h21]; exact h⟩)), (by first | exact (fun h => absurd h (by decide)) | exact (fun _ => Or.inr hnt) | exact (fun _ => Or.inl (by omega)) | exact (fun _ => Or.inr (TW_short (show _ < _ + 4 by omega))) | exact (fun _ => Or.inr (TW_let (q := y2.toNat) (show y2.toNat = (a0 2 2).toNat + 4 by omega) ⟨by omega, h97, by rw [← h3]; omega⟩)))⟩
def jW_X8_takesWord_r1002 : List (Nat × Nat) := [(2, 2)]
abbrev jQ_X8_takesWord_r1002 (a0 b0 : Nat → Nat → Int) : List jxV → (Nat → Nat → Int) → (Nat → Nat → Int) → Prop := rI (fun r a b => (iv a) ∧ (jfr jW_X8_takesWord_r1002 a0 a) ∧ (b0 = b) ∧ ((0 ≤ r ∧ r ≤ 1)) ∧ (((¬ a0 2 3 = 0 ∨ a0 2 1 ≤ a0 2 2) → r = 0)) ∧ ((r = 0 → a 2 2 = a0 2 2)) ∧ (r = 1 → a0 2 3 = 0 ∧ TW (a0 3) (a0 2 1).toNat (a0 2 2).toNat 4 ∧ a 2 2 = ((SK (a0 3) (a0 2 1).toNat ((a0 2 2).toNat + wdn 4) : Nat) : Int)) ∧ (r = 0 → ¬ a0 2 3 = 0 ∨ ¬ TW (a0 3) (a0 2 1).toNat (a0 2 2).toNat 4))
theorem cp_X8_takesWord_r1002_56 (E : jxE) (d : Nat) (hd : Nat.ble 5 (d + 1) = true) (a0 b0 : Nat → Nat → Int) (hv0 : iv a0) : ∀ (a : Nat → Nat → Int), iv a → jfr jW_X8_takesWord_r1002 a0 a → 6 ≤ a 2 1 → a 2 2 = a0 2 2 → (¬ TW (a0 3) (a0 2 1).toNat (a0 2 2).toNat 4) → a0 2 3 = 0 → a0 2 2 < a0 2 1 → jt (jxX E d 128 56 [none, none, none, none] [] (jxSH, a, b0)) (jQ_X8_takesWord_r1002 a0 b0) := by
  intro a hv hf hi0 hi1 hnt hi3 hi4
  refine jt_eq (bq_X8_takesWord_r1002_56 E d a b0) ?_
  have h219_ := iv_get hv (k := 2) (j := 1) (l := 0) (u := 200) rfl
  have h220_ : a 2 1 = a0 2 1 := hf 2 1 rfl
  have h221_ := iv_get hv0 (k := 2) (j := 1) (l := 0) (u := 200) rfl
  have h222_ := iv_get hv (k := 2) (j := 2) (l := 0) (u := 200) rfl
  have h223_ := iv_get hv0 (k := 2) (j := 2) (l := 0) (u := 200) rfl
  have h3 : a 3 = a0 3 := funext fun j => hf 3 j rfl
  have h21 := hf 2 1 rfl
  exact jt_rI ⟨hv, hf, rfl, (show (0 ≤ 0 ∧ 0 ≤ 1) from by omega), (show ((¬ a0 2 3 = 0 ∨ a0 2 1 ≤ a0 2 2) → 0 = 0) from by omega), (show (0 = 0 → a 2 2 = a0 2 2) from by omega), (by first | exact (fun h => absurd h (by decide)) | exact (fun _ => ⟨by omega, htw, by have h := hq0_1; rw [show (a0 2 2).toNat + wdn 4 = y2.toNat from (by show _ + 6 = _; omega), ← h3, ← h21]; exact h⟩)), (by first | exact (fun h => absurd h (by decide)) | exact (fun _ => Or.inr hnt) | exact (fun _ => Or.inl (by omega)) | exact (fun _ => Or.inr (TW_short (show _ < _ + 6 by omega))) | exact (fun _ => Or.inr (TW_let (q := y2.toNat) (show y2.toNat = (a0 2 2).toNat + 6 by omega) ⟨by omega, h97, by rw [← h3]; omega⟩)))⟩
theorem cp_X8_takesWord_r1002_96 (E : jxE) (d : Nat) (hd : Nat.ble 5 (d + 1) = true) (a0 b0 : Nat → Nat → Int) (hv0 : iv a0) : ∀ (y2 : Int) (a : Nat → Nat → Int), iv a → jfr jW_X8_takesWord_r1002 a0 a → 6 ≤ y2 → y2 ≤ 200 → 6 ≤ a 2 1 → a 2 2 = a0 2 2 → (TW (a0 3) (a0 2 1).toNat (a0 2 2).toNat 4) → y2 = (a 2 2) + 6 → y2 ≤ a 2 1 → y2 ≤ 200 → a0 2 3 = 0 → a0 2 2 < a0 2 1 → jt (jxX E d 128 96 [some (.inr (.inr (.inl 2))), none, some (.inl y2), none] [] (jxSH, a, b0)) (jQ_X8_takesWord_r1002 a0 b0) := by
  intro y2 a hv hf hi0 hi1 hi2 hi3 htw hi5 hi6 hi7 hi8 hi9
  refine jt_eq (bq_X8_takesWord_r1002_96 E d y2 a b0) ?_
  have h224_ := iv_get hv (k := 2) (j := 1) (l := 0) (u := 200) rfl
  have h225_ : a 2 1 = a0 2 1 := hf 2 1 rfl
  have h226_ := iv_get hv0 (k := 2) (j := 1) (l := 0) (u := 200) rfl
  have h227_ := iv_get hv (k := 2) (j := 2) (l := 0) (u := 200) rfl
  have h228_ := iv_get hv0 (k := 2) (j := 2) (l := 0) (u := 200) rfl
  have h3 : a 3 = a0 3 := funext fun j => hf 3 j rfl
  have h21 := hf 2 1 rfl
  have hv229_ : iv (jxu a 2 2 y2) := iv_put hv (l := 0) (u := 200) rfl (by omega) (by omega)
  refine jt_bV (sp_X8_skipBlanks E d (jd_le hd rfl) (jxu a 2 2 y2) b0 hv229_) (fun a230_ b230_ h230_ => ?_)
  obtain ⟨hv230_, hf230_, rfl, hq230_0, hq230_1⟩ := h230_
  have h231_ := iv_get hv230_ (k := 2) (j := 2) (l := 0) (u := 200) rfl
  have h232_ : (a 2 1 ≤ y2 → a230_ 2 2 = y2) := hq230_0
  have hf233_ : jfr jW_X8_takesWord_r1002 a0 (jxu a 2 2 y2) := jfr_put hf rfl
  have hf234_ : jfr jW_X8_takesWord_r1002 a0 a230_ := jfr_tr hf233_ hf230_ rfl
  exact jt_rI ⟨hv230_, hf234_, rfl, (show (0 ≤ 1 ∧ 1 ≤ 1) from by omega), (show ((¬ a0 2 3 = 0 ∨ a0 2 1 ≤ a0 2 2) → 1 = 0) from by omega), (show (1 = 0 → a230_ 2 2 = a0 2 2) from by omega), (by first | exact (fun h => absurd h (by decide)) | exact (fun _ => ⟨by omega, htw, by have h := hq230_1; rw [show (a0 2 2).toNat + wdn 4 = y2.toNat from (by show _ + 6 = _; omega), ← h3, ← h21]; exact h⟩)), (by first | exact (fun h => absurd h (by decide)) | exact (fun _ => Or.inr hnt) | exact (fun _ => Or.inl (by omega)) | exact (fun _ => Or.inr (TW_short (show _ < _ + 6 by omega))) | exact (fun _ => Or.inr (TW_let (q := y2.toNat) (show y2.toNat = (a0 2 2).toNat + 6 by omega) ⟨by omega, h97, by rw [← h3]; omega⟩)))⟩
theorem cp_X8_takesWord_r1002_83 (E : jxE) (d : Nat) (hd : Nat.ble 5 (d + 1) = true) (a0 b0 : Nat → Nat → Int) (hv0 : iv a0) : ∀ (y2 : Int) (a : Nat → Nat → Int), iv a → jfr jW_X8_takesWord_r1002 a0 a → 6 ≤ y2 → y2 ≤ 199 → 7 ≤ a 2 1 → a 2 2 = a0 2 2 → (∀ k : Nat, (k : Int) < (wdn 4 : Int) → (a0 3) ((a0 2 2).toNat + k) = (wdl 4).getD k 0) → (97 ≤ a0 3 y2.toNat) → y2 = (a 2 2) + 6 → y2 ≤ a 2 1 → y2 ≤ 200 → a0 2 3 = 0 → a0 2 2 < a0 2 1 → jt (jxX E d 128 83 [some (.inr (.inr (.inl 2))), none, some (.inl y2), none] [] (jxSH, a, b0)) (jQ_X8_takesWord_r1002 a0 b0) := by
  intro y2 a hv hf hi0 hi1 hi2 hi3 hall h97 hi6 hi7 hi8 hi9 hi10
  refine jt_eq (bq_X8_takesWord_r1002_83 E d y2 a b0) ?_
  have h235_ := iv_get hv (k := 2) (j := 1) (l := 0) (u := 200) rfl
  have h236_ : a 2 1 = a0 2 1 := hf 2 1 rfl
  have h237_ := iv_get hv0 (k := 2) (j := 1) (l := 0) (u := 200) rfl
  have h238_ := iv_get hv (k := 2) (j := 2) (l := 0) (u := 200) rfl
  have h239_ := iv_get hv0 (k := 2) (j := 2) (l := 0) (u := 200) rfl
  have h3 : a 3 = a0 3 := funext fun j => hf 3 j rfl
  have h21 := hf 2 1 rfl
  refine jt_grd (by omega) ?_
  have h240_ := iv_get hv (k := 3) (j := y2.toNat) (l := 0) (u := 255) rfl
  have h241_ : a 3 (y2.toNat) = a0 3 (y2.toNat) := hf 3 (y2.toNat) rfl
  have h242_ := iv_get hv0 (k := 3) (j := y2.toNat) (l := 0) (u := 255) rfl
  refine jt_ite (fun c243_ => ?_) (fun c243_ => ?_)
  ·
    exact cp_X8_takesWord_r1002_96 E d hd a0 b0 hv0 y2 a hv hf (show 6 ≤ y2 from by omega) (show y2 ≤ 200 from by omega) (show 6 ≤ a 2 1 from by omega) (show a 2 2 = a0 2 2 from by omega) (TW_mk (q := y2.toNat) (show y2.toNat = (a0 2 2).toNat + 6 by omega) (by omega) (by first | exact hall | exact (fun k hk => hch k (by have hw : ((wdn 4 : Nat) : Int) = 6 := rfl; omega))) (LT_no1 (by rw [← h3]; omega))) (show y2 = (a 2 2) + 6 from by omega) (show y2 ≤ a 2 1 from by omega) (show y2 ≤ 200 from by omega) (show a0 2 3 = 0 from by omega) (show a0 2 2 < a0 2 1 from by omega)
  ·
    exact jt_rI ⟨hv, hf, rfl, (show (0 ≤ 0 ∧ 0 ≤ 1) from by omega), (show ((¬ a0 2 3 = 0 ∨ a0 2 1 ≤ a0 2 2) → 0 = 0) from by omega), (show (0 = 0 → a 2 2 = a0 2 2) from by omega), (by first | exact (fun h => absurd h (by decide)) | exact (fun _ => ⟨by omega, htw, by have h := hq0_1; rw [show (a0 2 2).toNat + wdn 4 = y2.toNat from (by show _ + 6 = _; omega), ← h3, ← h21]; exact h⟩)), (by first | exact (fun h => absurd h (by decide)) | exact (fun _ => Or.inr hnt) | exact (fun _ => Or.inl (by omega)) | exact (fun _ => Or.inr (TW_short (show _ < _ + 6 by omega))) | exact (fun _ => Or.inr (TW_let (q := y2.toNat) (show y2.toNat = (a0 2 2).toNat + 6 by omega) ⟨by omega, h97, by rw [← h3]; omega⟩)))⟩
theorem cp_X8_takesWord_r1002_29 (E : jxE) (d : Nat) (hd : Nat.ble 5 (d + 1) = true) (a0 b0 : Nat → Nat → Int) (hv0 : iv a0) : ∀ n : Nat, (∀ (y2 y3 : Int) (a : Nat → Nat → Int), (((6 - y3) * 1) + 0).toNat ≤ n → iv a → jfr jW_X8_takesWord_r1002 a0 a → 6 ≤ y2 → y2 ≤ 200 → 0 ≤ y3 → y3 ≤ 5 → 6 ≤ a 2 1 → y3 < 6 → 0 ≤ y3 → a 2 2 = a0 2 2 → (∀ k : Nat, (k : Int) < y3 + 1 → (a0 3) ((a0 2 2).toNat + k) = (wdl 4).getD k 0) → y2 = (a 2 2) + 6 → y2 ≤ a 2 1 → y2 ≤ 200 → a0 2 3 = 0 → a0 2 2 < a0 2 1 → jt (jxX E d 128 58 [some (.inr (.inr (.inl 2))), some (.inr (.inr (.inl 1002))), some (.inl y2), some (.inl y3)] [] (jxSH, a, b0)) (jQ_X8_takesWord_r1002 a0 b0)) ∧ (∀ (y2 y3 : Int) (a : Nat → Nat → Int), (((6 - y3) * 1) + 0).toNat ≤ n → iv a → jfr jW_X8_takesWord_r1002 a0 a → 6 ≤ y2 → y2 ≤ 200 → 0 ≤ y3 → y3 ≤ 6 → 6 ≤ a 2 1 → 0 ≤ y3 → a 2 2 = a0 2 2 → (∀ k : Nat, (k : Int) < y3 → (a0 3) ((a0 2 2).toNat + k) = (wdl 4).getD k 0) → y2 = (a 2 2) + 6 → y2 ≤ a 2 1 → y2 ≤ 200 → a0 2 3 = 0 → a0 2 2 < a0 2 1 → jt (jxX E d 128 29 [some (.inr (.inr (.inl 2))), some (.inr (.inr (.inl 1002))), some (.inl y2), some (.inl y3)] [] (jxSH, a, b0)) (jQ_X8_takesWord_r1002 a0 b0)) := by
  refine jx_ind fun n ih => ?_
  have ih58 : ∀ (y2 y3 : Int) (a : Nat → Nat → Int), (((6 - y3) * 1) + 0).toNat < n → iv a → jfr jW_X8_takesWord_r1002 a0 a → 6 ≤ y2 → y2 ≤ 200 → 0 ≤ y3 → y3 ≤ 5 → 6 ≤ a 2 1 → y3 < 6 → 0 ≤ y3 → a 2 2 = a0 2 2 → (∀ k : Nat, (k : Int) < y3 + 1 → (a0 3) ((a0 2 2).toNat + k) = (wdl 4).getD k 0) → y2 = (a 2 2) + 6 → y2 ≤ a 2 1 → y2 ≤ 200 → a0 2 3 = 0 → a0 2 2 < a0 2 1 → jt (jxX E d 128 58 [some (.inr (.inr (.inl 2))), some (.inr (.inr (.inl 1002))), some (.inl y2), some (.inl y3)] [] (jxSH, a, b0)) (jQ_X8_takesWord_r1002 a0 b0) := fun y2 y3 a hlt i0 i1 i2 i3 i4 i5 i6 i7 i8 i9 i10 i11 i12 i13 i14 i15 => (ih _ hlt).1 y2 y3 a (Nat.le_refl _) i0 i1 i2 i3 i4 i5 i6 i7 i8 i9 i10 i11 i12 i13 i14 i15
  have ih29 : ∀ (y2 y3 : Int) (a : Nat → Nat → Int), (((6 - y3) * 1) + 0).toNat < n → iv a → jfr jW_X8_takesWord_r1002 a0 a → 6 ≤ y2 → y2 ≤ 200 → 0 ≤ y3 → y3 ≤ 6 → 6 ≤ a 2 1 → 0 ≤ y3 → a 2 2 = a0 2 2 → (∀ k : Nat, (k : Int) < y3 → (a0 3) ((a0 2 2).toNat + k) = (wdl 4).getD k 0) → y2 = (a 2 2) + 6 → y2 ≤ a 2 1 → y2 ≤ 200 → a0 2 3 = 0 → a0 2 2 < a0 2 1 → jt (jxX E d 128 29 [some (.inr (.inr (.inl 2))), some (.inr (.inr (.inl 1002))), some (.inl y2), some (.inl y3)] [] (jxSH, a, b0)) (jQ_X8_takesWord_r1002 a0 b0) := fun y2 y3 a hlt i0 i1 i2 i3 i4 i5 i6 i7 i8 i9 i10 i11 i12 i13 i14 => (ih _ hlt).2 y2 y3 a (Nat.le_refl _) i0 i1 i2 i3 i4 i5 i6 i7 i8 i9 i10 i11 i12 i13 i14
  have hc58 : ∀ (y2 y3 : Int) (a : Nat → Nat → Int), (((6 - y3) * 1) + 0).toNat ≤ n → iv a → jfr jW_X8_takesWord_r1002 a0 a → 6 ≤ y2 → y2 ≤ 200 → 0 ≤ y3 → y3 ≤ 5 → 6 ≤ a 2 1 → y3 < 6 → 0 ≤ y3 → a 2 2 = a0 2 2 → (∀ k : Nat, (k : Int) < y3 + 1 → (a0 3) ((a0 2 2).toNat + k) = (wdl 4).getD k 0) → y2 = (a 2 2) + 6 → y2 ≤ a 2 1 → y2 ≤ 200 → a0 2 3 = 0 → a0 2 2 < a0 2 1 → jt (jxX E d 128 58 [some (.inr (.inr (.inl 2))), some (.inr (.inr (.inl 1002))), some (.inl y2), some (.inl y3)] [] (jxSH, a, b0)) (jQ_X8_takesWord_r1002 a0 b0) := by
    intro y2 y3 a hm hv hf hi0 hi1 hi2 hi3 hi4 hi5 hi6 hi7 hch hi9 hi10 hi11 hi12 hi13
    refine jt_eq (bq_X8_takesWord_r1002_58 E d y2 y3 a b0) ?_
    have h244_ := iv_get hv (k := 2) (j := 1) (l := 0) (u := 200) rfl
    have h245_ : a 2 1 = a0 2 1 := hf 2 1 rfl
    have h246_ := iv_get hv0 (k := 2) (j := 1) (l := 0) (u := 200) rfl
    have h247_ := iv_get hv (k := 2) (j := 2) (l := 0) (u := 200) rfl
    have h248_ := iv_get hv0 (k := 2) (j := 2) (l := 0) (u := 200) rfl
    have h3 : a 3 = a0 3 := funext fun j => hf 3 j rfl
    have h21 := hf 2 1 rfl
    have h249_ : jxw (y3 + 1) = y3 + 1 := jxw_id (by omega) (by omega)
    exact ih29 y2 (jxw (y3 + 1)) a (show (((6 - (jxw (y3 + 1))) * 1) + 0).toNat < n from by omega) hv hf (show 6 ≤ y2 from by omega) (show y2 ≤ 200 from by omega) (show 0 ≤ jxw (y3 + 1) from by omega) (show jxw (y3 + 1) ≤ 6 from by omega) (show 6 ≤ a 2 1 from by omega) (show 0 ≤ jxw (y3 + 1) from by omega) (show a 2 2 = a0 2 2 from by omega) (by first | exact (fun k hk => absurd hk (by omega)) | (rw [show jxw (y3 + 1) = y3 + 1 from by omega]; exact hch)) (show y2 = (a 2 2) + 6 from by omega) (show y2 ≤ a 2 1 from by omega) (show y2 ≤ 200 from by omega) (show a0 2 3 = 0 from by omega) (show a0 2 2 < a0 2 1 from by omega)
  have hc29 : ∀ (y2 y3 : Int) (a : Nat → Nat → Int), (((6 - y3) * 1) + 0).toNat ≤ n → iv a → jfr jW_X8_takesWord_r1002 a0 a → 6 ≤ y2 → y2 ≤ 200 → 0 ≤ y3 → y3 ≤ 6 → 6 ≤ a 2 1 → 0 ≤ y3 → a 2 2 = a0 2 2 → (∀ k : Nat, (k : Int) < y3 → (a0 3) ((a0 2 2).toNat + k) = (wdl 4).getD k 0) → y2 = (a 2 2) + 6 → y2 ≤ a 2 1 → y2 ≤ 200 → a0 2 3 = 0 → a0 2 2 < a0 2 1 → jt (jxX E d 128 29 [some (.inr (.inr (.inl 2))), some (.inr (.inr (.inl 1002))), some (.inl y2), some (.inl y3)] [] (jxSH, a, b0)) (jQ_X8_takesWord_r1002 a0 b0) := by
    intro y2 y3 a hm hv hf hi0 hi1 hi2 hi3 hi4 hi5 hi6 hch hi8 hi9 hi10 hi11 hi12
    refine jt_eq (bq_X8_takesWord_r1002_29 E d y2 y3 a b0) ?_
    have h250_ := iv_get hv (k := 2) (j := 1) (l := 0) (u := 200) rfl
    have h251_ : a 2 1 = a0 2 1 := hf 2 1 rfl
    have h252_ := iv_get hv0 (k := 2) (j := 1) (l := 0) (u := 200) rfl
    have h253_ := iv_get hv (k := 2) (j := 2) (l := 0) (u := 200) rfl
    have h254_ := iv_get hv0 (k := 2) (j := 2) (l := 0) (u := 200) rfl
    have h3 : a 3 = a0 3 := funext fun j => hf 3 j rfl
    have h21 := hf 2 1 rfl
    refine jt_eI (eq_J0_length_8abf5_r1002 E d (jd_le hd rfl) a b0) ?_
    have h255_ := ff_J0_length_8abf5_r1002 a b0
    refine jt_ite (fun c256_ => ?_) (fun c256_ => ?_)
    ·
      have h257_ : jxw ((a 2 2) + y3) = (a 2 2) + y3 := jxw_id (by omega) (by omega)
      refine jt_grd (by omega) ?_
      refine jt_eI (eq_J0_charAt_5068e_r1002 E d (jd_le hd rfl) y3 a b0 (show (0 ≤ y3 ∧ y3 < 6) from by omega)) ?_
      have h258_ := iv_get hv (k := 3) (j := (jxw ((a 2 2) + y3)).toNat) (l := 0) (u := 255) rfl
      have h259_ : a 3 ((jxw ((a 2 2) + y3)).toNat) = a0 3 ((jxw ((a 2 2) + y3)).toNat) := hf 3 ((jxw ((a 2 2) + y3)).toNat) rfl
      have h260_ := iv_get hv0 (k := 3) (j := (jxw ((a 2 2) + y3)).toNat) (l := 0) (u := 255) rfl
      have h261_ := f_J0_charAt_5068e_r1002_eq a b0 y3
      have h262_ := f_J0_isLatin1_aae02_r1002_eq a b0
      have h263_ := f_J1_charAt_3b067_r2002_eq a b0 y3
      have h264_ := jxand_r (([116, 111, 110, 103, 117, 101] : List Int).getD (y3.toNat) 0) 255 (by decide) (by decide)
      have h265_ := jxi2c_b (jxand (([116, 111, 110, 103, 117, 101] : List Int).getD (y3.toNat) 0) 255)
      refine jt_ite (fun c266_ => ?_) (fun c266_ => ?_)
      ·
        exact hc58 y2 y3 a (show (((6 - y3) * 1) + 0).toNat ≤ n from by omega) hv hf (show 6 ≤ y2 from by omega) (show y2 ≤ 200 from by omega) (show 0 ≤ y3 from by omega) (show y3 ≤ 5 from by omega) (show 6 ≤ a 2 1 from by omega) (show y3 < 6 from by omega) (show 0 ≤ y3 from by omega) (show a 2 2 = a0 2 2 from by omega) (ch_ext hch (by omega) (q := (jxw ((a 2 2) + y3)).toNat) (by omega) (v := f_J0_charAt_5068e_r1002 a b0 y3) (by rw [← h3]; assumption) (cw_1002 a b0 y3 (by omega) (by omega))) (show y2 = (a 2 2) + 6 from by omega) (show y2 ≤ a 2 1 from by omega) (show y2 ≤ 200 from by omega) (show a0 2 3 = 0 from by omega) (show a0 2 2 < a0 2 1 from by omega)
      ·
        exact cp_X8_takesWord_r1002_56 E d hd a0 b0 hv0 a hv hf (show 6 ≤ a 2 1 from by omega) (show a 2 2 = a0 2 2 from by omega) (TW_no (y := y3) (by omega) (show y3 < 6 by omega) (q := (jxw ((a 2 2) + y3)).toNat) (by omega) (v := f_J0_charAt_5068e_r1002 a b0 y3) (cw_1002 a b0 y3 (by omega) (by omega)) (by rw [← h3]; assumption)) (show a0 2 3 = 0 from by omega) (show a0 2 2 < a0 2 1 from by omega)
    ·
      refine jt_ite (fun c267_ => ?_) (fun c267_ => ?_)
      ·
        refine jt_grd (by omega) ?_
        have h268_ := iv_get hv (k := 3) (j := y2.toNat) (l := 0) (u := 255) rfl
        have h269_ : a 3 (y2.toNat) = a0 3 (y2.toNat) := hf 3 (y2.toNat) rfl
        have h270_ := iv_get hv0 (k := 3) (j := y2.toNat) (l := 0) (u := 255) rfl
        refine jt_ite (fun c271_ => ?_) (fun c271_ => ?_)
        ·
          exact cp_X8_takesWord_r1002_96 E d hd a0 b0 hv0 y2 a hv hf (show 6 ≤ y2 from by omega) (show y2 ≤ 200 from by omega) (show 6 ≤ a 2 1 from by omega) (show a 2 2 = a0 2 2 from by omega) (TW_mk (q := y2.toNat) (show y2.toNat = (a0 2 2).toNat + 6 by omega) (by omega) (by first | exact hall | exact (fun k hk => hch k (by have hw : ((wdn 4 : Nat) : Int) = 6 := rfl; omega))) (LT_no1 (by rw [← h3]; omega))) (show y2 = (a 2 2) + 6 from by omega) (show y2 ≤ a 2 1 from by omega) (show y2 ≤ 200 from by omega) (show a0 2 3 = 0 from by omega) (show a0 2 2 < a0 2 1 from by omega)
        ·
          exact cp_X8_takesWord_r1002_83 E d hd a0 b0 hv0 y2 a hv hf (show 6 ≤ y2 from by omega) (show y2 ≤ 199 from by omega) (show 7 ≤ a 2 1 from by omega) (show a 2 2 = a0 2 2 from by omega) (fun k hk => hch k (by have hw : ((wdn 4 : Nat) : Int) = 6 := rfl; omega)) (by rw [← h3]; omega) (show y2 = (a 2 2) + 6 from by omega) (show y2 ≤ a 2 1 from by omega) (show y2 ≤ 200 from by omega) (show a0 2 3 = 0 from by omega) (show a0 2 2 < a0 2 1 from by omega)
      ·
        exact cp_X8_takesWord_r1002_96 E d hd a0 b0 hv0 y2 a hv hf (show 6 ≤ y2 from by omega) (show y2 ≤ 200 from by omega) (show 6 ≤ a 2 1 from by omega) (show a 2 2 = a0 2 2 from by omega) (TW_mk (q := y2.toNat) (show y2.toNat = (a0 2 2).toNat + 6 by omega) (by omega) (by first | exact hall | exact (fun k hk => hch k (by have hw : ((wdn 4 : Nat) : Int) = 6 := rfl; omega))) (LT_no1 (by rw [← h3]; omega))) (show y2 = (a 2 2) + 6 from by omega) (show y2 ≤ a 2 1 from by omega) (show y2 ≤ 200 from by omega) (show a0 2 3 = 0 from by omega) (show a0 2 2 < a0 2 1 from by omega)
  exact ⟨hc58, hc29⟩
theorem sp_X8_takesWord_r1002 (E : jxE) (d : Nat) (hd : Nat.ble 5 d = true) (a0 b0 : Nat → Nat → Int) (hv0 : iv a0) : jt (jxC E d 128 [.inr (.inr (.inl 2)), .inr (.inr (.inl 1002))] (jxSH, a0, b0)) (jQ_X8_takesWord_r1002 a0 b0) := by
  obtain ⟨d, rfl⟩ := jd_succ hd
  refine jt_eq (bq_X8_takesWord_r1002 E d a0 b0) ?_
  refine jt_eI (eq_J0_length_8abf5_r1002 E d (jd_le hd rfl) a0 b0) ?_
  refine jt_eI (eq_X8_isFaulty E d (jd_le hd rfl) a0 b0) ?_
  have h272_ := f_X8_isFaulty_eq a0 b0
  refine jt_ite (fun c273_ => ?_) (fun c273_ => ?_)
  ·
    have h274_ := iv_get hv0 (k := 2) (j := 1) (l := 0) (u := 200) rfl
    have h275_ := iv_get hv0 (k := 2) (j := 2) (l := 0) (u := 200) rfl
    have h276_ := ff_J0_length_8abf5_r1002 a0 b0
    have h277_ : jxw ((a0 2 2) + (f_J0_length_8abf5_r1002 a0 b0)) = (a0 2 2) + (f_J0_length_8abf5_r1002 a0 b0) := jxw_id (by omega) (by omega)
    refine jt_ite (fun c278_ => ?_) (fun c278_ => ?_)
    ·
      exact jt_rI ⟨hv0, (jfr_rf _ _), rfl, (show (0 ≤ 0 ∧ 0 ≤ 1) from by omega), (show ((¬ a0 2 3 = 0 ∨ a0 2 1 ≤ a0 2 2) → 0 = 0) from by omega), (show (0 = 0 → a0 2 2 = a0 2 2) from by omega), (by first | exact (fun h => absurd h (by decide)) | exact (fun _ => ⟨by omega, htw, by have h := hq0_1; rw [show (a0 2 2).toNat + wdn 4 = y2.toNat from (by show _ + 6 = _; omega), ← h3, ← h21]; exact h⟩)), (by first | exact (fun h => absurd h (by decide)) | exact (fun _ => Or.inr hnt) | exact (fun _ => Or.inl (by omega)) | exact (fun _ => Or.inr (TW_short (show _ < _ + 6 by omega))) | exact (fun _ => Or.inr (TW_let (q := y2.toNat) (show y2.toNat = (a0 2 2).toNat + 6 by omega) ⟨by omega, h97, by rw [← h3]; omega⟩)))⟩
    ·
      exact (cp_X8_takesWord_r1002_29 E d hd a0 b0 hv0 _).2 (jxw ((a0 2 2) + (f_J0_length_8abf5_r1002 a0 b0))) 0 a0 (Nat.le_refl _) hv0 (jfr_rf _ _) (show 6 ≤ jxw ((a0 2 2) + (f_J0_length_8abf5_r1002 a0 b0)) from by omega) (show jxw ((a0 2 2) + (f_J0_length_8abf5_r1002 a0 b0)) ≤ 200 from by omega) (show 0 ≤ 0 from by omega) (show 0 ≤ 6 from by omega) (show 6 ≤ a0 2 1 from by omega) (show 0 ≤ 0 from by omega) (show a0 2 2 = a0 2 2 from by omega) (by first | exact (fun k hk => absurd hk (by omega)) | (rw [show jxw (y3 + 1) = y3 + 1 from by omega]; exact hch)) (show jxw ((a0 2 2) + (f_J0_length_8abf5_r1002 a0 b0)) = (a0 2 2) + 6 from by omega) (show jxw ((a0 2 2) + (f_J0_length_8abf5_r1002 a0 b0)) ≤ a0 2 1 from by omega) (show jxw ((a0 2 2) + (f_J0_length_8abf5_r1002 a0 b0)) ≤ 200 from by omega) (show a0 2 3 = 0 from by omega) (show a0 2 2 < a0 2 1 from by omega)
  ·
    have h279_ := iv_get hv0 (k := 2) (j := 1) (l := 0) (u := 200) rfl
    have h280_ := iv_get hv0 (k := 2) (j := 2) (l := 0) (u := 200) rfl
    exact jt_rI ⟨hv0, (jfr_rf _ _), rfl, (show (0 ≤ 0 ∧ 0 ≤ 1) from by omega), (show ((¬ a0 2 3 = 0 ∨ a0 2 1 ≤ a0 2 2) → 0 = 0) from by omega), (show (0 = 0 → a0 2 2 = a0 2 2) from by omega), (by first | exact (fun h => absurd h (by decide)) | exact (fun _ => ⟨by omega, htw, by have h := hq0_1; rw [show (a0 2 2).toNat + wdn 4 = y2.toNat from (by show _ + 6 = _; omega), ← h3, ← h21]; exact h⟩)), (by first | exact (fun h => absurd h (by decide)) | exact (fun _ => Or.inr hnt) | exact (fun _ => Or.inl (by omega)) | exact (fun _ => Or.inr (TW_short (show _ < _ + 6 by omega))) | exact (fun _ => Or.inr (TW_let (q := y2.toNat) (show y2.toNat = (a0 2 2).toNat + 6 by omega) ⟨by omega, h97, by rw [← h3]; omega⟩)))⟩
def jW_X8_takesWord_r1003 : List (Nat × Nat) := [(2, 2)]
abbrev jQ_X8_takesWord_r1003 (a0 b0 : Nat → Nat → Int) : List jxV → (Nat → Nat → Int) → (Nat → Nat → Int) → Prop := rI (fun r a b => (iv a) ∧ (jfr jW_X8_takesWord_r1003 a0 a) ∧ (b0 = b) ∧ ((0 ≤ r ∧ r ≤ 1)) ∧ (((¬ a0 2 3 = 0 ∨ a0 2 1 ≤ a0 2 2) → r = 0)) ∧ ((r = 0 → a 2 2 = a0 2 2)) ∧ (r = 1 → a0 2 3 = 0 ∧ TW (a0 3) (a0 2 1).toNat (a0 2 2).toNat 5 ∧ a 2 2 = ((SK (a0 3) (a0 2 1).toNat ((a0 2 2).toNat + wdn 5) : Nat) : Int)) ∧ (r = 0 → ¬ a0 2 3 = 0 ∨ ¬ TW (a0 3) (a0 2 1).toNat (a0 2 2).toNat 5))
theorem cp_X8_takesWord_r1003_56 (E : jxE) (d : Nat) (hd : Nat.ble 5 (d + 1) = true) (a0 b0 : Nat → Nat → Int) (hv0 : iv a0) : ∀ (a : Nat → Nat → Int), iv a → jfr jW_X8_takesWord_r1003 a0 a → 6 ≤ a 2 1 → a 2 2 = a0 2 2 → (¬ TW (a0 3) (a0 2 1).toNat (a0 2 2).toNat 5) → a0 2 3 = 0 → a0 2 2 < a0 2 1 → jt (jxX E d 128 56 [none, none, none, none] [] (jxSH, a, b0)) (jQ_X8_takesWord_r1003 a0 b0) := by
  intro a hv hf hi0 hi1 hnt hi3 hi4
  refine jt_eq (bq_X8_takesWord_r1003_56 E d a b0) ?_
  have h281_ := iv_get hv (k := 2) (j := 1) (l := 0) (u := 200) rfl
  have h282_ : a 2 1 = a0 2 1 := hf 2 1 rfl
  have h283_ := iv_get hv0 (k := 2) (j := 1) (l := 0) (u := 200) rfl
  have h284_ := iv_get hv (k := 2) (j := 2) (l := 0) (u := 200) rfl
  have h285_ := iv_get hv0 (k := 2) (j := 2) (l := 0) (u := 200) rfl
  have h3 : a 3 = a0 3 := funext fun j => hf 3 j rfl
  have h21 := hf 2 1 rfl
  exact jt_rI ⟨hv, hf, rfl, (show (0 ≤ 0 ∧ 0 ≤ 1) from by omega), (show ((¬ a0 2 3 = 0 ∨ a0 2 1 ≤ a0 2 2) → 0 = 0) from by omega), (show (0 = 0 → a 2 2 = a0 2 2) from by omega), (by first | exact (fun h => absurd h (by decide)) | exact (fun _ => ⟨by omega, htw, by have h := hq0_1; rw [show (a0 2 2).toNat + wdn 5 = y2.toNat from (by show _ + 6 = _; omega), ← h3, ← h21]; exact h⟩)), (by first | exact (fun h => absurd h (by decide)) | exact (fun _ => Or.inr hnt) | exact (fun _ => Or.inl (by omega)) | exact (fun _ => Or.inr (TW_short (show _ < _ + 6 by omega))) | exact (fun _ => Or.inr (TW_let (q := y2.toNat) (show y2.toNat = (a0 2 2).toNat + 6 by omega) ⟨by omega, h97, by rw [← h3]; omega⟩)))⟩
theorem cp_X8_takesWord_r1003_96 (E : jxE) (d : Nat) (hd : Nat.ble 5 (d + 1) = true) (a0 b0 : Nat → Nat → Int) (hv0 : iv a0) : ∀ (y2 : Int) (a : Nat → Nat → Int), iv a → jfr jW_X8_takesWord_r1003 a0 a → 6 ≤ y2 → y2 ≤ 200 → 6 ≤ a 2 1 → a 2 2 = a0 2 2 → (TW (a0 3) (a0 2 1).toNat (a0 2 2).toNat 5) → y2 = (a 2 2) + 6 → y2 ≤ a 2 1 → y2 ≤ 200 → a0 2 3 = 0 → a0 2 2 < a0 2 1 → jt (jxX E d 128 96 [some (.inr (.inr (.inl 2))), none, some (.inl y2), none] [] (jxSH, a, b0)) (jQ_X8_takesWord_r1003 a0 b0) := by
  intro y2 a hv hf hi0 hi1 hi2 hi3 htw hi5 hi6 hi7 hi8 hi9
  refine jt_eq (bq_X8_takesWord_r1003_96 E d y2 a b0) ?_
  have h286_ := iv_get hv (k := 2) (j := 1) (l := 0) (u := 200) rfl
  have h287_ : a 2 1 = a0 2 1 := hf 2 1 rfl
  have h288_ := iv_get hv0 (k := 2) (j := 1) (l := 0) (u := 200) rfl
  have h289_ := iv_get hv (k := 2) (j := 2) (l := 0) (u := 200) rfl
  have h290_ := iv_get hv0 (k := 2) (j := 2) (l := 0) (u := 200) rfl
  have h3 : a 3 = a0 3 := funext fun j => hf 3 j rfl
  have h21 := hf 2 1 rfl
  have hv291_ : iv (jxu a 2 2 y2) := iv_put hv (l := 0) (u := 200) rfl (by omega) (by omega)
  refine jt_bV (sp_X8_skipBlanks E d (jd_le hd rfl) (jxu a 2 2 y2) b0 hv291_) (fun a292_ b292_ h292_ => ?_)
  obtain ⟨hv292_, hf292_, rfl, hq292_0, hq292_1⟩ := h292_
  have h293_ := iv_get hv292_ (k := 2) (j := 2) (l := 0) (u := 200) rfl
  have h294_ : (a 2 1 ≤ y2 → a292_ 2 2 = y2) := hq292_0
  have hf295_ : jfr jW_X8_takesWord_r1003 a0 (jxu a 2 2 y2) := jfr_put hf rfl
  have hf296_ : jfr jW_X8_takesWord_r1003 a0 a292_ := jfr_tr hf295_ hf292_ rfl
  exact jt_rI ⟨hv292_, hf296_, rfl, (show (0 ≤ 1 ∧ 1 ≤ 1) from by omega), (show ((¬ a0 2 3 = 0 ∨ a0 2 1 ≤ a0 2 2) → 1 = 0) from by omega), (show (1 = 0 → a292_ 2 2 = a0 2 2) from by omega), (by first | exact (fun h => absurd h (by decide)) | exact (fun _ => ⟨by omega, htw, by have h := hq292_1; rw [show (a0 2 2).toNat + wdn 5 = y2.toNat from (by show _ + 6 = _; omega), ← h3, ← h21]; exact h⟩)), (by first | exact (fun h => absurd h (by decide)) | exact (fun _ => Or.inr hnt) | exact (fun _ => Or.inl (by omega)) | exact (fun _ => Or.inr (TW_short (show _ < _ + 6 by omega))) | exact (fun _ => Or.inr (TW_let (q := y2.toNat) (show y2.toNat = (a0 2 2).toNat + 6 by omega) ⟨by omega, h97, by rw [← h3]; omega⟩)))⟩
theorem cp_X8_takesWord_r1003_83 (E : jxE) (d : Nat) (hd : Nat.ble 5 (d + 1) = true) (a0 b0 : Nat → Nat → Int) (hv0 : iv a0) : ∀ (y2 : Int) (a : Nat → Nat → Int), iv a → jfr jW_X8_takesWord_r1003 a0 a → 6 ≤ y2 → y2 ≤ 199 → 7 ≤ a 2 1 → a 2 2 = a0 2 2 → (∀ k : Nat, (k : Int) < (wdn 5 : Int) → (a0 3) ((a0 2 2).toNat + k) = (wdl 5).getD k 0) → (97 ≤ a0 3 y2.toNat) → y2 = (a 2 2) + 6 → y2 ≤ a 2 1 → y2 ≤ 200 → a0 2 3 = 0 → a0 2 2 < a0 2 1 → jt (jxX E d 128 83 [some (.inr (.inr (.inl 2))), none, some (.inl y2), none] [] (jxSH, a, b0)) (jQ_X8_takesWord_r1003 a0 b0) := by
  intro y2 a hv hf hi0 hi1 hi2 hi3 hall h97 hi6 hi7 hi8 hi9 hi10
  refine jt_eq (bq_X8_takesWord_r1003_83 E d y2 a b0) ?_
  have h297_ := iv_get hv (k := 2) (j := 1) (l := 0) (u := 200) rfl
  have h298_ : a 2 1 = a0 2 1 := hf 2 1 rfl
  have h299_ := iv_get hv0 (k := 2) (j := 1) (l := 0) (u := 200) rfl
  have h300_ := iv_get hv (k := 2) (j := 2) (l := 0) (u := 200) rfl
  have h301_ := iv_get hv0 (k := 2) (j := 2) (l := 0) (u := 200) rfl
  have h3 : a 3 = a0 3 := funext fun j => hf 3 j rfl
  have h21 := hf 2 1 rfl
  refine jt_grd (by omega) ?_
  have h302_ := iv_get hv (k := 3) (j := y2.toNat) (l := 0) (u := 255) rfl
  have h303_ : a 3 (y2.toNat) = a0 3 (y2.toNat) := hf 3 (y2.toNat) rfl
  have h304_ := iv_get hv0 (k := 3) (j := y2.toNat) (l := 0) (u := 255) rfl
  refine jt_ite (fun c305_ => ?_) (fun c305_ => ?_)
  ·
    exact cp_X8_takesWord_r1003_96 E d hd a0 b0 hv0 y2 a hv hf (show 6 ≤ y2 from by omega) (show y2 ≤ 200 from by omega) (show 6 ≤ a 2 1 from by omega) (show a 2 2 = a0 2 2 from by omega) (TW_mk (q := y2.toNat) (show y2.toNat = (a0 2 2).toNat + 6 by omega) (by omega) (by first | exact hall | exact (fun k hk => hch k (by have hw : ((wdn 5 : Nat) : Int) = 6 := rfl; omega))) (LT_no1 (by rw [← h3]; omega))) (show y2 = (a 2 2) + 6 from by omega) (show y2 ≤ a 2 1 from by omega) (show y2 ≤ 200 from by omega) (show a0 2 3 = 0 from by omega) (show a0 2 2 < a0 2 1 from by omega)
  ·
    exact jt_rI ⟨hv, hf, rfl, (show (0 ≤ 0 ∧ 0 ≤ 1) from by omega), (show ((¬ a0 2 3 = 0 ∨ a0 2 1 ≤ a0 2 2) → 0 = 0) from by omega), (show (0 = 0 → a 2 2 = a0 2 2) from by omega), (by first | exact (fun h => absurd h (by decide)) | exact (fun _ => ⟨by omega, htw, by have h := hq0_1; rw [show (a0 2 2).toNat + wdn 5 = y2.toNat from (by show _ + 6 = _; omega), ← h3, ← h21]; exact h⟩)), (by first | exact (fun h => absurd h (by decide)) | exact (fun _ => Or.inr hnt) | exact (fun _ => Or.inl (by omega)) | exact (fun _ => Or.inr (TW_short (show _ < _ + 6 by omega))) | exact (fun _ => Or.inr (TW_let (q := y2.toNat) (show y2.toNat = (a0 2 2).toNat + 6 by omega) ⟨by omega, h97, by rw [← h3]; omega⟩)))⟩
theorem cp_X8_takesWord_r1003_29 (E : jxE) (d : Nat) (hd : Nat.ble 5 (d + 1) = true) (a0 b0 : Nat → Nat → Int) (hv0 : iv a0) : ∀ n : Nat, (∀ (y2 y3 : Int) (a : Nat → Nat → Int), (((6 - y3) * 1) + 0).toNat ≤ n → iv a → jfr jW_X8_takesWord_r1003 a0 a → 6 ≤ y2 → y2 ≤ 200 → 0 ≤ y3 → y3 ≤ 5 → 6 ≤ a 2 1 → y3 < 6 → 0 ≤ y3 → a 2 2 = a0 2 2 → (∀ k : Nat, (k : Int) < y3 + 1 → (a0 3) ((a0 2 2).toNat + k) = (wdl 5).getD k 0) → y2 = (a 2 2) + 6 → y2 ≤ a 2 1 → y2 ≤ 200 → a0 2 3 = 0 → a0 2 2 < a0 2 1 → jt (jxX E d 128 58 [some (.inr (.inr (.inl 2))), some (.inr (.inr (.inl 1003))), some (.inl y2), some (.inl y3)] [] (jxSH, a, b0)) (jQ_X8_takesWord_r1003 a0 b0)) ∧ (∀ (y2 y3 : Int) (a : Nat → Nat → Int), (((6 - y3) * 1) + 0).toNat ≤ n → iv a → jfr jW_X8_takesWord_r1003 a0 a → 6 ≤ y2 → y2 ≤ 200 → 0 ≤ y3 → y3 ≤ 6 → 6 ≤ a 2 1 → 0 ≤ y3 → a 2 2 = a0 2 2 → (∀ k : Nat, (k : Int) < y3 → (a0 3) ((a0 2 2).toNat + k) = (wdl 5).getD k 0) → y2 = (a 2 2) + 6 → y2 ≤ a 2 1 → y2 ≤ 200 → a0 2 3 = 0 → a0 2 2 < a0 2 1 → jt (jxX E d 128 29 [some (.inr (.inr (.inl 2))), some (.inr (.inr (.inl 1003))), some (.inl y2), some (.inl y3)] [] (jxSH, a, b0)) (jQ_X8_takesWord_r1003 a0 b0)) := by
  refine jx_ind fun n ih => ?_
  have ih58 : ∀ (y2 y3 : Int) (a : Nat → Nat → Int), (((6 - y3) * 1) + 0).toNat < n → iv a → jfr jW_X8_takesWord_r1003 a0 a → 6 ≤ y2 → y2 ≤ 200 → 0 ≤ y3 → y3 ≤ 5 → 6 ≤ a 2 1 → y3 < 6 → 0 ≤ y3 → a 2 2 = a0 2 2 → (∀ k : Nat, (k : Int) < y3 + 1 → (a0 3) ((a0 2 2).toNat + k) = (wdl 5).getD k 0) → y2 = (a 2 2) + 6 → y2 ≤ a 2 1 → y2 ≤ 200 → a0 2 3 = 0 → a0 2 2 < a0 2 1 → jt (jxX E d 128 58 [some (.inr (.inr (.inl 2))), some (.inr (.inr (.inl 1003))), some (.inl y2), some (.inl y3)] [] (jxSH, a, b0)) (jQ_X8_takesWord_r1003 a0 b0) := fun y2 y3 a hlt i0 i1 i2 i3 i4 i5 i6 i7 i8 i9 i10 i11 i12 i13 i14 i15 => (ih _ hlt).1 y2 y3 a (Nat.le_refl _) i0 i1 i2 i3 i4 i5 i6 i7 i8 i9 i10 i11 i12 i13 i14 i15
  have ih29 : ∀ (y2 y3 : Int) (a : Nat → Nat → Int), (((6 - y3) * 1) + 0).toNat < n → iv a → jfr jW_X8_takesWord_r1003 a0 a → 6 ≤ y2 → y2 ≤ 200 → 0 ≤ y3 → y3 ≤ 6 → 6 ≤ a 2 1 → 0 ≤ y3 → a 2 2 = a0 2 2 → (∀ k : Nat, (k : Int) < y3 → (a0 3) ((a0 2 2).toNat + k) = (wdl 5).getD k 0) → y2 = (a 2 2) + 6 → y2 ≤ a 2 1 → y2 ≤ 200 → a0 2 3 = 0 → a0 2 2 < a0 2 1 → jt (jxX E d 128 29 [some (.inr (.inr (.inl 2))), some (.inr (.inr (.inl 1003))), some (.inl y2), some (.inl y3)] [] (jxSH, a, b0)) (jQ_X8_takesWord_r1003 a0 b0) := fun y2 y3 a hlt i0 i1 i2 i3 i4 i5 i6 i7 i8 i9 i10 i11 i12 i13 i14 => (ih _ hlt).2 y2 y3 a (Nat.le_refl _) i0 i1 i2 i3 i4 i5 i6 i7 i8 i9 i10 i11 i12 i13 i14
  have hc58 : ∀ (y2 y3 : Int) (a : Nat → Nat → Int), (((6 - y3) * 1) + 0).toNat ≤ n → iv a → jfr jW_X8_takesWord_r1003 a0 a → 6 ≤ y2 → y2 ≤ 200 → 0 ≤ y3 → y3 ≤ 5 → 6 ≤ a 2 1 → y3 < 6 → 0 ≤ y3 → a 2 2 = a0 2 2 → (∀ k : Nat, (k : Int) < y3 + 1 → (a0 3) ((a0 2 2).toNat + k) = (wdl 5).getD k 0) → y2 = (a 2 2) + 6 → y2 ≤ a 2 1 → y2 ≤ 200 → a0 2 3 = 0 → a0 2 2 < a0 2 1 → jt (jxX E d 128 58 [some (.inr (.inr (.inl 2))), some (.inr (.inr (.inl 1003))), some (.inl y2), some (.inl y3)] [] (jxSH, a, b0)) (jQ_X8_takesWord_r1003 a0 b0) := by
    intro y2 y3 a hm hv hf hi0 hi1 hi2 hi3 hi4 hi5 hi6 hi7 hch hi9 hi10 hi11 hi12 hi13
    refine jt_eq (bq_X8_takesWord_r1003_58 E d y2 y3 a b0) ?_
    have h306_ := iv_get hv (k := 2) (j := 1) (l := 0) (u := 200) rfl
    have h307_ : a 2 1 = a0 2 1 := hf 2 1 rfl
    have h308_ := iv_get hv0 (k := 2) (j := 1) (l := 0) (u := 200) rfl
    have h309_ := iv_get hv (k := 2) (j := 2) (l := 0) (u := 200) rfl
    have h310_ := iv_get hv0 (k := 2) (j := 2) (l := 0) (u := 200) rfl
    have h3 : a 3 = a0 3 := funext fun j => hf 3 j rfl
    have h21 := hf 2 1 rfl
    have h311_ : jxw (y3 + 1) = y3 + 1 := jxw_id (by omega) (by omega)
    exact ih29 y2 (jxw (y3 + 1)) a (show (((6 - (jxw (y3 + 1))) * 1) + 0).toNat < n from by omega) hv hf (show 6 ≤ y2 from by omega) (show y2 ≤ 200 from by omega) (show 0 ≤ jxw (y3 + 1) from by omega) (show jxw (y3 + 1) ≤ 6 from by omega) (show 6 ≤ a 2 1 from by omega) (show 0 ≤ jxw (y3 + 1) from by omega) (show a 2 2 = a0 2 2 from by omega) (by first | exact (fun k hk => absurd hk (by omega)) | (rw [show jxw (y3 + 1) = y3 + 1 from by omega]; exact hch)) (show y2 = (a 2 2) + 6 from by omega) (show y2 ≤ a 2 1 from by omega) (show y2 ≤ 200 from by omega) (show a0 2 3 = 0 from by omega) (show a0 2 2 < a0 2 1 from by omega)
  have hc29 : ∀ (y2 y3 : Int) (a : Nat → Nat → Int), (((6 - y3) * 1) + 0).toNat ≤ n → iv a → jfr jW_X8_takesWord_r1003 a0 a → 6 ≤ y2 → y2 ≤ 200 → 0 ≤ y3 → y3 ≤ 6 → 6 ≤ a 2 1 → 0 ≤ y3 → a 2 2 = a0 2 2 → (∀ k : Nat, (k : Int) < y3 → (a0 3) ((a0 2 2).toNat + k) = (wdl 5).getD k 0) → y2 = (a 2 2) + 6 → y2 ≤ a 2 1 → y2 ≤ 200 → a0 2 3 = 0 → a0 2 2 < a0 2 1 → jt (jxX E d 128 29 [some (.inr (.inr (.inl 2))), some (.inr (.inr (.inl 1003))), some (.inl y2), some (.inl y3)] [] (jxSH, a, b0)) (jQ_X8_takesWord_r1003 a0 b0) := by
    intro y2 y3 a hm hv hf hi0 hi1 hi2 hi3 hi4 hi5 hi6 hch hi8 hi9 hi10 hi11 hi12
    refine jt_eq (bq_X8_takesWord_r1003_29 E d y2 y3 a b0) ?_
    have h312_ := iv_get hv (k := 2) (j := 1) (l := 0) (u := 200) rfl
    have h313_ : a 2 1 = a0 2 1 := hf 2 1 rfl
    have h314_ := iv_get hv0 (k := 2) (j := 1) (l := 0) (u := 200) rfl
    have h315_ := iv_get hv (k := 2) (j := 2) (l := 0) (u := 200) rfl
    have h316_ := iv_get hv0 (k := 2) (j := 2) (l := 0) (u := 200) rfl
    have h3 : a 3 = a0 3 := funext fun j => hf 3 j rfl
    have h21 := hf 2 1 rfl
    refine jt_eI (eq_J0_length_8abf5_r1003 E d (jd_le hd rfl) a b0) ?_
    have h317_ := ff_J0_length_8abf5_r1003 a b0
    refine jt_ite (fun c318_ => ?_) (fun c318_ => ?_)
    ·
      have h319_ : jxw ((a 2 2) + y3) = (a 2 2) + y3 := jxw_id (by omega) (by omega)
      refine jt_grd (by omega) ?_
      refine jt_eI (eq_J0_charAt_5068e_r1003 E d (jd_le hd rfl) y3 a b0 (show (0 ≤ y3 ∧ y3 < 6) from by omega)) ?_
      have h320_ := iv_get hv (k := 3) (j := (jxw ((a 2 2) + y3)).toNat) (l := 0) (u := 255) rfl
      have h321_ : a 3 ((jxw ((a 2 2) + y3)).toNat) = a0 3 ((jxw ((a 2 2) + y3)).toNat) := hf 3 ((jxw ((a 2 2) + y3)).toNat) rfl
      have h322_ := iv_get hv0 (k := 3) (j := (jxw ((a 2 2) + y3)).toNat) (l := 0) (u := 255) rfl
      have h323_ := f_J0_charAt_5068e_r1003_eq a b0 y3
      have h324_ := f_J0_isLatin1_aae02_r1003_eq a b0
      have h325_ := f_J1_charAt_3b067_r2003_eq a b0 y3
      have h326_ := jxand_r (([115, 104, 97, 114, 101, 100] : List Int).getD (y3.toNat) 0) 255 (by decide) (by decide)
      have h327_ := jxi2c_b (jxand (([115, 104, 97, 114, 101, 100] : List Int).getD (y3.toNat) 0) 255)
      refine jt_ite (fun c328_ => ?_) (fun c328_ => ?_)
      ·
        exact hc58 y2 y3 a (show (((6 - y3) * 1) + 0).toNat ≤ n from by omega) hv hf (show 6 ≤ y2 from by omega) (show y2 ≤ 200 from by omega) (show 0 ≤ y3 from by omega) (show y3 ≤ 5 from by omega) (show 6 ≤ a 2 1 from by omega) (show y3 < 6 from by omega) (show 0 ≤ y3 from by omega) (show a 2 2 = a0 2 2 from by omega) (ch_ext hch (by omega) (q := (jxw ((a 2 2) + y3)).toNat) (by omega) (v := f_J0_charAt_5068e_r1003 a b0 y3) (by rw [← h3]; assumption) (cw_1003 a b0 y3 (by omega) (by omega))) (show y2 = (a 2 2) + 6 from by omega) (show y2 ≤ a 2 1 from by omega) (show y2 ≤ 200 from by omega) (show a0 2 3 = 0 from by omega) (show a0 2 2 < a0 2 1 from by omega)
      ·
        exact cp_X8_takesWord_r1003_56 E d hd a0 b0 hv0 a hv hf (show 6 ≤ a 2 1 from by omega) (show a 2 2 = a0 2 2 from by omega) (TW_no (y := y3) (by omega) (show y3 < 6 by omega) (q := (jxw ((a 2 2) + y3)).toNat) (by omega) (v := f_J0_charAt_5068e_r1003 a b0 y3) (cw_1003 a b0 y3 (by omega) (by omega)) (by rw [← h3]; assumption)) (show a0 2 3 = 0 from by omega) (show a0 2 2 < a0 2 1 from by omega)
    ·
      refine jt_ite (fun c329_ => ?_) (fun c329_ => ?_)
      ·
        refine jt_grd (by omega) ?_
        have h330_ := iv_get hv (k := 3) (j := y2.toNat) (l := 0) (u := 255) rfl
        have h331_ : a 3 (y2.toNat) = a0 3 (y2.toNat) := hf 3 (y2.toNat) rfl
        have h332_ := iv_get hv0 (k := 3) (j := y2.toNat) (l := 0) (u := 255) rfl
        refine jt_ite (fun c333_ => ?_) (fun c333_ => ?_)
        ·
          exact cp_X8_takesWord_r1003_96 E d hd a0 b0 hv0 y2 a hv hf (show 6 ≤ y2 from by omega) (show y2 ≤ 200 from by omega) (show 6 ≤ a 2 1 from by omega) (show a 2 2 = a0 2 2 from by omega) (TW_mk (q := y2.toNat) (show y2.toNat = (a0 2 2).toNat + 6 by omega) (by omega) (by first | exact hall | exact (fun k hk => hch k (by have hw : ((wdn 5 : Nat) : Int) = 6 := rfl; omega))) (LT_no1 (by rw [← h3]; omega))) (show y2 = (a 2 2) + 6 from by omega) (show y2 ≤ a 2 1 from by omega) (show y2 ≤ 200 from by omega) (show a0 2 3 = 0 from by omega) (show a0 2 2 < a0 2 1 from by omega)
        ·
          exact cp_X8_takesWord_r1003_83 E d hd a0 b0 hv0 y2 a hv hf (show 6 ≤ y2 from by omega) (show y2 ≤ 199 from by omega) (show 7 ≤ a 2 1 from by omega) (show a 2 2 = a0 2 2 from by omega) (fun k hk => hch k (by have hw : ((wdn 5 : Nat) : Int) = 6 := rfl; omega)) (by rw [← h3]; omega) (show y2 = (a 2 2) + 6 from by omega) (show y2 ≤ a 2 1 from by omega) (show y2 ≤ 200 from by omega) (show a0 2 3 = 0 from by omega) (show a0 2 2 < a0 2 1 from by omega)
      ·
        exact cp_X8_takesWord_r1003_96 E d hd a0 b0 hv0 y2 a hv hf (show 6 ≤ y2 from by omega) (show y2 ≤ 200 from by omega) (show 6 ≤ a 2 1 from by omega) (show a 2 2 = a0 2 2 from by omega) (TW_mk (q := y2.toNat) (show y2.toNat = (a0 2 2).toNat + 6 by omega) (by omega) (by first | exact hall | exact (fun k hk => hch k (by have hw : ((wdn 5 : Nat) : Int) = 6 := rfl; omega))) (LT_no1 (by rw [← h3]; omega))) (show y2 = (a 2 2) + 6 from by omega) (show y2 ≤ a 2 1 from by omega) (show y2 ≤ 200 from by omega) (show a0 2 3 = 0 from by omega) (show a0 2 2 < a0 2 1 from by omega)
  exact ⟨hc58, hc29⟩
theorem sp_X8_takesWord_r1003 (E : jxE) (d : Nat) (hd : Nat.ble 5 d = true) (a0 b0 : Nat → Nat → Int) (hv0 : iv a0) : jt (jxC E d 128 [.inr (.inr (.inl 2)), .inr (.inr (.inl 1003))] (jxSH, a0, b0)) (jQ_X8_takesWord_r1003 a0 b0) := by
  obtain ⟨d, rfl⟩ := jd_succ hd
  refine jt_eq (bq_X8_takesWord_r1003 E d a0 b0) ?_
  refine jt_eI (eq_J0_length_8abf5_r1003 E d (jd_le hd rfl) a0 b0) ?_
  refine jt_eI (eq_X8_isFaulty E d (jd_le hd rfl) a0 b0) ?_
  have h334_ := f_X8_isFaulty_eq a0 b0
  refine jt_ite (fun c335_ => ?_) (fun c335_ => ?_)
  ·
    have h336_ := iv_get hv0 (k := 2) (j := 1) (l := 0) (u := 200) rfl
    have h337_ := iv_get hv0 (k := 2) (j := 2) (l := 0) (u := 200) rfl
    have h338_ := ff_J0_length_8abf5_r1003 a0 b0
    have h339_ : jxw ((a0 2 2) + (f_J0_length_8abf5_r1003 a0 b0)) = (a0 2 2) + (f_J0_length_8abf5_r1003 a0 b0) := jxw_id (by omega) (by omega)
    refine jt_ite (fun c340_ => ?_) (fun c340_ => ?_)
    ·
      exact jt_rI ⟨hv0, (jfr_rf _ _), rfl, (show (0 ≤ 0 ∧ 0 ≤ 1) from by omega), (show ((¬ a0 2 3 = 0 ∨ a0 2 1 ≤ a0 2 2) → 0 = 0) from by omega), (show (0 = 0 → a0 2 2 = a0 2 2) from by omega), (by first | exact (fun h => absurd h (by decide)) | exact (fun _ => ⟨by omega, htw, by have h := hq0_1; rw [show (a0 2 2).toNat + wdn 5 = y2.toNat from (by show _ + 6 = _; omega), ← h3, ← h21]; exact h⟩)), (by first | exact (fun h => absurd h (by decide)) | exact (fun _ => Or.inr hnt) | exact (fun _ => Or.inl (by omega)) | exact (fun _ => Or.inr (TW_short (show _ < _ + 6 by omega))) | exact (fun _ => Or.inr (TW_let (q := y2.toNat) (show y2.toNat = (a0 2 2).toNat + 6 by omega) ⟨by omega, h97, by rw [← h3]; omega⟩)))⟩
    ·
      exact (cp_X8_takesWord_r1003_29 E d hd a0 b0 hv0 _).2 (jxw ((a0 2 2) + (f_J0_length_8abf5_r1003 a0 b0))) 0 a0 (Nat.le_refl _) hv0 (jfr_rf _ _) (show 6 ≤ jxw ((a0 2 2) + (f_J0_length_8abf5_r1003 a0 b0)) from by omega) (show jxw ((a0 2 2) + (f_J0_length_8abf5_r1003 a0 b0)) ≤ 200 from by omega) (show 0 ≤ 0 from by omega) (show 0 ≤ 6 from by omega) (show 6 ≤ a0 2 1 from by omega) (show 0 ≤ 0 from by omega) (show a0 2 2 = a0 2 2 from by omega) (by first | exact (fun k hk => absurd hk (by omega)) | (rw [show jxw (y3 + 1) = y3 + 1 from by omega]; exact hch)) (show jxw ((a0 2 2) + (f_J0_length_8abf5_r1003 a0 b0)) = (a0 2 2) + 6 from by omega) (show jxw ((a0 2 2) + (f_J0_length_8abf5_r1003 a0 b0)) ≤ a0 2 1 from by omega) (show jxw ((a0 2 2) + (f_J0_length_8abf5_r1003 a0 b0)) ≤ 200 from by omega) (show a0 2 3 = 0 from by omega) (show a0 2 2 < a0 2 1 from by omega)
  ·
    have h341_ := iv_get hv0 (k := 2) (j := 1) (l := 0) (u := 200) rfl
    have h342_ := iv_get hv0 (k := 2) (j := 2) (l := 0) (u := 200) rfl
    exact jt_rI ⟨hv0, (jfr_rf _ _), rfl, (show (0 ≤ 0 ∧ 0 ≤ 1) from by omega), (show ((¬ a0 2 3 = 0 ∨ a0 2 1 ≤ a0 2 2) → 0 = 0) from by omega), (show (0 = 0 → a0 2 2 = a0 2 2) from by omega), (by first | exact (fun h => absurd h (by decide)) | exact (fun _ => ⟨by omega, htw, by have h := hq0_1; rw [show (a0 2 2).toNat + wdn 5 = y2.toNat from (by show _ + 6 = _; omega), ← h3, ← h21]; exact h⟩)), (by first | exact (fun h => absurd h (by decide)) | exact (fun _ => Or.inr hnt) | exact (fun _ => Or.inl (by omega)) | exact (fun _ => Or.inr (TW_short (show _ < _ + 6 by omega))) | exact (fun _ => Or.inr (TW_let (q := y2.toNat) (show y2.toNat = (a0 2 2).toNat + 6 by omega) ⟨by omega, h97, by rw [← h3]; omega⟩)))⟩
def jW_X8_takesWord_r1004 : List (Nat × Nat) := [(2, 2)]
abbrev jQ_X8_takesWord_r1004 (a0 b0 : Nat → Nat → Int) : List jxV → (Nat → Nat → Int) → (Nat → Nat → Int) → Prop := rI (fun r a b => (iv a) ∧ (jfr jW_X8_takesWord_r1004 a0 a) ∧ (b0 = b) ∧ ((0 ≤ r ∧ r ≤ 1)) ∧ (((¬ a0 2 3 = 0 ∨ a0 2 1 ≤ a0 2 2) → r = 0)) ∧ ((r = 0 → a 2 2 = a0 2 2)) ∧ (r = 1 → a0 2 3 = 0 ∧ TW (a0 3) (a0 2 1).toNat (a0 2 2).toNat 6 ∧ a 2 2 = ((SK (a0 3) (a0 2 1).toNat ((a0 2 2).toNat + wdn 6) : Nat) : Int)) ∧ (r = 0 → ¬ a0 2 3 = 0 ∨ ¬ TW (a0 3) (a0 2 1).toNat (a0 2 2).toNat 6))
theorem cp_X8_takesWord_r1004_56 (E : jxE) (d : Nat) (hd : Nat.ble 5 (d + 1) = true) (a0 b0 : Nat → Nat → Int) (hv0 : iv a0) : ∀ (a : Nat → Nat → Int), iv a → jfr jW_X8_takesWord_r1004 a0 a → 3 ≤ a 2 1 → a 2 2 = a0 2 2 → (¬ TW (a0 3) (a0 2 1).toNat (a0 2 2).toNat 6) → a0 2 3 = 0 → a0 2 2 < a0 2 1 → jt (jxX E d 128 56 [none, none, none, none] [] (jxSH, a, b0)) (jQ_X8_takesWord_r1004 a0 b0) := by
  intro a hv hf hi0 hi1 hnt hi3 hi4
  refine jt_eq (bq_X8_takesWord_r1004_56 E d a b0) ?_
  have h343_ := iv_get hv (k := 2) (j := 1) (l := 0) (u := 200) rfl
  have h344_ : a 2 1 = a0 2 1 := hf 2 1 rfl
  have h345_ := iv_get hv0 (k := 2) (j := 1) (l := 0) (u := 200) rfl
  have h346_ := iv_get hv (k := 2) (j := 2) (l := 0) (u := 200) rfl
  have h347_ := iv_get hv0 (k := 2) (j := 2) (l := 0) (u := 200) rfl
  have h3 : a 3 = a0 3 := funext fun j => hf 3 j rfl
  have h21 := hf 2 1 rfl
  exact jt_rI ⟨hv, hf, rfl, (show (0 ≤ 0 ∧ 0 ≤ 1) from by omega), (show ((¬ a0 2 3 = 0 ∨ a0 2 1 ≤ a0 2 2) → 0 = 0) from by omega), (show (0 = 0 → a 2 2 = a0 2 2) from by omega), (by first | exact (fun h => absurd h (by decide)) | exact (fun _ => ⟨by omega, htw, by have h := hq0_1; rw [show (a0 2 2).toNat + wdn 6 = y2.toNat from (by show _ + 3 = _; omega), ← h3, ← h21]; exact h⟩)), (by first | exact (fun h => absurd h (by decide)) | exact (fun _ => Or.inr hnt) | exact (fun _ => Or.inl (by omega)) | exact (fun _ => Or.inr (TW_short (show _ < _ + 3 by omega))) | exact (fun _ => Or.inr (TW_let (q := y2.toNat) (show y2.toNat = (a0 2 2).toNat + 3 by omega) ⟨by omega, h97, by rw [← h3]; omega⟩)))⟩
theorem cp_X8_takesWord_r1004_96 (E : jxE) (d : Nat) (hd : Nat.ble 5 (d + 1) = true) (a0 b0 : Nat → Nat → Int) (hv0 : iv a0) : ∀ (y2 : Int) (a : Nat → Nat → Int), iv a → jfr jW_X8_takesWord_r1004 a0 a → 3 ≤ y2 → y2 ≤ 200 → 3 ≤ a 2 1 → a 2 2 = a0 2 2 → (TW (a0 3) (a0 2 1).toNat (a0 2 2).toNat 6) → y2 = (a 2 2) + 3 → y2 ≤ a 2 1 → y2 ≤ 200 → a0 2 3 = 0 → a0 2 2 < a0 2 1 → jt (jxX E d 128 96 [some (.inr (.inr (.inl 2))), none, some (.inl y2), none] [] (jxSH, a, b0)) (jQ_X8_takesWord_r1004 a0 b0) := by
  intro y2 a hv hf hi0 hi1 hi2 hi3 htw hi5 hi6 hi7 hi8 hi9
  refine jt_eq (bq_X8_takesWord_r1004_96 E d y2 a b0) ?_
  have h348_ := iv_get hv (k := 2) (j := 1) (l := 0) (u := 200) rfl
  have h349_ : a 2 1 = a0 2 1 := hf 2 1 rfl
  have h350_ := iv_get hv0 (k := 2) (j := 1) (l := 0) (u := 200) rfl
  have h351_ := iv_get hv (k := 2) (j := 2) (l := 0) (u := 200) rfl
  have h352_ := iv_get hv0 (k := 2) (j := 2) (l := 0) (u := 200) rfl
  have h3 : a 3 = a0 3 := funext fun j => hf 3 j rfl
  have h21 := hf 2 1 rfl
  have hv353_ : iv (jxu a 2 2 y2) := iv_put hv (l := 0) (u := 200) rfl (by omega) (by omega)
  refine jt_bV (sp_X8_skipBlanks E d (jd_le hd rfl) (jxu a 2 2 y2) b0 hv353_) (fun a354_ b354_ h354_ => ?_)
  obtain ⟨hv354_, hf354_, rfl, hq354_0, hq354_1⟩ := h354_
  have h355_ := iv_get hv354_ (k := 2) (j := 2) (l := 0) (u := 200) rfl
  have h356_ : (a 2 1 ≤ y2 → a354_ 2 2 = y2) := hq354_0
  have hf357_ : jfr jW_X8_takesWord_r1004 a0 (jxu a 2 2 y2) := jfr_put hf rfl
  have hf358_ : jfr jW_X8_takesWord_r1004 a0 a354_ := jfr_tr hf357_ hf354_ rfl
  exact jt_rI ⟨hv354_, hf358_, rfl, (show (0 ≤ 1 ∧ 1 ≤ 1) from by omega), (show ((¬ a0 2 3 = 0 ∨ a0 2 1 ≤ a0 2 2) → 1 = 0) from by omega), (show (1 = 0 → a354_ 2 2 = a0 2 2) from by omega), (by first | exact (fun h => absurd h (by decide)) | exact (fun _ => ⟨by omega, htw, by have h := hq354_1; rw [show (a0 2 2).toNat + wdn 6 = y2.toNat from (by show _ + 3 = _; omega), ← h3, ← h21]; exact h⟩)), (by first | exact (fun h => absurd h (by decide)) | exact (fun _ => Or.inr hnt) | exact (fun _ => Or.inl (by omega)) | exact (fun _ => Or.inr (TW_short (show _ < _ + 3 by omega))) | exact (fun _ => Or.inr (TW_let (q := y2.toNat) (show y2.toNat = (a0 2 2).toNat + 3 by omega) ⟨by omega, h97, by rw [← h3]; omega⟩)))⟩
theorem cp_X8_takesWord_r1004_83 (E : jxE) (d : Nat) (hd : Nat.ble 5 (d + 1) = true) (a0 b0 : Nat → Nat → Int) (hv0 : iv a0) : ∀ (y2 : Int) (a : Nat → Nat → Int), iv a → jfr jW_X8_takesWord_r1004 a0 a → 3 ≤ y2 → y2 ≤ 199 → 4 ≤ a 2 1 → a 2 2 = a0 2 2 → (∀ k : Nat, (k : Int) < (wdn 6 : Int) → (a0 3) ((a0 2 2).toNat + k) = (wdl 6).getD k 0) → (97 ≤ a0 3 y2.toNat) → y2 = (a 2 2) + 3 → y2 ≤ a 2 1 → y2 ≤ 200 → a0 2 3 = 0 → a0 2 2 < a0 2 1 → jt (jxX E d 128 83 [some (.inr (.inr (.inl 2))), none, some (.inl y2), none] [] (jxSH, a, b0)) (jQ_X8_takesWord_r1004 a0 b0) := by
  intro y2 a hv hf hi0 hi1 hi2 hi3 hall h97 hi6 hi7 hi8 hi9 hi10
  refine jt_eq (bq_X8_takesWord_r1004_83 E d y2 a b0) ?_
  have h359_ := iv_get hv (k := 2) (j := 1) (l := 0) (u := 200) rfl
  have h360_ : a 2 1 = a0 2 1 := hf 2 1 rfl
  have h361_ := iv_get hv0 (k := 2) (j := 1) (l := 0) (u := 200) rfl
  have h362_ := iv_get hv (k := 2) (j := 2) (l := 0) (u := 200) rfl
  have h363_ := iv_get hv0 (k := 2) (j := 2) (l := 0) (u := 200) rfl
  have h3 : a 3 = a0 3 := funext fun j => hf 3 j rfl
  have h21 := hf 2 1 rfl
  refine jt_grd (by omega) ?_
  have h364_ := iv_get hv (k := 3) (j := y2.toNat) (l := 0) (u := 255) rfl
  have h365_ : a 3 (y2.toNat) = a0 3 (y2.toNat) := hf 3 (y2.toNat) rfl
  have h366_ := iv_get hv0 (k := 3) (j := y2.toNat) (l := 0) (u := 255) rfl
  refine jt_ite (fun c367_ => ?_) (fun c367_ => ?_)
  ·
    exact cp_X8_takesWord_r1004_96 E d hd a0 b0 hv0 y2 a hv hf (show 3 ≤ y2 from by omega) (show y2 ≤ 200 from by omega) (show 3 ≤ a 2 1 from by omega) (show a 2 2 = a0 2 2 from by omega) (TW_mk (q := y2.toNat) (show y2.toNat = (a0 2 2).toNat + 3 by omega) (by omega) (by first | exact hall | exact (fun k hk => hch k (by have hw : ((wdn 6 : Nat) : Int) = 3 := rfl; omega))) (LT_no1 (by rw [← h3]; omega))) (show y2 = (a 2 2) + 3 from by omega) (show y2 ≤ a 2 1 from by omega) (show y2 ≤ 200 from by omega) (show a0 2 3 = 0 from by omega) (show a0 2 2 < a0 2 1 from by omega)
  ·
    exact jt_rI ⟨hv, hf, rfl, (show (0 ≤ 0 ∧ 0 ≤ 1) from by omega), (show ((¬ a0 2 3 = 0 ∨ a0 2 1 ≤ a0 2 2) → 0 = 0) from by omega), (show (0 = 0 → a 2 2 = a0 2 2) from by omega), (by first | exact (fun h => absurd h (by decide)) | exact (fun _ => ⟨by omega, htw, by have h := hq0_1; rw [show (a0 2 2).toNat + wdn 6 = y2.toNat from (by show _ + 3 = _; omega), ← h3, ← h21]; exact h⟩)), (by first | exact (fun h => absurd h (by decide)) | exact (fun _ => Or.inr hnt) | exact (fun _ => Or.inl (by omega)) | exact (fun _ => Or.inr (TW_short (show _ < _ + 3 by omega))) | exact (fun _ => Or.inr (TW_let (q := y2.toNat) (show y2.toNat = (a0 2 2).toNat + 3 by omega) ⟨by omega, h97, by rw [← h3]; omega⟩)))⟩
theorem cp_X8_takesWord_r1004_29 (E : jxE) (d : Nat) (hd : Nat.ble 5 (d + 1) = true) (a0 b0 : Nat → Nat → Int) (hv0 : iv a0) : ∀ n : Nat, (∀ (y2 y3 : Int) (a : Nat → Nat → Int), (((3 - y3) * 1) + 0).toNat ≤ n → iv a → jfr jW_X8_takesWord_r1004 a0 a → 3 ≤ y2 → y2 ≤ 200 → 0 ≤ y3 → y3 ≤ 2 → 3 ≤ a 2 1 → y3 < 3 → 0 ≤ y3 → a 2 2 = a0 2 2 → (∀ k : Nat, (k : Int) < y3 + 1 → (a0 3) ((a0 2 2).toNat + k) = (wdl 6).getD k 0) → y2 = (a 2 2) + 3 → y2 ≤ a 2 1 → y2 ≤ 200 → a0 2 3 = 0 → a0 2 2 < a0 2 1 → jt (jxX E d 128 58 [some (.inr (.inr (.inl 2))), some (.inr (.inr (.inl 1004))), some (.inl y2), some (.inl y3)] [] (jxSH, a, b0)) (jQ_X8_takesWord_r1004 a0 b0)) ∧ (∀ (y2 y3 : Int) (a : Nat → Nat → Int), (((3 - y3) * 1) + 0).toNat ≤ n → iv a → jfr jW_X8_takesWord_r1004 a0 a → 3 ≤ y2 → y2 ≤ 200 → 0 ≤ y3 → y3 ≤ 3 → 3 ≤ a 2 1 → 0 ≤ y3 → a 2 2 = a0 2 2 → (∀ k : Nat, (k : Int) < y3 → (a0 3) ((a0 2 2).toNat + k) = (wdl 6).getD k 0) → y2 = (a 2 2) + 3 → y2 ≤ a 2 1 → y2 ≤ 200 → a0 2 3 = 0 → a0 2 2 < a0 2 1 → jt (jxX E d 128 29 [some (.inr (.inr (.inl 2))), some (.inr (.inr (.inl 1004))), some (.inl y2), some (.inl y3)] [] (jxSH, a, b0)) (jQ_X8_takesWord_r1004 a0 b0)) := by
  refine jx_ind fun n ih => ?_
  have ih58 : ∀ (y2 y3 : Int) (a : Nat → Nat → Int), (((3 - y3) * 1) + 0).toNat < n → iv a → jfr jW_X8_takesWord_r1004 a0 a → 3 ≤ y2 → y2 ≤ 200 → 0 ≤ y3 → y3 ≤ 2 → 3 ≤ a 2 1 → y3 < 3 → 0 ≤ y3 → a 2 2 = a0 2 2 → (∀ k : Nat, (k : Int) < y3 + 1 → (a0 3) ((a0 2 2).toNat + k) = (wdl 6).getD k 0) → y2 = (a 2 2) + 3 → y2 ≤ a 2 1 → y2 ≤ 200 → a0 2 3 = 0 → a0 2 2 < a0 2 1 → jt (jxX E d 128 58 [some (.inr (.inr (.inl 2))), some (.inr (.inr (.inl 1004))), some (.inl y2), some (.inl y3)] [] (jxSH, a, b0)) (jQ_X8_takesWord_r1004 a0 b0) := fun y2 y3 a hlt i0 i1 i2 i3 i4 i5 i6 i7 i8 i9 i10 i11 i12 i13 i14 i15 => (ih _ hlt).1 y2 y3 a (Nat.le_refl _) i0 i1 i2 i3 i4 i5 i6 i7 i8 i9 i10 i11 i12 i13 i14 i15
  have ih29 : ∀ (y2 y3 : Int) (a : Nat → Nat → Int), (((3 - y3) * 1) + 0).toNat < n → iv a → jfr jW_X8_takesWord_r1004 a0 a → 3 ≤ y2 → y2 ≤ 200 → 0 ≤ y3 → y3 ≤ 3 → 3 ≤ a 2 1 → 0 ≤ y3 → a 2 2 = a0 2 2 → (∀ k : Nat, (k : Int) < y3 → (a0 3) ((a0 2 2).toNat + k) = (wdl 6).getD k 0) → y2 = (a 2 2) + 3 → y2 ≤ a 2 1 → y2 ≤ 200 → a0 2 3 = 0 → a0 2 2 < a0 2 1 → jt (jxX E d 128 29 [some (.inr (.inr (.inl 2))), some (.inr (.inr (.inl 1004))), some (.inl y2), some (.inl y3)] [] (jxSH, a, b0)) (jQ_X8_takesWord_r1004 a0 b0) := fun y2 y3 a hlt i0 i1 i2 i3 i4 i5 i6 i7 i8 i9 i10 i11 i12 i13 i14 => (ih _ hlt).2 y2 y3 a (Nat.le_refl _) i0 i1 i2 i3 i4 i5 i6 i7 i8 i9 i10 i11 i12 i13 i14
  have hc58 : ∀ (y2 y3 : Int) (a : Nat → Nat → Int), (((3 - y3) * 1) + 0).toNat ≤ n → iv a → jfr jW_X8_takesWord_r1004 a0 a → 3 ≤ y2 → y2 ≤ 200 → 0 ≤ y3 → y3 ≤ 2 → 3 ≤ a 2 1 → y3 < 3 → 0 ≤ y3 → a 2 2 = a0 2 2 → (∀ k : Nat, (k : Int) < y3 + 1 → (a0 3) ((a0 2 2).toNat + k) = (wdl 6).getD k 0) → y2 = (a 2 2) + 3 → y2 ≤ a 2 1 → y2 ≤ 200 → a0 2 3 = 0 → a0 2 2 < a0 2 1 → jt (jxX E d 128 58 [some (.inr (.inr (.inl 2))), some (.inr (.inr (.inl 1004))), some (.inl y2), some (.inl y3)] [] (jxSH, a, b0)) (jQ_X8_takesWord_r1004 a0 b0) := by
    intro y2 y3 a hm hv hf hi0 hi1 hi2 hi3 hi4 hi5 hi6 hi7 hch hi9 hi10 hi11 hi12 hi13
    refine jt_eq (bq_X8_takesWord_r1004_58 E d y2 y3 a b0) ?_
    have h368_ := iv_get hv (k := 2) (j := 1) (l := 0) (u := 200) rfl
    have h369_ : a 2 1 = a0 2 1 := hf 2 1 rfl
    have h370_ := iv_get hv0 (k := 2) (j := 1) (l := 0) (u := 200) rfl
    have h371_ := iv_get hv (k := 2) (j := 2) (l := 0) (u := 200) rfl
    have h372_ := iv_get hv0 (k := 2) (j := 2) (l := 0) (u := 200) rfl
    have h3 : a 3 = a0 3 := funext fun j => hf 3 j rfl
    have h21 := hf 2 1 rfl
    have h373_ : jxw (y3 + 1) = y3 + 1 := jxw_id (by omega) (by omega)
    exact ih29 y2 (jxw (y3 + 1)) a (show (((3 - (jxw (y3 + 1))) * 1) + 0).toNat < n from by omega) hv hf (show 3 ≤ y2 from by omega) (show y2 ≤ 200 from by omega) (show 0 ≤ jxw (y3 + 1) from by omega) (show jxw (y3 + 1) ≤ 3 from by omega) (show 3 ≤ a 2 1 from by omega) (show 0 ≤ jxw (y3 + 1) from by omega) (show a 2 2 = a0 2 2 from by omega) (by first | exact (fun k hk => absurd hk (by omega)) | (rw [show jxw (y3 + 1) = y3 + 1 from by omega]; exact hch)) (show y2 = (a 2 2) + 3 from by omega) (show y2 ≤ a 2 1 from by omega) (show y2 ≤ 200 from by omega) (show a0 2 3 = 0 from by omega) (show a0 2 2 < a0 2 1 from by omega)
  have hc29 : ∀ (y2 y3 : Int) (a : Nat → Nat → Int), (((3 - y3) * 1) + 0).toNat ≤ n → iv a → jfr jW_X8_takesWord_r1004 a0 a → 3 ≤ y2 → y2 ≤ 200 → 0 ≤ y3 → y3 ≤ 3 → 3 ≤ a 2 1 → 0 ≤ y3 → a 2 2 = a0 2 2 → (∀ k : Nat, (k : Int) < y3 → (a0 3) ((a0 2 2).toNat + k) = (wdl 6).getD k 0) → y2 = (a 2 2) + 3 → y2 ≤ a 2 1 → y2 ≤ 200 → a0 2 3 = 0 → a0 2 2 < a0 2 1 → jt (jxX E d 128 29 [some (.inr (.inr (.inl 2))), some (.inr (.inr (.inl 1004))), some (.inl y2), some (.inl y3)] [] (jxSH, a, b0)) (jQ_X8_takesWord_r1004 a0 b0) := by
    intro y2 y3 a hm hv hf hi0 hi1 hi2 hi3 hi4 hi5 hi6 hch hi8 hi9 hi10 hi11 hi12
    refine jt_eq (bq_X8_takesWord_r1004_29 E d y2 y3 a b0) ?_
    have h374_ := iv_get hv (k := 2) (j := 1) (l := 0) (u := 200) rfl
    have h375_ : a 2 1 = a0 2 1 := hf 2 1 rfl
    have h376_ := iv_get hv0 (k := 2) (j := 1) (l := 0) (u := 200) rfl
    have h377_ := iv_get hv (k := 2) (j := 2) (l := 0) (u := 200) rfl
    have h378_ := iv_get hv0 (k := 2) (j := 2) (l := 0) (u := 200) rfl
    have h3 : a 3 = a0 3 := funext fun j => hf 3 j rfl
    have h21 := hf 2 1 rfl
    refine jt_eI (eq_J0_length_8abf5_r1004 E d (jd_le hd rfl) a b0) ?_
    have h379_ := ff_J0_length_8abf5_r1004 a b0
    refine jt_ite (fun c380_ => ?_) (fun c380_ => ?_)
    ·
      have h381_ : jxw ((a 2 2) + y3) = (a 2 2) + y3 := jxw_id (by omega) (by omega)
      refine jt_grd (by omega) ?_
      refine jt_eI (eq_J0_charAt_5068e_r1004 E d (jd_le hd rfl) y3 a b0 (show (0 ≤ y3 ∧ y3 < 3) from by omega)) ?_
      have h382_ := iv_get hv (k := 3) (j := (jxw ((a 2 2) + y3)).toNat) (l := 0) (u := 255) rfl
      have h383_ : a 3 ((jxw ((a 2 2) + y3)).toNat) = a0 3 ((jxw ((a 2 2) + y3)).toNat) := hf 3 ((jxw ((a 2 2) + y3)).toNat) rfl
      have h384_ := iv_get hv0 (k := 3) (j := (jxw ((a 2 2) + y3)).toNat) (l := 0) (u := 255) rfl
      have h385_ := f_J0_charAt_5068e_r1004_eq a b0 y3
      have h386_ := f_J0_isLatin1_aae02_r1004_eq a b0
      have h387_ := f_J1_charAt_3b067_r2004_eq a b0 y3
      have h388_ := jxand_r (([102, 97, 114] : List Int).getD (y3.toNat) 0) 255 (by decide) (by decide)
      have h389_ := jxi2c_b (jxand (([102, 97, 114] : List Int).getD (y3.toNat) 0) 255)
      refine jt_ite (fun c390_ => ?_) (fun c390_ => ?_)
      ·
        exact hc58 y2 y3 a (show (((3 - y3) * 1) + 0).toNat ≤ n from by omega) hv hf (show 3 ≤ y2 from by omega) (show y2 ≤ 200 from by omega) (show 0 ≤ y3 from by omega) (show y3 ≤ 2 from by omega) (show 3 ≤ a 2 1 from by omega) (show y3 < 3 from by omega) (show 0 ≤ y3 from by omega) (show a 2 2 = a0 2 2 from by omega) (ch_ext hch (by omega) (q := (jxw ((a 2 2) + y3)).toNat) (by omega) (v := f_J0_charAt_5068e_r1004 a b0 y3) (by rw [← h3]; assumption) (cw_1004 a b0 y3 (by omega) (by omega))) (show y2 = (a 2 2) + 3 from by omega) (show y2 ≤ a 2 1 from by omega) (show y2 ≤ 200 from by omega) (show a0 2 3 = 0 from by omega) (show a0 2 2 < a0 2 1 from by omega)
      ·
        exact cp_X8_takesWord_r1004_56 E d hd a0 b0 hv0 a hv hf (show 3 ≤ a 2 1 from by omega) (show a 2 2 = a0 2 2 from by omega) (TW_no (y := y3) (by omega) (show y3 < 3 by omega) (q := (jxw ((a 2 2) + y3)).toNat) (by omega) (v := f_J0_charAt_5068e_r1004 a b0 y3) (cw_1004 a b0 y3 (by omega) (by omega)) (by rw [← h3]; assumption)) (show a0 2 3 = 0 from by omega) (show a0 2 2 < a0 2 1 from by omega)
    ·
      refine jt_ite (fun c391_ => ?_) (fun c391_ => ?_)
      ·
        refine jt_grd (by omega) ?_
        have h392_ := iv_get hv (k := 3) (j := y2.toNat) (l := 0) (u := 255) rfl
        have h393_ : a 3 (y2.toNat) = a0 3 (y2.toNat) := hf 3 (y2.toNat) rfl
        have h394_ := iv_get hv0 (k := 3) (j := y2.toNat) (l := 0) (u := 255) rfl
        refine jt_ite (fun c395_ => ?_) (fun c395_ => ?_)
        ·
          exact cp_X8_takesWord_r1004_96 E d hd a0 b0 hv0 y2 a hv hf (show 3 ≤ y2 from by omega) (show y2 ≤ 200 from by omega) (show 3 ≤ a 2 1 from by omega) (show a 2 2 = a0 2 2 from by omega) (TW_mk (q := y2.toNat) (show y2.toNat = (a0 2 2).toNat + 3 by omega) (by omega) (by first | exact hall | exact (fun k hk => hch k (by have hw : ((wdn 6 : Nat) : Int) = 3 := rfl; omega))) (LT_no1 (by rw [← h3]; omega))) (show y2 = (a 2 2) + 3 from by omega) (show y2 ≤ a 2 1 from by omega) (show y2 ≤ 200 from by omega) (show a0 2 3 = 0 from by omega) (show a0 2 2 < a0 2 1 from by omega)
        ·
          exact cp_X8_takesWord_r1004_83 E d hd a0 b0 hv0 y2 a hv hf (show 3 ≤ y2 from by omega) (show y2 ≤ 199 from by omega) (show 4 ≤ a 2 1 from by omega) (show a 2 2 = a0 2 2 from by omega) (fun k hk => hch k (by have hw : ((wdn 6 : Nat) : Int) = 3 := rfl; omega)) (by rw [← h3]; omega) (show y2 = (a 2 2) + 3 from by omega) (show y2 ≤ a 2 1 from by omega) (show y2 ≤ 200 from by omega) (show a0 2 3 = 0 from by omega) (show a0 2 2 < a0 2 1 from by omega)
      ·
        exact cp_X8_takesWord_r1004_96 E d hd a0 b0 hv0 y2 a hv hf (show 3 ≤ y2 from by omega) (show y2 ≤ 200 from by omega) (show 3 ≤ a 2 1 from by omega) (show a 2 2 = a0 2 2 from by omega) (TW_mk (q := y2.toNat) (show y2.toNat = (a0 2 2).toNat + 3 by omega) (by omega) (by first | exact hall | exact (fun k hk => hch k (by have hw : ((wdn 6 : Nat) : Int) = 3 := rfl; omega))) (LT_no1 (by rw [← h3]; omega))) (show y2 = (a 2 2) + 3 from by omega) (show y2 ≤ a 2 1 from by omega) (show y2 ≤ 200 from by omega) (show a0 2 3 = 0 from by omega) (show a0 2 2 < a0 2 1 from by omega)
  exact ⟨hc58, hc29⟩
theorem sp_X8_takesWord_r1004 (E : jxE) (d : Nat) (hd : Nat.ble 5 d = true) (a0 b0 : Nat → Nat → Int) (hv0 : iv a0) : jt (jxC E d 128 [.inr (.inr (.inl 2)), .inr (.inr (.inl 1004))] (jxSH, a0, b0)) (jQ_X8_takesWord_r1004 a0 b0) := by
  obtain ⟨d, rfl⟩ := jd_succ hd
  refine jt_eq (bq_X8_takesWord_r1004 E d a0 b0) ?_
  refine jt_eI (eq_J0_length_8abf5_r1004 E d (jd_le hd rfl) a0 b0) ?_
  refine jt_eI (eq_X8_isFaulty E d (jd_le hd rfl) a0 b0) ?_
  have h396_ := f_X8_isFaulty_eq a0 b0
  refine jt_ite (fun c397_ => ?_) (fun c397_ => ?_)
  ·
    have h398_ := iv_get hv0 (k := 2) (j := 1) (l := 0) (u := 200) rfl
    have h399_ := iv_get hv0 (k := 2) (j := 2) (l := 0) (u := 200) rfl
    have h400_ := ff_J0_length_8abf5_r1004 a0 b0
    have h401_ : jxw ((a0 2 2) + (f_J0_length_8abf5_r1004 a0 b0)) = (a0 2 2) + (f_J0_length_8abf5_r1004 a0 b0) := jxw_id (by omega) (by omega)
    refine jt_ite (fun c402_ => ?_) (fun c402_ => ?_)
    ·
      exact jt_rI ⟨hv0, (jfr_rf _ _), rfl, (show (0 ≤ 0 ∧ 0 ≤ 1) from by omega), (show ((¬ a0 2 3 = 0 ∨ a0 2 1 ≤ a0 2 2) → 0 = 0) from by omega), (show (0 = 0 → a0 2 2 = a0 2 2) from by omega), (by first | exact (fun h => absurd h (by decide)) | exact (fun _ => ⟨by omega, htw, by have h := hq0_1; rw [show (a0 2 2).toNat + wdn 6 = y2.toNat from (by show _ + 3 = _; omega), ← h3, ← h21]; exact h⟩)), (by first | exact (fun h => absurd h (by decide)) | exact (fun _ => Or.inr hnt) | exact (fun _ => Or.inl (by omega)) | exact (fun _ => Or.inr (TW_short (show _ < _ + 3 by omega))) | exact (fun _ => Or.inr (TW_let (q := y2.toNat) (show y2.toNat = (a0 2 2).toNat + 3 by omega) ⟨by omega, h97, by rw [← h3]; omega⟩)))⟩
    ·
      exact (cp_X8_takesWord_r1004_29 E d hd a0 b0 hv0 _).2 (jxw ((a0 2 2) + (f_J0_length_8abf5_r1004 a0 b0))) 0 a0 (Nat.le_refl _) hv0 (jfr_rf _ _) (show 3 ≤ jxw ((a0 2 2) + (f_J0_length_8abf5_r1004 a0 b0)) from by omega) (show jxw ((a0 2 2) + (f_J0_length_8abf5_r1004 a0 b0)) ≤ 200 from by omega) (show 0 ≤ 0 from by omega) (show 0 ≤ 3 from by omega) (show 3 ≤ a0 2 1 from by omega) (show 0 ≤ 0 from by omega) (show a0 2 2 = a0 2 2 from by omega) (by first | exact (fun k hk => absurd hk (by omega)) | (rw [show jxw (y3 + 1) = y3 + 1 from by omega]; exact hch)) (show jxw ((a0 2 2) + (f_J0_length_8abf5_r1004 a0 b0)) = (a0 2 2) + 3 from by omega) (show jxw ((a0 2 2) + (f_J0_length_8abf5_r1004 a0 b0)) ≤ a0 2 1 from by omega) (show jxw ((a0 2 2) + (f_J0_length_8abf5_r1004 a0 b0)) ≤ 200 from by omega) (show a0 2 3 = 0 from by omega) (show a0 2 2 < a0 2 1 from by omega)
  ·
    have h403_ := iv_get hv0 (k := 2) (j := 1) (l := 0) (u := 200) rfl
    have h404_ := iv_get hv0 (k := 2) (j := 2) (l := 0) (u := 200) rfl
    exact jt_rI ⟨hv0, (jfr_rf _ _), rfl, (show (0 ≤ 0 ∧ 0 ≤ 1) from by omega), (show ((¬ a0 2 3 = 0 ∨ a0 2 1 ≤ a0 2 2) → 0 = 0) from by omega), (show (0 = 0 → a0 2 2 = a0 2 2) from by omega), (by first | exact (fun h => absurd h (by decide)) | exact (fun _ => ⟨by omega, htw, by have h := hq0_1; rw [show (a0 2 2).toNat + wdn 6 = y2.toNat from (by show _ + 3 = _; omega), ← h3, ← h21]; exact h⟩)), (by first | exact (fun h => absurd h (by decide)) | exact (fun _ => Or.inr hnt) | exact (fun _ => Or.inl (by omega)) | exact (fun _ => Or.inr (TW_short (show _ < _ + 3 by omega))) | exact (fun _ => Or.inr (TW_let (q := y2.toNat) (show y2.toNat = (a0 2 2).toNat + 3 by omega) ⟨by omega, h97, by rw [← h3]; omega⟩)))⟩
def jW_X8_takesWord_r1005 : List (Nat × Nat) := [(2, 2)]
abbrev jQ_X8_takesWord_r1005 (a0 b0 : Nat → Nat → Int) : List jxV → (Nat → Nat → Int) → (Nat → Nat → Int) → Prop := rI (fun r a b => (iv a) ∧ (jfr jW_X8_takesWord_r1005 a0 a) ∧ (b0 = b) ∧ ((0 ≤ r ∧ r ≤ 1)) ∧ (((¬ a0 2 3 = 0 ∨ a0 2 1 ≤ a0 2 2) → r = 0)) ∧ ((r = 0 → a 2 2 = a0 2 2)) ∧ (r = 1 → a0 2 3 = 0 ∧ TW (a0 3) (a0 2 1).toNat (a0 2 2).toNat 7 ∧ a 2 2 = ((SK (a0 3) (a0 2 1).toNat ((a0 2 2).toNat + wdn 7) : Nat) : Int)) ∧ (r = 0 → ¬ a0 2 3 = 0 ∨ ¬ TW (a0 3) (a0 2 1).toNat (a0 2 2).toNat 7))
theorem cp_X8_takesWord_r1005_56 (E : jxE) (d : Nat) (hd : Nat.ble 5 (d + 1) = true) (a0 b0 : Nat → Nat → Int) (hv0 : iv a0) : ∀ (a : Nat → Nat → Int), iv a → jfr jW_X8_takesWord_r1005 a0 a → 4 ≤ a 2 1 → a 2 2 = a0 2 2 → (¬ TW (a0 3) (a0 2 1).toNat (a0 2 2).toNat 7) → a0 2 3 = 0 → a0 2 2 < a0 2 1 → jt (jxX E d 128 56 [none, none, none, none] [] (jxSH, a, b0)) (jQ_X8_takesWord_r1005 a0 b0) := by
  intro a hv hf hi0 hi1 hnt hi3 hi4
  refine jt_eq (bq_X8_takesWord_r1005_56 E d a b0) ?_
  have h405_ := iv_get hv (k := 2) (j := 1) (l := 0) (u := 200) rfl
  have h406_ : a 2 1 = a0 2 1 := hf 2 1 rfl
  have h407_ := iv_get hv0 (k := 2) (j := 1) (l := 0) (u := 200) rfl
  have h408_ := iv_get hv (k := 2) (j := 2) (l := 0) (u := 200) rfl
  have h409_ := iv_get hv0 (k := 2) (j := 2) (l := 0) (u := 200) rfl
  have h3 : a 3 = a0 3 := funext fun j => hf 3 j rfl
  have h21 := hf 2 1 rfl
  exact jt_rI ⟨hv, hf, rfl, (show (0 ≤ 0 ∧ 0 ≤ 1) from by omega), (show ((¬ a0 2 3 = 0 ∨ a0 2 1 ≤ a0 2 2) → 0 = 0) from by omega), (show (0 = 0 → a 2 2 = a0 2 2) from by omega), (by first | exact (fun h => absurd h (by decide)) | exact (fun _ => ⟨by omega, htw, by have h := hq0_1; rw [show (a0 2 2).toNat + wdn 7 = y2.toNat from (by show _ + 4 = _; omega), ← h3, ← h21]; exact h⟩)), (by first | exact (fun h => absurd h (by decide)) | exact (fun _ => Or.inr hnt) | exact (fun _ => Or.inl (by omega)) | exact (fun _ => Or.inr (TW_short (show _ < _ + 4 by omega))) | exact (fun _ => Or.inr (TW_let (q := y2.toNat) (show y2.toNat = (a0 2 2).toNat + 4 by omega) ⟨by omega, h97, by rw [← h3]; omega⟩)))⟩
theorem cp_X8_takesWord_r1005_96 (E : jxE) (d : Nat) (hd : Nat.ble 5 (d + 1) = true) (a0 b0 : Nat → Nat → Int) (hv0 : iv a0) : ∀ (y2 : Int) (a : Nat → Nat → Int), iv a → jfr jW_X8_takesWord_r1005 a0 a → 4 ≤ y2 → y2 ≤ 200 → 4 ≤ a 2 1 → a 2 2 = a0 2 2 → (TW (a0 3) (a0 2 1).toNat (a0 2 2).toNat 7) → y2 = (a 2 2) + 4 → y2 ≤ a 2 1 → y2 ≤ 200 → a0 2 3 = 0 → a0 2 2 < a0 2 1 → jt (jxX E d 128 96 [some (.inr (.inr (.inl 2))), none, some (.inl y2), none] [] (jxSH, a, b0)) (jQ_X8_takesWord_r1005 a0 b0) := by
  intro y2 a hv hf hi0 hi1 hi2 hi3 htw hi5 hi6 hi7 hi8 hi9
  refine jt_eq (bq_X8_takesWord_r1005_96 E d y2 a b0) ?_
  have h410_ := iv_get hv (k := 2) (j := 1) (l := 0) (u := 200) rfl
  have h411_ : a 2 1 = a0 2 1 := hf 2 1 rfl
  have h412_ := iv_get hv0 (k := 2) (j := 1) (l := 0) (u := 200) rfl
  have h413_ := iv_get hv (k := 2) (j := 2) (l := 0) (u := 200) rfl
  have h414_ := iv_get hv0 (k := 2) (j := 2) (l := 0) (u := 200) rfl
  have h3 : a 3 = a0 3 := funext fun j => hf 3 j rfl
  have h21 := hf 2 1 rfl
  have hv415_ : iv (jxu a 2 2 y2) := iv_put hv (l := 0) (u := 200) rfl (by omega) (by omega)
  refine jt_bV (sp_X8_skipBlanks E d (jd_le hd rfl) (jxu a 2 2 y2) b0 hv415_) (fun a416_ b416_ h416_ => ?_)
  obtain ⟨hv416_, hf416_, rfl, hq416_0, hq416_1⟩ := h416_
  have h417_ := iv_get hv416_ (k := 2) (j := 2) (l := 0) (u := 200) rfl
  have h418_ : (a 2 1 ≤ y2 → a416_ 2 2 = y2) := hq416_0
  have hf419_ : jfr jW_X8_takesWord_r1005 a0 (jxu a 2 2 y2) := jfr_put hf rfl
  have hf420_ : jfr jW_X8_takesWord_r1005 a0 a416_ := jfr_tr hf419_ hf416_ rfl
  exact jt_rI ⟨hv416_, hf420_, rfl, (show (0 ≤ 1 ∧ 1 ≤ 1) from by omega), (show ((¬ a0 2 3 = 0 ∨ a0 2 1 ≤ a0 2 2) → 1 = 0) from by omega), (show (1 = 0 → a416_ 2 2 = a0 2 2) from by omega), (by first | exact (fun h => absurd h (by decide)) | exact (fun _ => ⟨by omega, htw, by have h := hq416_1; rw [show (a0 2 2).toNat + wdn 7 = y2.toNat from (by show _ + 4 = _; omega), ← h3, ← h21]; exact h⟩)), (by first | exact (fun h => absurd h (by decide)) | exact (fun _ => Or.inr hnt) | exact (fun _ => Or.inl (by omega)) | exact (fun _ => Or.inr (TW_short (show _ < _ + 4 by omega))) | exact (fun _ => Or.inr (TW_let (q := y2.toNat) (show y2.toNat = (a0 2 2).toNat + 4 by omega) ⟨by omega, h97, by rw [← h3]; omega⟩)))⟩
theorem cp_X8_takesWord_r1005_83 (E : jxE) (d : Nat) (hd : Nat.ble 5 (d + 1) = true) (a0 b0 : Nat → Nat → Int) (hv0 : iv a0) : ∀ (y2 : Int) (a : Nat → Nat → Int), iv a → jfr jW_X8_takesWord_r1005 a0 a → 4 ≤ y2 → y2 ≤ 199 → 5 ≤ a 2 1 → a 2 2 = a0 2 2 → (∀ k : Nat, (k : Int) < (wdn 7 : Int) → (a0 3) ((a0 2 2).toNat + k) = (wdl 7).getD k 0) → (97 ≤ a0 3 y2.toNat) → y2 = (a 2 2) + 4 → y2 ≤ a 2 1 → y2 ≤ 200 → a0 2 3 = 0 → a0 2 2 < a0 2 1 → jt (jxX E d 128 83 [some (.inr (.inr (.inl 2))), none, some (.inl y2), none] [] (jxSH, a, b0)) (jQ_X8_takesWord_r1005 a0 b0) := by
  intro y2 a hv hf hi0 hi1 hi2 hi3 hall h97 hi6 hi7 hi8 hi9 hi10
  refine jt_eq (bq_X8_takesWord_r1005_83 E d y2 a b0) ?_
  have h421_ := iv_get hv (k := 2) (j := 1) (l := 0) (u := 200) rfl
  have h422_ : a 2 1 = a0 2 1 := hf 2 1 rfl
  have h423_ := iv_get hv0 (k := 2) (j := 1) (l := 0) (u := 200) rfl
  have h424_ := iv_get hv (k := 2) (j := 2) (l := 0) (u := 200) rfl
  have h425_ := iv_get hv0 (k := 2) (j := 2) (l := 0) (u := 200) rfl
  have h3 : a 3 = a0 3 := funext fun j => hf 3 j rfl
  have h21 := hf 2 1 rfl
  refine jt_grd (by omega) ?_
  have h426_ := iv_get hv (k := 3) (j := y2.toNat) (l := 0) (u := 255) rfl
  have h427_ : a 3 (y2.toNat) = a0 3 (y2.toNat) := hf 3 (y2.toNat) rfl
  have h428_ := iv_get hv0 (k := 3) (j := y2.toNat) (l := 0) (u := 255) rfl
  refine jt_ite (fun c429_ => ?_) (fun c429_ => ?_)
  ·
    exact cp_X8_takesWord_r1005_96 E d hd a0 b0 hv0 y2 a hv hf (show 4 ≤ y2 from by omega) (show y2 ≤ 200 from by omega) (show 4 ≤ a 2 1 from by omega) (show a 2 2 = a0 2 2 from by omega) (TW_mk (q := y2.toNat) (show y2.toNat = (a0 2 2).toNat + 4 by omega) (by omega) (by first | exact hall | exact (fun k hk => hch k (by have hw : ((wdn 7 : Nat) : Int) = 4 := rfl; omega))) (LT_no1 (by rw [← h3]; omega))) (show y2 = (a 2 2) + 4 from by omega) (show y2 ≤ a 2 1 from by omega) (show y2 ≤ 200 from by omega) (show a0 2 3 = 0 from by omega) (show a0 2 2 < a0 2 1 from by omega)
  ·
    exact jt_rI ⟨hv, hf, rfl, (show (0 ≤ 0 ∧ 0 ≤ 1) from by omega), (show ((¬ a0 2 3 = 0 ∨ a0 2 1 ≤ a0 2 2) → 0 = 0) from by omega), (show (0 = 0 → a 2 2 = a0 2 2) from by omega), (by first | exact (fun h => absurd h (by decide)) | exact (fun _ => ⟨by omega, htw, by have h := hq0_1; rw [show (a0 2 2).toNat + wdn 7 = y2.toNat from (by show _ + 4 = _; omega), ← h3, ← h21]; exact h⟩)), (by first | exact (fun h => absurd h (by decide)) | exact (fun _ => Or.inr hnt) | exact (fun _ => Or.inl (by omega)) | exact (fun _ => Or.inr (TW_short (show _ < _ + 4 by omega))) | exact (fun _ => Or.inr (TW_let (q := y2.toNat) (show y2.toNat = (a0 2 2).toNat + 4 by omega) ⟨by omega, h97, by rw [← h3]; omega⟩)))⟩
theorem cp_X8_takesWord_r1005_29 (E : jxE) (d : Nat) (hd : Nat.ble 5 (d + 1) = true) (a0 b0 : Nat → Nat → Int) (hv0 : iv a0) : ∀ n : Nat, (∀ (y2 y3 : Int) (a : Nat → Nat → Int), (((4 - y3) * 1) + 0).toNat ≤ n → iv a → jfr jW_X8_takesWord_r1005 a0 a → 4 ≤ y2 → y2 ≤ 200 → 0 ≤ y3 → y3 ≤ 3 → 4 ≤ a 2 1 → y3 < 4 → 0 ≤ y3 → a 2 2 = a0 2 2 → (∀ k : Nat, (k : Int) < y3 + 1 → (a0 3) ((a0 2 2).toNat + k) = (wdl 7).getD k 0) → y2 = (a 2 2) + 4 → y2 ≤ a 2 1 → y2 ≤ 200 → a0 2 3 = 0 → a0 2 2 < a0 2 1 → jt (jxX E d 128 58 [some (.inr (.inr (.inl 2))), some (.inr (.inr (.inl 1005))), some (.inl y2), some (.inl y3)] [] (jxSH, a, b0)) (jQ_X8_takesWord_r1005 a0 b0)) ∧ (∀ (y2 y3 : Int) (a : Nat → Nat → Int), (((4 - y3) * 1) + 0).toNat ≤ n → iv a → jfr jW_X8_takesWord_r1005 a0 a → 4 ≤ y2 → y2 ≤ 200 → 0 ≤ y3 → y3 ≤ 4 → 4 ≤ a 2 1 → 0 ≤ y3 → a 2 2 = a0 2 2 → (∀ k : Nat, (k : Int) < y3 → (a0 3) ((a0 2 2).toNat + k) = (wdl 7).getD k 0) → y2 = (a 2 2) + 4 → y2 ≤ a 2 1 → y2 ≤ 200 → a0 2 3 = 0 → a0 2 2 < a0 2 1 → jt (jxX E d 128 29 [some (.inr (.inr (.inl 2))), some (.inr (.inr (.inl 1005))), some (.inl y2), some (.inl y3)] [] (jxSH, a, b0)) (jQ_X8_takesWord_r1005 a0 b0)) := by
  refine jx_ind fun n ih => ?_
  have ih58 : ∀ (y2 y3 : Int) (a : Nat → Nat → Int), (((4 - y3) * 1) + 0).toNat < n → iv a → jfr jW_X8_takesWord_r1005 a0 a → 4 ≤ y2 → y2 ≤ 200 → 0 ≤ y3 → y3 ≤ 3 → 4 ≤ a 2 1 → y3 < 4 → 0 ≤ y3 → a 2 2 = a0 2 2 → (∀ k : Nat, (k : Int) < y3 + 1 → (a0 3) ((a0 2 2).toNat + k) = (wdl 7).getD k 0) → y2 = (a 2 2) + 4 → y2 ≤ a 2 1 → y2 ≤ 200 → a0 2 3 = 0 → a0 2 2 < a0 2 1 → jt (jxX E d 128 58 [some (.inr (.inr (.inl 2))), some (.inr (.inr (.inl 1005))), some (.inl y2), some (.inl y3)] [] (jxSH, a, b0)) (jQ_X8_takesWord_r1005 a0 b0) := fun y2 y3 a hlt i0 i1 i2 i3 i4 i5 i6 i7 i8 i9 i10 i11 i12 i13 i14 i15 => (ih _ hlt).1 y2 y3 a (Nat.le_refl _) i0 i1 i2 i3 i4 i5 i6 i7 i8 i9 i10 i11 i12 i13 i14 i15
  have ih29 : ∀ (y2 y3 : Int) (a : Nat → Nat → Int), (((4 - y3) * 1) + 0).toNat < n → iv a → jfr jW_X8_takesWord_r1005 a0 a → 4 ≤ y2 → y2 ≤ 200 → 0 ≤ y3 → y3 ≤ 4 → 4 ≤ a 2 1 → 0 ≤ y3 → a 2 2 = a0 2 2 → (∀ k : Nat, (k : Int) < y3 → (a0 3) ((a0 2 2).toNat + k) = (wdl 7).getD k 0) → y2 = (a 2 2) + 4 → y2 ≤ a 2 1 → y2 ≤ 200 → a0 2 3 = 0 → a0 2 2 < a0 2 1 → jt (jxX E d 128 29 [some (.inr (.inr (.inl 2))), some (.inr (.inr (.inl 1005))), some (.inl y2), some (.inl y3)] [] (jxSH, a, b0)) (jQ_X8_takesWord_r1005 a0 b0) := fun y2 y3 a hlt i0 i1 i2 i3 i4 i5 i6 i7 i8 i9 i10 i11 i12 i13 i14 => (ih _ hlt).2 y2 y3 a (Nat.le_refl _) i0 i1 i2 i3 i4 i5 i6 i7 i8 i9 i10 i11 i12 i13 i14
  have hc58 : ∀ (y2 y3 : Int) (a : Nat → Nat → Int), (((4 - y3) * 1) + 0).toNat ≤ n → iv a → jfr jW_X8_takesWord_r1005 a0 a → 4 ≤ y2 → y2 ≤ 200 → 0 ≤ y3 → y3 ≤ 3 → 4 ≤ a 2 1 → y3 < 4 → 0 ≤ y3 → a 2 2 = a0 2 2 → (∀ k : Nat, (k : Int) < y3 + 1 → (a0 3) ((a0 2 2).toNat + k) = (wdl 7).getD k 0) → y2 = (a 2 2) + 4 → y2 ≤ a 2 1 → y2 ≤ 200 → a0 2 3 = 0 → a0 2 2 < a0 2 1 → jt (jxX E d 128 58 [some (.inr (.inr (.inl 2))), some (.inr (.inr (.inl 1005))), some (.inl y2), some (.inl y3)] [] (jxSH, a, b0)) (jQ_X8_takesWord_r1005 a0 b0) := by
    intro y2 y3 a hm hv hf hi0 hi1 hi2 hi3 hi4 hi5 hi6 hi7 hch hi9 hi10 hi11 hi12 hi13
    refine jt_eq (bq_X8_takesWord_r1005_58 E d y2 y3 a b0) ?_
    have h430_ := iv_get hv (k := 2) (j := 1) (l := 0) (u := 200) rfl
    have h431_ : a 2 1 = a0 2 1 := hf 2 1 rfl
    have h432_ := iv_get hv0 (k := 2) (j := 1) (l := 0) (u := 200) rfl
    have h433_ := iv_get hv (k := 2) (j := 2) (l := 0) (u := 200) rfl
    have h434_ := iv_get hv0 (k := 2) (j := 2) (l := 0) (u := 200) rfl
    have h3 : a 3 = a0 3 := funext fun j => hf 3 j rfl
    have h21 := hf 2 1 rfl
    have h435_ : jxw (y3 + 1) = y3 + 1 := jxw_id (by omega) (by omega)
    exact ih29 y2 (jxw (y3 + 1)) a (show (((4 - (jxw (y3 + 1))) * 1) + 0).toNat < n from by omega) hv hf (show 4 ≤ y2 from by omega) (show y2 ≤ 200 from by omega) (show 0 ≤ jxw (y3 + 1) from by omega) (show jxw (y3 + 1) ≤ 4 from by omega) (show 4 ≤ a 2 1 from by omega) (show 0 ≤ jxw (y3 + 1) from by omega) (show a 2 2 = a0 2 2 from by omega) (by first | exact (fun k hk => absurd hk (by omega)) | (rw [show jxw (y3 + 1) = y3 + 1 from by omega]; exact hch)) (show y2 = (a 2 2) + 4 from by omega) (show y2 ≤ a 2 1 from by omega) (show y2 ≤ 200 from by omega) (show a0 2 3 = 0 from by omega) (show a0 2 2 < a0 2 1 from by omega)
  have hc29 : ∀ (y2 y3 : Int) (a : Nat → Nat → Int), (((4 - y3) * 1) + 0).toNat ≤ n → iv a → jfr jW_X8_takesWord_r1005 a0 a → 4 ≤ y2 → y2 ≤ 200 → 0 ≤ y3 → y3 ≤ 4 → 4 ≤ a 2 1 → 0 ≤ y3 → a 2 2 = a0 2 2 → (∀ k : Nat, (k : Int) < y3 → (a0 3) ((a0 2 2).toNat + k) = (wdl 7).getD k 0) → y2 = (a 2 2) + 4 → y2 ≤ a 2 1 → y2 ≤ 200 → a0 2 3 = 0 → a0 2 2 < a0 2 1 → jt (jxX E d 128 29 [some (.inr (.inr (.inl 2))), some (.inr (.inr (.inl 1005))), some (.inl y2), some (.inl y3)] [] (jxSH, a, b0)) (jQ_X8_takesWord_r1005 a0 b0) := by
    intro y2 y3 a hm hv hf hi0 hi1 hi2 hi3 hi4 hi5 hi6 hch hi8 hi9 hi10 hi11 hi12
    refine jt_eq (bq_X8_takesWord_r1005_29 E d y2 y3 a b0) ?_
    have h436_ := iv_get hv (k := 2) (j := 1) (l := 0) (u := 200) rfl
    have h437_ : a 2 1 = a0 2 1 := hf 2 1 rfl
    have h438_ := iv_get hv0 (k := 2) (j := 1) (l := 0) (u := 200) rfl
    have h439_ := iv_get hv (k := 2) (j := 2) (l := 0) (u := 200) rfl
    have h440_ := iv_get hv0 (k := 2) (j := 2) (l := 0) (u := 200) rfl
    have h3 : a 3 = a0 3 := funext fun j => hf 3 j rfl
    have h21 := hf 2 1 rfl
    refine jt_eI (eq_J0_length_8abf5_r1005 E d (jd_le hd rfl) a b0) ?_
    have h441_ := ff_J0_length_8abf5_r1005 a b0
    refine jt_ite (fun c442_ => ?_) (fun c442_ => ?_)
    ·
      have h443_ : jxw ((a 2 2) + y3) = (a 2 2) + y3 := jxw_id (by omega) (by omega)
      refine jt_grd (by omega) ?_
      refine jt_eI (eq_J0_charAt_5068e_r1005 E d (jd_le hd rfl) y3 a b0 (show (0 ≤ y3 ∧ y3 < 4) from by omega)) ?_
      have h444_ := iv_get hv (k := 3) (j := (jxw ((a 2 2) + y3)).toNat) (l := 0) (u := 255) rfl
      have h445_ : a 3 ((jxw ((a 2 2) + y3)).toNat) = a0 3 ((jxw ((a 2 2) + y3)).toNat) := hf 3 ((jxw ((a 2 2) + y3)).toNat) rfl
      have h446_ := iv_get hv0 (k := 3) (j := (jxw ((a 2 2) + y3)).toNat) (l := 0) (u := 255) rfl
      have h447_ := f_J0_charAt_5068e_r1005_eq a b0 y3
      have h448_ := f_J0_isLatin1_aae02_r1005_eq a b0
      have h449_ := f_J1_charAt_3b067_r2005_eq a b0 y3
      have h450_ := jxand_r (([110, 101, 97, 114] : List Int).getD (y3.toNat) 0) 255 (by decide) (by decide)
      have h451_ := jxi2c_b (jxand (([110, 101, 97, 114] : List Int).getD (y3.toNat) 0) 255)
      refine jt_ite (fun c452_ => ?_) (fun c452_ => ?_)
      ·
        exact hc58 y2 y3 a (show (((4 - y3) * 1) + 0).toNat ≤ n from by omega) hv hf (show 4 ≤ y2 from by omega) (show y2 ≤ 200 from by omega) (show 0 ≤ y3 from by omega) (show y3 ≤ 3 from by omega) (show 4 ≤ a 2 1 from by omega) (show y3 < 4 from by omega) (show 0 ≤ y3 from by omega) (show a 2 2 = a0 2 2 from by omega) (ch_ext hch (by omega) (q := (jxw ((a 2 2) + y3)).toNat) (by omega) (v := f_J0_charAt_5068e_r1005 a b0 y3) (by rw [← h3]; assumption) (cw_1005 a b0 y3 (by omega) (by omega))) (show y2 = (a 2 2) + 4 from by omega) (show y2 ≤ a 2 1 from by omega) (show y2 ≤ 200 from by omega) (show a0 2 3 = 0 from by omega) (show a0 2 2 < a0 2 1 from by omega)
      ·
        exact cp_X8_takesWord_r1005_56 E d hd a0 b0 hv0 a hv hf (show 4 ≤ a 2 1 from by omega) (show a 2 2 = a0 2 2 from by omega) (TW_no (y := y3) (by omega) (show y3 < 4 by omega) (q := (jxw ((a 2 2) + y3)).toNat) (by omega) (v := f_J0_charAt_5068e_r1005 a b0 y3) (cw_1005 a b0 y3 (by omega) (by omega)) (by rw [← h3]; assumption)) (show a0 2 3 = 0 from by omega) (show a0 2 2 < a0 2 1 from by omega)
    ·
      refine jt_ite (fun c453_ => ?_) (fun c453_ => ?_)
      ·
        refine jt_grd (by omega) ?_
        have h454_ := iv_get hv (k := 3) (j := y2.toNat) (l := 0) (u := 255) rfl
        have h455_ : a 3 (y2.toNat) = a0 3 (y2.toNat) := hf 3 (y2.toNat) rfl
        have h456_ := iv_get hv0 (k := 3) (j := y2.toNat) (l := 0) (u := 255) rfl
        refine jt_ite (fun c457_ => ?_) (fun c457_ => ?_)
        ·
          exact cp_X8_takesWord_r1005_96 E d hd a0 b0 hv0 y2 a hv hf (show 4 ≤ y2 from by omega) (show y2 ≤ 200 from by omega) (show 4 ≤ a 2 1 from by omega) (show a 2 2 = a0 2 2 from by omega) (TW_mk (q := y2.toNat) (show y2.toNat = (a0 2 2).toNat + 4 by omega) (by omega) (by first | exact hall | exact (fun k hk => hch k (by have hw : ((wdn 7 : Nat) : Int) = 4 := rfl; omega))) (LT_no1 (by rw [← h3]; omega))) (show y2 = (a 2 2) + 4 from by omega) (show y2 ≤ a 2 1 from by omega) (show y2 ≤ 200 from by omega) (show a0 2 3 = 0 from by omega) (show a0 2 2 < a0 2 1 from by omega)
        ·
          exact cp_X8_takesWord_r1005_83 E d hd a0 b0 hv0 y2 a hv hf (show 4 ≤ y2 from by omega) (show y2 ≤ 199 from by omega) (show 5 ≤ a 2 1 from by omega) (show a 2 2 = a0 2 2 from by omega) (fun k hk => hch k (by have hw : ((wdn 7 : Nat) : Int) = 4 := rfl; omega)) (by rw [← h3]; omega) (show y2 = (a 2 2) + 4 from by omega) (show y2 ≤ a 2 1 from by omega) (show y2 ≤ 200 from by omega) (show a0 2 3 = 0 from by omega) (show a0 2 2 < a0 2 1 from by omega)
      ·
        exact cp_X8_takesWord_r1005_96 E d hd a0 b0 hv0 y2 a hv hf (show 4 ≤ y2 from by omega) (show y2 ≤ 200 from by omega) (show 4 ≤ a 2 1 from by omega) (show a 2 2 = a0 2 2 from by omega) (TW_mk (q := y2.toNat) (show y2.toNat = (a0 2 2).toNat + 4 by omega) (by omega) (by first | exact hall | exact (fun k hk => hch k (by have hw : ((wdn 7 : Nat) : Int) = 4 := rfl; omega))) (LT_no1 (by rw [← h3]; omega))) (show y2 = (a 2 2) + 4 from by omega) (show y2 ≤ a 2 1 from by omega) (show y2 ≤ 200 from by omega) (show a0 2 3 = 0 from by omega) (show a0 2 2 < a0 2 1 from by omega)
  exact ⟨hc58, hc29⟩
theorem sp_X8_takesWord_r1005 (E : jxE) (d : Nat) (hd : Nat.ble 5 d = true) (a0 b0 : Nat → Nat → Int) (hv0 : iv a0) : jt (jxC E d 128 [.inr (.inr (.inl 2)), .inr (.inr (.inl 1005))] (jxSH, a0, b0)) (jQ_X8_takesWord_r1005 a0 b0) := by
  obtain ⟨d, rfl⟩ := jd_succ hd
  refine jt_eq (bq_X8_takesWord_r1005 E d a0 b0) ?_
  refine jt_eI (eq_J0_length_8abf5_r1005 E d (jd_le hd rfl) a0 b0) ?_
  refine jt_eI (eq_X8_isFaulty E d (jd_le hd rfl) a0 b0) ?_
  have h458_ := f_X8_isFaulty_eq a0 b0
  refine jt_ite (fun c459_ => ?_) (fun c459_ => ?_)
  ·
    have h460_ := iv_get hv0 (k := 2) (j := 1) (l := 0) (u := 200) rfl
    have h461_ := iv_get hv0 (k := 2) (j := 2) (l := 0) (u := 200) rfl
    have h462_ := ff_J0_length_8abf5_r1005 a0 b0
    have h463_ : jxw ((a0 2 2) + (f_J0_length_8abf5_r1005 a0 b0)) = (a0 2 2) + (f_J0_length_8abf5_r1005 a0 b0) := jxw_id (by omega) (by omega)
    refine jt_ite (fun c464_ => ?_) (fun c464_ => ?_)
    ·
      exact jt_rI ⟨hv0, (jfr_rf _ _), rfl, (show (0 ≤ 0 ∧ 0 ≤ 1) from by omega), (show ((¬ a0 2 3 = 0 ∨ a0 2 1 ≤ a0 2 2) → 0 = 0) from by omega), (show (0 = 0 → a0 2 2 = a0 2 2) from by omega), (by first | exact (fun h => absurd h (by decide)) | exact (fun _ => ⟨by omega, htw, by have h := hq0_1; rw [show (a0 2 2).toNat + wdn 7 = y2.toNat from (by show _ + 4 = _; omega), ← h3, ← h21]; exact h⟩)), (by first | exact (fun h => absurd h (by decide)) | exact (fun _ => Or.inr hnt) | exact (fun _ => Or.inl (by omega)) | exact (fun _ => Or.inr (TW_short (show _ < _ + 4 by omega))) | exact (fun _ => Or.inr (TW_let (q := y2.toNat) (show y2.toNat = (a0 2 2).toNat + 4 by omega) ⟨by omega, h97, by rw [← h3]; omega⟩)))⟩
    ·
      exact (cp_X8_takesWord_r1005_29 E d hd a0 b0 hv0 _).2 (jxw ((a0 2 2) + (f_J0_length_8abf5_r1005 a0 b0))) 0 a0 (Nat.le_refl _) hv0 (jfr_rf _ _) (show 4 ≤ jxw ((a0 2 2) + (f_J0_length_8abf5_r1005 a0 b0)) from by omega) (show jxw ((a0 2 2) + (f_J0_length_8abf5_r1005 a0 b0)) ≤ 200 from by omega) (show 0 ≤ 0 from by omega) (show 0 ≤ 4 from by omega) (show 4 ≤ a0 2 1 from by omega) (show 0 ≤ 0 from by omega) (show a0 2 2 = a0 2 2 from by omega) (by first | exact (fun k hk => absurd hk (by omega)) | (rw [show jxw (y3 + 1) = y3 + 1 from by omega]; exact hch)) (show jxw ((a0 2 2) + (f_J0_length_8abf5_r1005 a0 b0)) = (a0 2 2) + 4 from by omega) (show jxw ((a0 2 2) + (f_J0_length_8abf5_r1005 a0 b0)) ≤ a0 2 1 from by omega) (show jxw ((a0 2 2) + (f_J0_length_8abf5_r1005 a0 b0)) ≤ 200 from by omega) (show a0 2 3 = 0 from by omega) (show a0 2 2 < a0 2 1 from by omega)
  ·
    have h465_ := iv_get hv0 (k := 2) (j := 1) (l := 0) (u := 200) rfl
    have h466_ := iv_get hv0 (k := 2) (j := 2) (l := 0) (u := 200) rfl
    exact jt_rI ⟨hv0, (jfr_rf _ _), rfl, (show (0 ≤ 0 ∧ 0 ≤ 1) from by omega), (show ((¬ a0 2 3 = 0 ∨ a0 2 1 ≤ a0 2 2) → 0 = 0) from by omega), (show (0 = 0 → a0 2 2 = a0 2 2) from by omega), (by first | exact (fun h => absurd h (by decide)) | exact (fun _ => ⟨by omega, htw, by have h := hq0_1; rw [show (a0 2 2).toNat + wdn 7 = y2.toNat from (by show _ + 4 = _; omega), ← h3, ← h21]; exact h⟩)), (by first | exact (fun h => absurd h (by decide)) | exact (fun _ => Or.inr hnt) | exact (fun _ => Or.inl (by omega)) | exact (fun _ => Or.inr (TW_short (show _ < _ + 4 by omega))) | exact (fun _ => Or.inr (TW_let (q := y2.toNat) (show y2.toNat = (a0 2 2).toNat + 4 by omega) ⟨by omega, h97, by rw [← h3]; omega⟩)))⟩
def jW_X8_takesWord_r1006 : List (Nat × Nat) := [(2, 2)]
abbrev jQ_X8_takesWord_r1006 (a0 b0 : Nat → Nat → Int) : List jxV → (Nat → Nat → Int) → (Nat → Nat → Int) → Prop := rI (fun r a b => (iv a) ∧ (jfr jW_X8_takesWord_r1006 a0 a) ∧ (b0 = b) ∧ ((0 ≤ r ∧ r ≤ 1)) ∧ (((¬ a0 2 3 = 0 ∨ a0 2 1 ≤ a0 2 2) → r = 0)) ∧ ((r = 0 → a 2 2 = a0 2 2)) ∧ (r = 1 → a0 2 3 = 0 ∧ TW (a0 3) (a0 2 1).toNat (a0 2 2).toNat 8 ∧ a 2 2 = ((SK (a0 3) (a0 2 1).toNat ((a0 2 2).toNat + wdn 8) : Nat) : Int)) ∧ (r = 0 → ¬ a0 2 3 = 0 ∨ ¬ TW (a0 3) (a0 2 1).toNat (a0 2 2).toNat 8))
theorem cp_X8_takesWord_r1006_56 (E : jxE) (d : Nat) (hd : Nat.ble 5 (d + 1) = true) (a0 b0 : Nat → Nat → Int) (hv0 : iv a0) : ∀ (a : Nat → Nat → Int), iv a → jfr jW_X8_takesWord_r1006 a0 a → 3 ≤ a 2 1 → a 2 2 = a0 2 2 → (¬ TW (a0 3) (a0 2 1).toNat (a0 2 2).toNat 8) → a0 2 3 = 0 → a0 2 2 < a0 2 1 → jt (jxX E d 128 56 [none, none, none, none] [] (jxSH, a, b0)) (jQ_X8_takesWord_r1006 a0 b0) := by
  intro a hv hf hi0 hi1 hnt hi3 hi4
  refine jt_eq (bq_X8_takesWord_r1006_56 E d a b0) ?_
  have h467_ := iv_get hv (k := 2) (j := 1) (l := 0) (u := 200) rfl
  have h468_ : a 2 1 = a0 2 1 := hf 2 1 rfl
  have h469_ := iv_get hv0 (k := 2) (j := 1) (l := 0) (u := 200) rfl
  have h470_ := iv_get hv (k := 2) (j := 2) (l := 0) (u := 200) rfl
  have h471_ := iv_get hv0 (k := 2) (j := 2) (l := 0) (u := 200) rfl
  have h3 : a 3 = a0 3 := funext fun j => hf 3 j rfl
  have h21 := hf 2 1 rfl
  exact jt_rI ⟨hv, hf, rfl, (show (0 ≤ 0 ∧ 0 ≤ 1) from by omega), (show ((¬ a0 2 3 = 0 ∨ a0 2 1 ≤ a0 2 2) → 0 = 0) from by omega), (show (0 = 0 → a 2 2 = a0 2 2) from by omega), (by first | exact (fun h => absurd h (by decide)) | exact (fun _ => ⟨by omega, htw, by have h := hq0_1; rw [show (a0 2 2).toNat + wdn 8 = y2.toNat from (by show _ + 3 = _; omega), ← h3, ← h21]; exact h⟩)), (by first | exact (fun h => absurd h (by decide)) | exact (fun _ => Or.inr hnt) | exact (fun _ => Or.inl (by omega)) | exact (fun _ => Or.inr (TW_short (show _ < _ + 3 by omega))) | exact (fun _ => Or.inr (TW_let (q := y2.toNat) (show y2.toNat = (a0 2 2).toNat + 3 by omega) ⟨by omega, h97, by rw [← h3]; omega⟩)))⟩
theorem cp_X8_takesWord_r1006_96 (E : jxE) (d : Nat) (hd : Nat.ble 5 (d + 1) = true) (a0 b0 : Nat → Nat → Int) (hv0 : iv a0) : ∀ (y2 : Int) (a : Nat → Nat → Int), iv a → jfr jW_X8_takesWord_r1006 a0 a → 3 ≤ y2 → y2 ≤ 200 → 3 ≤ a 2 1 → a 2 2 = a0 2 2 → (TW (a0 3) (a0 2 1).toNat (a0 2 2).toNat 8) → y2 = (a 2 2) + 3 → y2 ≤ a 2 1 → y2 ≤ 200 → a0 2 3 = 0 → a0 2 2 < a0 2 1 → jt (jxX E d 128 96 [some (.inr (.inr (.inl 2))), none, some (.inl y2), none] [] (jxSH, a, b0)) (jQ_X8_takesWord_r1006 a0 b0) := by
  intro y2 a hv hf hi0 hi1 hi2 hi3 htw hi5 hi6 hi7 hi8 hi9
  refine jt_eq (bq_X8_takesWord_r1006_96 E d y2 a b0) ?_
  have h472_ := iv_get hv (k := 2) (j := 1) (l := 0) (u := 200) rfl
  have h473_ : a 2 1 = a0 2 1 := hf 2 1 rfl
  have h474_ := iv_get hv0 (k := 2) (j := 1) (l := 0) (u := 200) rfl
  have h475_ := iv_get hv (k := 2) (j := 2) (l := 0) (u := 200) rfl
  have h476_ := iv_get hv0 (k := 2) (j := 2) (l := 0) (u := 200) rfl
  have h3 : a 3 = a0 3 := funext fun j => hf 3 j rfl
  have h21 := hf 2 1 rfl
  have hv477_ : iv (jxu a 2 2 y2) := iv_put hv (l := 0) (u := 200) rfl (by omega) (by omega)
  refine jt_bV (sp_X8_skipBlanks E d (jd_le hd rfl) (jxu a 2 2 y2) b0 hv477_) (fun a478_ b478_ h478_ => ?_)
  obtain ⟨hv478_, hf478_, rfl, hq478_0, hq478_1⟩ := h478_
  have h479_ := iv_get hv478_ (k := 2) (j := 2) (l := 0) (u := 200) rfl
  have h480_ : (a 2 1 ≤ y2 → a478_ 2 2 = y2) := hq478_0
  have hf481_ : jfr jW_X8_takesWord_r1006 a0 (jxu a 2 2 y2) := jfr_put hf rfl
  have hf482_ : jfr jW_X8_takesWord_r1006 a0 a478_ := jfr_tr hf481_ hf478_ rfl
  exact jt_rI ⟨hv478_, hf482_, rfl, (show (0 ≤ 1 ∧ 1 ≤ 1) from by omega), (show ((¬ a0 2 3 = 0 ∨ a0 2 1 ≤ a0 2 2) → 1 = 0) from by omega), (show (1 = 0 → a478_ 2 2 = a0 2 2) from by omega), (by first | exact (fun h => absurd h (by decide)) | exact (fun _ => ⟨by omega, htw, by have h := hq478_1; rw [show (a0 2 2).toNat + wdn 8 = y2.toNat from (by show _ + 3 = _; omega), ← h3, ← h21]; exact h⟩)), (by first | exact (fun h => absurd h (by decide)) | exact (fun _ => Or.inr hnt) | exact (fun _ => Or.inl (by omega)) | exact (fun _ => Or.inr (TW_short (show _ < _ + 3 by omega))) | exact (fun _ => Or.inr (TW_let (q := y2.toNat) (show y2.toNat = (a0 2 2).toNat + 3 by omega) ⟨by omega, h97, by rw [← h3]; omega⟩)))⟩
theorem cp_X8_takesWord_r1006_83 (E : jxE) (d : Nat) (hd : Nat.ble 5 (d + 1) = true) (a0 b0 : Nat → Nat → Int) (hv0 : iv a0) : ∀ (y2 : Int) (a : Nat → Nat → Int), iv a → jfr jW_X8_takesWord_r1006 a0 a → 3 ≤ y2 → y2 ≤ 199 → 4 ≤ a 2 1 → a 2 2 = a0 2 2 → (∀ k : Nat, (k : Int) < (wdn 8 : Int) → (a0 3) ((a0 2 2).toNat + k) = (wdl 8).getD k 0) → (97 ≤ a0 3 y2.toNat) → y2 = (a 2 2) + 3 → y2 ≤ a 2 1 → y2 ≤ 200 → a0 2 3 = 0 → a0 2 2 < a0 2 1 → jt (jxX E d 128 83 [some (.inr (.inr (.inl 2))), none, some (.inl y2), none] [] (jxSH, a, b0)) (jQ_X8_takesWord_r1006 a0 b0) := by
  intro y2 a hv hf hi0 hi1 hi2 hi3 hall h97 hi6 hi7 hi8 hi9 hi10
  refine jt_eq (bq_X8_takesWord_r1006_83 E d y2 a b0) ?_
  have h483_ := iv_get hv (k := 2) (j := 1) (l := 0) (u := 200) rfl
  have h484_ : a 2 1 = a0 2 1 := hf 2 1 rfl
  have h485_ := iv_get hv0 (k := 2) (j := 1) (l := 0) (u := 200) rfl
  have h486_ := iv_get hv (k := 2) (j := 2) (l := 0) (u := 200) rfl
  have h487_ := iv_get hv0 (k := 2) (j := 2) (l := 0) (u := 200) rfl
  have h3 : a 3 = a0 3 := funext fun j => hf 3 j rfl
  have h21 := hf 2 1 rfl
  refine jt_grd (by omega) ?_
  have h488_ := iv_get hv (k := 3) (j := y2.toNat) (l := 0) (u := 255) rfl
  have h489_ : a 3 (y2.toNat) = a0 3 (y2.toNat) := hf 3 (y2.toNat) rfl
  have h490_ := iv_get hv0 (k := 3) (j := y2.toNat) (l := 0) (u := 255) rfl
  refine jt_ite (fun c491_ => ?_) (fun c491_ => ?_)
  ·
    exact cp_X8_takesWord_r1006_96 E d hd a0 b0 hv0 y2 a hv hf (show 3 ≤ y2 from by omega) (show y2 ≤ 200 from by omega) (show 3 ≤ a 2 1 from by omega) (show a 2 2 = a0 2 2 from by omega) (TW_mk (q := y2.toNat) (show y2.toNat = (a0 2 2).toNat + 3 by omega) (by omega) (by first | exact hall | exact (fun k hk => hch k (by have hw : ((wdn 8 : Nat) : Int) = 3 := rfl; omega))) (LT_no1 (by rw [← h3]; omega))) (show y2 = (a 2 2) + 3 from by omega) (show y2 ≤ a 2 1 from by omega) (show y2 ≤ 200 from by omega) (show a0 2 3 = 0 from by omega) (show a0 2 2 < a0 2 1 from by omega)
  ·
    exact jt_rI ⟨hv, hf, rfl, (show (0 ≤ 0 ∧ 0 ≤ 1) from by omega), (show ((¬ a0 2 3 = 0 ∨ a0 2 1 ≤ a0 2 2) → 0 = 0) from by omega), (show (0 = 0 → a 2 2 = a0 2 2) from by omega), (by first | exact (fun h => absurd h (by decide)) | exact (fun _ => ⟨by omega, htw, by have h := hq0_1; rw [show (a0 2 2).toNat + wdn 8 = y2.toNat from (by show _ + 3 = _; omega), ← h3, ← h21]; exact h⟩)), (by first | exact (fun h => absurd h (by decide)) | exact (fun _ => Or.inr hnt) | exact (fun _ => Or.inl (by omega)) | exact (fun _ => Or.inr (TW_short (show _ < _ + 3 by omega))) | exact (fun _ => Or.inr (TW_let (q := y2.toNat) (show y2.toNat = (a0 2 2).toNat + 3 by omega) ⟨by omega, h97, by rw [← h3]; omega⟩)))⟩
theorem cp_X8_takesWord_r1006_29 (E : jxE) (d : Nat) (hd : Nat.ble 5 (d + 1) = true) (a0 b0 : Nat → Nat → Int) (hv0 : iv a0) : ∀ n : Nat, (∀ (y2 y3 : Int) (a : Nat → Nat → Int), (((3 - y3) * 1) + 0).toNat ≤ n → iv a → jfr jW_X8_takesWord_r1006 a0 a → 3 ≤ y2 → y2 ≤ 200 → 0 ≤ y3 → y3 ≤ 2 → 3 ≤ a 2 1 → y3 < 3 → 0 ≤ y3 → a 2 2 = a0 2 2 → (∀ k : Nat, (k : Int) < y3 + 1 → (a0 3) ((a0 2 2).toNat + k) = (wdl 8).getD k 0) → y2 = (a 2 2) + 3 → y2 ≤ a 2 1 → y2 ≤ 200 → a0 2 3 = 0 → a0 2 2 < a0 2 1 → jt (jxX E d 128 58 [some (.inr (.inr (.inl 2))), some (.inr (.inr (.inl 1006))), some (.inl y2), some (.inl y3)] [] (jxSH, a, b0)) (jQ_X8_takesWord_r1006 a0 b0)) ∧ (∀ (y2 y3 : Int) (a : Nat → Nat → Int), (((3 - y3) * 1) + 0).toNat ≤ n → iv a → jfr jW_X8_takesWord_r1006 a0 a → 3 ≤ y2 → y2 ≤ 200 → 0 ≤ y3 → y3 ≤ 3 → 3 ≤ a 2 1 → 0 ≤ y3 → a 2 2 = a0 2 2 → (∀ k : Nat, (k : Int) < y3 → (a0 3) ((a0 2 2).toNat + k) = (wdl 8).getD k 0) → y2 = (a 2 2) + 3 → y2 ≤ a 2 1 → y2 ≤ 200 → a0 2 3 = 0 → a0 2 2 < a0 2 1 → jt (jxX E d 128 29 [some (.inr (.inr (.inl 2))), some (.inr (.inr (.inl 1006))), some (.inl y2), some (.inl y3)] [] (jxSH, a, b0)) (jQ_X8_takesWord_r1006 a0 b0)) := by
  refine jx_ind fun n ih => ?_
  have ih58 : ∀ (y2 y3 : Int) (a : Nat → Nat → Int), (((3 - y3) * 1) + 0).toNat < n → iv a → jfr jW_X8_takesWord_r1006 a0 a → 3 ≤ y2 → y2 ≤ 200 → 0 ≤ y3 → y3 ≤ 2 → 3 ≤ a 2 1 → y3 < 3 → 0 ≤ y3 → a 2 2 = a0 2 2 → (∀ k : Nat, (k : Int) < y3 + 1 → (a0 3) ((a0 2 2).toNat + k) = (wdl 8).getD k 0) → y2 = (a 2 2) + 3 → y2 ≤ a 2 1 → y2 ≤ 200 → a0 2 3 = 0 → a0 2 2 < a0 2 1 → jt (jxX E d 128 58 [some (.inr (.inr (.inl 2))), some (.inr (.inr (.inl 1006))), some (.inl y2), some (.inl y3)] [] (jxSH, a, b0)) (jQ_X8_takesWord_r1006 a0 b0) := fun y2 y3 a hlt i0 i1 i2 i3 i4 i5 i6 i7 i8 i9 i10 i11 i12 i13 i14 i15 => (ih _ hlt).1 y2 y3 a (Nat.le_refl _) i0 i1 i2 i3 i4 i5 i6 i7 i8 i9 i10 i11 i12 i13 i14 i15
  have ih29 : ∀ (y2 y3 : Int) (a : Nat → Nat → Int), (((3 - y3) * 1) + 0).toNat < n → iv a → jfr jW_X8_takesWord_r1006 a0 a → 3 ≤ y2 → y2 ≤ 200 → 0 ≤ y3 → y3 ≤ 3 → 3 ≤ a 2 1 → 0 ≤ y3 → a 2 2 = a0 2 2 → (∀ k : Nat, (k : Int) < y3 → (a0 3) ((a0 2 2).toNat + k) = (wdl 8).getD k 0) → y2 = (a 2 2) + 3 → y2 ≤ a 2 1 → y2 ≤ 200 → a0 2 3 = 0 → a0 2 2 < a0 2 1 → jt (jxX E d 128 29 [some (.inr (.inr (.inl 2))), some (.inr (.inr (.inl 1006))), some (.inl y2), some (.inl y3)] [] (jxSH, a, b0)) (jQ_X8_takesWord_r1006 a0 b0) := fun y2 y3 a hlt i0 i1 i2 i3 i4 i5 i6 i7 i8 i9 i10 i11 i12 i13 i14 => (ih _ hlt).2 y2 y3 a (Nat.le_refl _) i0 i1 i2 i3 i4 i5 i6 i7 i8 i9 i10 i11 i12 i13 i14
  have hc58 : ∀ (y2 y3 : Int) (a : Nat → Nat → Int), (((3 - y3) * 1) + 0).toNat ≤ n → iv a → jfr jW_X8_takesWord_r1006 a0 a → 3 ≤ y2 → y2 ≤ 200 → 0 ≤ y3 → y3 ≤ 2 → 3 ≤ a 2 1 → y3 < 3 → 0 ≤ y3 → a 2 2 = a0 2 2 → (∀ k : Nat, (k : Int) < y3 + 1 → (a0 3) ((a0 2 2).toNat + k) = (wdl 8).getD k 0) → y2 = (a 2 2) + 3 → y2 ≤ a 2 1 → y2 ≤ 200 → a0 2 3 = 0 → a0 2 2 < a0 2 1 → jt (jxX E d 128 58 [some (.inr (.inr (.inl 2))), some (.inr (.inr (.inl 1006))), some (.inl y2), some (.inl y3)] [] (jxSH, a, b0)) (jQ_X8_takesWord_r1006 a0 b0) := by
    intro y2 y3 a hm hv hf hi0 hi1 hi2 hi3 hi4 hi5 hi6 hi7 hch hi9 hi10 hi11 hi12 hi13
    refine jt_eq (bq_X8_takesWord_r1006_58 E d y2 y3 a b0) ?_
    have h492_ := iv_get hv (k := 2) (j := 1) (l := 0) (u := 200) rfl
    have h493_ : a 2 1 = a0 2 1 := hf 2 1 rfl
    have h494_ := iv_get hv0 (k := 2) (j := 1) (l := 0) (u := 200) rfl
    have h495_ := iv_get hv (k := 2) (j := 2) (l := 0) (u := 200) rfl
    have h496_ := iv_get hv0 (k := 2) (j := 2) (l := 0) (u := 200) rfl
    have h3 : a 3 = a0 3 := funext fun j => hf 3 j rfl
    have h21 := hf 2 1 rfl
    have h497_ : jxw (y3 + 1) = y3 + 1 := jxw_id (by omega) (by omega)
    exact ih29 y2 (jxw (y3 + 1)) a (show (((3 - (jxw (y3 + 1))) * 1) + 0).toNat < n from by omega) hv hf (show 3 ≤ y2 from by omega) (show y2 ≤ 200 from by omega) (show 0 ≤ jxw (y3 + 1) from by omega) (show jxw (y3 + 1) ≤ 3 from by omega) (show 3 ≤ a 2 1 from by omega) (show 0 ≤ jxw (y3 + 1) from by omega) (show a 2 2 = a0 2 2 from by omega) (by first | exact (fun k hk => absurd hk (by omega)) | (rw [show jxw (y3 + 1) = y3 + 1 from by omega]; exact hch)) (show y2 = (a 2 2) + 3 from by omega) (show y2 ≤ a 2 1 from by omega) (show y2 ≤ 200 from by omega) (show a0 2 3 = 0 from by omega) (show a0 2 2 < a0 2 1 from by omega)
  have hc29 : ∀ (y2 y3 : Int) (a : Nat → Nat → Int), (((3 - y3) * 1) + 0).toNat ≤ n → iv a → jfr jW_X8_takesWord_r1006 a0 a → 3 ≤ y2 → y2 ≤ 200 → 0 ≤ y3 → y3 ≤ 3 → 3 ≤ a 2 1 → 0 ≤ y3 → a 2 2 = a0 2 2 → (∀ k : Nat, (k : Int) < y3 → (a0 3) ((a0 2 2).toNat + k) = (wdl 8).getD k 0) → y2 = (a 2 2) + 3 → y2 ≤ a 2 1 → y2 ≤ 200 → a0 2 3 = 0 → a0 2 2 < a0 2 1 → jt (jxX E d 128 29 [some (.inr (.inr (.inl 2))), some (.inr (.inr (.inl 1006))), some (.inl y2), some (.inl y3)] [] (jxSH, a, b0)) (jQ_X8_takesWord_r1006 a0 b0) := by
    intro y2 y3 a hm hv hf hi0 hi1 hi2 hi3 hi4 hi5 hi6 hch hi8 hi9 hi10 hi11 hi12
    refine jt_eq (bq_X8_takesWord_r1006_29 E d y2 y3 a b0) ?_
    have h498_ := iv_get hv (k := 2) (j := 1) (l := 0) (u := 200) rfl
    have h499_ : a 2 1 = a0 2 1 := hf 2 1 rfl
    have h500_ := iv_get hv0 (k := 2) (j := 1) (l := 0) (u := 200) rfl
    have h501_ := iv_get hv (k := 2) (j := 2) (l := 0) (u := 200) rfl
    have h502_ := iv_get hv0 (k := 2) (j := 2) (l := 0) (u := 200) rfl
    have h3 : a 3 = a0 3 := funext fun j => hf 3 j rfl
    have h21 := hf 2 1 rfl
    refine jt_eI (eq_J0_length_8abf5_r1006 E d (jd_le hd rfl) a b0) ?_
    have h503_ := ff_J0_length_8abf5_r1006 a b0
    refine jt_ite (fun c504_ => ?_) (fun c504_ => ?_)
    ·
      have h505_ : jxw ((a 2 2) + y3) = (a 2 2) + y3 := jxw_id (by omega) (by omega)
      refine jt_grd (by omega) ?_
      refine jt_eI (eq_J0_charAt_5068e_r1006 E d (jd_le hd rfl) y3 a b0 (show (0 ≤ y3 ∧ y3 < 3) from by omega)) ?_
      have h506_ := iv_get hv (k := 3) (j := (jxw ((a 2 2) + y3)).toNat) (l := 0) (u := 255) rfl
      have h507_ : a 3 ((jxw ((a 2 2) + y3)).toNat) = a0 3 ((jxw ((a 2 2) + y3)).toNat) := hf 3 ((jxw ((a 2 2) + y3)).toNat) rfl
      have h508_ := iv_get hv0 (k := 3) (j := (jxw ((a 2 2) + y3)).toNat) (l := 0) (u := 255) rfl
      have h509_ := f_J0_charAt_5068e_r1006_eq a b0 y3
      have h510_ := f_J0_isLatin1_aae02_r1006_eq a b0
      have h511_ := f_J1_charAt_3b067_r2006_eq a b0 y3
      have h512_ := jxand_r (([111, 108, 100] : List Int).getD (y3.toNat) 0) 255 (by decide) (by decide)
      have h513_ := jxi2c_b (jxand (([111, 108, 100] : List Int).getD (y3.toNat) 0) 255)
      refine jt_ite (fun c514_ => ?_) (fun c514_ => ?_)
      ·
        exact hc58 y2 y3 a (show (((3 - y3) * 1) + 0).toNat ≤ n from by omega) hv hf (show 3 ≤ y2 from by omega) (show y2 ≤ 200 from by omega) (show 0 ≤ y3 from by omega) (show y3 ≤ 2 from by omega) (show 3 ≤ a 2 1 from by omega) (show y3 < 3 from by omega) (show 0 ≤ y3 from by omega) (show a 2 2 = a0 2 2 from by omega) (ch_ext hch (by omega) (q := (jxw ((a 2 2) + y3)).toNat) (by omega) (v := f_J0_charAt_5068e_r1006 a b0 y3) (by rw [← h3]; assumption) (cw_1006 a b0 y3 (by omega) (by omega))) (show y2 = (a 2 2) + 3 from by omega) (show y2 ≤ a 2 1 from by omega) (show y2 ≤ 200 from by omega) (show a0 2 3 = 0 from by omega) (show a0 2 2 < a0 2 1 from by omega)
      ·
        exact cp_X8_takesWord_r1006_56 E d hd a0 b0 hv0 a hv hf (show 3 ≤ a 2 1 from by omega) (show a 2 2 = a0 2 2 from by omega) (TW_no (y := y3) (by omega) (show y3 < 3 by omega) (q := (jxw ((a 2 2) + y3)).toNat) (by omega) (v := f_J0_charAt_5068e_r1006 a b0 y3) (cw_1006 a b0 y3 (by omega) (by omega)) (by rw [← h3]; assumption)) (show a0 2 3 = 0 from by omega) (show a0 2 2 < a0 2 1 from by omega)
    ·
      refine jt_ite (fun c515_ => ?_) (fun c515_ => ?_)
      ·
        refine jt_grd (by omega) ?_
        have h516_ := iv_get hv (k := 3) (j := y2.toNat) (l := 0) (u := 255) rfl
        have h517_ : a 3 (y2.toNat) = a0 3 (y2.toNat) := hf 3 (y2.toNat) rfl
        have h518_ := iv_get hv0 (k := 3) (j := y2.toNat) (l := 0) (u := 255) rfl
        refine jt_ite (fun c519_ => ?_) (fun c519_ => ?_)
        ·
          exact cp_X8_takesWord_r1006_96 E d hd a0 b0 hv0 y2 a hv hf (show 3 ≤ y2 from by omega) (show y2 ≤ 200 from by omega) (show 3 ≤ a 2 1 from by omega) (show a 2 2 = a0 2 2 from by omega) (TW_mk (q := y2.toNat) (show y2.toNat = (a0 2 2).toNat + 3 by omega) (by omega) (by first | exact hall | exact (fun k hk => hch k (by have hw : ((wdn 8 : Nat) : Int) = 3 := rfl; omega))) (LT_no1 (by rw [← h3]; omega))) (show y2 = (a 2 2) + 3 from by omega) (show y2 ≤ a 2 1 from by omega) (show y2 ≤ 200 from by omega) (show a0 2 3 = 0 from by omega) (show a0 2 2 < a0 2 1 from by omega)
        ·
          exact cp_X8_takesWord_r1006_83 E d hd a0 b0 hv0 y2 a hv hf (show 3 ≤ y2 from by omega) (show y2 ≤ 199 from by omega) (show 4 ≤ a 2 1 from by omega) (show a 2 2 = a0 2 2 from by omega) (fun k hk => hch k (by have hw : ((wdn 8 : Nat) : Int) = 3 := rfl; omega)) (by rw [← h3]; omega) (show y2 = (a 2 2) + 3 from by omega) (show y2 ≤ a 2 1 from by omega) (show y2 ≤ 200 from by omega) (show a0 2 3 = 0 from by omega) (show a0 2 2 < a0 2 1 from by omega)
      ·
        exact cp_X8_takesWord_r1006_96 E d hd a0 b0 hv0 y2 a hv hf (show 3 ≤ y2 from by omega) (show y2 ≤ 200 from by omega) (show 3 ≤ a 2 1 from by omega) (show a 2 2 = a0 2 2 from by omega) (TW_mk (q := y2.toNat) (show y2.toNat = (a0 2 2).toNat + 3 by omega) (by omega) (by first | exact hall | exact (fun k hk => hch k (by have hw : ((wdn 8 : Nat) : Int) = 3 := rfl; omega))) (LT_no1 (by rw [← h3]; omega))) (show y2 = (a 2 2) + 3 from by omega) (show y2 ≤ a 2 1 from by omega) (show y2 ≤ 200 from by omega) (show a0 2 3 = 0 from by omega) (show a0 2 2 < a0 2 1 from by omega)
  exact ⟨hc58, hc29⟩
theorem sp_X8_takesWord_r1006 (E : jxE) (d : Nat) (hd : Nat.ble 5 d = true) (a0 b0 : Nat → Nat → Int) (hv0 : iv a0) : jt (jxC E d 128 [.inr (.inr (.inl 2)), .inr (.inr (.inl 1006))] (jxSH, a0, b0)) (jQ_X8_takesWord_r1006 a0 b0) := by
  obtain ⟨d, rfl⟩ := jd_succ hd
  refine jt_eq (bq_X8_takesWord_r1006 E d a0 b0) ?_
  refine jt_eI (eq_J0_length_8abf5_r1006 E d (jd_le hd rfl) a0 b0) ?_
  refine jt_eI (eq_X8_isFaulty E d (jd_le hd rfl) a0 b0) ?_
  have h520_ := f_X8_isFaulty_eq a0 b0
  refine jt_ite (fun c521_ => ?_) (fun c521_ => ?_)
  ·
    have h522_ := iv_get hv0 (k := 2) (j := 1) (l := 0) (u := 200) rfl
    have h523_ := iv_get hv0 (k := 2) (j := 2) (l := 0) (u := 200) rfl
    have h524_ := ff_J0_length_8abf5_r1006 a0 b0
    have h525_ : jxw ((a0 2 2) + (f_J0_length_8abf5_r1006 a0 b0)) = (a0 2 2) + (f_J0_length_8abf5_r1006 a0 b0) := jxw_id (by omega) (by omega)
    refine jt_ite (fun c526_ => ?_) (fun c526_ => ?_)
    ·
      exact jt_rI ⟨hv0, (jfr_rf _ _), rfl, (show (0 ≤ 0 ∧ 0 ≤ 1) from by omega), (show ((¬ a0 2 3 = 0 ∨ a0 2 1 ≤ a0 2 2) → 0 = 0) from by omega), (show (0 = 0 → a0 2 2 = a0 2 2) from by omega), (by first | exact (fun h => absurd h (by decide)) | exact (fun _ => ⟨by omega, htw, by have h := hq0_1; rw [show (a0 2 2).toNat + wdn 8 = y2.toNat from (by show _ + 3 = _; omega), ← h3, ← h21]; exact h⟩)), (by first | exact (fun h => absurd h (by decide)) | exact (fun _ => Or.inr hnt) | exact (fun _ => Or.inl (by omega)) | exact (fun _ => Or.inr (TW_short (show _ < _ + 3 by omega))) | exact (fun _ => Or.inr (TW_let (q := y2.toNat) (show y2.toNat = (a0 2 2).toNat + 3 by omega) ⟨by omega, h97, by rw [← h3]; omega⟩)))⟩
    ·
      exact (cp_X8_takesWord_r1006_29 E d hd a0 b0 hv0 _).2 (jxw ((a0 2 2) + (f_J0_length_8abf5_r1006 a0 b0))) 0 a0 (Nat.le_refl _) hv0 (jfr_rf _ _) (show 3 ≤ jxw ((a0 2 2) + (f_J0_length_8abf5_r1006 a0 b0)) from by omega) (show jxw ((a0 2 2) + (f_J0_length_8abf5_r1006 a0 b0)) ≤ 200 from by omega) (show 0 ≤ 0 from by omega) (show 0 ≤ 3 from by omega) (show 3 ≤ a0 2 1 from by omega) (show 0 ≤ 0 from by omega) (show a0 2 2 = a0 2 2 from by omega) (by first | exact (fun k hk => absurd hk (by omega)) | (rw [show jxw (y3 + 1) = y3 + 1 from by omega]; exact hch)) (show jxw ((a0 2 2) + (f_J0_length_8abf5_r1006 a0 b0)) = (a0 2 2) + 3 from by omega) (show jxw ((a0 2 2) + (f_J0_length_8abf5_r1006 a0 b0)) ≤ a0 2 1 from by omega) (show jxw ((a0 2 2) + (f_J0_length_8abf5_r1006 a0 b0)) ≤ 200 from by omega) (show a0 2 3 = 0 from by omega) (show a0 2 2 < a0 2 1 from by omega)
  ·
    have h527_ := iv_get hv0 (k := 2) (j := 1) (l := 0) (u := 200) rfl
    have h528_ := iv_get hv0 (k := 2) (j := 2) (l := 0) (u := 200) rfl
    exact jt_rI ⟨hv0, (jfr_rf _ _), rfl, (show (0 ≤ 0 ∧ 0 ≤ 1) from by omega), (show ((¬ a0 2 3 = 0 ∨ a0 2 1 ≤ a0 2 2) → 0 = 0) from by omega), (show (0 = 0 → a0 2 2 = a0 2 2) from by omega), (by first | exact (fun h => absurd h (by decide)) | exact (fun _ => ⟨by omega, htw, by have h := hq0_1; rw [show (a0 2 2).toNat + wdn 8 = y2.toNat from (by show _ + 3 = _; omega), ← h3, ← h21]; exact h⟩)), (by first | exact (fun h => absurd h (by decide)) | exact (fun _ => Or.inr hnt) | exact (fun _ => Or.inl (by omega)) | exact (fun _ => Or.inr (TW_short (show _ < _ + 3 by omega))) | exact (fun _ => Or.inr (TW_let (q := y2.toNat) (show y2.toNat = (a0 2 2).toNat + 3 by omega) ⟨by omega, h97, by rw [← h3]; omega⟩)))⟩
def jW_X8_takesWord_r1007 : List (Nat × Nat) := [(2, 2)]
abbrev jQ_X8_takesWord_r1007 (a0 b0 : Nat → Nat → Int) : List jxV → (Nat → Nat → Int) → (Nat → Nat → Int) → Prop := rI (fun r a b => (iv a) ∧ (jfr jW_X8_takesWord_r1007 a0 a) ∧ (b0 = b) ∧ ((0 ≤ r ∧ r ≤ 1)) ∧ (((¬ a0 2 3 = 0 ∨ a0 2 1 ≤ a0 2 2) → r = 0)) ∧ ((r = 0 → a 2 2 = a0 2 2)) ∧ (r = 1 → a0 2 3 = 0 ∧ TW (a0 3) (a0 2 1).toNat (a0 2 2).toNat 9 ∧ a 2 2 = ((SK (a0 3) (a0 2 1).toNat ((a0 2 2).toNat + wdn 9) : Nat) : Int)) ∧ (r = 0 → ¬ a0 2 3 = 0 ∨ ¬ TW (a0 3) (a0 2 1).toNat (a0 2 2).toNat 9))
theorem cp_X8_takesWord_r1007_56 (E : jxE) (d : Nat) (hd : Nat.ble 5 (d + 1) = true) (a0 b0 : Nat → Nat → Int) (hv0 : iv a0) : ∀ (a : Nat → Nat → Int), iv a → jfr jW_X8_takesWord_r1007 a0 a → 3 ≤ a 2 1 → a 2 2 = a0 2 2 → (¬ TW (a0 3) (a0 2 1).toNat (a0 2 2).toNat 9) → a0 2 3 = 0 → a0 2 2 < a0 2 1 → jt (jxX E d 128 56 [none, none, none, none] [] (jxSH, a, b0)) (jQ_X8_takesWord_r1007 a0 b0) := by
  intro a hv hf hi0 hi1 hnt hi3 hi4
  refine jt_eq (bq_X8_takesWord_r1007_56 E d a b0) ?_
  have h529_ := iv_get hv (k := 2) (j := 1) (l := 0) (u := 200) rfl
  have h530_ : a 2 1 = a0 2 1 := hf 2 1 rfl
  have h531_ := iv_get hv0 (k := 2) (j := 1) (l := 0) (u := 200) rfl
  have h532_ := iv_get hv (k := 2) (j := 2) (l := 0) (u := 200) rfl
  have h533_ := iv_get hv0 (k := 2) (j := 2) (l := 0) (u := 200) rfl
  have h3 : a 3 = a0 3 := funext fun j => hf 3 j rfl
  have h21 := hf 2 1 rfl
  exact jt_rI ⟨hv, hf, rfl, (show (0 ≤ 0 ∧ 0 ≤ 1) from by omega), (show ((¬ a0 2 3 = 0 ∨ a0 2 1 ≤ a0 2 2) → 0 = 0) from by omega), (show (0 = 0 → a 2 2 = a0 2 2) from by omega), (by first | exact (fun h => absurd h (by decide)) | exact (fun _ => ⟨by omega, htw, by have h := hq0_1; rw [show (a0 2 2).toNat + wdn 9 = y2.toNat from (by show _ + 3 = _; omega), ← h3, ← h21]; exact h⟩)), (by first | exact (fun h => absurd h (by decide)) | exact (fun _ => Or.inr hnt) | exact (fun _ => Or.inl (by omega)) | exact (fun _ => Or.inr (TW_short (show _ < _ + 3 by omega))) | exact (fun _ => Or.inr (TW_let (q := y2.toNat) (show y2.toNat = (a0 2 2).toNat + 3 by omega) ⟨by omega, h97, by rw [← h3]; omega⟩)))⟩
theorem cp_X8_takesWord_r1007_96 (E : jxE) (d : Nat) (hd : Nat.ble 5 (d + 1) = true) (a0 b0 : Nat → Nat → Int) (hv0 : iv a0) : ∀ (y2 : Int) (a : Nat → Nat → Int), iv a → jfr jW_X8_takesWord_r1007 a0 a → 3 ≤ y2 → y2 ≤ 200 → 3 ≤ a 2 1 → a 2 2 = a0 2 2 → (TW (a0 3) (a0 2 1).toNat (a0 2 2).toNat 9) → y2 = (a 2 2) + 3 → y2 ≤ a 2 1 → y2 ≤ 200 → a0 2 3 = 0 → a0 2 2 < a0 2 1 → jt (jxX E d 128 96 [some (.inr (.inr (.inl 2))), none, some (.inl y2), none] [] (jxSH, a, b0)) (jQ_X8_takesWord_r1007 a0 b0) := by
  intro y2 a hv hf hi0 hi1 hi2 hi3 htw hi5 hi6 hi7 hi8 hi9
  refine jt_eq (bq_X8_takesWord_r1007_96 E d y2 a b0) ?_
  have h534_ := iv_get hv (k := 2) (j := 1) (l := 0) (u := 200) rfl
  have h535_ : a 2 1 = a0 2 1 := hf 2 1 rfl
  have h536_ := iv_get hv0 (k := 2) (j := 1) (l := 0) (u := 200) rfl
  have h537_ := iv_get hv (k := 2) (j := 2) (l := 0) (u := 200) rfl
  have h538_ := iv_get hv0 (k := 2) (j := 2) (l := 0) (u := 200) rfl
  have h3 : a 3 = a0 3 := funext fun j => hf 3 j rfl
  have h21 := hf 2 1 rfl
  have hv539_ : iv (jxu a 2 2 y2) := iv_put hv (l := 0) (u := 200) rfl (by omega) (by omega)
  refine jt_bV (sp_X8_skipBlanks E d (jd_le hd rfl) (jxu a 2 2 y2) b0 hv539_) (fun a540_ b540_ h540_ => ?_)
  obtain ⟨hv540_, hf540_, rfl, hq540_0, hq540_1⟩ := h540_
  have h541_ := iv_get hv540_ (k := 2) (j := 2) (l := 0) (u := 200) rfl
  have h542_ : (a 2 1 ≤ y2 → a540_ 2 2 = y2) := hq540_0
  have hf543_ : jfr jW_X8_takesWord_r1007 a0 (jxu a 2 2 y2) := jfr_put hf rfl
  have hf544_ : jfr jW_X8_takesWord_r1007 a0 a540_ := jfr_tr hf543_ hf540_ rfl
  exact jt_rI ⟨hv540_, hf544_, rfl, (show (0 ≤ 1 ∧ 1 ≤ 1) from by omega), (show ((¬ a0 2 3 = 0 ∨ a0 2 1 ≤ a0 2 2) → 1 = 0) from by omega), (show (1 = 0 → a540_ 2 2 = a0 2 2) from by omega), (by first | exact (fun h => absurd h (by decide)) | exact (fun _ => ⟨by omega, htw, by have h := hq540_1; rw [show (a0 2 2).toNat + wdn 9 = y2.toNat from (by show _ + 3 = _; omega), ← h3, ← h21]; exact h⟩)), (by first | exact (fun h => absurd h (by decide)) | exact (fun _ => Or.inr hnt) | exact (fun _ => Or.inl (by omega)) | exact (fun _ => Or.inr (TW_short (show _ < _ + 3 by omega))) | exact (fun _ => Or.inr (TW_let (q := y2.toNat) (show y2.toNat = (a0 2 2).toNat + 3 by omega) ⟨by omega, h97, by rw [← h3]; omega⟩)))⟩
theorem cp_X8_takesWord_r1007_83 (E : jxE) (d : Nat) (hd : Nat.ble 5 (d + 1) = true) (a0 b0 : Nat → Nat → Int) (hv0 : iv a0) : ∀ (y2 : Int) (a : Nat → Nat → Int), iv a → jfr jW_X8_takesWord_r1007 a0 a → 3 ≤ y2 → y2 ≤ 199 → 4 ≤ a 2 1 → a 2 2 = a0 2 2 → (∀ k : Nat, (k : Int) < (wdn 9 : Int) → (a0 3) ((a0 2 2).toNat + k) = (wdl 9).getD k 0) → (97 ≤ a0 3 y2.toNat) → y2 = (a 2 2) + 3 → y2 ≤ a 2 1 → y2 ≤ 200 → a0 2 3 = 0 → a0 2 2 < a0 2 1 → jt (jxX E d 128 83 [some (.inr (.inr (.inl 2))), none, some (.inl y2), none] [] (jxSH, a, b0)) (jQ_X8_takesWord_r1007 a0 b0) := by
  intro y2 a hv hf hi0 hi1 hi2 hi3 hall h97 hi6 hi7 hi8 hi9 hi10
  refine jt_eq (bq_X8_takesWord_r1007_83 E d y2 a b0) ?_
  have h545_ := iv_get hv (k := 2) (j := 1) (l := 0) (u := 200) rfl
  have h546_ : a 2 1 = a0 2 1 := hf 2 1 rfl
  have h547_ := iv_get hv0 (k := 2) (j := 1) (l := 0) (u := 200) rfl
  have h548_ := iv_get hv (k := 2) (j := 2) (l := 0) (u := 200) rfl
  have h549_ := iv_get hv0 (k := 2) (j := 2) (l := 0) (u := 200) rfl
  have h3 : a 3 = a0 3 := funext fun j => hf 3 j rfl
  have h21 := hf 2 1 rfl
  refine jt_grd (by omega) ?_
  have h550_ := iv_get hv (k := 3) (j := y2.toNat) (l := 0) (u := 255) rfl
  have h551_ : a 3 (y2.toNat) = a0 3 (y2.toNat) := hf 3 (y2.toNat) rfl
  have h552_ := iv_get hv0 (k := 3) (j := y2.toNat) (l := 0) (u := 255) rfl
  refine jt_ite (fun c553_ => ?_) (fun c553_ => ?_)
  ·
    exact cp_X8_takesWord_r1007_96 E d hd a0 b0 hv0 y2 a hv hf (show 3 ≤ y2 from by omega) (show y2 ≤ 200 from by omega) (show 3 ≤ a 2 1 from by omega) (show a 2 2 = a0 2 2 from by omega) (TW_mk (q := y2.toNat) (show y2.toNat = (a0 2 2).toNat + 3 by omega) (by omega) (by first | exact hall | exact (fun k hk => hch k (by have hw : ((wdn 9 : Nat) : Int) = 3 := rfl; omega))) (LT_no1 (by rw [← h3]; omega))) (show y2 = (a 2 2) + 3 from by omega) (show y2 ≤ a 2 1 from by omega) (show y2 ≤ 200 from by omega) (show a0 2 3 = 0 from by omega) (show a0 2 2 < a0 2 1 from by omega)
  ·
    exact jt_rI ⟨hv, hf, rfl, (show (0 ≤ 0 ∧ 0 ≤ 1) from by omega), (show ((¬ a0 2 3 = 0 ∨ a0 2 1 ≤ a0 2 2) → 0 = 0) from by omega), (show (0 = 0 → a 2 2 = a0 2 2) from by omega), (by first | exact (fun h => absurd h (by decide)) | exact (fun _ => ⟨by omega, htw, by have h := hq0_1; rw [show (a0 2 2).toNat + wdn 9 = y2.toNat from (by show _ + 3 = _; omega), ← h3, ← h21]; exact h⟩)), (by first | exact (fun h => absurd h (by decide)) | exact (fun _ => Or.inr hnt) | exact (fun _ => Or.inl (by omega)) | exact (fun _ => Or.inr (TW_short (show _ < _ + 3 by omega))) | exact (fun _ => Or.inr (TW_let (q := y2.toNat) (show y2.toNat = (a0 2 2).toNat + 3 by omega) ⟨by omega, h97, by rw [← h3]; omega⟩)))⟩
theorem cp_X8_takesWord_r1007_29 (E : jxE) (d : Nat) (hd : Nat.ble 5 (d + 1) = true) (a0 b0 : Nat → Nat → Int) (hv0 : iv a0) : ∀ n : Nat, (∀ (y2 y3 : Int) (a : Nat → Nat → Int), (((3 - y3) * 1) + 0).toNat ≤ n → iv a → jfr jW_X8_takesWord_r1007 a0 a → 3 ≤ y2 → y2 ≤ 200 → 0 ≤ y3 → y3 ≤ 2 → 3 ≤ a 2 1 → y3 < 3 → 0 ≤ y3 → a 2 2 = a0 2 2 → (∀ k : Nat, (k : Int) < y3 + 1 → (a0 3) ((a0 2 2).toNat + k) = (wdl 9).getD k 0) → y2 = (a 2 2) + 3 → y2 ≤ a 2 1 → y2 ≤ 200 → a0 2 3 = 0 → a0 2 2 < a0 2 1 → jt (jxX E d 128 58 [some (.inr (.inr (.inl 2))), some (.inr (.inr (.inl 1007))), some (.inl y2), some (.inl y3)] [] (jxSH, a, b0)) (jQ_X8_takesWord_r1007 a0 b0)) ∧ (∀ (y2 y3 : Int) (a : Nat → Nat → Int), (((3 - y3) * 1) + 0).toNat ≤ n → iv a → jfr jW_X8_takesWord_r1007 a0 a → 3 ≤ y2 → y2 ≤ 200 → 0 ≤ y3 → y3 ≤ 3 → 3 ≤ a 2 1 → 0 ≤ y3 → a 2 2 = a0 2 2 → (∀ k : Nat, (k : Int) < y3 → (a0 3) ((a0 2 2).toNat + k) = (wdl 9).getD k 0) → y2 = (a 2 2) + 3 → y2 ≤ a 2 1 → y2 ≤ 200 → a0 2 3 = 0 → a0 2 2 < a0 2 1 → jt (jxX E d 128 29 [some (.inr (.inr (.inl 2))), some (.inr (.inr (.inl 1007))), some (.inl y2), some (.inl y3)] [] (jxSH, a, b0)) (jQ_X8_takesWord_r1007 a0 b0)) := by
  refine jx_ind fun n ih => ?_
  have ih58 : ∀ (y2 y3 : Int) (a : Nat → Nat → Int), (((3 - y3) * 1) + 0).toNat < n → iv a → jfr jW_X8_takesWord_r1007 a0 a → 3 ≤ y2 → y2 ≤ 200 → 0 ≤ y3 → y3 ≤ 2 → 3 ≤ a 2 1 → y3 < 3 → 0 ≤ y3 → a 2 2 = a0 2 2 → (∀ k : Nat, (k : Int) < y3 + 1 → (a0 3) ((a0 2 2).toNat + k) = (wdl 9).getD k 0) → y2 = (a 2 2) + 3 → y2 ≤ a 2 1 → y2 ≤ 200 → a0 2 3 = 0 → a0 2 2 < a0 2 1 → jt (jxX E d 128 58 [some (.inr (.inr (.inl 2))), some (.inr (.inr (.inl 1007))), some (.inl y2), some (.inl y3)] [] (jxSH, a, b0)) (jQ_X8_takesWord_r1007 a0 b0) := fun y2 y3 a hlt i0 i1 i2 i3 i4 i5 i6 i7 i8 i9 i10 i11 i12 i13 i14 i15 => (ih _ hlt).1 y2 y3 a (Nat.le_refl _) i0 i1 i2 i3 i4 i5 i6 i7 i8 i9 i10 i11 i12 i13 i14 i15
  have ih29 : ∀ (y2 y3 : Int) (a : Nat → Nat → Int), (((3 - y3) * 1) + 0).toNat < n → iv a → jfr jW_X8_takesWord_r1007 a0 a → 3 ≤ y2 → y2 ≤ 200 → 0 ≤ y3 → y3 ≤ 3 → 3 ≤ a 2 1 → 0 ≤ y3 → a 2 2 = a0 2 2 → (∀ k : Nat, (k : Int) < y3 → (a0 3) ((a0 2 2).toNat + k) = (wdl 9).getD k 0) → y2 = (a 2 2) + 3 → y2 ≤ a 2 1 → y2 ≤ 200 → a0 2 3 = 0 → a0 2 2 < a0 2 1 → jt (jxX E d 128 29 [some (.inr (.inr (.inl 2))), some (.inr (.inr (.inl 1007))), some (.inl y2), some (.inl y3)] [] (jxSH, a, b0)) (jQ_X8_takesWord_r1007 a0 b0) := fun y2 y3 a hlt i0 i1 i2 i3 i4 i5 i6 i7 i8 i9 i10 i11 i12 i13 i14 => (ih _ hlt).2 y2 y3 a (Nat.le_refl _) i0 i1 i2 i3 i4 i5 i6 i7 i8 i9 i10 i11 i12 i13 i14
  have hc58 : ∀ (y2 y3 : Int) (a : Nat → Nat → Int), (((3 - y3) * 1) + 0).toNat ≤ n → iv a → jfr jW_X8_takesWord_r1007 a0 a → 3 ≤ y2 → y2 ≤ 200 → 0 ≤ y3 → y3 ≤ 2 → 3 ≤ a 2 1 → y3 < 3 → 0 ≤ y3 → a 2 2 = a0 2 2 → (∀ k : Nat, (k : Int) < y3 + 1 → (a0 3) ((a0 2 2).toNat + k) = (wdl 9).getD k 0) → y2 = (a 2 2) + 3 → y2 ≤ a 2 1 → y2 ≤ 200 → a0 2 3 = 0 → a0 2 2 < a0 2 1 → jt (jxX E d 128 58 [some (.inr (.inr (.inl 2))), some (.inr (.inr (.inl 1007))), some (.inl y2), some (.inl y3)] [] (jxSH, a, b0)) (jQ_X8_takesWord_r1007 a0 b0) := by
    intro y2 y3 a hm hv hf hi0 hi1 hi2 hi3 hi4 hi5 hi6 hi7 hch hi9 hi10 hi11 hi12 hi13
    refine jt_eq (bq_X8_takesWord_r1007_58 E d y2 y3 a b0) ?_
    have h554_ := iv_get hv (k := 2) (j := 1) (l := 0) (u := 200) rfl
    have h555_ : a 2 1 = a0 2 1 := hf 2 1 rfl
    have h556_ := iv_get hv0 (k := 2) (j := 1) (l := 0) (u := 200) rfl
    have h557_ := iv_get hv (k := 2) (j := 2) (l := 0) (u := 200) rfl
    have h558_ := iv_get hv0 (k := 2) (j := 2) (l := 0) (u := 200) rfl
    have h3 : a 3 = a0 3 := funext fun j => hf 3 j rfl
    have h21 := hf 2 1 rfl
    have h559_ : jxw (y3 + 1) = y3 + 1 := jxw_id (by omega) (by omega)
    exact ih29 y2 (jxw (y3 + 1)) a (show (((3 - (jxw (y3 + 1))) * 1) + 0).toNat < n from by omega) hv hf (show 3 ≤ y2 from by omega) (show y2 ≤ 200 from by omega) (show 0 ≤ jxw (y3 + 1) from by omega) (show jxw (y3 + 1) ≤ 3 from by omega) (show 3 ≤ a 2 1 from by omega) (show 0 ≤ jxw (y3 + 1) from by omega) (show a 2 2 = a0 2 2 from by omega) (by first | exact (fun k hk => absurd hk (by omega)) | (rw [show jxw (y3 + 1) = y3 + 1 from by omega]; exact hch)) (show y2 = (a 2 2) + 3 from by omega) (show y2 ≤ a 2 1 from by omega) (show y2 ≤ 200 from by omega) (show a0 2 3 = 0 from by omega) (show a0 2 2 < a0 2 1 from by omega)
  have hc29 : ∀ (y2 y3 : Int) (a : Nat → Nat → Int), (((3 - y3) * 1) + 0).toNat ≤ n → iv a → jfr jW_X8_takesWord_r1007 a0 a → 3 ≤ y2 → y2 ≤ 200 → 0 ≤ y3 → y3 ≤ 3 → 3 ≤ a 2 1 → 0 ≤ y3 → a 2 2 = a0 2 2 → (∀ k : Nat, (k : Int) < y3 → (a0 3) ((a0 2 2).toNat + k) = (wdl 9).getD k 0) → y2 = (a 2 2) + 3 → y2 ≤ a 2 1 → y2 ≤ 200 → a0 2 3 = 0 → a0 2 2 < a0 2 1 → jt (jxX E d 128 29 [some (.inr (.inr (.inl 2))), some (.inr (.inr (.inl 1007))), some (.inl y2), some (.inl y3)] [] (jxSH, a, b0)) (jQ_X8_takesWord_r1007 a0 b0) := by
    intro y2 y3 a hm hv hf hi0 hi1 hi2 hi3 hi4 hi5 hi6 hch hi8 hi9 hi10 hi11 hi12
    refine jt_eq (bq_X8_takesWord_r1007_29 E d y2 y3 a b0) ?_
    have h560_ := iv_get hv (k := 2) (j := 1) (l := 0) (u := 200) rfl
    have h561_ : a 2 1 = a0 2 1 := hf 2 1 rfl
    have h562_ := iv_get hv0 (k := 2) (j := 1) (l := 0) (u := 200) rfl
    have h563_ := iv_get hv (k := 2) (j := 2) (l := 0) (u := 200) rfl
    have h564_ := iv_get hv0 (k := 2) (j := 2) (l := 0) (u := 200) rfl
    have h3 : a 3 = a0 3 := funext fun j => hf 3 j rfl
    have h21 := hf 2 1 rfl
    refine jt_eI (eq_J0_length_8abf5_r1007 E d (jd_le hd rfl) a b0) ?_
    have h565_ := ff_J0_length_8abf5_r1007 a b0
    refine jt_ite (fun c566_ => ?_) (fun c566_ => ?_)
    ·
      have h567_ : jxw ((a 2 2) + y3) = (a 2 2) + y3 := jxw_id (by omega) (by omega)
      refine jt_grd (by omega) ?_
      refine jt_eI (eq_J0_charAt_5068e_r1007 E d (jd_le hd rfl) y3 a b0 (show (0 ≤ y3 ∧ y3 < 3) from by omega)) ?_
      have h568_ := iv_get hv (k := 3) (j := (jxw ((a 2 2) + y3)).toNat) (l := 0) (u := 255) rfl
      have h569_ : a 3 ((jxw ((a 2 2) + y3)).toNat) = a0 3 ((jxw ((a 2 2) + y3)).toNat) := hf 3 ((jxw ((a 2 2) + y3)).toNat) rfl
      have h570_ := iv_get hv0 (k := 3) (j := (jxw ((a 2 2) + y3)).toNat) (l := 0) (u := 255) rfl
      have h571_ := f_J0_charAt_5068e_r1007_eq a b0 y3
      have h572_ := f_J0_isLatin1_aae02_r1007_eq a b0
      have h573_ := f_J1_charAt_3b067_r2007_eq a b0 y3
      have h574_ := jxand_r (([97, 110, 121] : List Int).getD (y3.toNat) 0) 255 (by decide) (by decide)
      have h575_ := jxi2c_b (jxand (([97, 110, 121] : List Int).getD (y3.toNat) 0) 255)
      refine jt_ite (fun c576_ => ?_) (fun c576_ => ?_)
      ·
        exact hc58 y2 y3 a (show (((3 - y3) * 1) + 0).toNat ≤ n from by omega) hv hf (show 3 ≤ y2 from by omega) (show y2 ≤ 200 from by omega) (show 0 ≤ y3 from by omega) (show y3 ≤ 2 from by omega) (show 3 ≤ a 2 1 from by omega) (show y3 < 3 from by omega) (show 0 ≤ y3 from by omega) (show a 2 2 = a0 2 2 from by omega) (ch_ext hch (by omega) (q := (jxw ((a 2 2) + y3)).toNat) (by omega) (v := f_J0_charAt_5068e_r1007 a b0 y3) (by rw [← h3]; assumption) (cw_1007 a b0 y3 (by omega) (by omega))) (show y2 = (a 2 2) + 3 from by omega) (show y2 ≤ a 2 1 from by omega) (show y2 ≤ 200 from by omega) (show a0 2 3 = 0 from by omega) (show a0 2 2 < a0 2 1 from by omega)
      ·
        exact cp_X8_takesWord_r1007_56 E d hd a0 b0 hv0 a hv hf (show 3 ≤ a 2 1 from by omega) (show a 2 2 = a0 2 2 from by omega) (TW_no (y := y3) (by omega) (show y3 < 3 by omega) (q := (jxw ((a 2 2) + y3)).toNat) (by omega) (v := f_J0_charAt_5068e_r1007 a b0 y3) (cw_1007 a b0 y3 (by omega) (by omega)) (by rw [← h3]; assumption)) (show a0 2 3 = 0 from by omega) (show a0 2 2 < a0 2 1 from by omega)
    ·
      refine jt_ite (fun c577_ => ?_) (fun c577_ => ?_)
      ·
        refine jt_grd (by omega) ?_
        have h578_ := iv_get hv (k := 3) (j := y2.toNat) (l := 0) (u := 255) rfl
        have h579_ : a 3 (y2.toNat) = a0 3 (y2.toNat) := hf 3 (y2.toNat) rfl
        have h580_ := iv_get hv0 (k := 3) (j := y2.toNat) (l := 0) (u := 255) rfl
        refine jt_ite (fun c581_ => ?_) (fun c581_ => ?_)
        ·
          exact cp_X8_takesWord_r1007_96 E d hd a0 b0 hv0 y2 a hv hf (show 3 ≤ y2 from by omega) (show y2 ≤ 200 from by omega) (show 3 ≤ a 2 1 from by omega) (show a 2 2 = a0 2 2 from by omega) (TW_mk (q := y2.toNat) (show y2.toNat = (a0 2 2).toNat + 3 by omega) (by omega) (by first | exact hall | exact (fun k hk => hch k (by have hw : ((wdn 9 : Nat) : Int) = 3 := rfl; omega))) (LT_no1 (by rw [← h3]; omega))) (show y2 = (a 2 2) + 3 from by omega) (show y2 ≤ a 2 1 from by omega) (show y2 ≤ 200 from by omega) (show a0 2 3 = 0 from by omega) (show a0 2 2 < a0 2 1 from by omega)
        ·
          exact cp_X8_takesWord_r1007_83 E d hd a0 b0 hv0 y2 a hv hf (show 3 ≤ y2 from by omega) (show y2 ≤ 199 from by omega) (show 4 ≤ a 2 1 from by omega) (show a 2 2 = a0 2 2 from by omega) (fun k hk => hch k (by have hw : ((wdn 9 : Nat) : Int) = 3 := rfl; omega)) (by rw [← h3]; omega) (show y2 = (a 2 2) + 3 from by omega) (show y2 ≤ a 2 1 from by omega) (show y2 ≤ 200 from by omega) (show a0 2 3 = 0 from by omega) (show a0 2 2 < a0 2 1 from by omega)
      ·
        exact cp_X8_takesWord_r1007_96 E d hd a0 b0 hv0 y2 a hv hf (show 3 ≤ y2 from by omega) (show y2 ≤ 200 from by omega) (show 3 ≤ a 2 1 from by omega) (show a 2 2 = a0 2 2 from by omega) (TW_mk (q := y2.toNat) (show y2.toNat = (a0 2 2).toNat + 3 by omega) (by omega) (by first | exact hall | exact (fun k hk => hch k (by have hw : ((wdn 9 : Nat) : Int) = 3 := rfl; omega))) (LT_no1 (by rw [← h3]; omega))) (show y2 = (a 2 2) + 3 from by omega) (show y2 ≤ a 2 1 from by omega) (show y2 ≤ 200 from by omega) (show a0 2 3 = 0 from by omega) (show a0 2 2 < a0 2 1 from by omega)
  exact ⟨hc58, hc29⟩
theorem sp_X8_takesWord_r1007 (E : jxE) (d : Nat) (hd : Nat.ble 5 d = true) (a0 b0 : Nat → Nat → Int) (hv0 : iv a0) : jt (jxC E d 128 [.inr (.inr (.inl 2)), .inr (.inr (.inl 1007))] (jxSH, a0, b0)) (jQ_X8_takesWord_r1007 a0 b0) := by
  obtain ⟨d, rfl⟩ := jd_succ hd
  refine jt_eq (bq_X8_takesWord_r1007 E d a0 b0) ?_
  refine jt_eI (eq_J0_length_8abf5_r1007 E d (jd_le hd rfl) a0 b0) ?_
  refine jt_eI (eq_X8_isFaulty E d (jd_le hd rfl) a0 b0) ?_
  have h582_ := f_X8_isFaulty_eq a0 b0
  refine jt_ite (fun c583_ => ?_) (fun c583_ => ?_)
  ·
    have h584_ := iv_get hv0 (k := 2) (j := 1) (l := 0) (u := 200) rfl
    have h585_ := iv_get hv0 (k := 2) (j := 2) (l := 0) (u := 200) rfl
    have h586_ := ff_J0_length_8abf5_r1007 a0 b0
    have h587_ : jxw ((a0 2 2) + (f_J0_length_8abf5_r1007 a0 b0)) = (a0 2 2) + (f_J0_length_8abf5_r1007 a0 b0) := jxw_id (by omega) (by omega)
    refine jt_ite (fun c588_ => ?_) (fun c588_ => ?_)
    ·
      exact jt_rI ⟨hv0, (jfr_rf _ _), rfl, (show (0 ≤ 0 ∧ 0 ≤ 1) from by omega), (show ((¬ a0 2 3 = 0 ∨ a0 2 1 ≤ a0 2 2) → 0 = 0) from by omega), (show (0 = 0 → a0 2 2 = a0 2 2) from by omega), (by first | exact (fun h => absurd h (by decide)) | exact (fun _ => ⟨by omega, htw, by have h := hq0_1; rw [show (a0 2 2).toNat + wdn 9 = y2.toNat from (by show _ + 3 = _; omega), ← h3, ← h21]; exact h⟩)), (by first | exact (fun h => absurd h (by decide)) | exact (fun _ => Or.inr hnt) | exact (fun _ => Or.inl (by omega)) | exact (fun _ => Or.inr (TW_short (show _ < _ + 3 by omega))) | exact (fun _ => Or.inr (TW_let (q := y2.toNat) (show y2.toNat = (a0 2 2).toNat + 3 by omega) ⟨by omega, h97, by rw [← h3]; omega⟩)))⟩
    ·
      exact (cp_X8_takesWord_r1007_29 E d hd a0 b0 hv0 _).2 (jxw ((a0 2 2) + (f_J0_length_8abf5_r1007 a0 b0))) 0 a0 (Nat.le_refl _) hv0 (jfr_rf _ _) (show 3 ≤ jxw ((a0 2 2) + (f_J0_length_8abf5_r1007 a0 b0)) from by omega) (show jxw ((a0 2 2) + (f_J0_length_8abf5_r1007 a0 b0)) ≤ 200 from by omega) (show 0 ≤ 0 from by omega) (show 0 ≤ 3 from by omega) (show 3 ≤ a0 2 1 from by omega) (show 0 ≤ 0 from by omega) (show a0 2 2 = a0 2 2 from by omega) (by first | exact (fun k hk => absurd hk (by omega)) | (rw [show jxw (y3 + 1) = y3 + 1 from by omega]; exact hch)) (show jxw ((a0 2 2) + (f_J0_length_8abf5_r1007 a0 b0)) = (a0 2 2) + 3 from by omega) (show jxw ((a0 2 2) + (f_J0_length_8abf5_r1007 a0 b0)) ≤ a0 2 1 from by omega) (show jxw ((a0 2 2) + (f_J0_length_8abf5_r1007 a0 b0)) ≤ 200 from by omega) (show a0 2 3 = 0 from by omega) (show a0 2 2 < a0 2 1 from by omega)
  ·
    have h589_ := iv_get hv0 (k := 2) (j := 1) (l := 0) (u := 200) rfl
    have h590_ := iv_get hv0 (k := 2) (j := 2) (l := 0) (u := 200) rfl
    exact jt_rI ⟨hv0, (jfr_rf _ _), rfl, (show (0 ≤ 0 ∧ 0 ≤ 1) from by omega), (show ((¬ a0 2 3 = 0 ∨ a0 2 1 ≤ a0 2 2) → 0 = 0) from by omega), (show (0 = 0 → a0 2 2 = a0 2 2) from by omega), (by first | exact (fun h => absurd h (by decide)) | exact (fun _ => ⟨by omega, htw, by have h := hq0_1; rw [show (a0 2 2).toNat + wdn 9 = y2.toNat from (by show _ + 3 = _; omega), ← h3, ← h21]; exact h⟩)), (by first | exact (fun h => absurd h (by decide)) | exact (fun _ => Or.inr hnt) | exact (fun _ => Or.inl (by omega)) | exact (fun _ => Or.inr (TW_short (show _ < _ + 3 by omega))) | exact (fun _ => Or.inr (TW_let (q := y2.toNat) (show y2.toNat = (a0 2 2).toNat + 3 by omega) ⟨by omega, h97, by rw [← h3]; omega⟩)))⟩
def jW_X8_takesWord_r1008 : List (Nat × Nat) := [(2, 2)]
abbrev jQ_X8_takesWord_r1008 (a0 b0 : Nat → Nat → Int) : List jxV → (Nat → Nat → Int) → (Nat → Nat → Int) → Prop := rI (fun r a b => (iv a) ∧ (jfr jW_X8_takesWord_r1008 a0 a) ∧ (b0 = b) ∧ ((0 ≤ r ∧ r ≤ 1)) ∧ (((¬ a0 2 3 = 0 ∨ a0 2 1 ≤ a0 2 2) → r = 0)) ∧ ((r = 0 → a 2 2 = a0 2 2)) ∧ (r = 1 → a0 2 3 = 0 ∧ TW (a0 3) (a0 2 1).toNat (a0 2 2).toNat 1 ∧ a 2 2 = ((SK (a0 3) (a0 2 1).toNat ((a0 2 2).toNat + wdn 1) : Nat) : Int)) ∧ (r = 0 → ¬ a0 2 3 = 0 ∨ ¬ TW (a0 3) (a0 2 1).toNat (a0 2 2).toNat 1))
theorem cp_X8_takesWord_r1008_56 (E : jxE) (d : Nat) (hd : Nat.ble 5 (d + 1) = true) (a0 b0 : Nat → Nat → Int) (hv0 : iv a0) : ∀ (a : Nat → Nat → Int), iv a → jfr jW_X8_takesWord_r1008 a0 a → 3 ≤ a 2 1 → a 2 2 = a0 2 2 → (¬ TW (a0 3) (a0 2 1).toNat (a0 2 2).toNat 1) → a0 2 3 = 0 → a0 2 2 < a0 2 1 → jt (jxX E d 128 56 [none, none, none, none] [] (jxSH, a, b0)) (jQ_X8_takesWord_r1008 a0 b0) := by
  intro a hv hf hi0 hi1 hnt hi3 hi4
  refine jt_eq (bq_X8_takesWord_r1008_56 E d a b0) ?_
  have h591_ := iv_get hv (k := 2) (j := 1) (l := 0) (u := 200) rfl
  have h592_ : a 2 1 = a0 2 1 := hf 2 1 rfl
  have h593_ := iv_get hv0 (k := 2) (j := 1) (l := 0) (u := 200) rfl
  have h594_ := iv_get hv (k := 2) (j := 2) (l := 0) (u := 200) rfl
  have h595_ := iv_get hv0 (k := 2) (j := 2) (l := 0) (u := 200) rfl
  have h3 : a 3 = a0 3 := funext fun j => hf 3 j rfl
  have h21 := hf 2 1 rfl
  exact jt_rI ⟨hv, hf, rfl, (show (0 ≤ 0 ∧ 0 ≤ 1) from by omega), (show ((¬ a0 2 3 = 0 ∨ a0 2 1 ≤ a0 2 2) → 0 = 0) from by omega), (show (0 = 0 → a 2 2 = a0 2 2) from by omega), (by first | exact (fun h => absurd h (by decide)) | exact (fun _ => ⟨by omega, htw, by have h := hq0_1; rw [show (a0 2 2).toNat + wdn 1 = y2.toNat from (by show _ + 3 = _; omega), ← h3, ← h21]; exact h⟩)), (by first | exact (fun h => absurd h (by decide)) | exact (fun _ => Or.inr hnt) | exact (fun _ => Or.inl (by omega)) | exact (fun _ => Or.inr (TW_short (show _ < _ + 3 by omega))) | exact (fun _ => Or.inr (TW_let (q := y2.toNat) (show y2.toNat = (a0 2 2).toNat + 3 by omega) ⟨by omega, h97, by rw [← h3]; omega⟩)))⟩
theorem cp_X8_takesWord_r1008_96 (E : jxE) (d : Nat) (hd : Nat.ble 5 (d + 1) = true) (a0 b0 : Nat → Nat → Int) (hv0 : iv a0) : ∀ (y2 : Int) (a : Nat → Nat → Int), iv a → jfr jW_X8_takesWord_r1008 a0 a → 3 ≤ y2 → y2 ≤ 200 → 3 ≤ a 2 1 → a 2 2 = a0 2 2 → (TW (a0 3) (a0 2 1).toNat (a0 2 2).toNat 1) → y2 = (a 2 2) + 3 → y2 ≤ a 2 1 → y2 ≤ 200 → a0 2 3 = 0 → a0 2 2 < a0 2 1 → jt (jxX E d 128 96 [some (.inr (.inr (.inl 2))), none, some (.inl y2), none] [] (jxSH, a, b0)) (jQ_X8_takesWord_r1008 a0 b0) := by
  intro y2 a hv hf hi0 hi1 hi2 hi3 htw hi5 hi6 hi7 hi8 hi9
  refine jt_eq (bq_X8_takesWord_r1008_96 E d y2 a b0) ?_
  have h596_ := iv_get hv (k := 2) (j := 1) (l := 0) (u := 200) rfl
  have h597_ : a 2 1 = a0 2 1 := hf 2 1 rfl
  have h598_ := iv_get hv0 (k := 2) (j := 1) (l := 0) (u := 200) rfl
  have h599_ := iv_get hv (k := 2) (j := 2) (l := 0) (u := 200) rfl
  have h600_ := iv_get hv0 (k := 2) (j := 2) (l := 0) (u := 200) rfl
  have h3 : a 3 = a0 3 := funext fun j => hf 3 j rfl
  have h21 := hf 2 1 rfl
  have hv601_ : iv (jxu a 2 2 y2) := iv_put hv (l := 0) (u := 200) rfl (by omega) (by omega)
  refine jt_bV (sp_X8_skipBlanks E d (jd_le hd rfl) (jxu a 2 2 y2) b0 hv601_) (fun a602_ b602_ h602_ => ?_)
  obtain ⟨hv602_, hf602_, rfl, hq602_0, hq602_1⟩ := h602_
  have h603_ := iv_get hv602_ (k := 2) (j := 2) (l := 0) (u := 200) rfl
  have h604_ : (a 2 1 ≤ y2 → a602_ 2 2 = y2) := hq602_0
  have hf605_ : jfr jW_X8_takesWord_r1008 a0 (jxu a 2 2 y2) := jfr_put hf rfl
  have hf606_ : jfr jW_X8_takesWord_r1008 a0 a602_ := jfr_tr hf605_ hf602_ rfl
  exact jt_rI ⟨hv602_, hf606_, rfl, (show (0 ≤ 1 ∧ 1 ≤ 1) from by omega), (show ((¬ a0 2 3 = 0 ∨ a0 2 1 ≤ a0 2 2) → 1 = 0) from by omega), (show (1 = 0 → a602_ 2 2 = a0 2 2) from by omega), (by first | exact (fun h => absurd h (by decide)) | exact (fun _ => ⟨by omega, htw, by have h := hq602_1; rw [show (a0 2 2).toNat + wdn 1 = y2.toNat from (by show _ + 3 = _; omega), ← h3, ← h21]; exact h⟩)), (by first | exact (fun h => absurd h (by decide)) | exact (fun _ => Or.inr hnt) | exact (fun _ => Or.inl (by omega)) | exact (fun _ => Or.inr (TW_short (show _ < _ + 3 by omega))) | exact (fun _ => Or.inr (TW_let (q := y2.toNat) (show y2.toNat = (a0 2 2).toNat + 3 by omega) ⟨by omega, h97, by rw [← h3]; omega⟩)))⟩
theorem cp_X8_takesWord_r1008_83 (E : jxE) (d : Nat) (hd : Nat.ble 5 (d + 1) = true) (a0 b0 : Nat → Nat → Int) (hv0 : iv a0) : ∀ (y2 : Int) (a : Nat → Nat → Int), iv a → jfr jW_X8_takesWord_r1008 a0 a → 3 ≤ y2 → y2 ≤ 199 → 4 ≤ a 2 1 → a 2 2 = a0 2 2 → (∀ k : Nat, (k : Int) < (wdn 1 : Int) → (a0 3) ((a0 2 2).toNat + k) = (wdl 1).getD k 0) → (97 ≤ a0 3 y2.toNat) → y2 = (a 2 2) + 3 → y2 ≤ a 2 1 → y2 ≤ 200 → a0 2 3 = 0 → a0 2 2 < a0 2 1 → jt (jxX E d 128 83 [some (.inr (.inr (.inl 2))), none, some (.inl y2), none] [] (jxSH, a, b0)) (jQ_X8_takesWord_r1008 a0 b0) := by
  intro y2 a hv hf hi0 hi1 hi2 hi3 hall h97 hi6 hi7 hi8 hi9 hi10
  refine jt_eq (bq_X8_takesWord_r1008_83 E d y2 a b0) ?_
  have h607_ := iv_get hv (k := 2) (j := 1) (l := 0) (u := 200) rfl
  have h608_ : a 2 1 = a0 2 1 := hf 2 1 rfl
  have h609_ := iv_get hv0 (k := 2) (j := 1) (l := 0) (u := 200) rfl
  have h610_ := iv_get hv (k := 2) (j := 2) (l := 0) (u := 200) rfl
  have h611_ := iv_get hv0 (k := 2) (j := 2) (l := 0) (u := 200) rfl
  have h3 : a 3 = a0 3 := funext fun j => hf 3 j rfl
  have h21 := hf 2 1 rfl
  refine jt_grd (by omega) ?_
  have h612_ := iv_get hv (k := 3) (j := y2.toNat) (l := 0) (u := 255) rfl
  have h613_ : a 3 (y2.toNat) = a0 3 (y2.toNat) := hf 3 (y2.toNat) rfl
  have h614_ := iv_get hv0 (k := 3) (j := y2.toNat) (l := 0) (u := 255) rfl
  refine jt_ite (fun c615_ => ?_) (fun c615_ => ?_)
  ·
    exact cp_X8_takesWord_r1008_96 E d hd a0 b0 hv0 y2 a hv hf (show 3 ≤ y2 from by omega) (show y2 ≤ 200 from by omega) (show 3 ≤ a 2 1 from by omega) (show a 2 2 = a0 2 2 from by omega) (TW_mk (q := y2.toNat) (show y2.toNat = (a0 2 2).toNat + 3 by omega) (by omega) (by first | exact hall | exact (fun k hk => hch k (by have hw : ((wdn 1 : Nat) : Int) = 3 := rfl; omega))) (LT_no1 (by rw [← h3]; omega))) (show y2 = (a 2 2) + 3 from by omega) (show y2 ≤ a 2 1 from by omega) (show y2 ≤ 200 from by omega) (show a0 2 3 = 0 from by omega) (show a0 2 2 < a0 2 1 from by omega)
  ·
    exact jt_rI ⟨hv, hf, rfl, (show (0 ≤ 0 ∧ 0 ≤ 1) from by omega), (show ((¬ a0 2 3 = 0 ∨ a0 2 1 ≤ a0 2 2) → 0 = 0) from by omega), (show (0 = 0 → a 2 2 = a0 2 2) from by omega), (by first | exact (fun h => absurd h (by decide)) | exact (fun _ => ⟨by omega, htw, by have h := hq0_1; rw [show (a0 2 2).toNat + wdn 1 = y2.toNat from (by show _ + 3 = _; omega), ← h3, ← h21]; exact h⟩)), (by first | exact (fun h => absurd h (by decide)) | exact (fun _ => Or.inr hnt) | exact (fun _ => Or.inl (by omega)) | exact (fun _ => Or.inr (TW_short (show _ < _ + 3 by omega))) | exact (fun _ => Or.inr (TW_let (q := y2.toNat) (show y2.toNat = (a0 2 2).toNat + 3 by omega) ⟨by omega, h97, by rw [← h3]; omega⟩)))⟩
theorem cp_X8_takesWord_r1008_29 (E : jxE) (d : Nat) (hd : Nat.ble 5 (d + 1) = true) (a0 b0 : Nat → Nat → Int) (hv0 : iv a0) : ∀ n : Nat, (∀ (y2 y3 : Int) (a : Nat → Nat → Int), (((3 - y3) * 1) + 0).toNat ≤ n → iv a → jfr jW_X8_takesWord_r1008 a0 a → 3 ≤ y2 → y2 ≤ 200 → 0 ≤ y3 → y3 ≤ 2 → 3 ≤ a 2 1 → y3 < 3 → 0 ≤ y3 → a 2 2 = a0 2 2 → (∀ k : Nat, (k : Int) < y3 + 1 → (a0 3) ((a0 2 2).toNat + k) = (wdl 1).getD k 0) → y2 = (a 2 2) + 3 → y2 ≤ a 2 1 → y2 ≤ 200 → a0 2 3 = 0 → a0 2 2 < a0 2 1 → jt (jxX E d 128 58 [some (.inr (.inr (.inl 2))), some (.inr (.inr (.inl 1008))), some (.inl y2), some (.inl y3)] [] (jxSH, a, b0)) (jQ_X8_takesWord_r1008 a0 b0)) ∧ (∀ (y2 y3 : Int) (a : Nat → Nat → Int), (((3 - y3) * 1) + 0).toNat ≤ n → iv a → jfr jW_X8_takesWord_r1008 a0 a → 3 ≤ y2 → y2 ≤ 200 → 0 ≤ y3 → y3 ≤ 3 → 3 ≤ a 2 1 → 0 ≤ y3 → a 2 2 = a0 2 2 → (∀ k : Nat, (k : Int) < y3 → (a0 3) ((a0 2 2).toNat + k) = (wdl 1).getD k 0) → y2 = (a 2 2) + 3 → y2 ≤ a 2 1 → y2 ≤ 200 → a0 2 3 = 0 → a0 2 2 < a0 2 1 → jt (jxX E d 128 29 [some (.inr (.inr (.inl 2))), some (.inr (.inr (.inl 1008))), some (.inl y2), some (.inl y3)] [] (jxSH, a, b0)) (jQ_X8_takesWord_r1008 a0 b0)) := by
  refine jx_ind fun n ih => ?_
  have ih58 : ∀ (y2 y3 : Int) (a : Nat → Nat → Int), (((3 - y3) * 1) + 0).toNat < n → iv a → jfr jW_X8_takesWord_r1008 a0 a → 3 ≤ y2 → y2 ≤ 200 → 0 ≤ y3 → y3 ≤ 2 → 3 ≤ a 2 1 → y3 < 3 → 0 ≤ y3 → a 2 2 = a0 2 2 → (∀ k : Nat, (k : Int) < y3 + 1 → (a0 3) ((a0 2 2).toNat + k) = (wdl 1).getD k 0) → y2 = (a 2 2) + 3 → y2 ≤ a 2 1 → y2 ≤ 200 → a0 2 3 = 0 → a0 2 2 < a0 2 1 → jt (jxX E d 128 58 [some (.inr (.inr (.inl 2))), some (.inr (.inr (.inl 1008))), some (.inl y2), some (.inl y3)] [] (jxSH, a, b0)) (jQ_X8_takesWord_r1008 a0 b0) := fun y2 y3 a hlt i0 i1 i2 i3 i4 i5 i6 i7 i8 i9 i10 i11 i12 i13 i14 i15 => (ih _ hlt).1 y2 y3 a (Nat.le_refl _) i0 i1 i2 i3 i4 i5 i6 i7 i8 i9 i10 i11 i12 i13 i14 i15
  have ih29 : ∀ (y2 y3 : Int) (a : Nat → Nat → Int), (((3 - y3) * 1) + 0).toNat < n → iv a → jfr jW_X8_takesWord_r1008 a0 a → 3 ≤ y2 → y2 ≤ 200 → 0 ≤ y3 → y3 ≤ 3 → 3 ≤ a 2 1 → 0 ≤ y3 → a 2 2 = a0 2 2 → (∀ k : Nat, (k : Int) < y3 → (a0 3) ((a0 2 2).toNat + k) = (wdl 1).getD k 0) → y2 = (a 2 2) + 3 → y2 ≤ a 2 1 → y2 ≤ 200 → a0 2 3 = 0 → a0 2 2 < a0 2 1 → jt (jxX E d 128 29 [some (.inr (.inr (.inl 2))), some (.inr (.inr (.inl 1008))), some (.inl y2), some (.inl y3)] [] (jxSH, a, b0)) (jQ_X8_takesWord_r1008 a0 b0) := fun y2 y3 a hlt i0 i1 i2 i3 i4 i5 i6 i7 i8 i9 i10 i11 i12 i13 i14 => (ih _ hlt).2 y2 y3 a (Nat.le_refl _) i0 i1 i2 i3 i4 i5 i6 i7 i8 i9 i10 i11 i12 i13 i14
  have hc58 : ∀ (y2 y3 : Int) (a : Nat → Nat → Int), (((3 - y3) * 1) + 0).toNat ≤ n → iv a → jfr jW_X8_takesWord_r1008 a0 a → 3 ≤ y2 → y2 ≤ 200 → 0 ≤ y3 → y3 ≤ 2 → 3 ≤ a 2 1 → y3 < 3 → 0 ≤ y3 → a 2 2 = a0 2 2 → (∀ k : Nat, (k : Int) < y3 + 1 → (a0 3) ((a0 2 2).toNat + k) = (wdl 1).getD k 0) → y2 = (a 2 2) + 3 → y2 ≤ a 2 1 → y2 ≤ 200 → a0 2 3 = 0 → a0 2 2 < a0 2 1 → jt (jxX E d 128 58 [some (.inr (.inr (.inl 2))), some (.inr (.inr (.inl 1008))), some (.inl y2), some (.inl y3)] [] (jxSH, a, b0)) (jQ_X8_takesWord_r1008 a0 b0) := by
    intro y2 y3 a hm hv hf hi0 hi1 hi2 hi3 hi4 hi5 hi6 hi7 hch hi9 hi10 hi11 hi12 hi13
    refine jt_eq (bq_X8_takesWord_r1008_58 E d y2 y3 a b0) ?_
    have h616_ := iv_get hv (k := 2) (j := 1) (l := 0) (u := 200) rfl
    have h617_ : a 2 1 = a0 2 1 := hf 2 1 rfl
    have h618_ := iv_get hv0 (k := 2) (j := 1) (l := 0) (u := 200) rfl
    have h619_ := iv_get hv (k := 2) (j := 2) (l := 0) (u := 200) rfl
    have h620_ := iv_get hv0 (k := 2) (j := 2) (l := 0) (u := 200) rfl
    have h3 : a 3 = a0 3 := funext fun j => hf 3 j rfl
    have h21 := hf 2 1 rfl
    have h621_ : jxw (y3 + 1) = y3 + 1 := jxw_id (by omega) (by omega)
    exact ih29 y2 (jxw (y3 + 1)) a (show (((3 - (jxw (y3 + 1))) * 1) + 0).toNat < n from by omega) hv hf (show 3 ≤ y2 from by omega) (show y2 ≤ 200 from by omega) (show 0 ≤ jxw (y3 + 1) from by omega) (show jxw (y3 + 1) ≤ 3 from by omega) (show 3 ≤ a 2 1 from by omega) (show 0 ≤ jxw (y3 + 1) from by omega) (show a 2 2 = a0 2 2 from by omega) (by first | exact (fun k hk => absurd hk (by omega)) | (rw [show jxw (y3 + 1) = y3 + 1 from by omega]; exact hch)) (show y2 = (a 2 2) + 3 from by omega) (show y2 ≤ a 2 1 from by omega) (show y2 ≤ 200 from by omega) (show a0 2 3 = 0 from by omega) (show a0 2 2 < a0 2 1 from by omega)
  have hc29 : ∀ (y2 y3 : Int) (a : Nat → Nat → Int), (((3 - y3) * 1) + 0).toNat ≤ n → iv a → jfr jW_X8_takesWord_r1008 a0 a → 3 ≤ y2 → y2 ≤ 200 → 0 ≤ y3 → y3 ≤ 3 → 3 ≤ a 2 1 → 0 ≤ y3 → a 2 2 = a0 2 2 → (∀ k : Nat, (k : Int) < y3 → (a0 3) ((a0 2 2).toNat + k) = (wdl 1).getD k 0) → y2 = (a 2 2) + 3 → y2 ≤ a 2 1 → y2 ≤ 200 → a0 2 3 = 0 → a0 2 2 < a0 2 1 → jt (jxX E d 128 29 [some (.inr (.inr (.inl 2))), some (.inr (.inr (.inl 1008))), some (.inl y2), some (.inl y3)] [] (jxSH, a, b0)) (jQ_X8_takesWord_r1008 a0 b0) := by
    intro y2 y3 a hm hv hf hi0 hi1 hi2 hi3 hi4 hi5 hi6 hch hi8 hi9 hi10 hi11 hi12
    refine jt_eq (bq_X8_takesWord_r1008_29 E d y2 y3 a b0) ?_
    have h622_ := iv_get hv (k := 2) (j := 1) (l := 0) (u := 200) rfl
    have h623_ : a 2 1 = a0 2 1 := hf 2 1 rfl
    have h624_ := iv_get hv0 (k := 2) (j := 1) (l := 0) (u := 200) rfl
    have h625_ := iv_get hv (k := 2) (j := 2) (l := 0) (u := 200) rfl
    have h626_ := iv_get hv0 (k := 2) (j := 2) (l := 0) (u := 200) rfl
    have h3 : a 3 = a0 3 := funext fun j => hf 3 j rfl
    have h21 := hf 2 1 rfl
    refine jt_eI (eq_J0_length_8abf5_r1008 E d (jd_le hd rfl) a b0) ?_
    have h627_ := ff_J0_length_8abf5_r1008 a b0
    refine jt_ite (fun c628_ => ?_) (fun c628_ => ?_)
    ·
      have h629_ : jxw ((a 2 2) + y3) = (a 2 2) + y3 := jxw_id (by omega) (by omega)
      refine jt_grd (by omega) ?_
      refine jt_eI (eq_J0_charAt_5068e_r1008 E d (jd_le hd rfl) y3 a b0 (show (0 ≤ y3 ∧ y3 < 3) from by omega)) ?_
      have h630_ := iv_get hv (k := 3) (j := (jxw ((a 2 2) + y3)).toNat) (l := 0) (u := 255) rfl
      have h631_ : a 3 ((jxw ((a 2 2) + y3)).toNat) = a0 3 ((jxw ((a 2 2) + y3)).toNat) := hf 3 ((jxw ((a 2 2) + y3)).toNat) rfl
      have h632_ := iv_get hv0 (k := 3) (j := (jxw ((a 2 2) + y3)).toNat) (l := 0) (u := 255) rfl
      have h633_ := f_J0_charAt_5068e_r1008_eq a b0 y3
      have h634_ := f_J0_isLatin1_aae02_r1008_eq a b0
      have h635_ := f_J1_charAt_3b067_r2008_eq a b0 y3
      have h636_ := jxand_r (([97, 110, 100] : List Int).getD (y3.toNat) 0) 255 (by decide) (by decide)
      have h637_ := jxi2c_b (jxand (([97, 110, 100] : List Int).getD (y3.toNat) 0) 255)
      refine jt_ite (fun c638_ => ?_) (fun c638_ => ?_)
      ·
        exact hc58 y2 y3 a (show (((3 - y3) * 1) + 0).toNat ≤ n from by omega) hv hf (show 3 ≤ y2 from by omega) (show y2 ≤ 200 from by omega) (show 0 ≤ y3 from by omega) (show y3 ≤ 2 from by omega) (show 3 ≤ a 2 1 from by omega) (show y3 < 3 from by omega) (show 0 ≤ y3 from by omega) (show a 2 2 = a0 2 2 from by omega) (ch_ext hch (by omega) (q := (jxw ((a 2 2) + y3)).toNat) (by omega) (v := f_J0_charAt_5068e_r1008 a b0 y3) (by rw [← h3]; assumption) (cw_1008 a b0 y3 (by omega) (by omega))) (show y2 = (a 2 2) + 3 from by omega) (show y2 ≤ a 2 1 from by omega) (show y2 ≤ 200 from by omega) (show a0 2 3 = 0 from by omega) (show a0 2 2 < a0 2 1 from by omega)
      ·
        exact cp_X8_takesWord_r1008_56 E d hd a0 b0 hv0 a hv hf (show 3 ≤ a 2 1 from by omega) (show a 2 2 = a0 2 2 from by omega) (TW_no (y := y3) (by omega) (show y3 < 3 by omega) (q := (jxw ((a 2 2) + y3)).toNat) (by omega) (v := f_J0_charAt_5068e_r1008 a b0 y3) (cw_1008 a b0 y3 (by omega) (by omega)) (by rw [← h3]; assumption)) (show a0 2 3 = 0 from by omega) (show a0 2 2 < a0 2 1 from by omega)
    ·
      refine jt_ite (fun c639_ => ?_) (fun c639_ => ?_)
      ·
        refine jt_grd (by omega) ?_
        have h640_ := iv_get hv (k := 3) (j := y2.toNat) (l := 0) (u := 255) rfl
        have h641_ : a 3 (y2.toNat) = a0 3 (y2.toNat) := hf 3 (y2.toNat) rfl
        have h642_ := iv_get hv0 (k := 3) (j := y2.toNat) (l := 0) (u := 255) rfl
        refine jt_ite (fun c643_ => ?_) (fun c643_ => ?_)
        ·
          exact cp_X8_takesWord_r1008_96 E d hd a0 b0 hv0 y2 a hv hf (show 3 ≤ y2 from by omega) (show y2 ≤ 200 from by omega) (show 3 ≤ a 2 1 from by omega) (show a 2 2 = a0 2 2 from by omega) (TW_mk (q := y2.toNat) (show y2.toNat = (a0 2 2).toNat + 3 by omega) (by omega) (by first | exact hall | exact (fun k hk => hch k (by have hw : ((wdn 1 : Nat) : Int) = 3 := rfl; omega))) (LT_no1 (by rw [← h3]; omega))) (show y2 = (a 2 2) + 3 from by omega) (show y2 ≤ a 2 1 from by omega) (show y2 ≤ 200 from by omega) (show a0 2 3 = 0 from by omega) (show a0 2 2 < a0 2 1 from by omega)
        ·
          exact cp_X8_takesWord_r1008_83 E d hd a0 b0 hv0 y2 a hv hf (show 3 ≤ y2 from by omega) (show y2 ≤ 199 from by omega) (show 4 ≤ a 2 1 from by omega) (show a 2 2 = a0 2 2 from by omega) (fun k hk => hch k (by have hw : ((wdn 1 : Nat) : Int) = 3 := rfl; omega)) (by rw [← h3]; omega) (show y2 = (a 2 2) + 3 from by omega) (show y2 ≤ a 2 1 from by omega) (show y2 ≤ 200 from by omega) (show a0 2 3 = 0 from by omega) (show a0 2 2 < a0 2 1 from by omega)
      ·
        exact cp_X8_takesWord_r1008_96 E d hd a0 b0 hv0 y2 a hv hf (show 3 ≤ y2 from by omega) (show y2 ≤ 200 from by omega) (show 3 ≤ a 2 1 from by omega) (show a 2 2 = a0 2 2 from by omega) (TW_mk (q := y2.toNat) (show y2.toNat = (a0 2 2).toNat + 3 by omega) (by omega) (by first | exact hall | exact (fun k hk => hch k (by have hw : ((wdn 1 : Nat) : Int) = 3 := rfl; omega))) (LT_no1 (by rw [← h3]; omega))) (show y2 = (a 2 2) + 3 from by omega) (show y2 ≤ a 2 1 from by omega) (show y2 ≤ 200 from by omega) (show a0 2 3 = 0 from by omega) (show a0 2 2 < a0 2 1 from by omega)
  exact ⟨hc58, hc29⟩
theorem sp_X8_takesWord_r1008 (E : jxE) (d : Nat) (hd : Nat.ble 5 d = true) (a0 b0 : Nat → Nat → Int) (hv0 : iv a0) : jt (jxC E d 128 [.inr (.inr (.inl 2)), .inr (.inr (.inl 1008))] (jxSH, a0, b0)) (jQ_X8_takesWord_r1008 a0 b0) := by
  obtain ⟨d, rfl⟩ := jd_succ hd
  refine jt_eq (bq_X8_takesWord_r1008 E d a0 b0) ?_
  refine jt_eI (eq_J0_length_8abf5_r1008 E d (jd_le hd rfl) a0 b0) ?_
  refine jt_eI (eq_X8_isFaulty E d (jd_le hd rfl) a0 b0) ?_
  have h644_ := f_X8_isFaulty_eq a0 b0
  refine jt_ite (fun c645_ => ?_) (fun c645_ => ?_)
  ·
    have h646_ := iv_get hv0 (k := 2) (j := 1) (l := 0) (u := 200) rfl
    have h647_ := iv_get hv0 (k := 2) (j := 2) (l := 0) (u := 200) rfl
    have h648_ := ff_J0_length_8abf5_r1008 a0 b0
    have h649_ : jxw ((a0 2 2) + (f_J0_length_8abf5_r1008 a0 b0)) = (a0 2 2) + (f_J0_length_8abf5_r1008 a0 b0) := jxw_id (by omega) (by omega)
    refine jt_ite (fun c650_ => ?_) (fun c650_ => ?_)
    ·
      exact jt_rI ⟨hv0, (jfr_rf _ _), rfl, (show (0 ≤ 0 ∧ 0 ≤ 1) from by omega), (show ((¬ a0 2 3 = 0 ∨ a0 2 1 ≤ a0 2 2) → 0 = 0) from by omega), (show (0 = 0 → a0 2 2 = a0 2 2) from by omega), (by first | exact (fun h => absurd h (by decide)) | exact (fun _ => ⟨by omega, htw, by have h := hq0_1; rw [show (a0 2 2).toNat + wdn 1 = y2.toNat from (by show _ + 3 = _; omega), ← h3, ← h21]; exact h⟩)), (by first | exact (fun h => absurd h (by decide)) | exact (fun _ => Or.inr hnt) | exact (fun _ => Or.inl (by omega)) | exact (fun _ => Or.inr (TW_short (show _ < _ + 3 by omega))) | exact (fun _ => Or.inr (TW_let (q := y2.toNat) (show y2.toNat = (a0 2 2).toNat + 3 by omega) ⟨by omega, h97, by rw [← h3]; omega⟩)))⟩
    ·
      exact (cp_X8_takesWord_r1008_29 E d hd a0 b0 hv0 _).2 (jxw ((a0 2 2) + (f_J0_length_8abf5_r1008 a0 b0))) 0 a0 (Nat.le_refl _) hv0 (jfr_rf _ _) (show 3 ≤ jxw ((a0 2 2) + (f_J0_length_8abf5_r1008 a0 b0)) from by omega) (show jxw ((a0 2 2) + (f_J0_length_8abf5_r1008 a0 b0)) ≤ 200 from by omega) (show 0 ≤ 0 from by omega) (show 0 ≤ 3 from by omega) (show 3 ≤ a0 2 1 from by omega) (show 0 ≤ 0 from by omega) (show a0 2 2 = a0 2 2 from by omega) (by first | exact (fun k hk => absurd hk (by omega)) | (rw [show jxw (y3 + 1) = y3 + 1 from by omega]; exact hch)) (show jxw ((a0 2 2) + (f_J0_length_8abf5_r1008 a0 b0)) = (a0 2 2) + 3 from by omega) (show jxw ((a0 2 2) + (f_J0_length_8abf5_r1008 a0 b0)) ≤ a0 2 1 from by omega) (show jxw ((a0 2 2) + (f_J0_length_8abf5_r1008 a0 b0)) ≤ 200 from by omega) (show a0 2 3 = 0 from by omega) (show a0 2 2 < a0 2 1 from by omega)
  ·
    have h651_ := iv_get hv0 (k := 2) (j := 1) (l := 0) (u := 200) rfl
    have h652_ := iv_get hv0 (k := 2) (j := 2) (l := 0) (u := 200) rfl
    exact jt_rI ⟨hv0, (jfr_rf _ _), rfl, (show (0 ≤ 0 ∧ 0 ≤ 1) from by omega), (show ((¬ a0 2 3 = 0 ∨ a0 2 1 ≤ a0 2 2) → 0 = 0) from by omega), (show (0 = 0 → a0 2 2 = a0 2 2) from by omega), (by first | exact (fun h => absurd h (by decide)) | exact (fun _ => ⟨by omega, htw, by have h := hq0_1; rw [show (a0 2 2).toNat + wdn 1 = y2.toNat from (by show _ + 3 = _; omega), ← h3, ← h21]; exact h⟩)), (by first | exact (fun h => absurd h (by decide)) | exact (fun _ => Or.inr hnt) | exact (fun _ => Or.inl (by omega)) | exact (fun _ => Or.inr (TW_short (show _ < _ + 3 by omega))) | exact (fun _ => Or.inr (TW_let (q := y2.toNat) (show y2.toNat = (a0 2 2).toNat + 3 by omega) ⟨by omega, h97, by rw [← h3]; omega⟩)))⟩
def jW_X8_takesWord_r1009 : List (Nat × Nat) := [(2, 2)]
abbrev jQ_X8_takesWord_r1009 (a0 b0 : Nat → Nat → Int) : List jxV → (Nat → Nat → Int) → (Nat → Nat → Int) → Prop := rI (fun r a b => (iv a) ∧ (jfr jW_X8_takesWord_r1009 a0 a) ∧ (b0 = b) ∧ ((0 ≤ r ∧ r ≤ 1)) ∧ (((¬ a0 2 3 = 0 ∨ a0 2 1 ≤ a0 2 2) → r = 0)) ∧ ((r = 0 → a 2 2 = a0 2 2)) ∧ (r = 1 → a0 2 3 = 0 ∧ TW (a0 3) (a0 2 1).toNat (a0 2 2).toNat 0 ∧ a 2 2 = ((SK (a0 3) (a0 2 1).toNat ((a0 2 2).toNat + wdn 0) : Nat) : Int)) ∧ (r = 0 → ¬ a0 2 3 = 0 ∨ ¬ TW (a0 3) (a0 2 1).toNat (a0 2 2).toNat 0))
theorem cp_X8_takesWord_r1009_56 (E : jxE) (d : Nat) (hd : Nat.ble 5 (d + 1) = true) (a0 b0 : Nat → Nat → Int) (hv0 : iv a0) : ∀ (a : Nat → Nat → Int), iv a → jfr jW_X8_takesWord_r1009 a0 a → 2 ≤ a 2 1 → a 2 2 = a0 2 2 → (¬ TW (a0 3) (a0 2 1).toNat (a0 2 2).toNat 0) → a0 2 3 = 0 → a0 2 2 < a0 2 1 → jt (jxX E d 128 56 [none, none, none, none] [] (jxSH, a, b0)) (jQ_X8_takesWord_r1009 a0 b0) := by
  intro a hv hf hi0 hi1 hnt hi3 hi4
  refine jt_eq (bq_X8_takesWord_r1009_56 E d a b0) ?_
  have h653_ := iv_get hv (k := 2) (j := 1) (l := 0) (u := 200) rfl
  have h654_ : a 2 1 = a0 2 1 := hf 2 1 rfl
  have h655_ := iv_get hv0 (k := 2) (j := 1) (l := 0) (u := 200) rfl
  have h656_ := iv_get hv (k := 2) (j := 2) (l := 0) (u := 200) rfl
  have h657_ := iv_get hv0 (k := 2) (j := 2) (l := 0) (u := 200) rfl
  have h3 : a 3 = a0 3 := funext fun j => hf 3 j rfl
  have h21 := hf 2 1 rfl
  exact jt_rI ⟨hv, hf, rfl, (show (0 ≤ 0 ∧ 0 ≤ 1) from by omega), (show ((¬ a0 2 3 = 0 ∨ a0 2 1 ≤ a0 2 2) → 0 = 0) from by omega), (show (0 = 0 → a 2 2 = a0 2 2) from by omega), (by first | exact (fun h => absurd h (by decide)) | exact (fun _ => ⟨by omega, htw, by have h := hq0_1; rw [show (a0 2 2).toNat + wdn 0 = y2.toNat from (by show _ + 2 = _; omega), ← h3, ← h21]; exact h⟩)), (by first | exact (fun h => absurd h (by decide)) | exact (fun _ => Or.inr hnt) | exact (fun _ => Or.inl (by omega)) | exact (fun _ => Or.inr (TW_short (show _ < _ + 2 by omega))) | exact (fun _ => Or.inr (TW_let (q := y2.toNat) (show y2.toNat = (a0 2 2).toNat + 2 by omega) ⟨by omega, h97, by rw [← h3]; omega⟩)))⟩
theorem cp_X8_takesWord_r1009_96 (E : jxE) (d : Nat) (hd : Nat.ble 5 (d + 1) = true) (a0 b0 : Nat → Nat → Int) (hv0 : iv a0) : ∀ (y2 : Int) (a : Nat → Nat → Int), iv a → jfr jW_X8_takesWord_r1009 a0 a → 2 ≤ y2 → y2 ≤ 200 → 2 ≤ a 2 1 → a 2 2 = a0 2 2 → (TW (a0 3) (a0 2 1).toNat (a0 2 2).toNat 0) → y2 = (a 2 2) + 2 → y2 ≤ a 2 1 → y2 ≤ 200 → a0 2 3 = 0 → a0 2 2 < a0 2 1 → jt (jxX E d 128 96 [some (.inr (.inr (.inl 2))), none, some (.inl y2), none] [] (jxSH, a, b0)) (jQ_X8_takesWord_r1009 a0 b0) := by
  intro y2 a hv hf hi0 hi1 hi2 hi3 htw hi5 hi6 hi7 hi8 hi9
  refine jt_eq (bq_X8_takesWord_r1009_96 E d y2 a b0) ?_
  have h658_ := iv_get hv (k := 2) (j := 1) (l := 0) (u := 200) rfl
  have h659_ : a 2 1 = a0 2 1 := hf 2 1 rfl
  have h660_ := iv_get hv0 (k := 2) (j := 1) (l := 0) (u := 200) rfl
  have h661_ := iv_get hv (k := 2) (j := 2) (l := 0) (u := 200) rfl
  have h662_ := iv_get hv0 (k := 2) (j := 2) (l := 0) (u := 200) rfl
  have h3 : a 3 = a0 3 := funext fun j => hf 3 j rfl
  have h21 := hf 2 1 rfl
  have hv663_ : iv (jxu a 2 2 y2) := iv_put hv (l := 0) (u := 200) rfl (by omega) (by omega)
  refine jt_bV (sp_X8_skipBlanks E d (jd_le hd rfl) (jxu a 2 2 y2) b0 hv663_) (fun a664_ b664_ h664_ => ?_)
  obtain ⟨hv664_, hf664_, rfl, hq664_0, hq664_1⟩ := h664_
  have h665_ := iv_get hv664_ (k := 2) (j := 2) (l := 0) (u := 200) rfl
  have h666_ : (a 2 1 ≤ y2 → a664_ 2 2 = y2) := hq664_0
  have hf667_ : jfr jW_X8_takesWord_r1009 a0 (jxu a 2 2 y2) := jfr_put hf rfl
  have hf668_ : jfr jW_X8_takesWord_r1009 a0 a664_ := jfr_tr hf667_ hf664_ rfl
  exact jt_rI ⟨hv664_, hf668_, rfl, (show (0 ≤ 1 ∧ 1 ≤ 1) from by omega), (show ((¬ a0 2 3 = 0 ∨ a0 2 1 ≤ a0 2 2) → 1 = 0) from by omega), (show (1 = 0 → a664_ 2 2 = a0 2 2) from by omega), (by first | exact (fun h => absurd h (by decide)) | exact (fun _ => ⟨by omega, htw, by have h := hq664_1; rw [show (a0 2 2).toNat + wdn 0 = y2.toNat from (by show _ + 2 = _; omega), ← h3, ← h21]; exact h⟩)), (by first | exact (fun h => absurd h (by decide)) | exact (fun _ => Or.inr hnt) | exact (fun _ => Or.inl (by omega)) | exact (fun _ => Or.inr (TW_short (show _ < _ + 2 by omega))) | exact (fun _ => Or.inr (TW_let (q := y2.toNat) (show y2.toNat = (a0 2 2).toNat + 2 by omega) ⟨by omega, h97, by rw [← h3]; omega⟩)))⟩
theorem cp_X8_takesWord_r1009_83 (E : jxE) (d : Nat) (hd : Nat.ble 5 (d + 1) = true) (a0 b0 : Nat → Nat → Int) (hv0 : iv a0) : ∀ (y2 : Int) (a : Nat → Nat → Int), iv a → jfr jW_X8_takesWord_r1009 a0 a → 2 ≤ y2 → y2 ≤ 199 → 3 ≤ a 2 1 → a 2 2 = a0 2 2 → (∀ k : Nat, (k : Int) < (wdn 0 : Int) → (a0 3) ((a0 2 2).toNat + k) = (wdl 0).getD k 0) → (97 ≤ a0 3 y2.toNat) → y2 = (a 2 2) + 2 → y2 ≤ a 2 1 → y2 ≤ 200 → a0 2 3 = 0 → a0 2 2 < a0 2 1 → jt (jxX E d 128 83 [some (.inr (.inr (.inl 2))), none, some (.inl y2), none] [] (jxSH, a, b0)) (jQ_X8_takesWord_r1009 a0 b0) := by
  intro y2 a hv hf hi0 hi1 hi2 hi3 hall h97 hi6 hi7 hi8 hi9 hi10
  refine jt_eq (bq_X8_takesWord_r1009_83 E d y2 a b0) ?_
  have h669_ := iv_get hv (k := 2) (j := 1) (l := 0) (u := 200) rfl
  have h670_ : a 2 1 = a0 2 1 := hf 2 1 rfl
  have h671_ := iv_get hv0 (k := 2) (j := 1) (l := 0) (u := 200) rfl
  have h672_ := iv_get hv (k := 2) (j := 2) (l := 0) (u := 200) rfl
  have h673_ := iv_get hv0 (k := 2) (j := 2) (l := 0) (u := 200) rfl
  have h3 : a 3 = a0 3 := funext fun j => hf 3 j rfl
  have h21 := hf 2 1 rfl
  refine jt_grd (by omega) ?_
  have h674_ := iv_get hv (k := 3) (j := y2.toNat) (l := 0) (u := 255) rfl
  have h675_ : a 3 (y2.toNat) = a0 3 (y2.toNat) := hf 3 (y2.toNat) rfl
  have h676_ := iv_get hv0 (k := 3) (j := y2.toNat) (l := 0) (u := 255) rfl
  refine jt_ite (fun c677_ => ?_) (fun c677_ => ?_)
  ·
    exact cp_X8_takesWord_r1009_96 E d hd a0 b0 hv0 y2 a hv hf (show 2 ≤ y2 from by omega) (show y2 ≤ 200 from by omega) (show 2 ≤ a 2 1 from by omega) (show a 2 2 = a0 2 2 from by omega) (TW_mk (q := y2.toNat) (show y2.toNat = (a0 2 2).toNat + 2 by omega) (by omega) (by first | exact hall | exact (fun k hk => hch k (by have hw : ((wdn 0 : Nat) : Int) = 2 := rfl; omega))) (LT_no1 (by rw [← h3]; omega))) (show y2 = (a 2 2) + 2 from by omega) (show y2 ≤ a 2 1 from by omega) (show y2 ≤ 200 from by omega) (show a0 2 3 = 0 from by omega) (show a0 2 2 < a0 2 1 from by omega)
  ·
    exact jt_rI ⟨hv, hf, rfl, (show (0 ≤ 0 ∧ 0 ≤ 1) from by omega), (show ((¬ a0 2 3 = 0 ∨ a0 2 1 ≤ a0 2 2) → 0 = 0) from by omega), (show (0 = 0 → a 2 2 = a0 2 2) from by omega), (by first | exact (fun h => absurd h (by decide)) | exact (fun _ => ⟨by omega, htw, by have h := hq0_1; rw [show (a0 2 2).toNat + wdn 0 = y2.toNat from (by show _ + 2 = _; omega), ← h3, ← h21]; exact h⟩)), (by first | exact (fun h => absurd h (by decide)) | exact (fun _ => Or.inr hnt) | exact (fun _ => Or.inl (by omega)) | exact (fun _ => Or.inr (TW_short (show _ < _ + 2 by omega))) | exact (fun _ => Or.inr (TW_let (q := y2.toNat) (show y2.toNat = (a0 2 2).toNat + 2 by omega) ⟨by omega, h97, by rw [← h3]; omega⟩)))⟩
theorem cp_X8_takesWord_r1009_29 (E : jxE) (d : Nat) (hd : Nat.ble 5 (d + 1) = true) (a0 b0 : Nat → Nat → Int) (hv0 : iv a0) : ∀ n : Nat, (∀ (y2 y3 : Int) (a : Nat → Nat → Int), (((2 - y3) * 1) + 0).toNat ≤ n → iv a → jfr jW_X8_takesWord_r1009 a0 a → 2 ≤ y2 → y2 ≤ 200 → 0 ≤ y3 → y3 ≤ 1 → 2 ≤ a 2 1 → y3 < 2 → 0 ≤ y3 → a 2 2 = a0 2 2 → (∀ k : Nat, (k : Int) < y3 + 1 → (a0 3) ((a0 2 2).toNat + k) = (wdl 0).getD k 0) → y2 = (a 2 2) + 2 → y2 ≤ a 2 1 → y2 ≤ 200 → a0 2 3 = 0 → a0 2 2 < a0 2 1 → jt (jxX E d 128 58 [some (.inr (.inr (.inl 2))), some (.inr (.inr (.inl 1009))), some (.inl y2), some (.inl y3)] [] (jxSH, a, b0)) (jQ_X8_takesWord_r1009 a0 b0)) ∧ (∀ (y2 y3 : Int) (a : Nat → Nat → Int), (((2 - y3) * 1) + 0).toNat ≤ n → iv a → jfr jW_X8_takesWord_r1009 a0 a → 2 ≤ y2 → y2 ≤ 200 → 0 ≤ y3 → y3 ≤ 2 → 2 ≤ a 2 1 → 0 ≤ y3 → a 2 2 = a0 2 2 → (∀ k : Nat, (k : Int) < y3 → (a0 3) ((a0 2 2).toNat + k) = (wdl 0).getD k 0) → y2 = (a 2 2) + 2 → y2 ≤ a 2 1 → y2 ≤ 200 → a0 2 3 = 0 → a0 2 2 < a0 2 1 → jt (jxX E d 128 29 [some (.inr (.inr (.inl 2))), some (.inr (.inr (.inl 1009))), some (.inl y2), some (.inl y3)] [] (jxSH, a, b0)) (jQ_X8_takesWord_r1009 a0 b0)) := by
  refine jx_ind fun n ih => ?_
  have ih58 : ∀ (y2 y3 : Int) (a : Nat → Nat → Int), (((2 - y3) * 1) + 0).toNat < n → iv a → jfr jW_X8_takesWord_r1009 a0 a → 2 ≤ y2 → y2 ≤ 200 → 0 ≤ y3 → y3 ≤ 1 → 2 ≤ a 2 1 → y3 < 2 → 0 ≤ y3 → a 2 2 = a0 2 2 → (∀ k : Nat, (k : Int) < y3 + 1 → (a0 3) ((a0 2 2).toNat + k) = (wdl 0).getD k 0) → y2 = (a 2 2) + 2 → y2 ≤ a 2 1 → y2 ≤ 200 → a0 2 3 = 0 → a0 2 2 < a0 2 1 → jt (jxX E d 128 58 [some (.inr (.inr (.inl 2))), some (.inr (.inr (.inl 1009))), some (.inl y2), some (.inl y3)] [] (jxSH, a, b0)) (jQ_X8_takesWord_r1009 a0 b0) := fun y2 y3 a hlt i0 i1 i2 i3 i4 i5 i6 i7 i8 i9 i10 i11 i12 i13 i14 i15 => (ih _ hlt).1 y2 y3 a (Nat.le_refl _) i0 i1 i2 i3 i4 i5 i6 i7 i8 i9 i10 i11 i12 i13 i14 i15
  have ih29 : ∀ (y2 y3 : Int) (a : Nat → Nat → Int), (((2 - y3) * 1) + 0).toNat < n → iv a → jfr jW_X8_takesWord_r1009 a0 a → 2 ≤ y2 → y2 ≤ 200 → 0 ≤ y3 → y3 ≤ 2 → 2 ≤ a 2 1 → 0 ≤ y3 → a 2 2 = a0 2 2 → (∀ k : Nat, (k : Int) < y3 → (a0 3) ((a0 2 2).toNat + k) = (wdl 0).getD k 0) → y2 = (a 2 2) + 2 → y2 ≤ a 2 1 → y2 ≤ 200 → a0 2 3 = 0 → a0 2 2 < a0 2 1 → jt (jxX E d 128 29 [some (.inr (.inr (.inl 2))), some (.inr (.inr (.inl 1009))), some (.inl y2), some (.inl y3)] [] (jxSH, a, b0)) (jQ_X8_takesWord_r1009 a0 b0) := fun y2 y3 a hlt i0 i1 i2 i3 i4 i5 i6 i7 i8 i9 i10 i11 i12 i13 i14 => (ih _ hlt).2 y2 y3 a (Nat.le_refl _) i0 i1 i2 i3 i4 i5 i6 i7 i8 i9 i10 i11 i12 i13 i14
  have hc58 : ∀ (y2 y3 : Int) (a : Nat → Nat → Int), (((2 - y3) * 1) + 0).toNat ≤ n → iv a → jfr jW_X8_takesWord_r1009 a0 a → 2 ≤ y2 → y2 ≤ 200 → 0 ≤ y3 → y3 ≤ 1 → 2 ≤ a 2 1 → y3 < 2 → 0 ≤ y3 → a 2 2 = a0 2 2 → (∀ k : Nat, (k : Int) < y3 + 1 → (a0 3) ((a0 2 2).toNat + k) = (wdl 0).getD k 0) → y2 = (a 2 2) + 2 → y2 ≤ a 2 1 → y2 ≤ 200 → a0 2 3 = 0 → a0 2 2 < a0 2 1 → jt (jxX E d 128 58 [some (.inr (.inr (.inl 2))), some (.inr (.inr (.inl 1009))), some (.inl y2), some (.inl y3)] [] (jxSH, a, b0)) (jQ_X8_takesWord_r1009 a0 b0) := by
    intro y2 y3 a hm hv hf hi0 hi1 hi2 hi3 hi4 hi5 hi6 hi7 hch hi9 hi10 hi11 hi12 hi13
    refine jt_eq (bq_X8_takesWord_r1009_58 E d y2 y3 a b0) ?_
    have h678_ := iv_get hv (k := 2) (j := 1) (l := 0) (u := 200) rfl
    have h679_ : a 2 1 = a0 2 1 := hf 2 1 rfl
    have h680_ := iv_get hv0 (k := 2) (j := 1) (l := 0) (u := 200) rfl
    have h681_ := iv_get hv (k := 2) (j := 2) (l := 0) (u := 200) rfl
    have h682_ := iv_get hv0 (k := 2) (j := 2) (l := 0) (u := 200) rfl
    have h3 : a 3 = a0 3 := funext fun j => hf 3 j rfl
    have h21 := hf 2 1 rfl
    have h683_ : jxw (y3 + 1) = y3 + 1 := jxw_id (by omega) (by omega)
    exact ih29 y2 (jxw (y3 + 1)) a (show (((2 - (jxw (y3 + 1))) * 1) + 0).toNat < n from by omega) hv hf (show 2 ≤ y2 from by omega) (show y2 ≤ 200 from by omega) (show 0 ≤ jxw (y3 + 1) from by omega) (show jxw (y3 + 1) ≤ 2 from by omega) (show 2 ≤ a 2 1 from by omega) (show 0 ≤ jxw (y3 + 1) from by omega) (show a 2 2 = a0 2 2 from by omega) (by first | exact (fun k hk => absurd hk (by omega)) | (rw [show jxw (y3 + 1) = y3 + 1 from by omega]; exact hch)) (show y2 = (a 2 2) + 2 from by omega) (show y2 ≤ a 2 1 from by omega) (show y2 ≤ 200 from by omega) (show a0 2 3 = 0 from by omega) (show a0 2 2 < a0 2 1 from by omega)
  have hc29 : ∀ (y2 y3 : Int) (a : Nat → Nat → Int), (((2 - y3) * 1) + 0).toNat ≤ n → iv a → jfr jW_X8_takesWord_r1009 a0 a → 2 ≤ y2 → y2 ≤ 200 → 0 ≤ y3 → y3 ≤ 2 → 2 ≤ a 2 1 → 0 ≤ y3 → a 2 2 = a0 2 2 → (∀ k : Nat, (k : Int) < y3 → (a0 3) ((a0 2 2).toNat + k) = (wdl 0).getD k 0) → y2 = (a 2 2) + 2 → y2 ≤ a 2 1 → y2 ≤ 200 → a0 2 3 = 0 → a0 2 2 < a0 2 1 → jt (jxX E d 128 29 [some (.inr (.inr (.inl 2))), some (.inr (.inr (.inl 1009))), some (.inl y2), some (.inl y3)] [] (jxSH, a, b0)) (jQ_X8_takesWord_r1009 a0 b0) := by
    intro y2 y3 a hm hv hf hi0 hi1 hi2 hi3 hi4 hi5 hi6 hch hi8 hi9 hi10 hi11 hi12
    refine jt_eq (bq_X8_takesWord_r1009_29 E d y2 y3 a b0) ?_
    have h684_ := iv_get hv (k := 2) (j := 1) (l := 0) (u := 200) rfl
    have h685_ : a 2 1 = a0 2 1 := hf 2 1 rfl
    have h686_ := iv_get hv0 (k := 2) (j := 1) (l := 0) (u := 200) rfl
    have h687_ := iv_get hv (k := 2) (j := 2) (l := 0) (u := 200) rfl
    have h688_ := iv_get hv0 (k := 2) (j := 2) (l := 0) (u := 200) rfl
    have h3 : a 3 = a0 3 := funext fun j => hf 3 j rfl
    have h21 := hf 2 1 rfl
    refine jt_eI (eq_J0_length_8abf5_r1009 E d (jd_le hd rfl) a b0) ?_
    have h689_ := ff_J0_length_8abf5_r1009 a b0
    refine jt_ite (fun c690_ => ?_) (fun c690_ => ?_)
    ·
      have h691_ : jxw ((a 2 2) + y3) = (a 2 2) + y3 := jxw_id (by omega) (by omega)
      refine jt_grd (by omega) ?_
      refine jt_eI (eq_J0_charAt_5068e_r1009 E d (jd_le hd rfl) y3 a b0 (show (0 ≤ y3 ∧ y3 < 2) from by omega)) ?_
      have h692_ := iv_get hv (k := 3) (j := (jxw ((a 2 2) + y3)).toNat) (l := 0) (u := 255) rfl
      have h693_ : a 3 ((jxw ((a 2 2) + y3)).toNat) = a0 3 ((jxw ((a 2 2) + y3)).toNat) := hf 3 ((jxw ((a 2 2) + y3)).toNat) rfl
      have h694_ := iv_get hv0 (k := 3) (j := (jxw ((a 2 2) + y3)).toNat) (l := 0) (u := 255) rfl
      have h695_ := f_J0_charAt_5068e_r1009_eq a b0 y3
      have h696_ := f_J0_isLatin1_aae02_r1009_eq a b0
      have h697_ := f_J1_charAt_3b067_r2009_eq a b0 y3
      have h698_ := jxand_r (([111, 114] : List Int).getD (y3.toNat) 0) 255 (by decide) (by decide)
      have h699_ := jxi2c_b (jxand (([111, 114] : List Int).getD (y3.toNat) 0) 255)
      refine jt_ite (fun c700_ => ?_) (fun c700_ => ?_)
      ·
        exact hc58 y2 y3 a (show (((2 - y3) * 1) + 0).toNat ≤ n from by omega) hv hf (show 2 ≤ y2 from by omega) (show y2 ≤ 200 from by omega) (show 0 ≤ y3 from by omega) (show y3 ≤ 1 from by omega) (show 2 ≤ a 2 1 from by omega) (show y3 < 2 from by omega) (show 0 ≤ y3 from by omega) (show a 2 2 = a0 2 2 from by omega) (ch_ext hch (by omega) (q := (jxw ((a 2 2) + y3)).toNat) (by omega) (v := f_J0_charAt_5068e_r1009 a b0 y3) (by rw [← h3]; assumption) (cw_1009 a b0 y3 (by omega) (by omega))) (show y2 = (a 2 2) + 2 from by omega) (show y2 ≤ a 2 1 from by omega) (show y2 ≤ 200 from by omega) (show a0 2 3 = 0 from by omega) (show a0 2 2 < a0 2 1 from by omega)
      ·
        exact cp_X8_takesWord_r1009_56 E d hd a0 b0 hv0 a hv hf (show 2 ≤ a 2 1 from by omega) (show a 2 2 = a0 2 2 from by omega) (TW_no (y := y3) (by omega) (show y3 < 2 by omega) (q := (jxw ((a 2 2) + y3)).toNat) (by omega) (v := f_J0_charAt_5068e_r1009 a b0 y3) (cw_1009 a b0 y3 (by omega) (by omega)) (by rw [← h3]; assumption)) (show a0 2 3 = 0 from by omega) (show a0 2 2 < a0 2 1 from by omega)
    ·
      refine jt_ite (fun c701_ => ?_) (fun c701_ => ?_)
      ·
        refine jt_grd (by omega) ?_
        have h702_ := iv_get hv (k := 3) (j := y2.toNat) (l := 0) (u := 255) rfl
        have h703_ : a 3 (y2.toNat) = a0 3 (y2.toNat) := hf 3 (y2.toNat) rfl
        have h704_ := iv_get hv0 (k := 3) (j := y2.toNat) (l := 0) (u := 255) rfl
        refine jt_ite (fun c705_ => ?_) (fun c705_ => ?_)
        ·
          exact cp_X8_takesWord_r1009_96 E d hd a0 b0 hv0 y2 a hv hf (show 2 ≤ y2 from by omega) (show y2 ≤ 200 from by omega) (show 2 ≤ a 2 1 from by omega) (show a 2 2 = a0 2 2 from by omega) (TW_mk (q := y2.toNat) (show y2.toNat = (a0 2 2).toNat + 2 by omega) (by omega) (by first | exact hall | exact (fun k hk => hch k (by have hw : ((wdn 0 : Nat) : Int) = 2 := rfl; omega))) (LT_no1 (by rw [← h3]; omega))) (show y2 = (a 2 2) + 2 from by omega) (show y2 ≤ a 2 1 from by omega) (show y2 ≤ 200 from by omega) (show a0 2 3 = 0 from by omega) (show a0 2 2 < a0 2 1 from by omega)
        ·
          exact cp_X8_takesWord_r1009_83 E d hd a0 b0 hv0 y2 a hv hf (show 2 ≤ y2 from by omega) (show y2 ≤ 199 from by omega) (show 3 ≤ a 2 1 from by omega) (show a 2 2 = a0 2 2 from by omega) (fun k hk => hch k (by have hw : ((wdn 0 : Nat) : Int) = 2 := rfl; omega)) (by rw [← h3]; omega) (show y2 = (a 2 2) + 2 from by omega) (show y2 ≤ a 2 1 from by omega) (show y2 ≤ 200 from by omega) (show a0 2 3 = 0 from by omega) (show a0 2 2 < a0 2 1 from by omega)
      ·
        exact cp_X8_takesWord_r1009_96 E d hd a0 b0 hv0 y2 a hv hf (show 2 ≤ y2 from by omega) (show y2 ≤ 200 from by omega) (show 2 ≤ a 2 1 from by omega) (show a 2 2 = a0 2 2 from by omega) (TW_mk (q := y2.toNat) (show y2.toNat = (a0 2 2).toNat + 2 by omega) (by omega) (by first | exact hall | exact (fun k hk => hch k (by have hw : ((wdn 0 : Nat) : Int) = 2 := rfl; omega))) (LT_no1 (by rw [← h3]; omega))) (show y2 = (a 2 2) + 2 from by omega) (show y2 ≤ a 2 1 from by omega) (show y2 ≤ 200 from by omega) (show a0 2 3 = 0 from by omega) (show a0 2 2 < a0 2 1 from by omega)
  exact ⟨hc58, hc29⟩
theorem sp_X8_takesWord_r1009 (E : jxE) (d : Nat) (hd : Nat.ble 5 d = true) (a0 b0 : Nat → Nat → Int) (hv0 : iv a0) : jt (jxC E d 128 [.inr (.inr (.inl 2)), .inr (.inr (.inl 1009))] (jxSH, a0, b0)) (jQ_X8_takesWord_r1009 a0 b0) := by
  obtain ⟨d, rfl⟩ := jd_succ hd
  refine jt_eq (bq_X8_takesWord_r1009 E d a0 b0) ?_
  refine jt_eI (eq_J0_length_8abf5_r1009 E d (jd_le hd rfl) a0 b0) ?_
  refine jt_eI (eq_X8_isFaulty E d (jd_le hd rfl) a0 b0) ?_
  have h706_ := f_X8_isFaulty_eq a0 b0
  refine jt_ite (fun c707_ => ?_) (fun c707_ => ?_)
  ·
    have h708_ := iv_get hv0 (k := 2) (j := 1) (l := 0) (u := 200) rfl
    have h709_ := iv_get hv0 (k := 2) (j := 2) (l := 0) (u := 200) rfl
    have h710_ := ff_J0_length_8abf5_r1009 a0 b0
    have h711_ : jxw ((a0 2 2) + (f_J0_length_8abf5_r1009 a0 b0)) = (a0 2 2) + (f_J0_length_8abf5_r1009 a0 b0) := jxw_id (by omega) (by omega)
    refine jt_ite (fun c712_ => ?_) (fun c712_ => ?_)
    ·
      exact jt_rI ⟨hv0, (jfr_rf _ _), rfl, (show (0 ≤ 0 ∧ 0 ≤ 1) from by omega), (show ((¬ a0 2 3 = 0 ∨ a0 2 1 ≤ a0 2 2) → 0 = 0) from by omega), (show (0 = 0 → a0 2 2 = a0 2 2) from by omega), (by first | exact (fun h => absurd h (by decide)) | exact (fun _ => ⟨by omega, htw, by have h := hq0_1; rw [show (a0 2 2).toNat + wdn 0 = y2.toNat from (by show _ + 2 = _; omega), ← h3, ← h21]; exact h⟩)), (by first | exact (fun h => absurd h (by decide)) | exact (fun _ => Or.inr hnt) | exact (fun _ => Or.inl (by omega)) | exact (fun _ => Or.inr (TW_short (show _ < _ + 2 by omega))) | exact (fun _ => Or.inr (TW_let (q := y2.toNat) (show y2.toNat = (a0 2 2).toNat + 2 by omega) ⟨by omega, h97, by rw [← h3]; omega⟩)))⟩
    ·
      exact (cp_X8_takesWord_r1009_29 E d hd a0 b0 hv0 _).2 (jxw ((a0 2 2) + (f_J0_length_8abf5_r1009 a0 b0))) 0 a0 (Nat.le_refl _) hv0 (jfr_rf _ _) (show 2 ≤ jxw ((a0 2 2) + (f_J0_length_8abf5_r1009 a0 b0)) from by omega) (show jxw ((a0 2 2) + (f_J0_length_8abf5_r1009 a0 b0)) ≤ 200 from by omega) (show 0 ≤ 0 from by omega) (show 0 ≤ 2 from by omega) (show 2 ≤ a0 2 1 from by omega) (show 0 ≤ 0 from by omega) (show a0 2 2 = a0 2 2 from by omega) (by first | exact (fun k hk => absurd hk (by omega)) | (rw [show jxw (y3 + 1) = y3 + 1 from by omega]; exact hch)) (show jxw ((a0 2 2) + (f_J0_length_8abf5_r1009 a0 b0)) = (a0 2 2) + 2 from by omega) (show jxw ((a0 2 2) + (f_J0_length_8abf5_r1009 a0 b0)) ≤ a0 2 1 from by omega) (show jxw ((a0 2 2) + (f_J0_length_8abf5_r1009 a0 b0)) ≤ 200 from by omega) (show a0 2 3 = 0 from by omega) (show a0 2 2 < a0 2 1 from by omega)
  ·
    have h713_ := iv_get hv0 (k := 2) (j := 1) (l := 0) (u := 200) rfl
    have h714_ := iv_get hv0 (k := 2) (j := 2) (l := 0) (u := 200) rfl
    exact jt_rI ⟨hv0, (jfr_rf _ _), rfl, (show (0 ≤ 0 ∧ 0 ≤ 1) from by omega), (show ((¬ a0 2 3 = 0 ∨ a0 2 1 ≤ a0 2 2) → 0 = 0) from by omega), (show (0 = 0 → a0 2 2 = a0 2 2) from by omega), (by first | exact (fun h => absurd h (by decide)) | exact (fun _ => ⟨by omega, htw, by have h := hq0_1; rw [show (a0 2 2).toNat + wdn 0 = y2.toNat from (by show _ + 2 = _; omega), ← h3, ← h21]; exact h⟩)), (by first | exact (fun h => absurd h (by decide)) | exact (fun _ => Or.inr hnt) | exact (fun _ => Or.inl (by omega)) | exact (fun _ => Or.inr (TW_short (show _ < _ + 2 by omega))) | exact (fun _ => Or.inr (TW_let (q := y2.toNat) (show y2.toNat = (a0 2 2).toNat + 2 by omega) ⟨by omega, h97, by rw [← h3]; omega⟩)))⟩
def jW_X8_takesWord_r1010 : List (Nat × Nat) := [(2, 2)]
abbrev jQ_X8_takesWord_r1010 (a0 b0 : Nat → Nat → Int) : List jxV → (Nat → Nat → Int) → (Nat → Nat → Int) → Prop := rI (fun r a b => (iv a) ∧ (jfr jW_X8_takesWord_r1010 a0 a) ∧ (b0 = b) ∧ ((0 ≤ r ∧ r ≤ 1)) ∧ (((¬ a0 2 3 = 0 ∨ a0 2 1 ≤ a0 2 2) → r = 0)) ∧ ((r = 0 → a 2 2 = a0 2 2)) ∧ (r = 1 → a0 2 3 = 0 ∧ TW (a0 3) (a0 2 1).toNat (a0 2 2).toNat 10 ∧ a 2 2 = ((SK (a0 3) (a0 2 1).toNat ((a0 2 2).toNat + wdn 10) : Nat) : Int)) ∧ (r = 0 → ¬ a0 2 3 = 0 ∨ ¬ TW (a0 3) (a0 2 1).toNat (a0 2 2).toNat 10))
theorem cp_X8_takesWord_r1010_56 (E : jxE) (d : Nat) (hd : Nat.ble 5 (d + 1) = true) (a0 b0 : Nat → Nat → Int) (hv0 : iv a0) : ∀ (a : Nat → Nat → Int), iv a → jfr jW_X8_takesWord_r1010 a0 a → 5 ≤ a 2 1 → a 2 2 = a0 2 2 → (¬ TW (a0 3) (a0 2 1).toNat (a0 2 2).toNat 10) → a0 2 3 = 0 → a0 2 2 < a0 2 1 → jt (jxX E d 128 56 [none, none, none, none] [] (jxSH, a, b0)) (jQ_X8_takesWord_r1010 a0 b0) := by
  intro a hv hf hi0 hi1 hnt hi3 hi4
  refine jt_eq (bq_X8_takesWord_r1010_56 E d a b0) ?_
  have h715_ := iv_get hv (k := 2) (j := 1) (l := 0) (u := 200) rfl
  have h716_ : a 2 1 = a0 2 1 := hf 2 1 rfl
  have h717_ := iv_get hv0 (k := 2) (j := 1) (l := 0) (u := 200) rfl
  have h718_ := iv_get hv (k := 2) (j := 2) (l := 0) (u := 200) rfl
  have h719_ := iv_get hv0 (k := 2) (j := 2) (l := 0) (u := 200) rfl
  have h3 : a 3 = a0 3 := funext fun j => hf 3 j rfl
  have h21 := hf 2 1 rfl
  exact jt_rI ⟨hv, hf, rfl, (show (0 ≤ 0 ∧ 0 ≤ 1) from by omega), (show ((¬ a0 2 3 = 0 ∨ a0 2 1 ≤ a0 2 2) → 0 = 0) from by omega), (show (0 = 0 → a 2 2 = a0 2 2) from by omega), (by first | exact (fun h => absurd h (by decide)) | exact (fun _ => ⟨by omega, htw, by have h := hq0_1; rw [show (a0 2 2).toNat + wdn 10 = y2.toNat from (by show _ + 5 = _; omega), ← h3, ← h21]; exact h⟩)), (by first | exact (fun h => absurd h (by decide)) | exact (fun _ => Or.inr hnt) | exact (fun _ => Or.inl (by omega)) | exact (fun _ => Or.inr (TW_short (show _ < _ + 5 by omega))) | exact (fun _ => Or.inr (TW_let (q := y2.toNat) (show y2.toNat = (a0 2 2).toNat + 5 by omega) ⟨by omega, h97, by rw [← h3]; omega⟩)))⟩
theorem cp_X8_takesWord_r1010_96 (E : jxE) (d : Nat) (hd : Nat.ble 5 (d + 1) = true) (a0 b0 : Nat → Nat → Int) (hv0 : iv a0) : ∀ (y2 : Int) (a : Nat → Nat → Int), iv a → jfr jW_X8_takesWord_r1010 a0 a → 5 ≤ y2 → y2 ≤ 200 → 5 ≤ a 2 1 → a 2 2 = a0 2 2 → (TW (a0 3) (a0 2 1).toNat (a0 2 2).toNat 10) → y2 = (a 2 2) + 5 → y2 ≤ a 2 1 → y2 ≤ 200 → a0 2 3 = 0 → a0 2 2 < a0 2 1 → jt (jxX E d 128 96 [some (.inr (.inr (.inl 2))), none, some (.inl y2), none] [] (jxSH, a, b0)) (jQ_X8_takesWord_r1010 a0 b0) := by
  intro y2 a hv hf hi0 hi1 hi2 hi3 htw hi5 hi6 hi7 hi8 hi9
  refine jt_eq (bq_X8_takesWord_r1010_96 E d y2 a b0) ?_
  have h720_ := iv_get hv (k := 2) (j := 1) (l := 0) (u := 200) rfl
  have h721_ : a 2 1 = a0 2 1 := hf 2 1 rfl
  have h722_ := iv_get hv0 (k := 2) (j := 1) (l := 0) (u := 200) rfl
  have h723_ := iv_get hv (k := 2) (j := 2) (l := 0) (u := 200) rfl
  have h724_ := iv_get hv0 (k := 2) (j := 2) (l := 0) (u := 200) rfl
  have h3 : a 3 = a0 3 := funext fun j => hf 3 j rfl
  have h21 := hf 2 1 rfl
  have hv725_ : iv (jxu a 2 2 y2) := iv_put hv (l := 0) (u := 200) rfl (by omega) (by omega)
  refine jt_bV (sp_X8_skipBlanks E d (jd_le hd rfl) (jxu a 2 2 y2) b0 hv725_) (fun a726_ b726_ h726_ => ?_)
  obtain ⟨hv726_, hf726_, rfl, hq726_0, hq726_1⟩ := h726_
  have h727_ := iv_get hv726_ (k := 2) (j := 2) (l := 0) (u := 200) rfl
  have h728_ : (a 2 1 ≤ y2 → a726_ 2 2 = y2) := hq726_0
  have hf729_ : jfr jW_X8_takesWord_r1010 a0 (jxu a 2 2 y2) := jfr_put hf rfl
  have hf730_ : jfr jW_X8_takesWord_r1010 a0 a726_ := jfr_tr hf729_ hf726_ rfl
  exact jt_rI ⟨hv726_, hf730_, rfl, (show (0 ≤ 1 ∧ 1 ≤ 1) from by omega), (show ((¬ a0 2 3 = 0 ∨ a0 2 1 ≤ a0 2 2) → 1 = 0) from by omega), (show (1 = 0 → a726_ 2 2 = a0 2 2) from by omega), (by first | exact (fun h => absurd h (by decide)) | exact (fun _ => ⟨by omega, htw, by have h := hq726_1; rw [show (a0 2 2).toNat + wdn 10 = y2.toNat from (by show _ + 5 = _; omega), ← h3, ← h21]; exact h⟩)), (by first | exact (fun h => absurd h (by decide)) | exact (fun _ => Or.inr hnt) | exact (fun _ => Or.inl (by omega)) | exact (fun _ => Or.inr (TW_short (show _ < _ + 5 by omega))) | exact (fun _ => Or.inr (TW_let (q := y2.toNat) (show y2.toNat = (a0 2 2).toNat + 5 by omega) ⟨by omega, h97, by rw [← h3]; omega⟩)))⟩
theorem cp_X8_takesWord_r1010_83 (E : jxE) (d : Nat) (hd : Nat.ble 5 (d + 1) = true) (a0 b0 : Nat → Nat → Int) (hv0 : iv a0) : ∀ (y2 : Int) (a : Nat → Nat → Int), iv a → jfr jW_X8_takesWord_r1010 a0 a → 5 ≤ y2 → y2 ≤ 199 → 6 ≤ a 2 1 → a 2 2 = a0 2 2 → (∀ k : Nat, (k : Int) < (wdn 10 : Int) → (a0 3) ((a0 2 2).toNat + k) = (wdl 10).getD k 0) → (97 ≤ a0 3 y2.toNat) → y2 = (a 2 2) + 5 → y2 ≤ a 2 1 → y2 ≤ 200 → a0 2 3 = 0 → a0 2 2 < a0 2 1 → jt (jxX E d 128 83 [some (.inr (.inr (.inl 2))), none, some (.inl y2), none] [] (jxSH, a, b0)) (jQ_X8_takesWord_r1010 a0 b0) := by
  intro y2 a hv hf hi0 hi1 hi2 hi3 hall h97 hi6 hi7 hi8 hi9 hi10
  refine jt_eq (bq_X8_takesWord_r1010_83 E d y2 a b0) ?_
  have h731_ := iv_get hv (k := 2) (j := 1) (l := 0) (u := 200) rfl
  have h732_ : a 2 1 = a0 2 1 := hf 2 1 rfl
  have h733_ := iv_get hv0 (k := 2) (j := 1) (l := 0) (u := 200) rfl
  have h734_ := iv_get hv (k := 2) (j := 2) (l := 0) (u := 200) rfl
  have h735_ := iv_get hv0 (k := 2) (j := 2) (l := 0) (u := 200) rfl
  have h3 : a 3 = a0 3 := funext fun j => hf 3 j rfl
  have h21 := hf 2 1 rfl
  refine jt_grd (by omega) ?_
  have h736_ := iv_get hv (k := 3) (j := y2.toNat) (l := 0) (u := 255) rfl
  have h737_ : a 3 (y2.toNat) = a0 3 (y2.toNat) := hf 3 (y2.toNat) rfl
  have h738_ := iv_get hv0 (k := 3) (j := y2.toNat) (l := 0) (u := 255) rfl
  refine jt_ite (fun c739_ => ?_) (fun c739_ => ?_)
  ·
    exact cp_X8_takesWord_r1010_96 E d hd a0 b0 hv0 y2 a hv hf (show 5 ≤ y2 from by omega) (show y2 ≤ 200 from by omega) (show 5 ≤ a 2 1 from by omega) (show a 2 2 = a0 2 2 from by omega) (TW_mk (q := y2.toNat) (show y2.toNat = (a0 2 2).toNat + 5 by omega) (by omega) (by first | exact hall | exact (fun k hk => hch k (by have hw : ((wdn 10 : Nat) : Int) = 5 := rfl; omega))) (LT_no1 (by rw [← h3]; omega))) (show y2 = (a 2 2) + 5 from by omega) (show y2 ≤ a 2 1 from by omega) (show y2 ≤ 200 from by omega) (show a0 2 3 = 0 from by omega) (show a0 2 2 < a0 2 1 from by omega)
  ·
    exact jt_rI ⟨hv, hf, rfl, (show (0 ≤ 0 ∧ 0 ≤ 1) from by omega), (show ((¬ a0 2 3 = 0 ∨ a0 2 1 ≤ a0 2 2) → 0 = 0) from by omega), (show (0 = 0 → a 2 2 = a0 2 2) from by omega), (by first | exact (fun h => absurd h (by decide)) | exact (fun _ => ⟨by omega, htw, by have h := hq0_1; rw [show (a0 2 2).toNat + wdn 10 = y2.toNat from (by show _ + 5 = _; omega), ← h3, ← h21]; exact h⟩)), (by first | exact (fun h => absurd h (by decide)) | exact (fun _ => Or.inr hnt) | exact (fun _ => Or.inl (by omega)) | exact (fun _ => Or.inr (TW_short (show _ < _ + 5 by omega))) | exact (fun _ => Or.inr (TW_let (q := y2.toNat) (show y2.toNat = (a0 2 2).toNat + 5 by omega) ⟨by omega, h97, by rw [← h3]; omega⟩)))⟩
theorem cp_X8_takesWord_r1010_29 (E : jxE) (d : Nat) (hd : Nat.ble 5 (d + 1) = true) (a0 b0 : Nat → Nat → Int) (hv0 : iv a0) : ∀ n : Nat, (∀ (y2 y3 : Int) (a : Nat → Nat → Int), (((5 - y3) * 1) + 0).toNat ≤ n → iv a → jfr jW_X8_takesWord_r1010 a0 a → 5 ≤ y2 → y2 ≤ 200 → 0 ≤ y3 → y3 ≤ 4 → 5 ≤ a 2 1 → y3 < 5 → 0 ≤ y3 → a 2 2 = a0 2 2 → (∀ k : Nat, (k : Int) < y3 + 1 → (a0 3) ((a0 2 2).toNat + k) = (wdl 10).getD k 0) → y2 = (a 2 2) + 5 → y2 ≤ a 2 1 → y2 ≤ 200 → a0 2 3 = 0 → a0 2 2 < a0 2 1 → jt (jxX E d 128 58 [some (.inr (.inr (.inl 2))), some (.inr (.inr (.inl 1010))), some (.inl y2), some (.inl y3)] [] (jxSH, a, b0)) (jQ_X8_takesWord_r1010 a0 b0)) ∧ (∀ (y2 y3 : Int) (a : Nat → Nat → Int), (((5 - y3) * 1) + 0).toNat ≤ n → iv a → jfr jW_X8_takesWord_r1010 a0 a → 5 ≤ y2 → y2 ≤ 200 → 0 ≤ y3 → y3 ≤ 5 → 5 ≤ a 2 1 → 0 ≤ y3 → a 2 2 = a0 2 2 → (∀ k : Nat, (k : Int) < y3 → (a0 3) ((a0 2 2).toNat + k) = (wdl 10).getD k 0) → y2 = (a 2 2) + 5 → y2 ≤ a 2 1 → y2 ≤ 200 → a0 2 3 = 0 → a0 2 2 < a0 2 1 → jt (jxX E d 128 29 [some (.inr (.inr (.inl 2))), some (.inr (.inr (.inl 1010))), some (.inl y2), some (.inl y3)] [] (jxSH, a, b0)) (jQ_X8_takesWord_r1010 a0 b0)) := by
  refine jx_ind fun n ih => ?_
  have ih58 : ∀ (y2 y3 : Int) (a : Nat → Nat → Int), (((5 - y3) * 1) + 0).toNat < n → iv a → jfr jW_X8_takesWord_r1010 a0 a → 5 ≤ y2 → y2 ≤ 200 → 0 ≤ y3 → y3 ≤ 4 → 5 ≤ a 2 1 → y3 < 5 → 0 ≤ y3 → a 2 2 = a0 2 2 → (∀ k : Nat, (k : Int) < y3 + 1 → (a0 3) ((a0 2 2).toNat + k) = (wdl 10).getD k 0) → y2 = (a 2 2) + 5 → y2 ≤ a 2 1 → y2 ≤ 200 → a0 2 3 = 0 → a0 2 2 < a0 2 1 → jt (jxX E d 128 58 [some (.inr (.inr (.inl 2))), some (.inr (.inr (.inl 1010))), some (.inl y2), some (.inl y3)] [] (jxSH, a, b0)) (jQ_X8_takesWord_r1010 a0 b0) := fun y2 y3 a hlt i0 i1 i2 i3 i4 i5 i6 i7 i8 i9 i10 i11 i12 i13 i14 i15 => (ih _ hlt).1 y2 y3 a (Nat.le_refl _) i0 i1 i2 i3 i4 i5 i6 i7 i8 i9 i10 i11 i12 i13 i14 i15
  have ih29 : ∀ (y2 y3 : Int) (a : Nat → Nat → Int), (((5 - y3) * 1) + 0).toNat < n → iv a → jfr jW_X8_takesWord_r1010 a0 a → 5 ≤ y2 → y2 ≤ 200 → 0 ≤ y3 → y3 ≤ 5 → 5 ≤ a 2 1 → 0 ≤ y3 → a 2 2 = a0 2 2 → (∀ k : Nat, (k : Int) < y3 → (a0 3) ((a0 2 2).toNat + k) = (wdl 10).getD k 0) → y2 = (a 2 2) + 5 → y2 ≤ a 2 1 → y2 ≤ 200 → a0 2 3 = 0 → a0 2 2 < a0 2 1 → jt (jxX E d 128 29 [some (.inr (.inr (.inl 2))), some (.inr (.inr (.inl 1010))), some (.inl y2), some (.inl y3)] [] (jxSH, a, b0)) (jQ_X8_takesWord_r1010 a0 b0) := fun y2 y3 a hlt i0 i1 i2 i3 i4 i5 i6 i7 i8 i9 i10 i11 i12 i13 i14 => (ih _ hlt).2 y2 y3 a (Nat.le_refl _) i0 i1 i2 i3 i4 i5 i6 i7 i8 i9 i10 i11 i12 i13 i14
  have hc58 : ∀ (y2 y3 : Int) (a : Nat → Nat → Int), (((5 - y3) * 1) + 0).toNat ≤ n → iv a → jfr jW_X8_takesWord_r1010 a0 a → 5 ≤ y2 → y2 ≤ 200 → 0 ≤ y3 → y3 ≤ 4 → 5 ≤ a 2 1 → y3 < 5 → 0 ≤ y3 → a 2 2 = a0 2 2 → (∀ k : Nat, (k : Int) < y3 + 1 → (a0 3) ((a0 2 2).toNat + k) = (wdl 10).getD k 0) → y2 = (a 2 2) + 5 → y2 ≤ a 2 1 → y2 ≤ 200 → a0 2 3 = 0 → a0 2 2 < a0 2 1 → jt (jxX E d 128 58 [some (.inr (.inr (.inl 2))), some (.inr (.inr (.inl 1010))), some (.inl y2), some (.inl y3)] [] (jxSH, a, b0)) (jQ_X8_takesWord_r1010 a0 b0) := by
    intro y2 y3 a hm hv hf hi0 hi1 hi2 hi3 hi4 hi5 hi6 hi7 hch hi9 hi10 hi11 hi12 hi13
    refine jt_eq (bq_X8_takesWord_r1010_58 E d y2 y3 a b0) ?_
    have h740_ := iv_get hv (k := 2) (j := 1) (l := 0) (u := 200) rfl
    have h741_ : a 2 1 = a0 2 1 := hf 2 1 rfl
    have h742_ := iv_get hv0 (k := 2) (j := 1) (l := 0) (u := 200) rfl
    have h743_ := iv_get hv (k := 2) (j := 2) (l := 0) (u := 200) rfl
    have h744_ := iv_get hv0 (k := 2) (j := 2) (l := 0) (u := 200) rfl
    have h3 : a 3 = a0 3 := funext fun j => hf 3 j rfl
    have h21 := hf 2 1 rfl
    have h745_ : jxw (y3 + 1) = y3 + 1 := jxw_id (by omega) (by omega)
    exact ih29 y2 (jxw (y3 + 1)) a (show (((5 - (jxw (y3 + 1))) * 1) + 0).toNat < n from by omega) hv hf (show 5 ≤ y2 from by omega) (show y2 ≤ 200 from by omega) (show 0 ≤ jxw (y3 + 1) from by omega) (show jxw (y3 + 1) ≤ 5 from by omega) (show 5 ≤ a 2 1 from by omega) (show 0 ≤ jxw (y3 + 1) from by omega) (show a 2 2 = a0 2 2 from by omega) (by first | exact (fun k hk => absurd hk (by omega)) | (rw [show jxw (y3 + 1) = y3 + 1 from by omega]; exact hch)) (show y2 = (a 2 2) + 5 from by omega) (show y2 ≤ a 2 1 from by omega) (show y2 ≤ 200 from by omega) (show a0 2 3 = 0 from by omega) (show a0 2 2 < a0 2 1 from by omega)
  have hc29 : ∀ (y2 y3 : Int) (a : Nat → Nat → Int), (((5 - y3) * 1) + 0).toNat ≤ n → iv a → jfr jW_X8_takesWord_r1010 a0 a → 5 ≤ y2 → y2 ≤ 200 → 0 ≤ y3 → y3 ≤ 5 → 5 ≤ a 2 1 → 0 ≤ y3 → a 2 2 = a0 2 2 → (∀ k : Nat, (k : Int) < y3 → (a0 3) ((a0 2 2).toNat + k) = (wdl 10).getD k 0) → y2 = (a 2 2) + 5 → y2 ≤ a 2 1 → y2 ≤ 200 → a0 2 3 = 0 → a0 2 2 < a0 2 1 → jt (jxX E d 128 29 [some (.inr (.inr (.inl 2))), some (.inr (.inr (.inl 1010))), some (.inl y2), some (.inl y3)] [] (jxSH, a, b0)) (jQ_X8_takesWord_r1010 a0 b0) := by
    intro y2 y3 a hm hv hf hi0 hi1 hi2 hi3 hi4 hi5 hi6 hch hi8 hi9 hi10 hi11 hi12
    refine jt_eq (bq_X8_takesWord_r1010_29 E d y2 y3 a b0) ?_
    have h746_ := iv_get hv (k := 2) (j := 1) (l := 0) (u := 200) rfl
    have h747_ : a 2 1 = a0 2 1 := hf 2 1 rfl
    have h748_ := iv_get hv0 (k := 2) (j := 1) (l := 0) (u := 200) rfl
    have h749_ := iv_get hv (k := 2) (j := 2) (l := 0) (u := 200) rfl
    have h750_ := iv_get hv0 (k := 2) (j := 2) (l := 0) (u := 200) rfl
    have h3 : a 3 = a0 3 := funext fun j => hf 3 j rfl
    have h21 := hf 2 1 rfl
    refine jt_eI (eq_J0_length_8abf5_r1010 E d (jd_le hd rfl) a b0) ?_
    have h751_ := ff_J0_length_8abf5_r1010 a b0
    refine jt_ite (fun c752_ => ?_) (fun c752_ => ?_)
    ·
      have h753_ : jxw ((a 2 2) + y3) = (a 2 2) + y3 := jxw_id (by omega) (by omega)
      refine jt_grd (by omega) ?_
      refine jt_eI (eq_J0_charAt_5068e_r1010 E d (jd_le hd rfl) y3 a b0 (show (0 ≤ y3 ∧ y3 < 5) from by omega)) ?_
      have h754_ := iv_get hv (k := 3) (j := (jxw ((a 2 2) + y3)).toNat) (l := 0) (u := 255) rfl
      have h755_ : a 3 ((jxw ((a 2 2) + y3)).toNat) = a0 3 ((jxw ((a 2 2) + y3)).toNat) := hf 3 ((jxw ((a 2 2) + y3)).toNat) rfl
      have h756_ := iv_get hv0 (k := 3) (j := (jxw ((a 2 2) + y3)).toNat) (l := 0) (u := 255) rfl
      have h757_ := f_J0_charAt_5068e_r1010_eq a b0 y3
      have h758_ := f_J0_isLatin1_aae02_r1010_eq a b0
      have h759_ := f_J1_charAt_3b067_r2010_eq a b0 y3
      have h760_ := jxand_r (([117, 110, 100, 101, 114] : List Int).getD (y3.toNat) 0) 255 (by decide) (by decide)
      have h761_ := jxi2c_b (jxand (([117, 110, 100, 101, 114] : List Int).getD (y3.toNat) 0) 255)
      refine jt_ite (fun c762_ => ?_) (fun c762_ => ?_)
      ·
        exact hc58 y2 y3 a (show (((5 - y3) * 1) + 0).toNat ≤ n from by omega) hv hf (show 5 ≤ y2 from by omega) (show y2 ≤ 200 from by omega) (show 0 ≤ y3 from by omega) (show y3 ≤ 4 from by omega) (show 5 ≤ a 2 1 from by omega) (show y3 < 5 from by omega) (show 0 ≤ y3 from by omega) (show a 2 2 = a0 2 2 from by omega) (ch_ext hch (by omega) (q := (jxw ((a 2 2) + y3)).toNat) (by omega) (v := f_J0_charAt_5068e_r1010 a b0 y3) (by rw [← h3]; assumption) (cw_1010 a b0 y3 (by omega) (by omega))) (show y2 = (a 2 2) + 5 from by omega) (show y2 ≤ a 2 1 from by omega) (show y2 ≤ 200 from by omega) (show a0 2 3 = 0 from by omega) (show a0 2 2 < a0 2 1 from by omega)
      ·
        exact cp_X8_takesWord_r1010_56 E d hd a0 b0 hv0 a hv hf (show 5 ≤ a 2 1 from by omega) (show a 2 2 = a0 2 2 from by omega) (TW_no (y := y3) (by omega) (show y3 < 5 by omega) (q := (jxw ((a 2 2) + y3)).toNat) (by omega) (v := f_J0_charAt_5068e_r1010 a b0 y3) (cw_1010 a b0 y3 (by omega) (by omega)) (by rw [← h3]; assumption)) (show a0 2 3 = 0 from by omega) (show a0 2 2 < a0 2 1 from by omega)
    ·
      refine jt_ite (fun c763_ => ?_) (fun c763_ => ?_)
      ·
        refine jt_grd (by omega) ?_
        have h764_ := iv_get hv (k := 3) (j := y2.toNat) (l := 0) (u := 255) rfl
        have h765_ : a 3 (y2.toNat) = a0 3 (y2.toNat) := hf 3 (y2.toNat) rfl
        have h766_ := iv_get hv0 (k := 3) (j := y2.toNat) (l := 0) (u := 255) rfl
        refine jt_ite (fun c767_ => ?_) (fun c767_ => ?_)
        ·
          exact cp_X8_takesWord_r1010_96 E d hd a0 b0 hv0 y2 a hv hf (show 5 ≤ y2 from by omega) (show y2 ≤ 200 from by omega) (show 5 ≤ a 2 1 from by omega) (show a 2 2 = a0 2 2 from by omega) (TW_mk (q := y2.toNat) (show y2.toNat = (a0 2 2).toNat + 5 by omega) (by omega) (by first | exact hall | exact (fun k hk => hch k (by have hw : ((wdn 10 : Nat) : Int) = 5 := rfl; omega))) (LT_no1 (by rw [← h3]; omega))) (show y2 = (a 2 2) + 5 from by omega) (show y2 ≤ a 2 1 from by omega) (show y2 ≤ 200 from by omega) (show a0 2 3 = 0 from by omega) (show a0 2 2 < a0 2 1 from by omega)
        ·
          exact cp_X8_takesWord_r1010_83 E d hd a0 b0 hv0 y2 a hv hf (show 5 ≤ y2 from by omega) (show y2 ≤ 199 from by omega) (show 6 ≤ a 2 1 from by omega) (show a 2 2 = a0 2 2 from by omega) (fun k hk => hch k (by have hw : ((wdn 10 : Nat) : Int) = 5 := rfl; omega)) (by rw [← h3]; omega) (show y2 = (a 2 2) + 5 from by omega) (show y2 ≤ a 2 1 from by omega) (show y2 ≤ 200 from by omega) (show a0 2 3 = 0 from by omega) (show a0 2 2 < a0 2 1 from by omega)
      ·
        exact cp_X8_takesWord_r1010_96 E d hd a0 b0 hv0 y2 a hv hf (show 5 ≤ y2 from by omega) (show y2 ≤ 200 from by omega) (show 5 ≤ a 2 1 from by omega) (show a 2 2 = a0 2 2 from by omega) (TW_mk (q := y2.toNat) (show y2.toNat = (a0 2 2).toNat + 5 by omega) (by omega) (by first | exact hall | exact (fun k hk => hch k (by have hw : ((wdn 10 : Nat) : Int) = 5 := rfl; omega))) (LT_no1 (by rw [← h3]; omega))) (show y2 = (a 2 2) + 5 from by omega) (show y2 ≤ a 2 1 from by omega) (show y2 ≤ 200 from by omega) (show a0 2 3 = 0 from by omega) (show a0 2 2 < a0 2 1 from by omega)
  exact ⟨hc58, hc29⟩
theorem sp_X8_takesWord_r1010 (E : jxE) (d : Nat) (hd : Nat.ble 5 d = true) (a0 b0 : Nat → Nat → Int) (hv0 : iv a0) : jt (jxC E d 128 [.inr (.inr (.inl 2)), .inr (.inr (.inl 1010))] (jxSH, a0, b0)) (jQ_X8_takesWord_r1010 a0 b0) := by
  obtain ⟨d, rfl⟩ := jd_succ hd
  refine jt_eq (bq_X8_takesWord_r1010 E d a0 b0) ?_
  refine jt_eI (eq_J0_length_8abf5_r1010 E d (jd_le hd rfl) a0 b0) ?_
  refine jt_eI (eq_X8_isFaulty E d (jd_le hd rfl) a0 b0) ?_
  have h768_ := f_X8_isFaulty_eq a0 b0
  refine jt_ite (fun c769_ => ?_) (fun c769_ => ?_)
  ·
    have h770_ := iv_get hv0 (k := 2) (j := 1) (l := 0) (u := 200) rfl
    have h771_ := iv_get hv0 (k := 2) (j := 2) (l := 0) (u := 200) rfl
    have h772_ := ff_J0_length_8abf5_r1010 a0 b0
    have h773_ : jxw ((a0 2 2) + (f_J0_length_8abf5_r1010 a0 b0)) = (a0 2 2) + (f_J0_length_8abf5_r1010 a0 b0) := jxw_id (by omega) (by omega)
    refine jt_ite (fun c774_ => ?_) (fun c774_ => ?_)
    ·
      exact jt_rI ⟨hv0, (jfr_rf _ _), rfl, (show (0 ≤ 0 ∧ 0 ≤ 1) from by omega), (show ((¬ a0 2 3 = 0 ∨ a0 2 1 ≤ a0 2 2) → 0 = 0) from by omega), (show (0 = 0 → a0 2 2 = a0 2 2) from by omega), (by first | exact (fun h => absurd h (by decide)) | exact (fun _ => ⟨by omega, htw, by have h := hq0_1; rw [show (a0 2 2).toNat + wdn 10 = y2.toNat from (by show _ + 5 = _; omega), ← h3, ← h21]; exact h⟩)), (by first | exact (fun h => absurd h (by decide)) | exact (fun _ => Or.inr hnt) | exact (fun _ => Or.inl (by omega)) | exact (fun _ => Or.inr (TW_short (show _ < _ + 5 by omega))) | exact (fun _ => Or.inr (TW_let (q := y2.toNat) (show y2.toNat = (a0 2 2).toNat + 5 by omega) ⟨by omega, h97, by rw [← h3]; omega⟩)))⟩
    ·
      exact (cp_X8_takesWord_r1010_29 E d hd a0 b0 hv0 _).2 (jxw ((a0 2 2) + (f_J0_length_8abf5_r1010 a0 b0))) 0 a0 (Nat.le_refl _) hv0 (jfr_rf _ _) (show 5 ≤ jxw ((a0 2 2) + (f_J0_length_8abf5_r1010 a0 b0)) from by omega) (show jxw ((a0 2 2) + (f_J0_length_8abf5_r1010 a0 b0)) ≤ 200 from by omega) (show 0 ≤ 0 from by omega) (show 0 ≤ 5 from by omega) (show 5 ≤ a0 2 1 from by omega) (show 0 ≤ 0 from by omega) (show a0 2 2 = a0 2 2 from by omega) (by first | exact (fun k hk => absurd hk (by omega)) | (rw [show jxw (y3 + 1) = y3 + 1 from by omega]; exact hch)) (show jxw ((a0 2 2) + (f_J0_length_8abf5_r1010 a0 b0)) = (a0 2 2) + 5 from by omega) (show jxw ((a0 2 2) + (f_J0_length_8abf5_r1010 a0 b0)) ≤ a0 2 1 from by omega) (show jxw ((a0 2 2) + (f_J0_length_8abf5_r1010 a0 b0)) ≤ 200 from by omega) (show a0 2 3 = 0 from by omega) (show a0 2 2 < a0 2 1 from by omega)
  ·
    have h775_ := iv_get hv0 (k := 2) (j := 1) (l := 0) (u := 200) rfl
    have h776_ := iv_get hv0 (k := 2) (j := 2) (l := 0) (u := 200) rfl
    exact jt_rI ⟨hv0, (jfr_rf _ _), rfl, (show (0 ≤ 0 ∧ 0 ≤ 1) from by omega), (show ((¬ a0 2 3 = 0 ∨ a0 2 1 ≤ a0 2 2) → 0 = 0) from by omega), (show (0 = 0 → a0 2 2 = a0 2 2) from by omega), (by first | exact (fun h => absurd h (by decide)) | exact (fun _ => ⟨by omega, htw, by have h := hq0_1; rw [show (a0 2 2).toNat + wdn 10 = y2.toNat from (by show _ + 5 = _; omega), ← h3, ← h21]; exact h⟩)), (by first | exact (fun h => absurd h (by decide)) | exact (fun _ => Or.inr hnt) | exact (fun _ => Or.inl (by omega)) | exact (fun _ => Or.inr (TW_short (show _ < _ + 5 by omega))) | exact (fun _ => Or.inr (TW_let (q := y2.toNat) (show y2.toNat = (a0 2 2).toNat + 5 by omega) ⟨by omega, h97, by rw [← h3]; omega⟩)))⟩
def jW_X8_takesWord_r1011 : List (Nat × Nat) := [(2, 2)]
abbrev jQ_X8_takesWord_r1011 (a0 b0 : Nat → Nat → Int) : List jxV → (Nat → Nat → Int) → (Nat → Nat → Int) → Prop := rI (fun r a b => (iv a) ∧ (jfr jW_X8_takesWord_r1011 a0 a) ∧ (b0 = b) ∧ ((0 ≤ r ∧ r ≤ 1)) ∧ (((¬ a0 2 3 = 0 ∨ a0 2 1 ≤ a0 2 2) → r = 0)) ∧ ((r = 0 → a 2 2 = a0 2 2)) ∧ (r = 1 → a0 2 3 = 0 ∧ TW (a0 3) (a0 2 1).toNat (a0 2 2).toNat 11 ∧ a 2 2 = ((SK (a0 3) (a0 2 1).toNat ((a0 2 2).toNat + wdn 11) : Nat) : Int)) ∧ (r = 0 → ¬ a0 2 3 = 0 ∨ ¬ TW (a0 3) (a0 2 1).toNat (a0 2 2).toNat 11))
theorem cp_X8_takesWord_r1011_56 (E : jxE) (d : Nat) (hd : Nat.ble 5 (d + 1) = true) (a0 b0 : Nat → Nat → Int) (hv0 : iv a0) : ∀ (a : Nat → Nat → Int), iv a → jfr jW_X8_takesWord_r1011 a0 a → 4 ≤ a 2 1 → a 2 2 = a0 2 2 → (¬ TW (a0 3) (a0 2 1).toNat (a0 2 2).toNat 11) → a0 2 3 = 0 → a0 2 2 < a0 2 1 → jt (jxX E d 128 56 [none, none, none, none] [] (jxSH, a, b0)) (jQ_X8_takesWord_r1011 a0 b0) := by
  intro a hv hf hi0 hi1 hnt hi3 hi4
  refine jt_eq (bq_X8_takesWord_r1011_56 E d a b0) ?_
  have h777_ := iv_get hv (k := 2) (j := 1) (l := 0) (u := 200) rfl
  have h778_ : a 2 1 = a0 2 1 := hf 2 1 rfl
  have h779_ := iv_get hv0 (k := 2) (j := 1) (l := 0) (u := 200) rfl
  have h780_ := iv_get hv (k := 2) (j := 2) (l := 0) (u := 200) rfl
  have h781_ := iv_get hv0 (k := 2) (j := 2) (l := 0) (u := 200) rfl
  have h3 : a 3 = a0 3 := funext fun j => hf 3 j rfl
  have h21 := hf 2 1 rfl
  exact jt_rI ⟨hv, hf, rfl, (show (0 ≤ 0 ∧ 0 ≤ 1) from by omega), (show ((¬ a0 2 3 = 0 ∨ a0 2 1 ≤ a0 2 2) → 0 = 0) from by omega), (show (0 = 0 → a 2 2 = a0 2 2) from by omega), (by first | exact (fun h => absurd h (by decide)) | exact (fun _ => ⟨by omega, htw, by have h := hq0_1; rw [show (a0 2 2).toNat + wdn 11 = y2.toNat from (by show _ + 4 = _; omega), ← h3, ← h21]; exact h⟩)), (by first | exact (fun h => absurd h (by decide)) | exact (fun _ => Or.inr hnt) | exact (fun _ => Or.inl (by omega)) | exact (fun _ => Or.inr (TW_short (show _ < _ + 4 by omega))) | exact (fun _ => Or.inr (TW_let (q := y2.toNat) (show y2.toNat = (a0 2 2).toNat + 4 by omega) ⟨by omega, h97, by rw [← h3]; omega⟩)))⟩
theorem cp_X8_takesWord_r1011_96 (E : jxE) (d : Nat) (hd : Nat.ble 5 (d + 1) = true) (a0 b0 : Nat → Nat → Int) (hv0 : iv a0) : ∀ (y2 : Int) (a : Nat → Nat → Int), iv a → jfr jW_X8_takesWord_r1011 a0 a → 4 ≤ y2 → y2 ≤ 200 → 4 ≤ a 2 1 → a 2 2 = a0 2 2 → (TW (a0 3) (a0 2 1).toNat (a0 2 2).toNat 11) → y2 = (a 2 2) + 4 → y2 ≤ a 2 1 → y2 ≤ 200 → a0 2 3 = 0 → a0 2 2 < a0 2 1 → jt (jxX E d 128 96 [some (.inr (.inr (.inl 2))), none, some (.inl y2), none] [] (jxSH, a, b0)) (jQ_X8_takesWord_r1011 a0 b0) := by
  intro y2 a hv hf hi0 hi1 hi2 hi3 htw hi5 hi6 hi7 hi8 hi9
  refine jt_eq (bq_X8_takesWord_r1011_96 E d y2 a b0) ?_
  have h782_ := iv_get hv (k := 2) (j := 1) (l := 0) (u := 200) rfl
  have h783_ : a 2 1 = a0 2 1 := hf 2 1 rfl
  have h784_ := iv_get hv0 (k := 2) (j := 1) (l := 0) (u := 200) rfl
  have h785_ := iv_get hv (k := 2) (j := 2) (l := 0) (u := 200) rfl
  have h786_ := iv_get hv0 (k := 2) (j := 2) (l := 0) (u := 200) rfl
  have h3 : a 3 = a0 3 := funext fun j => hf 3 j rfl
  have h21 := hf 2 1 rfl
  have hv787_ : iv (jxu a 2 2 y2) := iv_put hv (l := 0) (u := 200) rfl (by omega) (by omega)
  refine jt_bV (sp_X8_skipBlanks E d (jd_le hd rfl) (jxu a 2 2 y2) b0 hv787_) (fun a788_ b788_ h788_ => ?_)
  obtain ⟨hv788_, hf788_, rfl, hq788_0, hq788_1⟩ := h788_
  have h789_ := iv_get hv788_ (k := 2) (j := 2) (l := 0) (u := 200) rfl
  have h790_ : (a 2 1 ≤ y2 → a788_ 2 2 = y2) := hq788_0
  have hf791_ : jfr jW_X8_takesWord_r1011 a0 (jxu a 2 2 y2) := jfr_put hf rfl
  have hf792_ : jfr jW_X8_takesWord_r1011 a0 a788_ := jfr_tr hf791_ hf788_ rfl
  exact jt_rI ⟨hv788_, hf792_, rfl, (show (0 ≤ 1 ∧ 1 ≤ 1) from by omega), (show ((¬ a0 2 3 = 0 ∨ a0 2 1 ≤ a0 2 2) → 1 = 0) from by omega), (show (1 = 0 → a788_ 2 2 = a0 2 2) from by omega), (by first | exact (fun h => absurd h (by decide)) | exact (fun _ => ⟨by omega, htw, by have h := hq788_1; rw [show (a0 2 2).toNat + wdn 11 = y2.toNat from (by show _ + 4 = _; omega), ← h3, ← h21]; exact h⟩)), (by first | exact (fun h => absurd h (by decide)) | exact (fun _ => Or.inr hnt) | exact (fun _ => Or.inl (by omega)) | exact (fun _ => Or.inr (TW_short (show _ < _ + 4 by omega))) | exact (fun _ => Or.inr (TW_let (q := y2.toNat) (show y2.toNat = (a0 2 2).toNat + 4 by omega) ⟨by omega, h97, by rw [← h3]; omega⟩)))⟩
theorem cp_X8_takesWord_r1011_83 (E : jxE) (d : Nat) (hd : Nat.ble 5 (d + 1) = true) (a0 b0 : Nat → Nat → Int) (hv0 : iv a0) : ∀ (y2 : Int) (a : Nat → Nat → Int), iv a → jfr jW_X8_takesWord_r1011 a0 a → 4 ≤ y2 → y2 ≤ 199 → 5 ≤ a 2 1 → a 2 2 = a0 2 2 → (∀ k : Nat, (k : Int) < (wdn 11 : Int) → (a0 3) ((a0 2 2).toNat + k) = (wdl 11).getD k 0) → (97 ≤ a0 3 y2.toNat) → y2 = (a 2 2) + 4 → y2 ≤ a 2 1 → y2 ≤ 200 → a0 2 3 = 0 → a0 2 2 < a0 2 1 → jt (jxX E d 128 83 [some (.inr (.inr (.inl 2))), none, some (.inl y2), none] [] (jxSH, a, b0)) (jQ_X8_takesWord_r1011 a0 b0) := by
  intro y2 a hv hf hi0 hi1 hi2 hi3 hall h97 hi6 hi7 hi8 hi9 hi10
  refine jt_eq (bq_X8_takesWord_r1011_83 E d y2 a b0) ?_
  have h793_ := iv_get hv (k := 2) (j := 1) (l := 0) (u := 200) rfl
  have h794_ : a 2 1 = a0 2 1 := hf 2 1 rfl
  have h795_ := iv_get hv0 (k := 2) (j := 1) (l := 0) (u := 200) rfl
  have h796_ := iv_get hv (k := 2) (j := 2) (l := 0) (u := 200) rfl
  have h797_ := iv_get hv0 (k := 2) (j := 2) (l := 0) (u := 200) rfl
  have h3 : a 3 = a0 3 := funext fun j => hf 3 j rfl
  have h21 := hf 2 1 rfl
  refine jt_grd (by omega) ?_
  have h798_ := iv_get hv (k := 3) (j := y2.toNat) (l := 0) (u := 255) rfl
  have h799_ : a 3 (y2.toNat) = a0 3 (y2.toNat) := hf 3 (y2.toNat) rfl
  have h800_ := iv_get hv0 (k := 3) (j := y2.toNat) (l := 0) (u := 255) rfl
  refine jt_ite (fun c801_ => ?_) (fun c801_ => ?_)
  ·
    exact cp_X8_takesWord_r1011_96 E d hd a0 b0 hv0 y2 a hv hf (show 4 ≤ y2 from by omega) (show y2 ≤ 200 from by omega) (show 4 ≤ a 2 1 from by omega) (show a 2 2 = a0 2 2 from by omega) (TW_mk (q := y2.toNat) (show y2.toNat = (a0 2 2).toNat + 4 by omega) (by omega) (by first | exact hall | exact (fun k hk => hch k (by have hw : ((wdn 11 : Nat) : Int) = 4 := rfl; omega))) (LT_no1 (by rw [← h3]; omega))) (show y2 = (a 2 2) + 4 from by omega) (show y2 ≤ a 2 1 from by omega) (show y2 ≤ 200 from by omega) (show a0 2 3 = 0 from by omega) (show a0 2 2 < a0 2 1 from by omega)
  ·
    exact jt_rI ⟨hv, hf, rfl, (show (0 ≤ 0 ∧ 0 ≤ 1) from by omega), (show ((¬ a0 2 3 = 0 ∨ a0 2 1 ≤ a0 2 2) → 0 = 0) from by omega), (show (0 = 0 → a 2 2 = a0 2 2) from by omega), (by first | exact (fun h => absurd h (by decide)) | exact (fun _ => ⟨by omega, htw, by have h := hq0_1; rw [show (a0 2 2).toNat + wdn 11 = y2.toNat from (by show _ + 4 = _; omega), ← h3, ← h21]; exact h⟩)), (by first | exact (fun h => absurd h (by decide)) | exact (fun _ => Or.inr hnt) | exact (fun _ => Or.inl (by omega)) | exact (fun _ => Or.inr (TW_short (show _ < _ + 4 by omega))) | exact (fun _ => Or.inr (TW_let (q := y2.toNat) (show y2.toNat = (a0 2 2).toNat + 4 by omega) ⟨by omega, h97, by rw [← h3]; omega⟩)))⟩
theorem cp_X8_takesWord_r1011_29 (E : jxE) (d : Nat) (hd : Nat.ble 5 (d + 1) = true) (a0 b0 : Nat → Nat → Int) (hv0 : iv a0) : ∀ n : Nat, (∀ (y2 y3 : Int) (a : Nat → Nat → Int), (((4 - y3) * 1) + 0).toNat ≤ n → iv a → jfr jW_X8_takesWord_r1011 a0 a → 4 ≤ y2 → y2 ≤ 200 → 0 ≤ y3 → y3 ≤ 3 → 4 ≤ a 2 1 → y3 < 4 → 0 ≤ y3 → a 2 2 = a0 2 2 → (∀ k : Nat, (k : Int) < y3 + 1 → (a0 3) ((a0 2 2).toNat + k) = (wdl 11).getD k 0) → y2 = (a 2 2) + 4 → y2 ≤ a 2 1 → y2 ≤ 200 → a0 2 3 = 0 → a0 2 2 < a0 2 1 → jt (jxX E d 128 58 [some (.inr (.inr (.inl 2))), some (.inr (.inr (.inl 1011))), some (.inl y2), some (.inl y3)] [] (jxSH, a, b0)) (jQ_X8_takesWord_r1011 a0 b0)) ∧ (∀ (y2 y3 : Int) (a : Nat → Nat → Int), (((4 - y3) * 1) + 0).toNat ≤ n → iv a → jfr jW_X8_takesWord_r1011 a0 a → 4 ≤ y2 → y2 ≤ 200 → 0 ≤ y3 → y3 ≤ 4 → 4 ≤ a 2 1 → 0 ≤ y3 → a 2 2 = a0 2 2 → (∀ k : Nat, (k : Int) < y3 → (a0 3) ((a0 2 2).toNat + k) = (wdl 11).getD k 0) → y2 = (a 2 2) + 4 → y2 ≤ a 2 1 → y2 ≤ 200 → a0 2 3 = 0 → a0 2 2 < a0 2 1 → jt (jxX E d 128 29 [some (.inr (.inr (.inl 2))), some (.inr (.inr (.inl 1011))), some (.inl y2), some (.inl y3)] [] (jxSH, a, b0)) (jQ_X8_takesWord_r1011 a0 b0)) := by
  refine jx_ind fun n ih => ?_
  have ih58 : ∀ (y2 y3 : Int) (a : Nat → Nat → Int), (((4 - y3) * 1) + 0).toNat < n → iv a → jfr jW_X8_takesWord_r1011 a0 a → 4 ≤ y2 → y2 ≤ 200 → 0 ≤ y3 → y3 ≤ 3 → 4 ≤ a 2 1 → y3 < 4 → 0 ≤ y3 → a 2 2 = a0 2 2 → (∀ k : Nat, (k : Int) < y3 + 1 → (a0 3) ((a0 2 2).toNat + k) = (wdl 11).getD k 0) → y2 = (a 2 2) + 4 → y2 ≤ a 2 1 → y2 ≤ 200 → a0 2 3 = 0 → a0 2 2 < a0 2 1 → jt (jxX E d 128 58 [some (.inr (.inr (.inl 2))), some (.inr (.inr (.inl 1011))), some (.inl y2), some (.inl y3)] [] (jxSH, a, b0)) (jQ_X8_takesWord_r1011 a0 b0) := fun y2 y3 a hlt i0 i1 i2 i3 i4 i5 i6 i7 i8 i9 i10 i11 i12 i13 i14 i15 => (ih _ hlt).1 y2 y3 a (Nat.le_refl _) i0 i1 i2 i3 i4 i5 i6 i7 i8 i9 i10 i11 i12 i13 i14 i15
  have ih29 : ∀ (y2 y3 : Int) (a : Nat → Nat → Int), (((4 - y3) * 1) + 0).toNat < n → iv a → jfr jW_X8_takesWord_r1011 a0 a → 4 ≤ y2 → y2 ≤ 200 → 0 ≤ y3 → y3 ≤ 4 → 4 ≤ a 2 1 → 0 ≤ y3 → a 2 2 = a0 2 2 → (∀ k : Nat, (k : Int) < y3 → (a0 3) ((a0 2 2).toNat + k) = (wdl 11).getD k 0) → y2 = (a 2 2) + 4 → y2 ≤ a 2 1 → y2 ≤ 200 → a0 2 3 = 0 → a0 2 2 < a0 2 1 → jt (jxX E d 128 29 [some (.inr (.inr (.inl 2))), some (.inr (.inr (.inl 1011))), some (.inl y2), some (.inl y3)] [] (jxSH, a, b0)) (jQ_X8_takesWord_r1011 a0 b0) := fun y2 y3 a hlt i0 i1 i2 i3 i4 i5 i6 i7 i8 i9 i10 i11 i12 i13 i14 => (ih _ hlt).2 y2 y3 a (Nat.le_refl _) i0 i1 i2 i3 i4 i5 i6 i7 i8 i9 i10 i11 i12 i13 i14
  have hc58 : ∀ (y2 y3 : Int) (a : Nat → Nat → Int), (((4 - y3) * 1) + 0).toNat ≤ n → iv a → jfr jW_X8_takesWord_r1011 a0 a → 4 ≤ y2 → y2 ≤ 200 → 0 ≤ y3 → y3 ≤ 3 → 4 ≤ a 2 1 → y3 < 4 → 0 ≤ y3 → a 2 2 = a0 2 2 → (∀ k : Nat, (k : Int) < y3 + 1 → (a0 3) ((a0 2 2).toNat + k) = (wdl 11).getD k 0) → y2 = (a 2 2) + 4 → y2 ≤ a 2 1 → y2 ≤ 200 → a0 2 3 = 0 → a0 2 2 < a0 2 1 → jt (jxX E d 128 58 [some (.inr (.inr (.inl 2))), some (.inr (.inr (.inl 1011))), some (.inl y2), some (.inl y3)] [] (jxSH, a, b0)) (jQ_X8_takesWord_r1011 a0 b0) := by
    intro y2 y3 a hm hv hf hi0 hi1 hi2 hi3 hi4 hi5 hi6 hi7 hch hi9 hi10 hi11 hi12 hi13
    refine jt_eq (bq_X8_takesWord_r1011_58 E d y2 y3 a b0) ?_
    have h802_ := iv_get hv (k := 2) (j := 1) (l := 0) (u := 200) rfl
    have h803_ : a 2 1 = a0 2 1 := hf 2 1 rfl
    have h804_ := iv_get hv0 (k := 2) (j := 1) (l := 0) (u := 200) rfl
    have h805_ := iv_get hv (k := 2) (j := 2) (l := 0) (u := 200) rfl
    have h806_ := iv_get hv0 (k := 2) (j := 2) (l := 0) (u := 200) rfl
    have h3 : a 3 = a0 3 := funext fun j => hf 3 j rfl
    have h21 := hf 2 1 rfl
    have h807_ : jxw (y3 + 1) = y3 + 1 := jxw_id (by omega) (by omega)
    exact ih29 y2 (jxw (y3 + 1)) a (show (((4 - (jxw (y3 + 1))) * 1) + 0).toNat < n from by omega) hv hf (show 4 ≤ y2 from by omega) (show y2 ≤ 200 from by omega) (show 0 ≤ jxw (y3 + 1) from by omega) (show jxw (y3 + 1) ≤ 4 from by omega) (show 4 ≤ a 2 1 from by omega) (show 0 ≤ jxw (y3 + 1) from by omega) (show a 2 2 = a0 2 2 from by omega) (by first | exact (fun k hk => absurd hk (by omega)) | (rw [show jxw (y3 + 1) = y3 + 1 from by omega]; exact hch)) (show y2 = (a 2 2) + 4 from by omega) (show y2 ≤ a 2 1 from by omega) (show y2 ≤ 200 from by omega) (show a0 2 3 = 0 from by omega) (show a0 2 2 < a0 2 1 from by omega)
  have hc29 : ∀ (y2 y3 : Int) (a : Nat → Nat → Int), (((4 - y3) * 1) + 0).toNat ≤ n → iv a → jfr jW_X8_takesWord_r1011 a0 a → 4 ≤ y2 → y2 ≤ 200 → 0 ≤ y3 → y3 ≤ 4 → 4 ≤ a 2 1 → 0 ≤ y3 → a 2 2 = a0 2 2 → (∀ k : Nat, (k : Int) < y3 → (a0 3) ((a0 2 2).toNat + k) = (wdl 11).getD k 0) → y2 = (a 2 2) + 4 → y2 ≤ a 2 1 → y2 ≤ 200 → a0 2 3 = 0 → a0 2 2 < a0 2 1 → jt (jxX E d 128 29 [some (.inr (.inr (.inl 2))), some (.inr (.inr (.inl 1011))), some (.inl y2), some (.inl y3)] [] (jxSH, a, b0)) (jQ_X8_takesWord_r1011 a0 b0) := by
    intro y2 y3 a hm hv hf hi0 hi1 hi2 hi3 hi4 hi5 hi6 hch hi8 hi9 hi10 hi11 hi12
    refine jt_eq (bq_X8_takesWord_r1011_29 E d y2 y3 a b0) ?_
    have h808_ := iv_get hv (k := 2) (j := 1) (l := 0) (u := 200) rfl
    have h809_ : a 2 1 = a0 2 1 := hf 2 1 rfl
    have h810_ := iv_get hv0 (k := 2) (j := 1) (l := 0) (u := 200) rfl
    have h811_ := iv_get hv (k := 2) (j := 2) (l := 0) (u := 200) rfl
    have h812_ := iv_get hv0 (k := 2) (j := 2) (l := 0) (u := 200) rfl
    have h3 : a 3 = a0 3 := funext fun j => hf 3 j rfl
    have h21 := hf 2 1 rfl
    refine jt_eI (eq_J0_length_8abf5_r1011 E d (jd_le hd rfl) a b0) ?_
    have h813_ := ff_J0_length_8abf5_r1011 a b0
    refine jt_ite (fun c814_ => ?_) (fun c814_ => ?_)
    ·
      have h815_ : jxw ((a 2 2) + y3) = (a 2 2) + y3 := jxw_id (by omega) (by omega)
      refine jt_grd (by omega) ?_
      refine jt_eI (eq_J0_charAt_5068e_r1011 E d (jd_le hd rfl) y3 a b0 (show (0 ≤ y3 ∧ y3 < 4) from by omega)) ?_
      have h816_ := iv_get hv (k := 3) (j := (jxw ((a 2 2) + y3)).toNat) (l := 0) (u := 255) rfl
      have h817_ : a 3 ((jxw ((a 2 2) + y3)).toNat) = a0 3 ((jxw ((a 2 2) + y3)).toNat) := hf 3 ((jxw ((a 2 2) + y3)).toNat) rfl
      have h818_ := iv_get hv0 (k := 3) (j := (jxw ((a 2 2) + y3)).toNat) (l := 0) (u := 255) rfl
      have h819_ := f_J0_charAt_5068e_r1011_eq a b0 y3
      have h820_ := f_J0_isLatin1_aae02_r1011_eq a b0
      have h821_ := f_J1_charAt_3b067_r2011_eq a b0 y3
      have h822_ := jxand_r (([109, 111, 114, 101] : List Int).getD (y3.toNat) 0) 255 (by decide) (by decide)
      have h823_ := jxi2c_b (jxand (([109, 111, 114, 101] : List Int).getD (y3.toNat) 0) 255)
      refine jt_ite (fun c824_ => ?_) (fun c824_ => ?_)
      ·
        exact hc58 y2 y3 a (show (((4 - y3) * 1) + 0).toNat ≤ n from by omega) hv hf (show 4 ≤ y2 from by omega) (show y2 ≤ 200 from by omega) (show 0 ≤ y3 from by omega) (show y3 ≤ 3 from by omega) (show 4 ≤ a 2 1 from by omega) (show y3 < 4 from by omega) (show 0 ≤ y3 from by omega) (show a 2 2 = a0 2 2 from by omega) (ch_ext hch (by omega) (q := (jxw ((a 2 2) + y3)).toNat) (by omega) (v := f_J0_charAt_5068e_r1011 a b0 y3) (by rw [← h3]; assumption) (cw_1011 a b0 y3 (by omega) (by omega))) (show y2 = (a 2 2) + 4 from by omega) (show y2 ≤ a 2 1 from by omega) (show y2 ≤ 200 from by omega) (show a0 2 3 = 0 from by omega) (show a0 2 2 < a0 2 1 from by omega)
      ·
        exact cp_X8_takesWord_r1011_56 E d hd a0 b0 hv0 a hv hf (show 4 ≤ a 2 1 from by omega) (show a 2 2 = a0 2 2 from by omega) (TW_no (y := y3) (by omega) (show y3 < 4 by omega) (q := (jxw ((a 2 2) + y3)).toNat) (by omega) (v := f_J0_charAt_5068e_r1011 a b0 y3) (cw_1011 a b0 y3 (by omega) (by omega)) (by rw [← h3]; assumption)) (show a0 2 3 = 0 from by omega) (show a0 2 2 < a0 2 1 from by omega)
    ·
      refine jt_ite (fun c825_ => ?_) (fun c825_ => ?_)
      ·
        refine jt_grd (by omega) ?_
        have h826_ := iv_get hv (k := 3) (j := y2.toNat) (l := 0) (u := 255) rfl
        have h827_ : a 3 (y2.toNat) = a0 3 (y2.toNat) := hf 3 (y2.toNat) rfl
        have h828_ := iv_get hv0 (k := 3) (j := y2.toNat) (l := 0) (u := 255) rfl
        refine jt_ite (fun c829_ => ?_) (fun c829_ => ?_)
        ·
          exact cp_X8_takesWord_r1011_96 E d hd a0 b0 hv0 y2 a hv hf (show 4 ≤ y2 from by omega) (show y2 ≤ 200 from by omega) (show 4 ≤ a 2 1 from by omega) (show a 2 2 = a0 2 2 from by omega) (TW_mk (q := y2.toNat) (show y2.toNat = (a0 2 2).toNat + 4 by omega) (by omega) (by first | exact hall | exact (fun k hk => hch k (by have hw : ((wdn 11 : Nat) : Int) = 4 := rfl; omega))) (LT_no1 (by rw [← h3]; omega))) (show y2 = (a 2 2) + 4 from by omega) (show y2 ≤ a 2 1 from by omega) (show y2 ≤ 200 from by omega) (show a0 2 3 = 0 from by omega) (show a0 2 2 < a0 2 1 from by omega)
        ·
          exact cp_X8_takesWord_r1011_83 E d hd a0 b0 hv0 y2 a hv hf (show 4 ≤ y2 from by omega) (show y2 ≤ 199 from by omega) (show 5 ≤ a 2 1 from by omega) (show a 2 2 = a0 2 2 from by omega) (fun k hk => hch k (by have hw : ((wdn 11 : Nat) : Int) = 4 := rfl; omega)) (by rw [← h3]; omega) (show y2 = (a 2 2) + 4 from by omega) (show y2 ≤ a 2 1 from by omega) (show y2 ≤ 200 from by omega) (show a0 2 3 = 0 from by omega) (show a0 2 2 < a0 2 1 from by omega)
      ·
        exact cp_X8_takesWord_r1011_96 E d hd a0 b0 hv0 y2 a hv hf (show 4 ≤ y2 from by omega) (show y2 ≤ 200 from by omega) (show 4 ≤ a 2 1 from by omega) (show a 2 2 = a0 2 2 from by omega) (TW_mk (q := y2.toNat) (show y2.toNat = (a0 2 2).toNat + 4 by omega) (by omega) (by first | exact hall | exact (fun k hk => hch k (by have hw : ((wdn 11 : Nat) : Int) = 4 := rfl; omega))) (LT_no1 (by rw [← h3]; omega))) (show y2 = (a 2 2) + 4 from by omega) (show y2 ≤ a 2 1 from by omega) (show y2 ≤ 200 from by omega) (show a0 2 3 = 0 from by omega) (show a0 2 2 < a0 2 1 from by omega)
  exact ⟨hc58, hc29⟩
theorem sp_X8_takesWord_r1011 (E : jxE) (d : Nat) (hd : Nat.ble 5 d = true) (a0 b0 : Nat → Nat → Int) (hv0 : iv a0) : jt (jxC E d 128 [.inr (.inr (.inl 2)), .inr (.inr (.inl 1011))] (jxSH, a0, b0)) (jQ_X8_takesWord_r1011 a0 b0) := by
  obtain ⟨d, rfl⟩ := jd_succ hd
  refine jt_eq (bq_X8_takesWord_r1011 E d a0 b0) ?_
  refine jt_eI (eq_J0_length_8abf5_r1011 E d (jd_le hd rfl) a0 b0) ?_
  refine jt_eI (eq_X8_isFaulty E d (jd_le hd rfl) a0 b0) ?_
  have h830_ := f_X8_isFaulty_eq a0 b0
  refine jt_ite (fun c831_ => ?_) (fun c831_ => ?_)
  ·
    have h832_ := iv_get hv0 (k := 2) (j := 1) (l := 0) (u := 200) rfl
    have h833_ := iv_get hv0 (k := 2) (j := 2) (l := 0) (u := 200) rfl
    have h834_ := ff_J0_length_8abf5_r1011 a0 b0
    have h835_ : jxw ((a0 2 2) + (f_J0_length_8abf5_r1011 a0 b0)) = (a0 2 2) + (f_J0_length_8abf5_r1011 a0 b0) := jxw_id (by omega) (by omega)
    refine jt_ite (fun c836_ => ?_) (fun c836_ => ?_)
    ·
      exact jt_rI ⟨hv0, (jfr_rf _ _), rfl, (show (0 ≤ 0 ∧ 0 ≤ 1) from by omega), (show ((¬ a0 2 3 = 0 ∨ a0 2 1 ≤ a0 2 2) → 0 = 0) from by omega), (show (0 = 0 → a0 2 2 = a0 2 2) from by omega), (by first | exact (fun h => absurd h (by decide)) | exact (fun _ => ⟨by omega, htw, by have h := hq0_1; rw [show (a0 2 2).toNat + wdn 11 = y2.toNat from (by show _ + 4 = _; omega), ← h3, ← h21]; exact h⟩)), (by first | exact (fun h => absurd h (by decide)) | exact (fun _ => Or.inr hnt) | exact (fun _ => Or.inl (by omega)) | exact (fun _ => Or.inr (TW_short (show _ < _ + 4 by omega))) | exact (fun _ => Or.inr (TW_let (q := y2.toNat) (show y2.toNat = (a0 2 2).toNat + 4 by omega) ⟨by omega, h97, by rw [← h3]; omega⟩)))⟩
    ·
      exact (cp_X8_takesWord_r1011_29 E d hd a0 b0 hv0 _).2 (jxw ((a0 2 2) + (f_J0_length_8abf5_r1011 a0 b0))) 0 a0 (Nat.le_refl _) hv0 (jfr_rf _ _) (show 4 ≤ jxw ((a0 2 2) + (f_J0_length_8abf5_r1011 a0 b0)) from by omega) (show jxw ((a0 2 2) + (f_J0_length_8abf5_r1011 a0 b0)) ≤ 200 from by omega) (show 0 ≤ 0 from by omega) (show 0 ≤ 4 from by omega) (show 4 ≤ a0 2 1 from by omega) (show 0 ≤ 0 from by omega) (show a0 2 2 = a0 2 2 from by omega) (by first | exact (fun k hk => absurd hk (by omega)) | (rw [show jxw (y3 + 1) = y3 + 1 from by omega]; exact hch)) (show jxw ((a0 2 2) + (f_J0_length_8abf5_r1011 a0 b0)) = (a0 2 2) + 4 from by omega) (show jxw ((a0 2 2) + (f_J0_length_8abf5_r1011 a0 b0)) ≤ a0 2 1 from by omega) (show jxw ((a0 2 2) + (f_J0_length_8abf5_r1011 a0 b0)) ≤ 200 from by omega) (show a0 2 3 = 0 from by omega) (show a0 2 2 < a0 2 1 from by omega)
  ·
    have h837_ := iv_get hv0 (k := 2) (j := 1) (l := 0) (u := 200) rfl
    have h838_ := iv_get hv0 (k := 2) (j := 2) (l := 0) (u := 200) rfl
    exact jt_rI ⟨hv0, (jfr_rf _ _), rfl, (show (0 ≤ 0 ∧ 0 ≤ 1) from by omega), (show ((¬ a0 2 3 = 0 ∨ a0 2 1 ≤ a0 2 2) → 0 = 0) from by omega), (show (0 = 0 → a0 2 2 = a0 2 2) from by omega), (by first | exact (fun h => absurd h (by decide)) | exact (fun _ => ⟨by omega, htw, by have h := hq0_1; rw [show (a0 2 2).toNat + wdn 11 = y2.toNat from (by show _ + 4 = _; omega), ← h3, ← h21]; exact h⟩)), (by first | exact (fun h => absurd h (by decide)) | exact (fun _ => Or.inr hnt) | exact (fun _ => Or.inl (by omega)) | exact (fun _ => Or.inr (TW_short (show _ < _ + 4 by omega))) | exact (fun _ => Or.inr (TW_let (q := y2.toNat) (show y2.toNat = (a0 2 2).toNat + 4 by omega) ⟨by omega, h97, by rw [← h3]; omega⟩)))⟩
def jW_X8_takesWord_r1012 : List (Nat × Nat) := [(2, 2)]
abbrev jQ_X8_takesWord_r1012 (a0 b0 : Nat → Nat → Int) : List jxV → (Nat → Nat → Int) → (Nat → Nat → Int) → Prop := rI (fun r a b => (iv a) ∧ (jfr jW_X8_takesWord_r1012 a0 a) ∧ (b0 = b) ∧ ((0 ≤ r ∧ r ≤ 1)) ∧ (((¬ a0 2 3 = 0 ∨ a0 2 1 ≤ a0 2 2) → r = 0)) ∧ ((r = 0 → a 2 2 = a0 2 2)) ∧ (r = 1 → a0 2 3 = 0 ∧ TW (a0 3) (a0 2 1).toNat (a0 2 2).toNat 12 ∧ a 2 2 = ((SK (a0 3) (a0 2 1).toNat ((a0 2 2).toNat + wdn 12) : Nat) : Int)) ∧ (r = 0 → ¬ a0 2 3 = 0 ∨ ¬ TW (a0 3) (a0 2 1).toNat (a0 2 2).toNat 12))
theorem cp_X8_takesWord_r1012_56 (E : jxE) (d : Nat) (hd : Nat.ble 5 (d + 1) = true) (a0 b0 : Nat → Nat → Int) (hv0 : iv a0) : ∀ (a : Nat → Nat → Int), iv a → jfr jW_X8_takesWord_r1012 a0 a → 5 ≤ a 2 1 → a 2 2 = a0 2 2 → (¬ TW (a0 3) (a0 2 1).toNat (a0 2 2).toNat 12) → a0 2 3 = 0 → a0 2 2 < a0 2 1 → jt (jxX E d 128 56 [none, none, none, none] [] (jxSH, a, b0)) (jQ_X8_takesWord_r1012 a0 b0) := by
  intro a hv hf hi0 hi1 hnt hi3 hi4
  refine jt_eq (bq_X8_takesWord_r1012_56 E d a b0) ?_
  have h839_ := iv_get hv (k := 2) (j := 1) (l := 0) (u := 200) rfl
  have h840_ : a 2 1 = a0 2 1 := hf 2 1 rfl
  have h841_ := iv_get hv0 (k := 2) (j := 1) (l := 0) (u := 200) rfl
  have h842_ := iv_get hv (k := 2) (j := 2) (l := 0) (u := 200) rfl
  have h843_ := iv_get hv0 (k := 2) (j := 2) (l := 0) (u := 200) rfl
  have h3 : a 3 = a0 3 := funext fun j => hf 3 j rfl
  have h21 := hf 2 1 rfl
  exact jt_rI ⟨hv, hf, rfl, (show (0 ≤ 0 ∧ 0 ≤ 1) from by omega), (show ((¬ a0 2 3 = 0 ∨ a0 2 1 ≤ a0 2 2) → 0 = 0) from by omega), (show (0 = 0 → a 2 2 = a0 2 2) from by omega), (by first | exact (fun h => absurd h (by decide)) | exact (fun _ => ⟨by omega, htw, by have h := hq0_1; rw [show (a0 2 2).toNat + wdn 12 = y2.toNat from (by show _ + 5 = _; omega), ← h3, ← h21]; exact h⟩)), (by first | exact (fun h => absurd h (by decide)) | exact (fun _ => Or.inr hnt) | exact (fun _ => Or.inl (by omega)) | exact (fun _ => Or.inr (TW_short (show _ < _ + 5 by omega))) | exact (fun _ => Or.inr (TW_let (q := y2.toNat) (show y2.toNat = (a0 2 2).toNat + 5 by omega) ⟨by omega, h97, by rw [← h3]; omega⟩)))⟩
theorem cp_X8_takesWord_r1012_96 (E : jxE) (d : Nat) (hd : Nat.ble 5 (d + 1) = true) (a0 b0 : Nat → Nat → Int) (hv0 : iv a0) : ∀ (y2 : Int) (a : Nat → Nat → Int), iv a → jfr jW_X8_takesWord_r1012 a0 a → 5 ≤ y2 → y2 ≤ 200 → 5 ≤ a 2 1 → a 2 2 = a0 2 2 → (TW (a0 3) (a0 2 1).toNat (a0 2 2).toNat 12) → y2 = (a 2 2) + 5 → y2 ≤ a 2 1 → y2 ≤ 200 → a0 2 3 = 0 → a0 2 2 < a0 2 1 → jt (jxX E d 128 96 [some (.inr (.inr (.inl 2))), none, some (.inl y2), none] [] (jxSH, a, b0)) (jQ_X8_takesWord_r1012 a0 b0) := by
  intro y2 a hv hf hi0 hi1 hi2 hi3 htw hi5 hi6 hi7 hi8 hi9
  refine jt_eq (bq_X8_takesWord_r1012_96 E d y2 a b0) ?_
  have h844_ := iv_get hv (k := 2) (j := 1) (l := 0) (u := 200) rfl
  have h845_ : a 2 1 = a0 2 1 := hf 2 1 rfl
  have h846_ := iv_get hv0 (k := 2) (j := 1) (l := 0) (u := 200) rfl
  have h847_ := iv_get hv (k := 2) (j := 2) (l := 0) (u := 200) rfl
  have h848_ := iv_get hv0 (k := 2) (j := 2) (l := 0) (u := 200) rfl
  have h3 : a 3 = a0 3 := funext fun j => hf 3 j rfl
  have h21 := hf 2 1 rfl
  have hv849_ : iv (jxu a 2 2 y2) := iv_put hv (l := 0) (u := 200) rfl (by omega) (by omega)
  refine jt_bV (sp_X8_skipBlanks E d (jd_le hd rfl) (jxu a 2 2 y2) b0 hv849_) (fun a850_ b850_ h850_ => ?_)
  obtain ⟨hv850_, hf850_, rfl, hq850_0, hq850_1⟩ := h850_
  have h851_ := iv_get hv850_ (k := 2) (j := 2) (l := 0) (u := 200) rfl
  have h852_ : (a 2 1 ≤ y2 → a850_ 2 2 = y2) := hq850_0
  have hf853_ : jfr jW_X8_takesWord_r1012 a0 (jxu a 2 2 y2) := jfr_put hf rfl
  have hf854_ : jfr jW_X8_takesWord_r1012 a0 a850_ := jfr_tr hf853_ hf850_ rfl
  exact jt_rI ⟨hv850_, hf854_, rfl, (show (0 ≤ 1 ∧ 1 ≤ 1) from by omega), (show ((¬ a0 2 3 = 0 ∨ a0 2 1 ≤ a0 2 2) → 1 = 0) from by omega), (show (1 = 0 → a850_ 2 2 = a0 2 2) from by omega), (by first | exact (fun h => absurd h (by decide)) | exact (fun _ => ⟨by omega, htw, by have h := hq850_1; rw [show (a0 2 2).toNat + wdn 12 = y2.toNat from (by show _ + 5 = _; omega), ← h3, ← h21]; exact h⟩)), (by first | exact (fun h => absurd h (by decide)) | exact (fun _ => Or.inr hnt) | exact (fun _ => Or.inl (by omega)) | exact (fun _ => Or.inr (TW_short (show _ < _ + 5 by omega))) | exact (fun _ => Or.inr (TW_let (q := y2.toNat) (show y2.toNat = (a0 2 2).toNat + 5 by omega) ⟨by omega, h97, by rw [← h3]; omega⟩)))⟩
theorem cp_X8_takesWord_r1012_83 (E : jxE) (d : Nat) (hd : Nat.ble 5 (d + 1) = true) (a0 b0 : Nat → Nat → Int) (hv0 : iv a0) : ∀ (y2 : Int) (a : Nat → Nat → Int), iv a → jfr jW_X8_takesWord_r1012 a0 a → 5 ≤ y2 → y2 ≤ 199 → 6 ≤ a 2 1 → a 2 2 = a0 2 2 → (∀ k : Nat, (k : Int) < (wdn 12 : Int) → (a0 3) ((a0 2 2).toNat + k) = (wdl 12).getD k 0) → (97 ≤ a0 3 y2.toNat) → y2 = (a 2 2) + 5 → y2 ≤ a 2 1 → y2 ≤ 200 → a0 2 3 = 0 → a0 2 2 < a0 2 1 → jt (jxX E d 128 83 [some (.inr (.inr (.inl 2))), none, some (.inl y2), none] [] (jxSH, a, b0)) (jQ_X8_takesWord_r1012 a0 b0) := by
  intro y2 a hv hf hi0 hi1 hi2 hi3 hall h97 hi6 hi7 hi8 hi9 hi10
  refine jt_eq (bq_X8_takesWord_r1012_83 E d y2 a b0) ?_
  have h855_ := iv_get hv (k := 2) (j := 1) (l := 0) (u := 200) rfl
  have h856_ : a 2 1 = a0 2 1 := hf 2 1 rfl
  have h857_ := iv_get hv0 (k := 2) (j := 1) (l := 0) (u := 200) rfl
  have h858_ := iv_get hv (k := 2) (j := 2) (l := 0) (u := 200) rfl
  have h859_ := iv_get hv0 (k := 2) (j := 2) (l := 0) (u := 200) rfl
  have h3 : a 3 = a0 3 := funext fun j => hf 3 j rfl
  have h21 := hf 2 1 rfl
  refine jt_grd (by omega) ?_
  have h860_ := iv_get hv (k := 3) (j := y2.toNat) (l := 0) (u := 255) rfl
  have h861_ : a 3 (y2.toNat) = a0 3 (y2.toNat) := hf 3 (y2.toNat) rfl
  have h862_ := iv_get hv0 (k := 3) (j := y2.toNat) (l := 0) (u := 255) rfl
  refine jt_ite (fun c863_ => ?_) (fun c863_ => ?_)
  ·
    exact cp_X8_takesWord_r1012_96 E d hd a0 b0 hv0 y2 a hv hf (show 5 ≤ y2 from by omega) (show y2 ≤ 200 from by omega) (show 5 ≤ a 2 1 from by omega) (show a 2 2 = a0 2 2 from by omega) (TW_mk (q := y2.toNat) (show y2.toNat = (a0 2 2).toNat + 5 by omega) (by omega) (by first | exact hall | exact (fun k hk => hch k (by have hw : ((wdn 12 : Nat) : Int) = 5 := rfl; omega))) (LT_no1 (by rw [← h3]; omega))) (show y2 = (a 2 2) + 5 from by omega) (show y2 ≤ a 2 1 from by omega) (show y2 ≤ 200 from by omega) (show a0 2 3 = 0 from by omega) (show a0 2 2 < a0 2 1 from by omega)
  ·
    exact jt_rI ⟨hv, hf, rfl, (show (0 ≤ 0 ∧ 0 ≤ 1) from by omega), (show ((¬ a0 2 3 = 0 ∨ a0 2 1 ≤ a0 2 2) → 0 = 0) from by omega), (show (0 = 0 → a 2 2 = a0 2 2) from by omega), (by first | exact (fun h => absurd h (by decide)) | exact (fun _ => ⟨by omega, htw, by have h := hq0_1; rw [show (a0 2 2).toNat + wdn 12 = y2.toNat from (by show _ + 5 = _; omega), ← h3, ← h21]; exact h⟩)), (by first | exact (fun h => absurd h (by decide)) | exact (fun _ => Or.inr hnt) | exact (fun _ => Or.inl (by omega)) | exact (fun _ => Or.inr (TW_short (show _ < _ + 5 by omega))) | exact (fun _ => Or.inr (TW_let (q := y2.toNat) (show y2.toNat = (a0 2 2).toNat + 5 by omega) ⟨by omega, h97, by rw [← h3]; omega⟩)))⟩
theorem cp_X8_takesWord_r1012_29 (E : jxE) (d : Nat) (hd : Nat.ble 5 (d + 1) = true) (a0 b0 : Nat → Nat → Int) (hv0 : iv a0) : ∀ n : Nat, (∀ (y2 y3 : Int) (a : Nat → Nat → Int), (((5 - y3) * 1) + 0).toNat ≤ n → iv a → jfr jW_X8_takesWord_r1012 a0 a → 5 ≤ y2 → y2 ≤ 200 → 0 ≤ y3 → y3 ≤ 4 → 5 ≤ a 2 1 → y3 < 5 → 0 ≤ y3 → a 2 2 = a0 2 2 → (∀ k : Nat, (k : Int) < y3 + 1 → (a0 3) ((a0 2 2).toNat + k) = (wdl 12).getD k 0) → y2 = (a 2 2) + 5 → y2 ≤ a 2 1 → y2 ≤ 200 → a0 2 3 = 0 → a0 2 2 < a0 2 1 → jt (jxX E d 128 58 [some (.inr (.inr (.inl 2))), some (.inr (.inr (.inl 1012))), some (.inl y2), some (.inl y3)] [] (jxSH, a, b0)) (jQ_X8_takesWord_r1012 a0 b0)) ∧ (∀ (y2 y3 : Int) (a : Nat → Nat → Int), (((5 - y3) * 1) + 0).toNat ≤ n → iv a → jfr jW_X8_takesWord_r1012 a0 a → 5 ≤ y2 → y2 ≤ 200 → 0 ≤ y3 → y3 ≤ 5 → 5 ≤ a 2 1 → 0 ≤ y3 → a 2 2 = a0 2 2 → (∀ k : Nat, (k : Int) < y3 → (a0 3) ((a0 2 2).toNat + k) = (wdl 12).getD k 0) → y2 = (a 2 2) + 5 → y2 ≤ a 2 1 → y2 ≤ 200 → a0 2 3 = 0 → a0 2 2 < a0 2 1 → jt (jxX E d 128 29 [some (.inr (.inr (.inl 2))), some (.inr (.inr (.inl 1012))), some (.inl y2), some (.inl y3)] [] (jxSH, a, b0)) (jQ_X8_takesWord_r1012 a0 b0)) := by
  refine jx_ind fun n ih => ?_
  have ih58 : ∀ (y2 y3 : Int) (a : Nat → Nat → Int), (((5 - y3) * 1) + 0).toNat < n → iv a → jfr jW_X8_takesWord_r1012 a0 a → 5 ≤ y2 → y2 ≤ 200 → 0 ≤ y3 → y3 ≤ 4 → 5 ≤ a 2 1 → y3 < 5 → 0 ≤ y3 → a 2 2 = a0 2 2 → (∀ k : Nat, (k : Int) < y3 + 1 → (a0 3) ((a0 2 2).toNat + k) = (wdl 12).getD k 0) → y2 = (a 2 2) + 5 → y2 ≤ a 2 1 → y2 ≤ 200 → a0 2 3 = 0 → a0 2 2 < a0 2 1 → jt (jxX E d 128 58 [some (.inr (.inr (.inl 2))), some (.inr (.inr (.inl 1012))), some (.inl y2), some (.inl y3)] [] (jxSH, a, b0)) (jQ_X8_takesWord_r1012 a0 b0) := fun y2 y3 a hlt i0 i1 i2 i3 i4 i5 i6 i7 i8 i9 i10 i11 i12 i13 i14 i15 => (ih _ hlt).1 y2 y3 a (Nat.le_refl _) i0 i1 i2 i3 i4 i5 i6 i7 i8 i9 i10 i11 i12 i13 i14 i15
  have ih29 : ∀ (y2 y3 : Int) (a : Nat → Nat → Int), (((5 - y3) * 1) + 0).toNat < n → iv a → jfr jW_X8_takesWord_r1012 a0 a → 5 ≤ y2 → y2 ≤ 200 → 0 ≤ y3 → y3 ≤ 5 → 5 ≤ a 2 1 → 0 ≤ y3 → a 2 2 = a0 2 2 → (∀ k : Nat, (k : Int) < y3 → (a0 3) ((a0 2 2).toNat + k) = (wdl 12).getD k 0) → y2 = (a 2 2) + 5 → y2 ≤ a 2 1 → y2 ≤ 200 → a0 2 3 = 0 → a0 2 2 < a0 2 1 → jt (jxX E d 128 29 [some (.inr (.inr (.inl 2))), some (.inr (.inr (.inl 1012))), some (.inl y2), some (.inl y3)] [] (jxSH, a, b0)) (jQ_X8_takesWord_r1012 a0 b0) := fun y2 y3 a hlt i0 i1 i2 i3 i4 i5 i6 i7 i8 i9 i10 i11 i12 i13 i14 => (ih _ hlt).2 y2 y3 a (Nat.le_refl _) i0 i1 i2 i3 i4 i5 i6 i7 i8 i9 i10 i11 i12 i13 i14
  have hc58 : ∀ (y2 y3 : Int) (a : Nat → Nat → Int), (((5 - y3) * 1) + 0).toNat ≤ n → iv a → jfr jW_X8_takesWord_r1012 a0 a → 5 ≤ y2 → y2 ≤ 200 → 0 ≤ y3 → y3 ≤ 4 → 5 ≤ a 2 1 → y3 < 5 → 0 ≤ y3 → a 2 2 = a0 2 2 → (∀ k : Nat, (k : Int) < y3 + 1 → (a0 3) ((a0 2 2).toNat + k) = (wdl 12).getD k 0) → y2 = (a 2 2) + 5 → y2 ≤ a 2 1 → y2 ≤ 200 → a0 2 3 = 0 → a0 2 2 < a0 2 1 → jt (jxX E d 128 58 [some (.inr (.inr (.inl 2))), some (.inr (.inr (.inl 1012))), some (.inl y2), some (.inl y3)] [] (jxSH, a, b0)) (jQ_X8_takesWord_r1012 a0 b0) := by
    intro y2 y3 a hm hv hf hi0 hi1 hi2 hi3 hi4 hi5 hi6 hi7 hch hi9 hi10 hi11 hi12 hi13
    refine jt_eq (bq_X8_takesWord_r1012_58 E d y2 y3 a b0) ?_
    have h864_ := iv_get hv (k := 2) (j := 1) (l := 0) (u := 200) rfl
    have h865_ : a 2 1 = a0 2 1 := hf 2 1 rfl
    have h866_ := iv_get hv0 (k := 2) (j := 1) (l := 0) (u := 200) rfl
    have h867_ := iv_get hv (k := 2) (j := 2) (l := 0) (u := 200) rfl
    have h868_ := iv_get hv0 (k := 2) (j := 2) (l := 0) (u := 200) rfl
    have h3 : a 3 = a0 3 := funext fun j => hf 3 j rfl
    have h21 := hf 2 1 rfl
    have h869_ : jxw (y3 + 1) = y3 + 1 := jxw_id (by omega) (by omega)
    exact ih29 y2 (jxw (y3 + 1)) a (show (((5 - (jxw (y3 + 1))) * 1) + 0).toNat < n from by omega) hv hf (show 5 ≤ y2 from by omega) (show y2 ≤ 200 from by omega) (show 0 ≤ jxw (y3 + 1) from by omega) (show jxw (y3 + 1) ≤ 5 from by omega) (show 5 ≤ a 2 1 from by omega) (show 0 ≤ jxw (y3 + 1) from by omega) (show a 2 2 = a0 2 2 from by omega) (by first | exact (fun k hk => absurd hk (by omega)) | (rw [show jxw (y3 + 1) = y3 + 1 from by omega]; exact hch)) (show y2 = (a 2 2) + 5 from by omega) (show y2 ≤ a 2 1 from by omega) (show y2 ≤ 200 from by omega) (show a0 2 3 = 0 from by omega) (show a0 2 2 < a0 2 1 from by omega)
  have hc29 : ∀ (y2 y3 : Int) (a : Nat → Nat → Int), (((5 - y3) * 1) + 0).toNat ≤ n → iv a → jfr jW_X8_takesWord_r1012 a0 a → 5 ≤ y2 → y2 ≤ 200 → 0 ≤ y3 → y3 ≤ 5 → 5 ≤ a 2 1 → 0 ≤ y3 → a 2 2 = a0 2 2 → (∀ k : Nat, (k : Int) < y3 → (a0 3) ((a0 2 2).toNat + k) = (wdl 12).getD k 0) → y2 = (a 2 2) + 5 → y2 ≤ a 2 1 → y2 ≤ 200 → a0 2 3 = 0 → a0 2 2 < a0 2 1 → jt (jxX E d 128 29 [some (.inr (.inr (.inl 2))), some (.inr (.inr (.inl 1012))), some (.inl y2), some (.inl y3)] [] (jxSH, a, b0)) (jQ_X8_takesWord_r1012 a0 b0) := by
    intro y2 y3 a hm hv hf hi0 hi1 hi2 hi3 hi4 hi5 hi6 hch hi8 hi9 hi10 hi11 hi12
    refine jt_eq (bq_X8_takesWord_r1012_29 E d y2 y3 a b0) ?_
    have h870_ := iv_get hv (k := 2) (j := 1) (l := 0) (u := 200) rfl
    have h871_ : a 2 1 = a0 2 1 := hf 2 1 rfl
    have h872_ := iv_get hv0 (k := 2) (j := 1) (l := 0) (u := 200) rfl
    have h873_ := iv_get hv (k := 2) (j := 2) (l := 0) (u := 200) rfl
    have h874_ := iv_get hv0 (k := 2) (j := 2) (l := 0) (u := 200) rfl
    have h3 : a 3 = a0 3 := funext fun j => hf 3 j rfl
    have h21 := hf 2 1 rfl
    refine jt_eI (eq_J0_length_8abf5_r1012 E d (jd_le hd rfl) a b0) ?_
    have h875_ := ff_J0_length_8abf5_r1012 a b0
    refine jt_ite (fun c876_ => ?_) (fun c876_ => ?_)
    ·
      have h877_ : jxw ((a 2 2) + y3) = (a 2 2) + y3 := jxw_id (by omega) (by omega)
      refine jt_grd (by omega) ?_
      refine jt_eI (eq_J0_charAt_5068e_r1012 E d (jd_le hd rfl) y3 a b0 (show (0 ≤ y3 ∧ y3 < 5) from by omega)) ?_
      have h878_ := iv_get hv (k := 3) (j := (jxw ((a 2 2) + y3)).toNat) (l := 0) (u := 255) rfl
      have h879_ : a 3 ((jxw ((a 2 2) + y3)).toNat) = a0 3 ((jxw ((a 2 2) + y3)).toNat) := hf 3 ((jxw ((a 2 2) + y3)).toNat) rfl
      have h880_ := iv_get hv0 (k := 3) (j := (jxw ((a 2 2) + y3)).toNat) (l := 0) (u := 255) rfl
      have h881_ := f_J0_charAt_5068e_r1012_eq a b0 y3
      have h882_ := f_J0_isLatin1_aae02_r1012_eq a b0
      have h883_ := f_J1_charAt_3b067_r2012_eq a b0 y3
      have h884_ := jxand_r (([115, 108, 97, 99, 107] : List Int).getD (y3.toNat) 0) 255 (by decide) (by decide)
      have h885_ := jxi2c_b (jxand (([115, 108, 97, 99, 107] : List Int).getD (y3.toNat) 0) 255)
      refine jt_ite (fun c886_ => ?_) (fun c886_ => ?_)
      ·
        exact hc58 y2 y3 a (show (((5 - y3) * 1) + 0).toNat ≤ n from by omega) hv hf (show 5 ≤ y2 from by omega) (show y2 ≤ 200 from by omega) (show 0 ≤ y3 from by omega) (show y3 ≤ 4 from by omega) (show 5 ≤ a 2 1 from by omega) (show y3 < 5 from by omega) (show 0 ≤ y3 from by omega) (show a 2 2 = a0 2 2 from by omega) (ch_ext hch (by omega) (q := (jxw ((a 2 2) + y3)).toNat) (by omega) (v := f_J0_charAt_5068e_r1012 a b0 y3) (by rw [← h3]; assumption) (cw_1012 a b0 y3 (by omega) (by omega))) (show y2 = (a 2 2) + 5 from by omega) (show y2 ≤ a 2 1 from by omega) (show y2 ≤ 200 from by omega) (show a0 2 3 = 0 from by omega) (show a0 2 2 < a0 2 1 from by omega)
      ·
        exact cp_X8_takesWord_r1012_56 E d hd a0 b0 hv0 a hv hf (show 5 ≤ a 2 1 from by omega) (show a 2 2 = a0 2 2 from by omega) (TW_no (y := y3) (by omega) (show y3 < 5 by omega) (q := (jxw ((a 2 2) + y3)).toNat) (by omega) (v := f_J0_charAt_5068e_r1012 a b0 y3) (cw_1012 a b0 y3 (by omega) (by omega)) (by rw [← h3]; assumption)) (show a0 2 3 = 0 from by omega) (show a0 2 2 < a0 2 1 from by omega)
    ·
      refine jt_ite (fun c887_ => ?_) (fun c887_ => ?_)
      ·
        refine jt_grd (by omega) ?_
        have h888_ := iv_get hv (k := 3) (j := y2.toNat) (l := 0) (u := 255) rfl
        have h889_ : a 3 (y2.toNat) = a0 3 (y2.toNat) := hf 3 (y2.toNat) rfl
        have h890_ := iv_get hv0 (k := 3) (j := y2.toNat) (l := 0) (u := 255) rfl
        refine jt_ite (fun c891_ => ?_) (fun c891_ => ?_)
        ·
          exact cp_X8_takesWord_r1012_96 E d hd a0 b0 hv0 y2 a hv hf (show 5 ≤ y2 from by omega) (show y2 ≤ 200 from by omega) (show 5 ≤ a 2 1 from by omega) (show a 2 2 = a0 2 2 from by omega) (TW_mk (q := y2.toNat) (show y2.toNat = (a0 2 2).toNat + 5 by omega) (by omega) (by first | exact hall | exact (fun k hk => hch k (by have hw : ((wdn 12 : Nat) : Int) = 5 := rfl; omega))) (LT_no1 (by rw [← h3]; omega))) (show y2 = (a 2 2) + 5 from by omega) (show y2 ≤ a 2 1 from by omega) (show y2 ≤ 200 from by omega) (show a0 2 3 = 0 from by omega) (show a0 2 2 < a0 2 1 from by omega)
        ·
          exact cp_X8_takesWord_r1012_83 E d hd a0 b0 hv0 y2 a hv hf (show 5 ≤ y2 from by omega) (show y2 ≤ 199 from by omega) (show 6 ≤ a 2 1 from by omega) (show a 2 2 = a0 2 2 from by omega) (fun k hk => hch k (by have hw : ((wdn 12 : Nat) : Int) = 5 := rfl; omega)) (by rw [← h3]; omega) (show y2 = (a 2 2) + 5 from by omega) (show y2 ≤ a 2 1 from by omega) (show y2 ≤ 200 from by omega) (show a0 2 3 = 0 from by omega) (show a0 2 2 < a0 2 1 from by omega)
      ·
        exact cp_X8_takesWord_r1012_96 E d hd a0 b0 hv0 y2 a hv hf (show 5 ≤ y2 from by omega) (show y2 ≤ 200 from by omega) (show 5 ≤ a 2 1 from by omega) (show a 2 2 = a0 2 2 from by omega) (TW_mk (q := y2.toNat) (show y2.toNat = (a0 2 2).toNat + 5 by omega) (by omega) (by first | exact hall | exact (fun k hk => hch k (by have hw : ((wdn 12 : Nat) : Int) = 5 := rfl; omega))) (LT_no1 (by rw [← h3]; omega))) (show y2 = (a 2 2) + 5 from by omega) (show y2 ≤ a 2 1 from by omega) (show y2 ≤ 200 from by omega) (show a0 2 3 = 0 from by omega) (show a0 2 2 < a0 2 1 from by omega)
  exact ⟨hc58, hc29⟩
theorem sp_X8_takesWord_r1012 (E : jxE) (d : Nat) (hd : Nat.ble 5 d = true) (a0 b0 : Nat → Nat → Int) (hv0 : iv a0) : jt (jxC E d 128 [.inr (.inr (.inl 2)), .inr (.inr (.inl 1012))] (jxSH, a0, b0)) (jQ_X8_takesWord_r1012 a0 b0) := by
  obtain ⟨d, rfl⟩ := jd_succ hd
  refine jt_eq (bq_X8_takesWord_r1012 E d a0 b0) ?_
  refine jt_eI (eq_J0_length_8abf5_r1012 E d (jd_le hd rfl) a0 b0) ?_
  refine jt_eI (eq_X8_isFaulty E d (jd_le hd rfl) a0 b0) ?_
  have h892_ := f_X8_isFaulty_eq a0 b0
  refine jt_ite (fun c893_ => ?_) (fun c893_ => ?_)
  ·
    have h894_ := iv_get hv0 (k := 2) (j := 1) (l := 0) (u := 200) rfl
    have h895_ := iv_get hv0 (k := 2) (j := 2) (l := 0) (u := 200) rfl
    have h896_ := ff_J0_length_8abf5_r1012 a0 b0
    have h897_ : jxw ((a0 2 2) + (f_J0_length_8abf5_r1012 a0 b0)) = (a0 2 2) + (f_J0_length_8abf5_r1012 a0 b0) := jxw_id (by omega) (by omega)
    refine jt_ite (fun c898_ => ?_) (fun c898_ => ?_)
    ·
      exact jt_rI ⟨hv0, (jfr_rf _ _), rfl, (show (0 ≤ 0 ∧ 0 ≤ 1) from by omega), (show ((¬ a0 2 3 = 0 ∨ a0 2 1 ≤ a0 2 2) → 0 = 0) from by omega), (show (0 = 0 → a0 2 2 = a0 2 2) from by omega), (by first | exact (fun h => absurd h (by decide)) | exact (fun _ => ⟨by omega, htw, by have h := hq0_1; rw [show (a0 2 2).toNat + wdn 12 = y2.toNat from (by show _ + 5 = _; omega), ← h3, ← h21]; exact h⟩)), (by first | exact (fun h => absurd h (by decide)) | exact (fun _ => Or.inr hnt) | exact (fun _ => Or.inl (by omega)) | exact (fun _ => Or.inr (TW_short (show _ < _ + 5 by omega))) | exact (fun _ => Or.inr (TW_let (q := y2.toNat) (show y2.toNat = (a0 2 2).toNat + 5 by omega) ⟨by omega, h97, by rw [← h3]; omega⟩)))⟩
    ·
      exact (cp_X8_takesWord_r1012_29 E d hd a0 b0 hv0 _).2 (jxw ((a0 2 2) + (f_J0_length_8abf5_r1012 a0 b0))) 0 a0 (Nat.le_refl _) hv0 (jfr_rf _ _) (show 5 ≤ jxw ((a0 2 2) + (f_J0_length_8abf5_r1012 a0 b0)) from by omega) (show jxw ((a0 2 2) + (f_J0_length_8abf5_r1012 a0 b0)) ≤ 200 from by omega) (show 0 ≤ 0 from by omega) (show 0 ≤ 5 from by omega) (show 5 ≤ a0 2 1 from by omega) (show 0 ≤ 0 from by omega) (show a0 2 2 = a0 2 2 from by omega) (by first | exact (fun k hk => absurd hk (by omega)) | (rw [show jxw (y3 + 1) = y3 + 1 from by omega]; exact hch)) (show jxw ((a0 2 2) + (f_J0_length_8abf5_r1012 a0 b0)) = (a0 2 2) + 5 from by omega) (show jxw ((a0 2 2) + (f_J0_length_8abf5_r1012 a0 b0)) ≤ a0 2 1 from by omega) (show jxw ((a0 2 2) + (f_J0_length_8abf5_r1012 a0 b0)) ≤ 200 from by omega) (show a0 2 3 = 0 from by omega) (show a0 2 2 < a0 2 1 from by omega)
  ·
    have h899_ := iv_get hv0 (k := 2) (j := 1) (l := 0) (u := 200) rfl
    have h900_ := iv_get hv0 (k := 2) (j := 2) (l := 0) (u := 200) rfl
    exact jt_rI ⟨hv0, (jfr_rf _ _), rfl, (show (0 ≤ 0 ∧ 0 ≤ 1) from by omega), (show ((¬ a0 2 3 = 0 ∨ a0 2 1 ≤ a0 2 2) → 0 = 0) from by omega), (show (0 = 0 → a0 2 2 = a0 2 2) from by omega), (by first | exact (fun h => absurd h (by decide)) | exact (fun _ => ⟨by omega, htw, by have h := hq0_1; rw [show (a0 2 2).toNat + wdn 12 = y2.toNat from (by show _ + 5 = _; omega), ← h3, ← h21]; exact h⟩)), (by first | exact (fun h => absurd h (by decide)) | exact (fun _ => Or.inr hnt) | exact (fun _ => Or.inl (by omega)) | exact (fun _ => Or.inr (TW_short (show _ < _ + 5 by omega))) | exact (fun _ => Or.inr (TW_let (q := y2.toNat) (show y2.toNat = (a0 2 2).toNat + 5 by omega) ⟨by omega, h97, by rw [← h3]; omega⟩)))⟩
def jW_X8_takesWord_r1013 : List (Nat × Nat) := [(2, 2)]
abbrev jQ_X8_takesWord_r1013 (a0 b0 : Nat → Nat → Int) : List jxV → (Nat → Nat → Int) → (Nat → Nat → Int) → Prop := rI (fun r a b => (iv a) ∧ (jfr jW_X8_takesWord_r1013 a0 a) ∧ (b0 = b) ∧ ((0 ≤ r ∧ r ≤ 1)) ∧ (((¬ a0 2 3 = 0 ∨ a0 2 1 ≤ a0 2 2) → r = 0)) ∧ ((r = 0 → a 2 2 = a0 2 2)) ∧ (r = 1 → a0 2 3 = 0 ∧ TW (a0 3) (a0 2 1).toNat (a0 2 2).toNat 13 ∧ a 2 2 = ((SK (a0 3) (a0 2 1).toNat ((a0 2 2).toNat + wdn 13) : Nat) : Int)) ∧ (r = 0 → ¬ a0 2 3 = 0 ∨ ¬ TW (a0 3) (a0 2 1).toNat (a0 2 2).toNat 13))
theorem cp_X8_takesWord_r1013_56 (E : jxE) (d : Nat) (hd : Nat.ble 5 (d + 1) = true) (a0 b0 : Nat → Nat → Int) (hv0 : iv a0) : ∀ (a : Nat → Nat → Int), iv a → jfr jW_X8_takesWord_r1013 a0 a → 4 ≤ a 2 1 → a 2 2 = a0 2 2 → (¬ TW (a0 3) (a0 2 1).toNat (a0 2 2).toNat 13) → a0 2 3 = 0 → a0 2 2 < a0 2 1 → jt (jxX E d 128 56 [none, none, none, none] [] (jxSH, a, b0)) (jQ_X8_takesWord_r1013 a0 b0) := by
  intro a hv hf hi0 hi1 hnt hi3 hi4
  refine jt_eq (bq_X8_takesWord_r1013_56 E d a b0) ?_
  have h901_ := iv_get hv (k := 2) (j := 1) (l := 0) (u := 200) rfl
  have h902_ : a 2 1 = a0 2 1 := hf 2 1 rfl
  have h903_ := iv_get hv0 (k := 2) (j := 1) (l := 0) (u := 200) rfl
  have h904_ := iv_get hv (k := 2) (j := 2) (l := 0) (u := 200) rfl
  have h905_ := iv_get hv0 (k := 2) (j := 2) (l := 0) (u := 200) rfl
  have h3 : a 3 = a0 3 := funext fun j => hf 3 j rfl
  have h21 := hf 2 1 rfl
  exact jt_rI ⟨hv, hf, rfl, (show (0 ≤ 0 ∧ 0 ≤ 1) from by omega), (show ((¬ a0 2 3 = 0 ∨ a0 2 1 ≤ a0 2 2) → 0 = 0) from by omega), (show (0 = 0 → a 2 2 = a0 2 2) from by omega), (by first | exact (fun h => absurd h (by decide)) | exact (fun _ => ⟨by omega, htw, by have h := hq0_1; rw [show (a0 2 2).toNat + wdn 13 = y2.toNat from (by show _ + 4 = _; omega), ← h3, ← h21]; exact h⟩)), (by first | exact (fun h => absurd h (by decide)) | exact (fun _ => Or.inr hnt) | exact (fun _ => Or.inl (by omega)) | exact (fun _ => Or.inr (TW_short (show _ < _ + 4 by omega))) | exact (fun _ => Or.inr (TW_let (q := y2.toNat) (show y2.toNat = (a0 2 2).toNat + 4 by omega) ⟨by omega, h97, by rw [← h3]; omega⟩)))⟩
theorem cp_X8_takesWord_r1013_96 (E : jxE) (d : Nat) (hd : Nat.ble 5 (d + 1) = true) (a0 b0 : Nat → Nat → Int) (hv0 : iv a0) : ∀ (y2 : Int) (a : Nat → Nat → Int), iv a → jfr jW_X8_takesWord_r1013 a0 a → 4 ≤ y2 → y2 ≤ 200 → 4 ≤ a 2 1 → a 2 2 = a0 2 2 → (TW (a0 3) (a0 2 1).toNat (a0 2 2).toNat 13) → y2 = (a 2 2) + 4 → y2 ≤ a 2 1 → y2 ≤ 200 → a0 2 3 = 0 → a0 2 2 < a0 2 1 → jt (jxX E d 128 96 [some (.inr (.inr (.inl 2))), none, some (.inl y2), none] [] (jxSH, a, b0)) (jQ_X8_takesWord_r1013 a0 b0) := by
  intro y2 a hv hf hi0 hi1 hi2 hi3 htw hi5 hi6 hi7 hi8 hi9
  refine jt_eq (bq_X8_takesWord_r1013_96 E d y2 a b0) ?_
  have h906_ := iv_get hv (k := 2) (j := 1) (l := 0) (u := 200) rfl
  have h907_ : a 2 1 = a0 2 1 := hf 2 1 rfl
  have h908_ := iv_get hv0 (k := 2) (j := 1) (l := 0) (u := 200) rfl
  have h909_ := iv_get hv (k := 2) (j := 2) (l := 0) (u := 200) rfl
  have h910_ := iv_get hv0 (k := 2) (j := 2) (l := 0) (u := 200) rfl
  have h3 : a 3 = a0 3 := funext fun j => hf 3 j rfl
  have h21 := hf 2 1 rfl
  have hv911_ : iv (jxu a 2 2 y2) := iv_put hv (l := 0) (u := 200) rfl (by omega) (by omega)
  refine jt_bV (sp_X8_skipBlanks E d (jd_le hd rfl) (jxu a 2 2 y2) b0 hv911_) (fun a912_ b912_ h912_ => ?_)
  obtain ⟨hv912_, hf912_, rfl, hq912_0, hq912_1⟩ := h912_
  have h913_ := iv_get hv912_ (k := 2) (j := 2) (l := 0) (u := 200) rfl
  have h914_ : (a 2 1 ≤ y2 → a912_ 2 2 = y2) := hq912_0
  have hf915_ : jfr jW_X8_takesWord_r1013 a0 (jxu a 2 2 y2) := jfr_put hf rfl
  have hf916_ : jfr jW_X8_takesWord_r1013 a0 a912_ := jfr_tr hf915_ hf912_ rfl
  exact jt_rI ⟨hv912_, hf916_, rfl, (show (0 ≤ 1 ∧ 1 ≤ 1) from by omega), (show ((¬ a0 2 3 = 0 ∨ a0 2 1 ≤ a0 2 2) → 1 = 0) from by omega), (show (1 = 0 → a912_ 2 2 = a0 2 2) from by omega), (by first | exact (fun h => absurd h (by decide)) | exact (fun _ => ⟨by omega, htw, by have h := hq912_1; rw [show (a0 2 2).toNat + wdn 13 = y2.toNat from (by show _ + 4 = _; omega), ← h3, ← h21]; exact h⟩)), (by first | exact (fun h => absurd h (by decide)) | exact (fun _ => Or.inr hnt) | exact (fun _ => Or.inl (by omega)) | exact (fun _ => Or.inr (TW_short (show _ < _ + 4 by omega))) | exact (fun _ => Or.inr (TW_let (q := y2.toNat) (show y2.toNat = (a0 2 2).toNat + 4 by omega) ⟨by omega, h97, by rw [← h3]; omega⟩)))⟩
theorem cp_X8_takesWord_r1013_83 (E : jxE) (d : Nat) (hd : Nat.ble 5 (d + 1) = true) (a0 b0 : Nat → Nat → Int) (hv0 : iv a0) : ∀ (y2 : Int) (a : Nat → Nat → Int), iv a → jfr jW_X8_takesWord_r1013 a0 a → 4 ≤ y2 → y2 ≤ 199 → 5 ≤ a 2 1 → a 2 2 = a0 2 2 → (∀ k : Nat, (k : Int) < (wdn 13 : Int) → (a0 3) ((a0 2 2).toNat + k) = (wdl 13).getD k 0) → (97 ≤ a0 3 y2.toNat) → y2 = (a 2 2) + 4 → y2 ≤ a 2 1 → y2 ≤ 200 → a0 2 3 = 0 → a0 2 2 < a0 2 1 → jt (jxX E d 128 83 [some (.inr (.inr (.inl 2))), none, some (.inl y2), none] [] (jxSH, a, b0)) (jQ_X8_takesWord_r1013 a0 b0) := by
  intro y2 a hv hf hi0 hi1 hi2 hi3 hall h97 hi6 hi7 hi8 hi9 hi10
  refine jt_eq (bq_X8_takesWord_r1013_83 E d y2 a b0) ?_
  have h917_ := iv_get hv (k := 2) (j := 1) (l := 0) (u := 200) rfl
  have h918_ : a 2 1 = a0 2 1 := hf 2 1 rfl
  have h919_ := iv_get hv0 (k := 2) (j := 1) (l := 0) (u := 200) rfl
  have h920_ := iv_get hv (k := 2) (j := 2) (l := 0) (u := 200) rfl
  have h921_ := iv_get hv0 (k := 2) (j := 2) (l := 0) (u := 200) rfl
  have h3 : a 3 = a0 3 := funext fun j => hf 3 j rfl
  have h21 := hf 2 1 rfl
  refine jt_grd (by omega) ?_
  have h922_ := iv_get hv (k := 3) (j := y2.toNat) (l := 0) (u := 255) rfl
  have h923_ : a 3 (y2.toNat) = a0 3 (y2.toNat) := hf 3 (y2.toNat) rfl
  have h924_ := iv_get hv0 (k := 3) (j := y2.toNat) (l := 0) (u := 255) rfl
  refine jt_ite (fun c925_ => ?_) (fun c925_ => ?_)
  ·
    exact cp_X8_takesWord_r1013_96 E d hd a0 b0 hv0 y2 a hv hf (show 4 ≤ y2 from by omega) (show y2 ≤ 200 from by omega) (show 4 ≤ a 2 1 from by omega) (show a 2 2 = a0 2 2 from by omega) (TW_mk (q := y2.toNat) (show y2.toNat = (a0 2 2).toNat + 4 by omega) (by omega) (by first | exact hall | exact (fun k hk => hch k (by have hw : ((wdn 13 : Nat) : Int) = 4 := rfl; omega))) (LT_no1 (by rw [← h3]; omega))) (show y2 = (a 2 2) + 4 from by omega) (show y2 ≤ a 2 1 from by omega) (show y2 ≤ 200 from by omega) (show a0 2 3 = 0 from by omega) (show a0 2 2 < a0 2 1 from by omega)
  ·
    exact jt_rI ⟨hv, hf, rfl, (show (0 ≤ 0 ∧ 0 ≤ 1) from by omega), (show ((¬ a0 2 3 = 0 ∨ a0 2 1 ≤ a0 2 2) → 0 = 0) from by omega), (show (0 = 0 → a 2 2 = a0 2 2) from by omega), (by first | exact (fun h => absurd h (by decide)) | exact (fun _ => ⟨by omega, htw, by have h := hq0_1; rw [show (a0 2 2).toNat + wdn 13 = y2.toNat from (by show _ + 4 = _; omega), ← h3, ← h21]; exact h⟩)), (by first | exact (fun h => absurd h (by decide)) | exact (fun _ => Or.inr hnt) | exact (fun _ => Or.inl (by omega)) | exact (fun _ => Or.inr (TW_short (show _ < _ + 4 by omega))) | exact (fun _ => Or.inr (TW_let (q := y2.toNat) (show y2.toNat = (a0 2 2).toNat + 4 by omega) ⟨by omega, h97, by rw [← h3]; omega⟩)))⟩
theorem cp_X8_takesWord_r1013_29 (E : jxE) (d : Nat) (hd : Nat.ble 5 (d + 1) = true) (a0 b0 : Nat → Nat → Int) (hv0 : iv a0) : ∀ n : Nat, (∀ (y2 y3 : Int) (a : Nat → Nat → Int), (((4 - y3) * 1) + 0).toNat ≤ n → iv a → jfr jW_X8_takesWord_r1013 a0 a → 4 ≤ y2 → y2 ≤ 200 → 0 ≤ y3 → y3 ≤ 3 → 4 ≤ a 2 1 → y3 < 4 → 0 ≤ y3 → a 2 2 = a0 2 2 → (∀ k : Nat, (k : Int) < y3 + 1 → (a0 3) ((a0 2 2).toNat + k) = (wdl 13).getD k 0) → y2 = (a 2 2) + 4 → y2 ≤ a 2 1 → y2 ≤ 200 → a0 2 3 = 0 → a0 2 2 < a0 2 1 → jt (jxX E d 128 58 [some (.inr (.inr (.inl 2))), some (.inr (.inr (.inl 1013))), some (.inl y2), some (.inl y3)] [] (jxSH, a, b0)) (jQ_X8_takesWord_r1013 a0 b0)) ∧ (∀ (y2 y3 : Int) (a : Nat → Nat → Int), (((4 - y3) * 1) + 0).toNat ≤ n → iv a → jfr jW_X8_takesWord_r1013 a0 a → 4 ≤ y2 → y2 ≤ 200 → 0 ≤ y3 → y3 ≤ 4 → 4 ≤ a 2 1 → 0 ≤ y3 → a 2 2 = a0 2 2 → (∀ k : Nat, (k : Int) < y3 → (a0 3) ((a0 2 2).toNat + k) = (wdl 13).getD k 0) → y2 = (a 2 2) + 4 → y2 ≤ a 2 1 → y2 ≤ 200 → a0 2 3 = 0 → a0 2 2 < a0 2 1 → jt (jxX E d 128 29 [some (.inr (.inr (.inl 2))), some (.inr (.inr (.inl 1013))), some (.inl y2), some (.inl y3)] [] (jxSH, a, b0)) (jQ_X8_takesWord_r1013 a0 b0)) := by
  refine jx_ind fun n ih => ?_
  have ih58 : ∀ (y2 y3 : Int) (a : Nat → Nat → Int), (((4 - y3) * 1) + 0).toNat < n → iv a → jfr jW_X8_takesWord_r1013 a0 a → 4 ≤ y2 → y2 ≤ 200 → 0 ≤ y3 → y3 ≤ 3 → 4 ≤ a 2 1 → y3 < 4 → 0 ≤ y3 → a 2 2 = a0 2 2 → (∀ k : Nat, (k : Int) < y3 + 1 → (a0 3) ((a0 2 2).toNat + k) = (wdl 13).getD k 0) → y2 = (a 2 2) + 4 → y2 ≤ a 2 1 → y2 ≤ 200 → a0 2 3 = 0 → a0 2 2 < a0 2 1 → jt (jxX E d 128 58 [some (.inr (.inr (.inl 2))), some (.inr (.inr (.inl 1013))), some (.inl y2), some (.inl y3)] [] (jxSH, a, b0)) (jQ_X8_takesWord_r1013 a0 b0) := fun y2 y3 a hlt i0 i1 i2 i3 i4 i5 i6 i7 i8 i9 i10 i11 i12 i13 i14 i15 => (ih _ hlt).1 y2 y3 a (Nat.le_refl _) i0 i1 i2 i3 i4 i5 i6 i7 i8 i9 i10 i11 i12 i13 i14 i15
  have ih29 : ∀ (y2 y3 : Int) (a : Nat → Nat → Int), (((4 - y3) * 1) + 0).toNat < n → iv a → jfr jW_X8_takesWord_r1013 a0 a → 4 ≤ y2 → y2 ≤ 200 → 0 ≤ y3 → y3 ≤ 4 → 4 ≤ a 2 1 → 0 ≤ y3 → a 2 2 = a0 2 2 → (∀ k : Nat, (k : Int) < y3 → (a0 3) ((a0 2 2).toNat + k) = (wdl 13).getD k 0) → y2 = (a 2 2) + 4 → y2 ≤ a 2 1 → y2 ≤ 200 → a0 2 3 = 0 → a0 2 2 < a0 2 1 → jt (jxX E d 128 29 [some (.inr (.inr (.inl 2))), some (.inr (.inr (.inl 1013))), some (.inl y2), some (.inl y3)] [] (jxSH, a, b0)) (jQ_X8_takesWord_r1013 a0 b0) := fun y2 y3 a hlt i0 i1 i2 i3 i4 i5 i6 i7 i8 i9 i10 i11 i12 i13 i14 => (ih _ hlt).2 y2 y3 a (Nat.le_refl _) i0 i1 i2 i3 i4 i5 i6 i7 i8 i9 i10 i11 i12 i13 i14
  have hc58 : ∀ (y2 y3 : Int) (a : Nat → Nat → Int), (((4 - y3) * 1) + 0).toNat ≤ n → iv a → jfr jW_X8_takesWord_r1013 a0 a → 4 ≤ y2 → y2 ≤ 200 → 0 ≤ y3 → y3 ≤ 3 → 4 ≤ a 2 1 → y3 < 4 → 0 ≤ y3 → a 2 2 = a0 2 2 → (∀ k : Nat, (k : Int) < y3 + 1 → (a0 3) ((a0 2 2).toNat + k) = (wdl 13).getD k 0) → y2 = (a 2 2) + 4 → y2 ≤ a 2 1 → y2 ≤ 200 → a0 2 3 = 0 → a0 2 2 < a0 2 1 → jt (jxX E d 128 58 [some (.inr (.inr (.inl 2))), some (.inr (.inr (.inl 1013))), some (.inl y2), some (.inl y3)] [] (jxSH, a, b0)) (jQ_X8_takesWord_r1013 a0 b0) := by
    intro y2 y3 a hm hv hf hi0 hi1 hi2 hi3 hi4 hi5 hi6 hi7 hch hi9 hi10 hi11 hi12 hi13
    refine jt_eq (bq_X8_takesWord_r1013_58 E d y2 y3 a b0) ?_
    have h926_ := iv_get hv (k := 2) (j := 1) (l := 0) (u := 200) rfl
    have h927_ : a 2 1 = a0 2 1 := hf 2 1 rfl
    have h928_ := iv_get hv0 (k := 2) (j := 1) (l := 0) (u := 200) rfl
    have h929_ := iv_get hv (k := 2) (j := 2) (l := 0) (u := 200) rfl
    have h930_ := iv_get hv0 (k := 2) (j := 2) (l := 0) (u := 200) rfl
    have h3 : a 3 = a0 3 := funext fun j => hf 3 j rfl
    have h21 := hf 2 1 rfl
    have h931_ : jxw (y3 + 1) = y3 + 1 := jxw_id (by omega) (by omega)
    exact ih29 y2 (jxw (y3 + 1)) a (show (((4 - (jxw (y3 + 1))) * 1) + 0).toNat < n from by omega) hv hf (show 4 ≤ y2 from by omega) (show y2 ≤ 200 from by omega) (show 0 ≤ jxw (y3 + 1) from by omega) (show jxw (y3 + 1) ≤ 4 from by omega) (show 4 ≤ a 2 1 from by omega) (show 0 ≤ jxw (y3 + 1) from by omega) (show a 2 2 = a0 2 2 from by omega) (by first | exact (fun k hk => absurd hk (by omega)) | (rw [show jxw (y3 + 1) = y3 + 1 from by omega]; exact hch)) (show y2 = (a 2 2) + 4 from by omega) (show y2 ≤ a 2 1 from by omega) (show y2 ≤ 200 from by omega) (show a0 2 3 = 0 from by omega) (show a0 2 2 < a0 2 1 from by omega)
  have hc29 : ∀ (y2 y3 : Int) (a : Nat → Nat → Int), (((4 - y3) * 1) + 0).toNat ≤ n → iv a → jfr jW_X8_takesWord_r1013 a0 a → 4 ≤ y2 → y2 ≤ 200 → 0 ≤ y3 → y3 ≤ 4 → 4 ≤ a 2 1 → 0 ≤ y3 → a 2 2 = a0 2 2 → (∀ k : Nat, (k : Int) < y3 → (a0 3) ((a0 2 2).toNat + k) = (wdl 13).getD k 0) → y2 = (a 2 2) + 4 → y2 ≤ a 2 1 → y2 ≤ 200 → a0 2 3 = 0 → a0 2 2 < a0 2 1 → jt (jxX E d 128 29 [some (.inr (.inr (.inl 2))), some (.inr (.inr (.inl 1013))), some (.inl y2), some (.inl y3)] [] (jxSH, a, b0)) (jQ_X8_takesWord_r1013 a0 b0) := by
    intro y2 y3 a hm hv hf hi0 hi1 hi2 hi3 hi4 hi5 hi6 hch hi8 hi9 hi10 hi11 hi12
    refine jt_eq (bq_X8_takesWord_r1013_29 E d y2 y3 a b0) ?_
    have h932_ := iv_get hv (k := 2) (j := 1) (l := 0) (u := 200) rfl
    have h933_ : a 2 1 = a0 2 1 := hf 2 1 rfl
    have h934_ := iv_get hv0 (k := 2) (j := 1) (l := 0) (u := 200) rfl
    have h935_ := iv_get hv (k := 2) (j := 2) (l := 0) (u := 200) rfl
    have h936_ := iv_get hv0 (k := 2) (j := 2) (l := 0) (u := 200) rfl
    have h3 : a 3 = a0 3 := funext fun j => hf 3 j rfl
    have h21 := hf 2 1 rfl
    refine jt_eI (eq_J0_length_8abf5_r1013 E d (jd_le hd rfl) a b0) ?_
    have h937_ := ff_J0_length_8abf5_r1013 a b0
    refine jt_ite (fun c938_ => ?_) (fun c938_ => ?_)
    ·
      have h939_ : jxw ((a 2 2) + y3) = (a 2 2) + y3 := jxw_id (by omega) (by omega)
      refine jt_grd (by omega) ?_
      refine jt_eI (eq_J0_charAt_5068e_r1013 E d (jd_le hd rfl) y3 a b0 (show (0 ≤ y3 ∧ y3 < 4) from by omega)) ?_
      have h940_ := iv_get hv (k := 3) (j := (jxw ((a 2 2) + y3)).toNat) (l := 0) (u := 255) rfl
      have h941_ : a 3 ((jxw ((a 2 2) + y3)).toNat) = a0 3 ((jxw ((a 2 2) + y3)).toNat) := hf 3 ((jxw ((a 2 2) + y3)).toNat) rfl
      have h942_ := iv_get hv0 (k := 3) (j := (jxw ((a 2 2) + y3)).toNat) (l := 0) (u := 255) rfl
      have h943_ := f_J0_charAt_5068e_r1013_eq a b0 y3
      have h944_ := f_J0_isLatin1_aae02_r1013_eq a b0
      have h945_ := f_J1_charAt_3b067_r2013_eq a b0 y3
      have h946_ := jxand_r (([108, 111, 115, 116] : List Int).getD (y3.toNat) 0) 255 (by decide) (by decide)
      have h947_ := jxi2c_b (jxand (([108, 111, 115, 116] : List Int).getD (y3.toNat) 0) 255)
      refine jt_ite (fun c948_ => ?_) (fun c948_ => ?_)
      ·
        exact hc58 y2 y3 a (show (((4 - y3) * 1) + 0).toNat ≤ n from by omega) hv hf (show 4 ≤ y2 from by omega) (show y2 ≤ 200 from by omega) (show 0 ≤ y3 from by omega) (show y3 ≤ 3 from by omega) (show 4 ≤ a 2 1 from by omega) (show y3 < 4 from by omega) (show 0 ≤ y3 from by omega) (show a 2 2 = a0 2 2 from by omega) (ch_ext hch (by omega) (q := (jxw ((a 2 2) + y3)).toNat) (by omega) (v := f_J0_charAt_5068e_r1013 a b0 y3) (by rw [← h3]; assumption) (cw_1013 a b0 y3 (by omega) (by omega))) (show y2 = (a 2 2) + 4 from by omega) (show y2 ≤ a 2 1 from by omega) (show y2 ≤ 200 from by omega) (show a0 2 3 = 0 from by omega) (show a0 2 2 < a0 2 1 from by omega)
      ·
        exact cp_X8_takesWord_r1013_56 E d hd a0 b0 hv0 a hv hf (show 4 ≤ a 2 1 from by omega) (show a 2 2 = a0 2 2 from by omega) (TW_no (y := y3) (by omega) (show y3 < 4 by omega) (q := (jxw ((a 2 2) + y3)).toNat) (by omega) (v := f_J0_charAt_5068e_r1013 a b0 y3) (cw_1013 a b0 y3 (by omega) (by omega)) (by rw [← h3]; assumption)) (show a0 2 3 = 0 from by omega) (show a0 2 2 < a0 2 1 from by omega)
    ·
      refine jt_ite (fun c949_ => ?_) (fun c949_ => ?_)
      ·
        refine jt_grd (by omega) ?_
        have h950_ := iv_get hv (k := 3) (j := y2.toNat) (l := 0) (u := 255) rfl
        have h951_ : a 3 (y2.toNat) = a0 3 (y2.toNat) := hf 3 (y2.toNat) rfl
        have h952_ := iv_get hv0 (k := 3) (j := y2.toNat) (l := 0) (u := 255) rfl
        refine jt_ite (fun c953_ => ?_) (fun c953_ => ?_)
        ·
          exact cp_X8_takesWord_r1013_96 E d hd a0 b0 hv0 y2 a hv hf (show 4 ≤ y2 from by omega) (show y2 ≤ 200 from by omega) (show 4 ≤ a 2 1 from by omega) (show a 2 2 = a0 2 2 from by omega) (TW_mk (q := y2.toNat) (show y2.toNat = (a0 2 2).toNat + 4 by omega) (by omega) (by first | exact hall | exact (fun k hk => hch k (by have hw : ((wdn 13 : Nat) : Int) = 4 := rfl; omega))) (LT_no1 (by rw [← h3]; omega))) (show y2 = (a 2 2) + 4 from by omega) (show y2 ≤ a 2 1 from by omega) (show y2 ≤ 200 from by omega) (show a0 2 3 = 0 from by omega) (show a0 2 2 < a0 2 1 from by omega)
        ·
          exact cp_X8_takesWord_r1013_83 E d hd a0 b0 hv0 y2 a hv hf (show 4 ≤ y2 from by omega) (show y2 ≤ 199 from by omega) (show 5 ≤ a 2 1 from by omega) (show a 2 2 = a0 2 2 from by omega) (fun k hk => hch k (by have hw : ((wdn 13 : Nat) : Int) = 4 := rfl; omega)) (by rw [← h3]; omega) (show y2 = (a 2 2) + 4 from by omega) (show y2 ≤ a 2 1 from by omega) (show y2 ≤ 200 from by omega) (show a0 2 3 = 0 from by omega) (show a0 2 2 < a0 2 1 from by omega)
      ·
        exact cp_X8_takesWord_r1013_96 E d hd a0 b0 hv0 y2 a hv hf (show 4 ≤ y2 from by omega) (show y2 ≤ 200 from by omega) (show 4 ≤ a 2 1 from by omega) (show a 2 2 = a0 2 2 from by omega) (TW_mk (q := y2.toNat) (show y2.toNat = (a0 2 2).toNat + 4 by omega) (by omega) (by first | exact hall | exact (fun k hk => hch k (by have hw : ((wdn 13 : Nat) : Int) = 4 := rfl; omega))) (LT_no1 (by rw [← h3]; omega))) (show y2 = (a 2 2) + 4 from by omega) (show y2 ≤ a 2 1 from by omega) (show y2 ≤ 200 from by omega) (show a0 2 3 = 0 from by omega) (show a0 2 2 < a0 2 1 from by omega)
  exact ⟨hc58, hc29⟩
theorem sp_X8_takesWord_r1013 (E : jxE) (d : Nat) (hd : Nat.ble 5 d = true) (a0 b0 : Nat → Nat → Int) (hv0 : iv a0) : jt (jxC E d 128 [.inr (.inr (.inl 2)), .inr (.inr (.inl 1013))] (jxSH, a0, b0)) (jQ_X8_takesWord_r1013 a0 b0) := by
  obtain ⟨d, rfl⟩ := jd_succ hd
  refine jt_eq (bq_X8_takesWord_r1013 E d a0 b0) ?_
  refine jt_eI (eq_J0_length_8abf5_r1013 E d (jd_le hd rfl) a0 b0) ?_
  refine jt_eI (eq_X8_isFaulty E d (jd_le hd rfl) a0 b0) ?_
  have h954_ := f_X8_isFaulty_eq a0 b0
  refine jt_ite (fun c955_ => ?_) (fun c955_ => ?_)
  ·
    have h956_ := iv_get hv0 (k := 2) (j := 1) (l := 0) (u := 200) rfl
    have h957_ := iv_get hv0 (k := 2) (j := 2) (l := 0) (u := 200) rfl
    have h958_ := ff_J0_length_8abf5_r1013 a0 b0
    have h959_ : jxw ((a0 2 2) + (f_J0_length_8abf5_r1013 a0 b0)) = (a0 2 2) + (f_J0_length_8abf5_r1013 a0 b0) := jxw_id (by omega) (by omega)
    refine jt_ite (fun c960_ => ?_) (fun c960_ => ?_)
    ·
      exact jt_rI ⟨hv0, (jfr_rf _ _), rfl, (show (0 ≤ 0 ∧ 0 ≤ 1) from by omega), (show ((¬ a0 2 3 = 0 ∨ a0 2 1 ≤ a0 2 2) → 0 = 0) from by omega), (show (0 = 0 → a0 2 2 = a0 2 2) from by omega), (by first | exact (fun h => absurd h (by decide)) | exact (fun _ => ⟨by omega, htw, by have h := hq0_1; rw [show (a0 2 2).toNat + wdn 13 = y2.toNat from (by show _ + 4 = _; omega), ← h3, ← h21]; exact h⟩)), (by first | exact (fun h => absurd h (by decide)) | exact (fun _ => Or.inr hnt) | exact (fun _ => Or.inl (by omega)) | exact (fun _ => Or.inr (TW_short (show _ < _ + 4 by omega))) | exact (fun _ => Or.inr (TW_let (q := y2.toNat) (show y2.toNat = (a0 2 2).toNat + 4 by omega) ⟨by omega, h97, by rw [← h3]; omega⟩)))⟩
    ·
      exact (cp_X8_takesWord_r1013_29 E d hd a0 b0 hv0 _).2 (jxw ((a0 2 2) + (f_J0_length_8abf5_r1013 a0 b0))) 0 a0 (Nat.le_refl _) hv0 (jfr_rf _ _) (show 4 ≤ jxw ((a0 2 2) + (f_J0_length_8abf5_r1013 a0 b0)) from by omega) (show jxw ((a0 2 2) + (f_J0_length_8abf5_r1013 a0 b0)) ≤ 200 from by omega) (show 0 ≤ 0 from by omega) (show 0 ≤ 4 from by omega) (show 4 ≤ a0 2 1 from by omega) (show 0 ≤ 0 from by omega) (show a0 2 2 = a0 2 2 from by omega) (by first | exact (fun k hk => absurd hk (by omega)) | (rw [show jxw (y3 + 1) = y3 + 1 from by omega]; exact hch)) (show jxw ((a0 2 2) + (f_J0_length_8abf5_r1013 a0 b0)) = (a0 2 2) + 4 from by omega) (show jxw ((a0 2 2) + (f_J0_length_8abf5_r1013 a0 b0)) ≤ a0 2 1 from by omega) (show jxw ((a0 2 2) + (f_J0_length_8abf5_r1013 a0 b0)) ≤ 200 from by omega) (show a0 2 3 = 0 from by omega) (show a0 2 2 < a0 2 1 from by omega)
  ·
    have h961_ := iv_get hv0 (k := 2) (j := 1) (l := 0) (u := 200) rfl
    have h962_ := iv_get hv0 (k := 2) (j := 2) (l := 0) (u := 200) rfl
    exact jt_rI ⟨hv0, (jfr_rf _ _), rfl, (show (0 ≤ 0 ∧ 0 ≤ 1) from by omega), (show ((¬ a0 2 3 = 0 ∨ a0 2 1 ≤ a0 2 2) → 0 = 0) from by omega), (show (0 = 0 → a0 2 2 = a0 2 2) from by omega), (by first | exact (fun h => absurd h (by decide)) | exact (fun _ => ⟨by omega, htw, by have h := hq0_1; rw [show (a0 2 2).toNat + wdn 13 = y2.toNat from (by show _ + 4 = _; omega), ← h3, ← h21]; exact h⟩)), (by first | exact (fun h => absurd h (by decide)) | exact (fun _ => Or.inr hnt) | exact (fun _ => Or.inl (by omega)) | exact (fun _ => Or.inr (TW_short (show _ < _ + 4 by omega))) | exact (fun _ => Or.inr (TW_let (q := y2.toNat) (show y2.toNat = (a0 2 2).toNat + 4 by omega) ⟨by omega, h97, by rw [← h3]; omega⟩)))⟩
def jW_X8_takesWord_r1014 : List (Nat × Nat) := [(2, 2)]
abbrev jQ_X8_takesWord_r1014 (a0 b0 : Nat → Nat → Int) : List jxV → (Nat → Nat → Int) → (Nat → Nat → Int) → Prop := rI (fun r a b => (iv a) ∧ (jfr jW_X8_takesWord_r1014 a0 a) ∧ (b0 = b) ∧ ((0 ≤ r ∧ r ≤ 1)) ∧ (((¬ a0 2 3 = 0 ∨ a0 2 1 ≤ a0 2 2) → r = 0)) ∧ ((r = 0 → a 2 2 = a0 2 2)) ∧ (r = 1 → a0 2 3 = 0 ∧ TW (a0 3) (a0 2 1).toNat (a0 2 2).toNat 14 ∧ a 2 2 = ((SK (a0 3) (a0 2 1).toNat ((a0 2 2).toNat + wdn 14) : Nat) : Int)) ∧ (r = 0 → ¬ a0 2 3 = 0 ∨ ¬ TW (a0 3) (a0 2 1).toNat (a0 2 2).toNat 14))
theorem cp_X8_takesWord_r1014_56 (E : jxE) (d : Nat) (hd : Nat.ble 5 (d + 1) = true) (a0 b0 : Nat → Nat → Int) (hv0 : iv a0) : ∀ (a : Nat → Nat → Int), iv a → jfr jW_X8_takesWord_r1014 a0 a → 6 ≤ a 2 1 → a 2 2 = a0 2 2 → (¬ TW (a0 3) (a0 2 1).toNat (a0 2 2).toNat 14) → a0 2 3 = 0 → a0 2 2 < a0 2 1 → jt (jxX E d 128 56 [none, none, none, none] [] (jxSH, a, b0)) (jQ_X8_takesWord_r1014 a0 b0) := by
  intro a hv hf hi0 hi1 hnt hi3 hi4
  refine jt_eq (bq_X8_takesWord_r1014_56 E d a b0) ?_
  have h963_ := iv_get hv (k := 2) (j := 1) (l := 0) (u := 200) rfl
  have h964_ : a 2 1 = a0 2 1 := hf 2 1 rfl
  have h965_ := iv_get hv0 (k := 2) (j := 1) (l := 0) (u := 200) rfl
  have h966_ := iv_get hv (k := 2) (j := 2) (l := 0) (u := 200) rfl
  have h967_ := iv_get hv0 (k := 2) (j := 2) (l := 0) (u := 200) rfl
  have h3 : a 3 = a0 3 := funext fun j => hf 3 j rfl
  have h21 := hf 2 1 rfl
  exact jt_rI ⟨hv, hf, rfl, (show (0 ≤ 0 ∧ 0 ≤ 1) from by omega), (show ((¬ a0 2 3 = 0 ∨ a0 2 1 ≤ a0 2 2) → 0 = 0) from by omega), (show (0 = 0 → a 2 2 = a0 2 2) from by omega), (by first | exact (fun h => absurd h (by decide)) | exact (fun _ => ⟨by omega, htw, by have h := hq0_1; rw [show (a0 2 2).toNat + wdn 14 = y2.toNat from (by show _ + 6 = _; omega), ← h3, ← h21]; exact h⟩)), (by first | exact (fun h => absurd h (by decide)) | exact (fun _ => Or.inr hnt) | exact (fun _ => Or.inl (by omega)) | exact (fun _ => Or.inr (TW_short (show _ < _ + 6 by omega))) | exact (fun _ => Or.inr (TW_let (q := y2.toNat) (show y2.toNat = (a0 2 2).toNat + 6 by omega) ⟨by omega, h97, by rw [← h3]; omega⟩)))⟩
theorem cp_X8_takesWord_r1014_96 (E : jxE) (d : Nat) (hd : Nat.ble 5 (d + 1) = true) (a0 b0 : Nat → Nat → Int) (hv0 : iv a0) : ∀ (y2 : Int) (a : Nat → Nat → Int), iv a → jfr jW_X8_takesWord_r1014 a0 a → 6 ≤ y2 → y2 ≤ 200 → 6 ≤ a 2 1 → a 2 2 = a0 2 2 → (TW (a0 3) (a0 2 1).toNat (a0 2 2).toNat 14) → y2 = (a 2 2) + 6 → y2 ≤ a 2 1 → y2 ≤ 200 → a0 2 3 = 0 → a0 2 2 < a0 2 1 → jt (jxX E d 128 96 [some (.inr (.inr (.inl 2))), none, some (.inl y2), none] [] (jxSH, a, b0)) (jQ_X8_takesWord_r1014 a0 b0) := by
  intro y2 a hv hf hi0 hi1 hi2 hi3 htw hi5 hi6 hi7 hi8 hi9
  refine jt_eq (bq_X8_takesWord_r1014_96 E d y2 a b0) ?_
  have h968_ := iv_get hv (k := 2) (j := 1) (l := 0) (u := 200) rfl
  have h969_ : a 2 1 = a0 2 1 := hf 2 1 rfl
  have h970_ := iv_get hv0 (k := 2) (j := 1) (l := 0) (u := 200) rfl
  have h971_ := iv_get hv (k := 2) (j := 2) (l := 0) (u := 200) rfl
  have h972_ := iv_get hv0 (k := 2) (j := 2) (l := 0) (u := 200) rfl
  have h3 : a 3 = a0 3 := funext fun j => hf 3 j rfl
  have h21 := hf 2 1 rfl
  have hv973_ : iv (jxu a 2 2 y2) := iv_put hv (l := 0) (u := 200) rfl (by omega) (by omega)
  refine jt_bV (sp_X8_skipBlanks E d (jd_le hd rfl) (jxu a 2 2 y2) b0 hv973_) (fun a974_ b974_ h974_ => ?_)
  obtain ⟨hv974_, hf974_, rfl, hq974_0, hq974_1⟩ := h974_
  have h975_ := iv_get hv974_ (k := 2) (j := 2) (l := 0) (u := 200) rfl
  have h976_ : (a 2 1 ≤ y2 → a974_ 2 2 = y2) := hq974_0
  have hf977_ : jfr jW_X8_takesWord_r1014 a0 (jxu a 2 2 y2) := jfr_put hf rfl
  have hf978_ : jfr jW_X8_takesWord_r1014 a0 a974_ := jfr_tr hf977_ hf974_ rfl
  exact jt_rI ⟨hv974_, hf978_, rfl, (show (0 ≤ 1 ∧ 1 ≤ 1) from by omega), (show ((¬ a0 2 3 = 0 ∨ a0 2 1 ≤ a0 2 2) → 1 = 0) from by omega), (show (1 = 0 → a974_ 2 2 = a0 2 2) from by omega), (by first | exact (fun h => absurd h (by decide)) | exact (fun _ => ⟨by omega, htw, by have h := hq974_1; rw [show (a0 2 2).toNat + wdn 14 = y2.toNat from (by show _ + 6 = _; omega), ← h3, ← h21]; exact h⟩)), (by first | exact (fun h => absurd h (by decide)) | exact (fun _ => Or.inr hnt) | exact (fun _ => Or.inl (by omega)) | exact (fun _ => Or.inr (TW_short (show _ < _ + 6 by omega))) | exact (fun _ => Or.inr (TW_let (q := y2.toNat) (show y2.toNat = (a0 2 2).toNat + 6 by omega) ⟨by omega, h97, by rw [← h3]; omega⟩)))⟩
theorem cp_X8_takesWord_r1014_83 (E : jxE) (d : Nat) (hd : Nat.ble 5 (d + 1) = true) (a0 b0 : Nat → Nat → Int) (hv0 : iv a0) : ∀ (y2 : Int) (a : Nat → Nat → Int), iv a → jfr jW_X8_takesWord_r1014 a0 a → 6 ≤ y2 → y2 ≤ 199 → 7 ≤ a 2 1 → a 2 2 = a0 2 2 → (∀ k : Nat, (k : Int) < (wdn 14 : Int) → (a0 3) ((a0 2 2).toNat + k) = (wdl 14).getD k 0) → (97 ≤ a0 3 y2.toNat) → y2 = (a 2 2) + 6 → y2 ≤ a 2 1 → y2 ≤ 200 → a0 2 3 = 0 → a0 2 2 < a0 2 1 → jt (jxX E d 128 83 [some (.inr (.inr (.inl 2))), none, some (.inl y2), none] [] (jxSH, a, b0)) (jQ_X8_takesWord_r1014 a0 b0) := by
  intro y2 a hv hf hi0 hi1 hi2 hi3 hall h97 hi6 hi7 hi8 hi9 hi10
  refine jt_eq (bq_X8_takesWord_r1014_83 E d y2 a b0) ?_
  have h979_ := iv_get hv (k := 2) (j := 1) (l := 0) (u := 200) rfl
  have h980_ : a 2 1 = a0 2 1 := hf 2 1 rfl
  have h981_ := iv_get hv0 (k := 2) (j := 1) (l := 0) (u := 200) rfl
  have h982_ := iv_get hv (k := 2) (j := 2) (l := 0) (u := 200) rfl
  have h983_ := iv_get hv0 (k := 2) (j := 2) (l := 0) (u := 200) rfl
  have h3 : a 3 = a0 3 := funext fun j => hf 3 j rfl
  have h21 := hf 2 1 rfl
  refine jt_grd (by omega) ?_
  have h984_ := iv_get hv (k := 3) (j := y2.toNat) (l := 0) (u := 255) rfl
  have h985_ : a 3 (y2.toNat) = a0 3 (y2.toNat) := hf 3 (y2.toNat) rfl
  have h986_ := iv_get hv0 (k := 3) (j := y2.toNat) (l := 0) (u := 255) rfl
  refine jt_ite (fun c987_ => ?_) (fun c987_ => ?_)
  ·
    exact cp_X8_takesWord_r1014_96 E d hd a0 b0 hv0 y2 a hv hf (show 6 ≤ y2 from by omega) (show y2 ≤ 200 from by omega) (show 6 ≤ a 2 1 from by omega) (show a 2 2 = a0 2 2 from by omega) (TW_mk (q := y2.toNat) (show y2.toNat = (a0 2 2).toNat + 6 by omega) (by omega) (by first | exact hall | exact (fun k hk => hch k (by have hw : ((wdn 14 : Nat) : Int) = 6 := rfl; omega))) (LT_no1 (by rw [← h3]; omega))) (show y2 = (a 2 2) + 6 from by omega) (show y2 ≤ a 2 1 from by omega) (show y2 ≤ 200 from by omega) (show a0 2 3 = 0 from by omega) (show a0 2 2 < a0 2 1 from by omega)
  ·
    exact jt_rI ⟨hv, hf, rfl, (show (0 ≤ 0 ∧ 0 ≤ 1) from by omega), (show ((¬ a0 2 3 = 0 ∨ a0 2 1 ≤ a0 2 2) → 0 = 0) from by omega), (show (0 = 0 → a 2 2 = a0 2 2) from by omega), (by first | exact (fun h => absurd h (by decide)) | exact (fun _ => ⟨by omega, htw, by have h := hq0_1; rw [show (a0 2 2).toNat + wdn 14 = y2.toNat from (by show _ + 6 = _; omega), ← h3, ← h21]; exact h⟩)), (by first | exact (fun h => absurd h (by decide)) | exact (fun _ => Or.inr hnt) | exact (fun _ => Or.inl (by omega)) | exact (fun _ => Or.inr (TW_short (show _ < _ + 6 by omega))) | exact (fun _ => Or.inr (TW_let (q := y2.toNat) (show y2.toNat = (a0 2 2).toNat + 6 by omega) ⟨by omega, h97, by rw [← h3]; omega⟩)))⟩
theorem cp_X8_takesWord_r1014_29 (E : jxE) (d : Nat) (hd : Nat.ble 5 (d + 1) = true) (a0 b0 : Nat → Nat → Int) (hv0 : iv a0) : ∀ n : Nat, (∀ (y2 y3 : Int) (a : Nat → Nat → Int), (((6 - y3) * 1) + 0).toNat ≤ n → iv a → jfr jW_X8_takesWord_r1014 a0 a → 6 ≤ y2 → y2 ≤ 200 → 0 ≤ y3 → y3 ≤ 5 → 6 ≤ a 2 1 → y3 < 6 → 0 ≤ y3 → a 2 2 = a0 2 2 → (∀ k : Nat, (k : Int) < y3 + 1 → (a0 3) ((a0 2 2).toNat + k) = (wdl 14).getD k 0) → y2 = (a 2 2) + 6 → y2 ≤ a 2 1 → y2 ≤ 200 → a0 2 3 = 0 → a0 2 2 < a0 2 1 → jt (jxX E d 128 58 [some (.inr (.inr (.inl 2))), some (.inr (.inr (.inl 1014))), some (.inl y2), some (.inl y3)] [] (jxSH, a, b0)) (jQ_X8_takesWord_r1014 a0 b0)) ∧ (∀ (y2 y3 : Int) (a : Nat → Nat → Int), (((6 - y3) * 1) + 0).toNat ≤ n → iv a → jfr jW_X8_takesWord_r1014 a0 a → 6 ≤ y2 → y2 ≤ 200 → 0 ≤ y3 → y3 ≤ 6 → 6 ≤ a 2 1 → 0 ≤ y3 → a 2 2 = a0 2 2 → (∀ k : Nat, (k : Int) < y3 → (a0 3) ((a0 2 2).toNat + k) = (wdl 14).getD k 0) → y2 = (a 2 2) + 6 → y2 ≤ a 2 1 → y2 ≤ 200 → a0 2 3 = 0 → a0 2 2 < a0 2 1 → jt (jxX E d 128 29 [some (.inr (.inr (.inl 2))), some (.inr (.inr (.inl 1014))), some (.inl y2), some (.inl y3)] [] (jxSH, a, b0)) (jQ_X8_takesWord_r1014 a0 b0)) := by
  refine jx_ind fun n ih => ?_
  have ih58 : ∀ (y2 y3 : Int) (a : Nat → Nat → Int), (((6 - y3) * 1) + 0).toNat < n → iv a → jfr jW_X8_takesWord_r1014 a0 a → 6 ≤ y2 → y2 ≤ 200 → 0 ≤ y3 → y3 ≤ 5 → 6 ≤ a 2 1 → y3 < 6 → 0 ≤ y3 → a 2 2 = a0 2 2 → (∀ k : Nat, (k : Int) < y3 + 1 → (a0 3) ((a0 2 2).toNat + k) = (wdl 14).getD k 0) → y2 = (a 2 2) + 6 → y2 ≤ a 2 1 → y2 ≤ 200 → a0 2 3 = 0 → a0 2 2 < a0 2 1 → jt (jxX E d 128 58 [some (.inr (.inr (.inl 2))), some (.inr (.inr (.inl 1014))), some (.inl y2), some (.inl y3)] [] (jxSH, a, b0)) (jQ_X8_takesWord_r1014 a0 b0) := fun y2 y3 a hlt i0 i1 i2 i3 i4 i5 i6 i7 i8 i9 i10 i11 i12 i13 i14 i15 => (ih _ hlt).1 y2 y3 a (Nat.le_refl _) i0 i1 i2 i3 i4 i5 i6 i7 i8 i9 i10 i11 i12 i13 i14 i15
  have ih29 : ∀ (y2 y3 : Int) (a : Nat → Nat → Int), (((6 - y3) * 1) + 0).toNat < n → iv a → jfr jW_X8_takesWord_r1014 a0 a → 6 ≤ y2 → y2 ≤ 200 → 0 ≤ y3 → y3 ≤ 6 → 6 ≤ a 2 1 → 0 ≤ y3 → a 2 2 = a0 2 2 → (∀ k : Nat, (k : Int) < y3 → (a0 3) ((a0 2 2).toNat + k) = (wdl 14).getD k 0) → y2 = (a 2 2) + 6 → y2 ≤ a 2 1 → y2 ≤ 200 → a0 2 3 = 0 → a0 2 2 < a0 2 1 → jt (jxX E d 128 29 [some (.inr (.inr (.inl 2))), some (.inr (.inr (.inl 1014))), some (.inl y2), some (.inl y3)] [] (jxSH, a, b0)) (jQ_X8_takesWord_r1014 a0 b0) := fun y2 y3 a hlt i0 i1 i2 i3 i4 i5 i6 i7 i8 i9 i10 i11 i12 i13 i14 => (ih _ hlt).2 y2 y3 a (Nat.le_refl _) i0 i1 i2 i3 i4 i5 i6 i7 i8 i9 i10 i11 i12 i13 i14
  have hc58 : ∀ (y2 y3 : Int) (a : Nat → Nat → Int), (((6 - y3) * 1) + 0).toNat ≤ n → iv a → jfr jW_X8_takesWord_r1014 a0 a → 6 ≤ y2 → y2 ≤ 200 → 0 ≤ y3 → y3 ≤ 5 → 6 ≤ a 2 1 → y3 < 6 → 0 ≤ y3 → a 2 2 = a0 2 2 → (∀ k : Nat, (k : Int) < y3 + 1 → (a0 3) ((a0 2 2).toNat + k) = (wdl 14).getD k 0) → y2 = (a 2 2) + 6 → y2 ≤ a 2 1 → y2 ≤ 200 → a0 2 3 = 0 → a0 2 2 < a0 2 1 → jt (jxX E d 128 58 [some (.inr (.inr (.inl 2))), some (.inr (.inr (.inl 1014))), some (.inl y2), some (.inl y3)] [] (jxSH, a, b0)) (jQ_X8_takesWord_r1014 a0 b0) := by
    intro y2 y3 a hm hv hf hi0 hi1 hi2 hi3 hi4 hi5 hi6 hi7 hch hi9 hi10 hi11 hi12 hi13
    refine jt_eq (bq_X8_takesWord_r1014_58 E d y2 y3 a b0) ?_
    have h988_ := iv_get hv (k := 2) (j := 1) (l := 0) (u := 200) rfl
    have h989_ : a 2 1 = a0 2 1 := hf 2 1 rfl
    have h990_ := iv_get hv0 (k := 2) (j := 1) (l := 0) (u := 200) rfl
    have h991_ := iv_get hv (k := 2) (j := 2) (l := 0) (u := 200) rfl
    have h992_ := iv_get hv0 (k := 2) (j := 2) (l := 0) (u := 200) rfl
    have h3 : a 3 = a0 3 := funext fun j => hf 3 j rfl
    have h21 := hf 2 1 rfl
    have h993_ : jxw (y3 + 1) = y3 + 1 := jxw_id (by omega) (by omega)
    exact ih29 y2 (jxw (y3 + 1)) a (show (((6 - (jxw (y3 + 1))) * 1) + 0).toNat < n from by omega) hv hf (show 6 ≤ y2 from by omega) (show y2 ≤ 200 from by omega) (show 0 ≤ jxw (y3 + 1) from by omega) (show jxw (y3 + 1) ≤ 6 from by omega) (show 6 ≤ a 2 1 from by omega) (show 0 ≤ jxw (y3 + 1) from by omega) (show a 2 2 = a0 2 2 from by omega) (by first | exact (fun k hk => absurd hk (by omega)) | (rw [show jxw (y3 + 1) = y3 + 1 from by omega]; exact hch)) (show y2 = (a 2 2) + 6 from by omega) (show y2 ≤ a 2 1 from by omega) (show y2 ≤ 200 from by omega) (show a0 2 3 = 0 from by omega) (show a0 2 2 < a0 2 1 from by omega)
  have hc29 : ∀ (y2 y3 : Int) (a : Nat → Nat → Int), (((6 - y3) * 1) + 0).toNat ≤ n → iv a → jfr jW_X8_takesWord_r1014 a0 a → 6 ≤ y2 → y2 ≤ 200 → 0 ≤ y3 → y3 ≤ 6 → 6 ≤ a 2 1 → 0 ≤ y3 → a 2 2 = a0 2 2 → (∀ k : Nat, (k : Int) < y3 → (a0 3) ((a0 2 2).toNat + k) = (wdl 14).getD k 0) → y2 = (a 2 2) + 6 → y2 ≤ a 2 1 → y2 ≤ 200 → a0 2 3 = 0 → a0 2 2 < a0 2 1 → jt (jxX E d 128 29 [some (.inr (.inr (.inl 2))), some (.inr (.inr (.inl 1014))), some (.inl y2), some (.inl y3)] [] (jxSH, a, b0)) (jQ_X8_takesWord_r1014 a0 b0) := by
    intro y2 y3 a hm hv hf hi0 hi1 hi2 hi3 hi4 hi5 hi6 hch hi8 hi9 hi10 hi11 hi12
    refine jt_eq (bq_X8_takesWord_r1014_29 E d y2 y3 a b0) ?_
    have h994_ := iv_get hv (k := 2) (j := 1) (l := 0) (u := 200) rfl
    have h995_ : a 2 1 = a0 2 1 := hf 2 1 rfl
    have h996_ := iv_get hv0 (k := 2) (j := 1) (l := 0) (u := 200) rfl
    have h997_ := iv_get hv (k := 2) (j := 2) (l := 0) (u := 200) rfl
    have h998_ := iv_get hv0 (k := 2) (j := 2) (l := 0) (u := 200) rfl
    have h3 : a 3 = a0 3 := funext fun j => hf 3 j rfl
    have h21 := hf 2 1 rfl
    refine jt_eI (eq_J0_length_8abf5_r1014 E d (jd_le hd rfl) a b0) ?_
    have h999_ := ff_J0_length_8abf5_r1014 a b0
    refine jt_ite (fun c1000_ => ?_) (fun c1000_ => ?_)
    ·
      have h1001_ : jxw ((a 2 2) + y3) = (a 2 2) + y3 := jxw_id (by omega) (by omega)
      refine jt_grd (by omega) ?_
      refine jt_eI (eq_J0_charAt_5068e_r1014 E d (jd_le hd rfl) y3 a b0 (show (0 ≤ y3 ∧ y3 < 6) from by omega)) ?_
      have h1002_ := iv_get hv (k := 3) (j := (jxw ((a 2 2) + y3)).toNat) (l := 0) (u := 255) rfl
      have h1003_ : a 3 ((jxw ((a 2 2) + y3)).toNat) = a0 3 ((jxw ((a 2 2) + y3)).toNat) := hf 3 ((jxw ((a 2 2) + y3)).toNat) rfl
      have h1004_ := iv_get hv0 (k := 3) (j := (jxw ((a 2 2) + y3)).toNat) (l := 0) (u := 255) rfl
      have h1005_ := f_J0_charAt_5068e_r1014_eq a b0 y3
      have h1006_ := f_J0_isLatin1_aae02_r1014_eq a b0
      have h1007_ := f_J1_charAt_3b067_r2014_eq a b0 y3
      have h1008_ := jxand_r (([115, 116, 114, 105, 99, 116] : List Int).getD (y3.toNat) 0) 255 (by decide) (by decide)
      have h1009_ := jxi2c_b (jxand (([115, 116, 114, 105, 99, 116] : List Int).getD (y3.toNat) 0) 255)
      refine jt_ite (fun c1010_ => ?_) (fun c1010_ => ?_)
      ·
        exact hc58 y2 y3 a (show (((6 - y3) * 1) + 0).toNat ≤ n from by omega) hv hf (show 6 ≤ y2 from by omega) (show y2 ≤ 200 from by omega) (show 0 ≤ y3 from by omega) (show y3 ≤ 5 from by omega) (show 6 ≤ a 2 1 from by omega) (show y3 < 6 from by omega) (show 0 ≤ y3 from by omega) (show a 2 2 = a0 2 2 from by omega) (ch_ext hch (by omega) (q := (jxw ((a 2 2) + y3)).toNat) (by omega) (v := f_J0_charAt_5068e_r1014 a b0 y3) (by rw [← h3]; assumption) (cw_1014 a b0 y3 (by omega) (by omega))) (show y2 = (a 2 2) + 6 from by omega) (show y2 ≤ a 2 1 from by omega) (show y2 ≤ 200 from by omega) (show a0 2 3 = 0 from by omega) (show a0 2 2 < a0 2 1 from by omega)
      ·
        exact cp_X8_takesWord_r1014_56 E d hd a0 b0 hv0 a hv hf (show 6 ≤ a 2 1 from by omega) (show a 2 2 = a0 2 2 from by omega) (TW_no (y := y3) (by omega) (show y3 < 6 by omega) (q := (jxw ((a 2 2) + y3)).toNat) (by omega) (v := f_J0_charAt_5068e_r1014 a b0 y3) (cw_1014 a b0 y3 (by omega) (by omega)) (by rw [← h3]; assumption)) (show a0 2 3 = 0 from by omega) (show a0 2 2 < a0 2 1 from by omega)
    ·
      refine jt_ite (fun c1011_ => ?_) (fun c1011_ => ?_)
      ·
        refine jt_grd (by omega) ?_
        have h1012_ := iv_get hv (k := 3) (j := y2.toNat) (l := 0) (u := 255) rfl
        have h1013_ : a 3 (y2.toNat) = a0 3 (y2.toNat) := hf 3 (y2.toNat) rfl
        have h1014_ := iv_get hv0 (k := 3) (j := y2.toNat) (l := 0) (u := 255) rfl
        refine jt_ite (fun c1015_ => ?_) (fun c1015_ => ?_)
        ·
          exact cp_X8_takesWord_r1014_96 E d hd a0 b0 hv0 y2 a hv hf (show 6 ≤ y2 from by omega) (show y2 ≤ 200 from by omega) (show 6 ≤ a 2 1 from by omega) (show a 2 2 = a0 2 2 from by omega) (TW_mk (q := y2.toNat) (show y2.toNat = (a0 2 2).toNat + 6 by omega) (by omega) (by first | exact hall | exact (fun k hk => hch k (by have hw : ((wdn 14 : Nat) : Int) = 6 := rfl; omega))) (LT_no1 (by rw [← h3]; omega))) (show y2 = (a 2 2) + 6 from by omega) (show y2 ≤ a 2 1 from by omega) (show y2 ≤ 200 from by omega) (show a0 2 3 = 0 from by omega) (show a0 2 2 < a0 2 1 from by omega)
        ·
          exact cp_X8_takesWord_r1014_83 E d hd a0 b0 hv0 y2 a hv hf (show 6 ≤ y2 from by omega) (show y2 ≤ 199 from by omega) (show 7 ≤ a 2 1 from by omega) (show a 2 2 = a0 2 2 from by omega) (fun k hk => hch k (by have hw : ((wdn 14 : Nat) : Int) = 6 := rfl; omega)) (by rw [← h3]; omega) (show y2 = (a 2 2) + 6 from by omega) (show y2 ≤ a 2 1 from by omega) (show y2 ≤ 200 from by omega) (show a0 2 3 = 0 from by omega) (show a0 2 2 < a0 2 1 from by omega)
      ·
        exact cp_X8_takesWord_r1014_96 E d hd a0 b0 hv0 y2 a hv hf (show 6 ≤ y2 from by omega) (show y2 ≤ 200 from by omega) (show 6 ≤ a 2 1 from by omega) (show a 2 2 = a0 2 2 from by omega) (TW_mk (q := y2.toNat) (show y2.toNat = (a0 2 2).toNat + 6 by omega) (by omega) (by first | exact hall | exact (fun k hk => hch k (by have hw : ((wdn 14 : Nat) : Int) = 6 := rfl; omega))) (LT_no1 (by rw [← h3]; omega))) (show y2 = (a 2 2) + 6 from by omega) (show y2 ≤ a 2 1 from by omega) (show y2 ≤ 200 from by omega) (show a0 2 3 = 0 from by omega) (show a0 2 2 < a0 2 1 from by omega)
  exact ⟨hc58, hc29⟩
theorem sp_X8_takesWord_r1014 (E : jxE) (d : Nat) (hd : Nat.ble 5 d = true) (a0 b0 : Nat → Nat → Int) (hv0 : iv a0) : jt (jxC E d 128 [.inr (.inr (.inl 2)), .inr (.inr (.inl 1014))] (jxSH, a0, b0)) (jQ_X8_takesWord_r1014 a0 b0) := by
  obtain ⟨d, rfl⟩ := jd_succ hd
  refine jt_eq (bq_X8_takesWord_r1014 E d a0 b0) ?_
  refine jt_eI (eq_J0_length_8abf5_r1014 E d (jd_le hd rfl) a0 b0) ?_
  refine jt_eI (eq_X8_isFaulty E d (jd_le hd rfl) a0 b0) ?_
  have h1016_ := f_X8_isFaulty_eq a0 b0
  refine jt_ite (fun c1017_ => ?_) (fun c1017_ => ?_)
  ·
    have h1018_ := iv_get hv0 (k := 2) (j := 1) (l := 0) (u := 200) rfl
    have h1019_ := iv_get hv0 (k := 2) (j := 2) (l := 0) (u := 200) rfl
    have h1020_ := ff_J0_length_8abf5_r1014 a0 b0
    have h1021_ : jxw ((a0 2 2) + (f_J0_length_8abf5_r1014 a0 b0)) = (a0 2 2) + (f_J0_length_8abf5_r1014 a0 b0) := jxw_id (by omega) (by omega)
    refine jt_ite (fun c1022_ => ?_) (fun c1022_ => ?_)
    ·
      exact jt_rI ⟨hv0, (jfr_rf _ _), rfl, (show (0 ≤ 0 ∧ 0 ≤ 1) from by omega), (show ((¬ a0 2 3 = 0 ∨ a0 2 1 ≤ a0 2 2) → 0 = 0) from by omega), (show (0 = 0 → a0 2 2 = a0 2 2) from by omega), (by first | exact (fun h => absurd h (by decide)) | exact (fun _ => ⟨by omega, htw, by have h := hq0_1; rw [show (a0 2 2).toNat + wdn 14 = y2.toNat from (by show _ + 6 = _; omega), ← h3, ← h21]; exact h⟩)), (by first | exact (fun h => absurd h (by decide)) | exact (fun _ => Or.inr hnt) | exact (fun _ => Or.inl (by omega)) | exact (fun _ => Or.inr (TW_short (show _ < _ + 6 by omega))) | exact (fun _ => Or.inr (TW_let (q := y2.toNat) (show y2.toNat = (a0 2 2).toNat + 6 by omega) ⟨by omega, h97, by rw [← h3]; omega⟩)))⟩
    ·
      exact (cp_X8_takesWord_r1014_29 E d hd a0 b0 hv0 _).2 (jxw ((a0 2 2) + (f_J0_length_8abf5_r1014 a0 b0))) 0 a0 (Nat.le_refl _) hv0 (jfr_rf _ _) (show 6 ≤ jxw ((a0 2 2) + (f_J0_length_8abf5_r1014 a0 b0)) from by omega) (show jxw ((a0 2 2) + (f_J0_length_8abf5_r1014 a0 b0)) ≤ 200 from by omega) (show 0 ≤ 0 from by omega) (show 0 ≤ 6 from by omega) (show 6 ≤ a0 2 1 from by omega) (show 0 ≤ 0 from by omega) (show a0 2 2 = a0 2 2 from by omega) (by first | exact (fun k hk => absurd hk (by omega)) | (rw [show jxw (y3 + 1) = y3 + 1 from by omega]; exact hch)) (show jxw ((a0 2 2) + (f_J0_length_8abf5_r1014 a0 b0)) = (a0 2 2) + 6 from by omega) (show jxw ((a0 2 2) + (f_J0_length_8abf5_r1014 a0 b0)) ≤ a0 2 1 from by omega) (show jxw ((a0 2 2) + (f_J0_length_8abf5_r1014 a0 b0)) ≤ 200 from by omega) (show a0 2 3 = 0 from by omega) (show a0 2 2 < a0 2 1 from by omega)
  ·
    have h1023_ := iv_get hv0 (k := 2) (j := 1) (l := 0) (u := 200) rfl
    have h1024_ := iv_get hv0 (k := 2) (j := 2) (l := 0) (u := 200) rfl
    exact jt_rI ⟨hv0, (jfr_rf _ _), rfl, (show (0 ≤ 0 ∧ 0 ≤ 1) from by omega), (show ((¬ a0 2 3 = 0 ∨ a0 2 1 ≤ a0 2 2) → 0 = 0) from by omega), (show (0 = 0 → a0 2 2 = a0 2 2) from by omega), (by first | exact (fun h => absurd h (by decide)) | exact (fun _ => ⟨by omega, htw, by have h := hq0_1; rw [show (a0 2 2).toNat + wdn 14 = y2.toNat from (by show _ + 6 = _; omega), ← h3, ← h21]; exact h⟩)), (by first | exact (fun h => absurd h (by decide)) | exact (fun _ => Or.inr hnt) | exact (fun _ => Or.inl (by omega)) | exact (fun _ => Or.inr (TW_short (show _ < _ + 6 by omega))) | exact (fun _ => Or.inr (TW_let (q := y2.toNat) (show y2.toNat = (a0 2 2).toNat + 6 by omega) ⟨by omega, h97, by rw [← h3]; omega⟩)))⟩
def jW_X8_takesWord_r1015 : List (Nat × Nat) := [(2, 2)]
abbrev jQ_X8_takesWord_r1015 (a0 b0 : Nat → Nat → Int) : List jxV → (Nat → Nat → Int) → (Nat → Nat → Int) → Prop := rI (fun r a b => (iv a) ∧ (jfr jW_X8_takesWord_r1015 a0 a) ∧ (b0 = b) ∧ ((0 ≤ r ∧ r ≤ 1)) ∧ (((¬ a0 2 3 = 0 ∨ a0 2 1 ≤ a0 2 2) → r = 0)) ∧ ((r = 0 → a 2 2 = a0 2 2)) ∧ (r = 1 → a0 2 3 = 0 ∧ TW (a0 3) (a0 2 1).toNat (a0 2 2).toNat 15 ∧ a 2 2 = ((SK (a0 3) (a0 2 1).toNat ((a0 2 2).toNat + wdn 15) : Nat) : Int)) ∧ (r = 0 → ¬ a0 2 3 = 0 ∨ ¬ TW (a0 3) (a0 2 1).toNat (a0 2 2).toNat 15))
theorem cp_X8_takesWord_r1015_56 (E : jxE) (d : Nat) (hd : Nat.ble 5 (d + 1) = true) (a0 b0 : Nat → Nat → Int) (hv0 : iv a0) : ∀ (a : Nat → Nat → Int), iv a → jfr jW_X8_takesWord_r1015 a0 a → 4 ≤ a 2 1 → a 2 2 = a0 2 2 → (¬ TW (a0 3) (a0 2 1).toNat (a0 2 2).toNat 15) → a0 2 3 = 0 → a0 2 2 < a0 2 1 → jt (jxX E d 128 56 [none, none, none, none] [] (jxSH, a, b0)) (jQ_X8_takesWord_r1015 a0 b0) := by
  intro a hv hf hi0 hi1 hnt hi3 hi4
  refine jt_eq (bq_X8_takesWord_r1015_56 E d a b0) ?_
  have h1025_ := iv_get hv (k := 2) (j := 1) (l := 0) (u := 200) rfl
  have h1026_ : a 2 1 = a0 2 1 := hf 2 1 rfl
  have h1027_ := iv_get hv0 (k := 2) (j := 1) (l := 0) (u := 200) rfl
  have h1028_ := iv_get hv (k := 2) (j := 2) (l := 0) (u := 200) rfl
  have h1029_ := iv_get hv0 (k := 2) (j := 2) (l := 0) (u := 200) rfl
  have h3 : a 3 = a0 3 := funext fun j => hf 3 j rfl
  have h21 := hf 2 1 rfl
  exact jt_rI ⟨hv, hf, rfl, (show (0 ≤ 0 ∧ 0 ≤ 1) from by omega), (show ((¬ a0 2 3 = 0 ∨ a0 2 1 ≤ a0 2 2) → 0 = 0) from by omega), (show (0 = 0 → a 2 2 = a0 2 2) from by omega), (by first | exact (fun h => absurd h (by decide)) | exact (fun _ => ⟨by omega, htw, by have h := hq0_1; rw [show (a0 2 2).toNat + wdn 15 = y2.toNat from (by show _ + 4 = _; omega), ← h3, ← h21]; exact h⟩)), (by first | exact (fun h => absurd h (by decide)) | exact (fun _ => Or.inr hnt) | exact (fun _ => Or.inl (by omega)) | exact (fun _ => Or.inr (TW_short (show _ < _ + 4 by omega))) | exact (fun _ => Or.inr (TW_let (q := y2.toNat) (show y2.toNat = (a0 2 2).toNat + 4 by omega) ⟨by omega, h97, by rw [← h3]; omega⟩)))⟩
theorem cp_X8_takesWord_r1015_96 (E : jxE) (d : Nat) (hd : Nat.ble 5 (d + 1) = true) (a0 b0 : Nat → Nat → Int) (hv0 : iv a0) : ∀ (y2 : Int) (a : Nat → Nat → Int), iv a → jfr jW_X8_takesWord_r1015 a0 a → 4 ≤ y2 → y2 ≤ 200 → 4 ≤ a 2 1 → a 2 2 = a0 2 2 → (TW (a0 3) (a0 2 1).toNat (a0 2 2).toNat 15) → y2 = (a 2 2) + 4 → y2 ≤ a 2 1 → y2 ≤ 200 → a0 2 3 = 0 → a0 2 2 < a0 2 1 → jt (jxX E d 128 96 [some (.inr (.inr (.inl 2))), none, some (.inl y2), none] [] (jxSH, a, b0)) (jQ_X8_takesWord_r1015 a0 b0) := by
  intro y2 a hv hf hi0 hi1 hi2 hi3 htw hi5 hi6 hi7 hi8 hi9
  refine jt_eq (bq_X8_takesWord_r1015_96 E d y2 a b0) ?_
  have h1030_ := iv_get hv (k := 2) (j := 1) (l := 0) (u := 200) rfl
  have h1031_ : a 2 1 = a0 2 1 := hf 2 1 rfl
  have h1032_ := iv_get hv0 (k := 2) (j := 1) (l := 0) (u := 200) rfl
  have h1033_ := iv_get hv (k := 2) (j := 2) (l := 0) (u := 200) rfl
  have h1034_ := iv_get hv0 (k := 2) (j := 2) (l := 0) (u := 200) rfl
  have h3 : a 3 = a0 3 := funext fun j => hf 3 j rfl
  have h21 := hf 2 1 rfl
  have hv1035_ : iv (jxu a 2 2 y2) := iv_put hv (l := 0) (u := 200) rfl (by omega) (by omega)
  refine jt_bV (sp_X8_skipBlanks E d (jd_le hd rfl) (jxu a 2 2 y2) b0 hv1035_) (fun a1036_ b1036_ h1036_ => ?_)
  obtain ⟨hv1036_, hf1036_, rfl, hq1036_0, hq1036_1⟩ := h1036_
  have h1037_ := iv_get hv1036_ (k := 2) (j := 2) (l := 0) (u := 200) rfl
  have h1038_ : (a 2 1 ≤ y2 → a1036_ 2 2 = y2) := hq1036_0
  have hf1039_ : jfr jW_X8_takesWord_r1015 a0 (jxu a 2 2 y2) := jfr_put hf rfl
  have hf1040_ : jfr jW_X8_takesWord_r1015 a0 a1036_ := jfr_tr hf1039_ hf1036_ rfl
  exact jt_rI ⟨hv1036_, hf1040_, rfl, (show (0 ≤ 1 ∧ 1 ≤ 1) from by omega), (show ((¬ a0 2 3 = 0 ∨ a0 2 1 ≤ a0 2 2) → 1 = 0) from by omega), (show (1 = 0 → a1036_ 2 2 = a0 2 2) from by omega), (by first | exact (fun h => absurd h (by decide)) | exact (fun _ => ⟨by omega, htw, by have h := hq1036_1; rw [show (a0 2 2).toNat + wdn 15 = y2.toNat from (by show _ + 4 = _; omega), ← h3, ← h21]; exact h⟩)), (by first | exact (fun h => absurd h (by decide)) | exact (fun _ => Or.inr hnt) | exact (fun _ => Or.inl (by omega)) | exact (fun _ => Or.inr (TW_short (show _ < _ + 4 by omega))) | exact (fun _ => Or.inr (TW_let (q := y2.toNat) (show y2.toNat = (a0 2 2).toNat + 4 by omega) ⟨by omega, h97, by rw [← h3]; omega⟩)))⟩
theorem cp_X8_takesWord_r1015_83 (E : jxE) (d : Nat) (hd : Nat.ble 5 (d + 1) = true) (a0 b0 : Nat → Nat → Int) (hv0 : iv a0) : ∀ (y2 : Int) (a : Nat → Nat → Int), iv a → jfr jW_X8_takesWord_r1015 a0 a → 4 ≤ y2 → y2 ≤ 199 → 5 ≤ a 2 1 → a 2 2 = a0 2 2 → (∀ k : Nat, (k : Int) < (wdn 15 : Int) → (a0 3) ((a0 2 2).toNat + k) = (wdl 15).getD k 0) → (97 ≤ a0 3 y2.toNat) → y2 = (a 2 2) + 4 → y2 ≤ a 2 1 → y2 ≤ 200 → a0 2 3 = 0 → a0 2 2 < a0 2 1 → jt (jxX E d 128 83 [some (.inr (.inr (.inl 2))), none, some (.inl y2), none] [] (jxSH, a, b0)) (jQ_X8_takesWord_r1015 a0 b0) := by
  intro y2 a hv hf hi0 hi1 hi2 hi3 hall h97 hi6 hi7 hi8 hi9 hi10
  refine jt_eq (bq_X8_takesWord_r1015_83 E d y2 a b0) ?_
  have h1041_ := iv_get hv (k := 2) (j := 1) (l := 0) (u := 200) rfl
  have h1042_ : a 2 1 = a0 2 1 := hf 2 1 rfl
  have h1043_ := iv_get hv0 (k := 2) (j := 1) (l := 0) (u := 200) rfl
  have h1044_ := iv_get hv (k := 2) (j := 2) (l := 0) (u := 200) rfl
  have h1045_ := iv_get hv0 (k := 2) (j := 2) (l := 0) (u := 200) rfl
  have h3 : a 3 = a0 3 := funext fun j => hf 3 j rfl
  have h21 := hf 2 1 rfl
  refine jt_grd (by omega) ?_
  have h1046_ := iv_get hv (k := 3) (j := y2.toNat) (l := 0) (u := 255) rfl
  have h1047_ : a 3 (y2.toNat) = a0 3 (y2.toNat) := hf 3 (y2.toNat) rfl
  have h1048_ := iv_get hv0 (k := 3) (j := y2.toNat) (l := 0) (u := 255) rfl
  refine jt_ite (fun c1049_ => ?_) (fun c1049_ => ?_)
  ·
    exact cp_X8_takesWord_r1015_96 E d hd a0 b0 hv0 y2 a hv hf (show 4 ≤ y2 from by omega) (show y2 ≤ 200 from by omega) (show 4 ≤ a 2 1 from by omega) (show a 2 2 = a0 2 2 from by omega) (TW_mk (q := y2.toNat) (show y2.toNat = (a0 2 2).toNat + 4 by omega) (by omega) (by first | exact hall | exact (fun k hk => hch k (by have hw : ((wdn 15 : Nat) : Int) = 4 := rfl; omega))) (LT_no1 (by rw [← h3]; omega))) (show y2 = (a 2 2) + 4 from by omega) (show y2 ≤ a 2 1 from by omega) (show y2 ≤ 200 from by omega) (show a0 2 3 = 0 from by omega) (show a0 2 2 < a0 2 1 from by omega)
  ·
    exact jt_rI ⟨hv, hf, rfl, (show (0 ≤ 0 ∧ 0 ≤ 1) from by omega), (show ((¬ a0 2 3 = 0 ∨ a0 2 1 ≤ a0 2 2) → 0 = 0) from by omega), (show (0 = 0 → a 2 2 = a0 2 2) from by omega), (by first | exact (fun h => absurd h (by decide)) | exact (fun _ => ⟨by omega, htw, by have h := hq0_1; rw [show (a0 2 2).toNat + wdn 15 = y2.toNat from (by show _ + 4 = _; omega), ← h3, ← h21]; exact h⟩)), (by first | exact (fun h => absurd h (by decide)) | exact (fun _ => Or.inr hnt) | exact (fun _ => Or.inl (by omega)) | exact (fun _ => Or.inr (TW_short (show _ < _ + 4 by omega))) | exact (fun _ => Or.inr (TW_let (q := y2.toNat) (show y2.toNat = (a0 2 2).toNat + 4 by omega) ⟨by omega, h97, by rw [← h3]; omega⟩)))⟩
theorem cp_X8_takesWord_r1015_29 (E : jxE) (d : Nat) (hd : Nat.ble 5 (d + 1) = true) (a0 b0 : Nat → Nat → Int) (hv0 : iv a0) : ∀ n : Nat, (∀ (y2 y3 : Int) (a : Nat → Nat → Int), (((4 - y3) * 1) + 0).toNat ≤ n → iv a → jfr jW_X8_takesWord_r1015 a0 a → 4 ≤ y2 → y2 ≤ 200 → 0 ≤ y3 → y3 ≤ 3 → 4 ≤ a 2 1 → y3 < 4 → 0 ≤ y3 → a 2 2 = a0 2 2 → (∀ k : Nat, (k : Int) < y3 + 1 → (a0 3) ((a0 2 2).toNat + k) = (wdl 15).getD k 0) → y2 = (a 2 2) + 4 → y2 ≤ a 2 1 → y2 ≤ 200 → a0 2 3 = 0 → a0 2 2 < a0 2 1 → jt (jxX E d 128 58 [some (.inr (.inr (.inl 2))), some (.inr (.inr (.inl 1015))), some (.inl y2), some (.inl y3)] [] (jxSH, a, b0)) (jQ_X8_takesWord_r1015 a0 b0)) ∧ (∀ (y2 y3 : Int) (a : Nat → Nat → Int), (((4 - y3) * 1) + 0).toNat ≤ n → iv a → jfr jW_X8_takesWord_r1015 a0 a → 4 ≤ y2 → y2 ≤ 200 → 0 ≤ y3 → y3 ≤ 4 → 4 ≤ a 2 1 → 0 ≤ y3 → a 2 2 = a0 2 2 → (∀ k : Nat, (k : Int) < y3 → (a0 3) ((a0 2 2).toNat + k) = (wdl 15).getD k 0) → y2 = (a 2 2) + 4 → y2 ≤ a 2 1 → y2 ≤ 200 → a0 2 3 = 0 → a0 2 2 < a0 2 1 → jt (jxX E d 128 29 [some (.inr (.inr (.inl 2))), some (.inr (.inr (.inl 1015))), some (.inl y2), some (.inl y3)] [] (jxSH, a, b0)) (jQ_X8_takesWord_r1015 a0 b0)) := by
  refine jx_ind fun n ih => ?_
  have ih58 : ∀ (y2 y3 : Int) (a : Nat → Nat → Int), (((4 - y3) * 1) + 0).toNat < n → iv a → jfr jW_X8_takesWord_r1015 a0 a → 4 ≤ y2 → y2 ≤ 200 → 0 ≤ y3 → y3 ≤ 3 → 4 ≤ a 2 1 → y3 < 4 → 0 ≤ y3 → a 2 2 = a0 2 2 → (∀ k : Nat, (k : Int) < y3 + 1 → (a0 3) ((a0 2 2).toNat + k) = (wdl 15).getD k 0) → y2 = (a 2 2) + 4 → y2 ≤ a 2 1 → y2 ≤ 200 → a0 2 3 = 0 → a0 2 2 < a0 2 1 → jt (jxX E d 128 58 [some (.inr (.inr (.inl 2))), some (.inr (.inr (.inl 1015))), some (.inl y2), some (.inl y3)] [] (jxSH, a, b0)) (jQ_X8_takesWord_r1015 a0 b0) := fun y2 y3 a hlt i0 i1 i2 i3 i4 i5 i6 i7 i8 i9 i10 i11 i12 i13 i14 i15 => (ih _ hlt).1 y2 y3 a (Nat.le_refl _) i0 i1 i2 i3 i4 i5 i6 i7 i8 i9 i10 i11 i12 i13 i14 i15
  have ih29 : ∀ (y2 y3 : Int) (a : Nat → Nat → Int), (((4 - y3) * 1) + 0).toNat < n → iv a → jfr jW_X8_takesWord_r1015 a0 a → 4 ≤ y2 → y2 ≤ 200 → 0 ≤ y3 → y3 ≤ 4 → 4 ≤ a 2 1 → 0 ≤ y3 → a 2 2 = a0 2 2 → (∀ k : Nat, (k : Int) < y3 → (a0 3) ((a0 2 2).toNat + k) = (wdl 15).getD k 0) → y2 = (a 2 2) + 4 → y2 ≤ a 2 1 → y2 ≤ 200 → a0 2 3 = 0 → a0 2 2 < a0 2 1 → jt (jxX E d 128 29 [some (.inr (.inr (.inl 2))), some (.inr (.inr (.inl 1015))), some (.inl y2), some (.inl y3)] [] (jxSH, a, b0)) (jQ_X8_takesWord_r1015 a0 b0) := fun y2 y3 a hlt i0 i1 i2 i3 i4 i5 i6 i7 i8 i9 i10 i11 i12 i13 i14 => (ih _ hlt).2 y2 y3 a (Nat.le_refl _) i0 i1 i2 i3 i4 i5 i6 i7 i8 i9 i10 i11 i12 i13 i14
  have hc58 : ∀ (y2 y3 : Int) (a : Nat → Nat → Int), (((4 - y3) * 1) + 0).toNat ≤ n → iv a → jfr jW_X8_takesWord_r1015 a0 a → 4 ≤ y2 → y2 ≤ 200 → 0 ≤ y3 → y3 ≤ 3 → 4 ≤ a 2 1 → y3 < 4 → 0 ≤ y3 → a 2 2 = a0 2 2 → (∀ k : Nat, (k : Int) < y3 + 1 → (a0 3) ((a0 2 2).toNat + k) = (wdl 15).getD k 0) → y2 = (a 2 2) + 4 → y2 ≤ a 2 1 → y2 ≤ 200 → a0 2 3 = 0 → a0 2 2 < a0 2 1 → jt (jxX E d 128 58 [some (.inr (.inr (.inl 2))), some (.inr (.inr (.inl 1015))), some (.inl y2), some (.inl y3)] [] (jxSH, a, b0)) (jQ_X8_takesWord_r1015 a0 b0) := by
    intro y2 y3 a hm hv hf hi0 hi1 hi2 hi3 hi4 hi5 hi6 hi7 hch hi9 hi10 hi11 hi12 hi13
    refine jt_eq (bq_X8_takesWord_r1015_58 E d y2 y3 a b0) ?_
    have h1050_ := iv_get hv (k := 2) (j := 1) (l := 0) (u := 200) rfl
    have h1051_ : a 2 1 = a0 2 1 := hf 2 1 rfl
    have h1052_ := iv_get hv0 (k := 2) (j := 1) (l := 0) (u := 200) rfl
    have h1053_ := iv_get hv (k := 2) (j := 2) (l := 0) (u := 200) rfl
    have h1054_ := iv_get hv0 (k := 2) (j := 2) (l := 0) (u := 200) rfl
    have h3 : a 3 = a0 3 := funext fun j => hf 3 j rfl
    have h21 := hf 2 1 rfl
    have h1055_ : jxw (y3 + 1) = y3 + 1 := jxw_id (by omega) (by omega)
    exact ih29 y2 (jxw (y3 + 1)) a (show (((4 - (jxw (y3 + 1))) * 1) + 0).toNat < n from by omega) hv hf (show 4 ≤ y2 from by omega) (show y2 ≤ 200 from by omega) (show 0 ≤ jxw (y3 + 1) from by omega) (show jxw (y3 + 1) ≤ 4 from by omega) (show 4 ≤ a 2 1 from by omega) (show 0 ≤ jxw (y3 + 1) from by omega) (show a 2 2 = a0 2 2 from by omega) (by first | exact (fun k hk => absurd hk (by omega)) | (rw [show jxw (y3 + 1) = y3 + 1 from by omega]; exact hch)) (show y2 = (a 2 2) + 4 from by omega) (show y2 ≤ a 2 1 from by omega) (show y2 ≤ 200 from by omega) (show a0 2 3 = 0 from by omega) (show a0 2 2 < a0 2 1 from by omega)
  have hc29 : ∀ (y2 y3 : Int) (a : Nat → Nat → Int), (((4 - y3) * 1) + 0).toNat ≤ n → iv a → jfr jW_X8_takesWord_r1015 a0 a → 4 ≤ y2 → y2 ≤ 200 → 0 ≤ y3 → y3 ≤ 4 → 4 ≤ a 2 1 → 0 ≤ y3 → a 2 2 = a0 2 2 → (∀ k : Nat, (k : Int) < y3 → (a0 3) ((a0 2 2).toNat + k) = (wdl 15).getD k 0) → y2 = (a 2 2) + 4 → y2 ≤ a 2 1 → y2 ≤ 200 → a0 2 3 = 0 → a0 2 2 < a0 2 1 → jt (jxX E d 128 29 [some (.inr (.inr (.inl 2))), some (.inr (.inr (.inl 1015))), some (.inl y2), some (.inl y3)] [] (jxSH, a, b0)) (jQ_X8_takesWord_r1015 a0 b0) := by
    intro y2 y3 a hm hv hf hi0 hi1 hi2 hi3 hi4 hi5 hi6 hch hi8 hi9 hi10 hi11 hi12
    refine jt_eq (bq_X8_takesWord_r1015_29 E d y2 y3 a b0) ?_
    have h1056_ := iv_get hv (k := 2) (j := 1) (l := 0) (u := 200) rfl
    have h1057_ : a 2 1 = a0 2 1 := hf 2 1 rfl
    have h1058_ := iv_get hv0 (k := 2) (j := 1) (l := 0) (u := 200) rfl
    have h1059_ := iv_get hv (k := 2) (j := 2) (l := 0) (u := 200) rfl
    have h1060_ := iv_get hv0 (k := 2) (j := 2) (l := 0) (u := 200) rfl
    have h3 : a 3 = a0 3 := funext fun j => hf 3 j rfl
    have h21 := hf 2 1 rfl
    refine jt_eI (eq_J0_length_8abf5_r1015 E d (jd_le hd rfl) a b0) ?_
    have h1061_ := ff_J0_length_8abf5_r1015 a b0
    refine jt_ite (fun c1062_ => ?_) (fun c1062_ => ?_)
    ·
      have h1063_ : jxw ((a 2 2) + y3) = (a 2 2) + y3 := jxw_id (by omega) (by omega)
      refine jt_grd (by omega) ?_
      refine jt_eI (eq_J0_charAt_5068e_r1015 E d (jd_le hd rfl) y3 a b0 (show (0 ≤ y3 ∧ y3 < 4) from by omega)) ?_
      have h1064_ := iv_get hv (k := 3) (j := (jxw ((a 2 2) + y3)).toNat) (l := 0) (u := 255) rfl
      have h1065_ : a 3 ((jxw ((a 2 2) + y3)).toNat) = a0 3 ((jxw ((a 2 2) + y3)).toNat) := hf 3 ((jxw ((a 2 2) + y3)).toNat) rfl
      have h1066_ := iv_get hv0 (k := 3) (j := (jxw ((a 2 2) + y3)).toNat) (l := 0) (u := 255) rfl
      have h1067_ := f_J0_charAt_5068e_r1015_eq a b0 y3
      have h1068_ := f_J0_isLatin1_aae02_r1015_eq a b0
      have h1069_ := f_J1_charAt_3b067_r2015_eq a b0 y3
      have h1070_ := jxand_r (([122, 111, 110, 101] : List Int).getD (y3.toNat) 0) 255 (by decide) (by decide)
      have h1071_ := jxi2c_b (jxand (([122, 111, 110, 101] : List Int).getD (y3.toNat) 0) 255)
      refine jt_ite (fun c1072_ => ?_) (fun c1072_ => ?_)
      ·
        exact hc58 y2 y3 a (show (((4 - y3) * 1) + 0).toNat ≤ n from by omega) hv hf (show 4 ≤ y2 from by omega) (show y2 ≤ 200 from by omega) (show 0 ≤ y3 from by omega) (show y3 ≤ 3 from by omega) (show 4 ≤ a 2 1 from by omega) (show y3 < 4 from by omega) (show 0 ≤ y3 from by omega) (show a 2 2 = a0 2 2 from by omega) (ch_ext hch (by omega) (q := (jxw ((a 2 2) + y3)).toNat) (by omega) (v := f_J0_charAt_5068e_r1015 a b0 y3) (by rw [← h3]; assumption) (cw_1015 a b0 y3 (by omega) (by omega))) (show y2 = (a 2 2) + 4 from by omega) (show y2 ≤ a 2 1 from by omega) (show y2 ≤ 200 from by omega) (show a0 2 3 = 0 from by omega) (show a0 2 2 < a0 2 1 from by omega)
      ·
        exact cp_X8_takesWord_r1015_56 E d hd a0 b0 hv0 a hv hf (show 4 ≤ a 2 1 from by omega) (show a 2 2 = a0 2 2 from by omega) (TW_no (y := y3) (by omega) (show y3 < 4 by omega) (q := (jxw ((a 2 2) + y3)).toNat) (by omega) (v := f_J0_charAt_5068e_r1015 a b0 y3) (cw_1015 a b0 y3 (by omega) (by omega)) (by rw [← h3]; assumption)) (show a0 2 3 = 0 from by omega) (show a0 2 2 < a0 2 1 from by omega)
    ·
      refine jt_ite (fun c1073_ => ?_) (fun c1073_ => ?_)
      ·
        refine jt_grd (by omega) ?_
        have h1074_ := iv_get hv (k := 3) (j := y2.toNat) (l := 0) (u := 255) rfl
        have h1075_ : a 3 (y2.toNat) = a0 3 (y2.toNat) := hf 3 (y2.toNat) rfl
        have h1076_ := iv_get hv0 (k := 3) (j := y2.toNat) (l := 0) (u := 255) rfl
        refine jt_ite (fun c1077_ => ?_) (fun c1077_ => ?_)
        ·
          exact cp_X8_takesWord_r1015_96 E d hd a0 b0 hv0 y2 a hv hf (show 4 ≤ y2 from by omega) (show y2 ≤ 200 from by omega) (show 4 ≤ a 2 1 from by omega) (show a 2 2 = a0 2 2 from by omega) (TW_mk (q := y2.toNat) (show y2.toNat = (a0 2 2).toNat + 4 by omega) (by omega) (by first | exact hall | exact (fun k hk => hch k (by have hw : ((wdn 15 : Nat) : Int) = 4 := rfl; omega))) (LT_no1 (by rw [← h3]; omega))) (show y2 = (a 2 2) + 4 from by omega) (show y2 ≤ a 2 1 from by omega) (show y2 ≤ 200 from by omega) (show a0 2 3 = 0 from by omega) (show a0 2 2 < a0 2 1 from by omega)
        ·
          exact cp_X8_takesWord_r1015_83 E d hd a0 b0 hv0 y2 a hv hf (show 4 ≤ y2 from by omega) (show y2 ≤ 199 from by omega) (show 5 ≤ a 2 1 from by omega) (show a 2 2 = a0 2 2 from by omega) (fun k hk => hch k (by have hw : ((wdn 15 : Nat) : Int) = 4 := rfl; omega)) (by rw [← h3]; omega) (show y2 = (a 2 2) + 4 from by omega) (show y2 ≤ a 2 1 from by omega) (show y2 ≤ 200 from by omega) (show a0 2 3 = 0 from by omega) (show a0 2 2 < a0 2 1 from by omega)
      ·
        exact cp_X8_takesWord_r1015_96 E d hd a0 b0 hv0 y2 a hv hf (show 4 ≤ y2 from by omega) (show y2 ≤ 200 from by omega) (show 4 ≤ a 2 1 from by omega) (show a 2 2 = a0 2 2 from by omega) (TW_mk (q := y2.toNat) (show y2.toNat = (a0 2 2).toNat + 4 by omega) (by omega) (by first | exact hall | exact (fun k hk => hch k (by have hw : ((wdn 15 : Nat) : Int) = 4 := rfl; omega))) (LT_no1 (by rw [← h3]; omega))) (show y2 = (a 2 2) + 4 from by omega) (show y2 ≤ a 2 1 from by omega) (show y2 ≤ 200 from by omega) (show a0 2 3 = 0 from by omega) (show a0 2 2 < a0 2 1 from by omega)
  exact ⟨hc58, hc29⟩
theorem sp_X8_takesWord_r1015 (E : jxE) (d : Nat) (hd : Nat.ble 5 d = true) (a0 b0 : Nat → Nat → Int) (hv0 : iv a0) : jt (jxC E d 128 [.inr (.inr (.inl 2)), .inr (.inr (.inl 1015))] (jxSH, a0, b0)) (jQ_X8_takesWord_r1015 a0 b0) := by
  obtain ⟨d, rfl⟩ := jd_succ hd
  refine jt_eq (bq_X8_takesWord_r1015 E d a0 b0) ?_
  refine jt_eI (eq_J0_length_8abf5_r1015 E d (jd_le hd rfl) a0 b0) ?_
  refine jt_eI (eq_X8_isFaulty E d (jd_le hd rfl) a0 b0) ?_
  have h1078_ := f_X8_isFaulty_eq a0 b0
  refine jt_ite (fun c1079_ => ?_) (fun c1079_ => ?_)
  ·
    have h1080_ := iv_get hv0 (k := 2) (j := 1) (l := 0) (u := 200) rfl
    have h1081_ := iv_get hv0 (k := 2) (j := 2) (l := 0) (u := 200) rfl
    have h1082_ := ff_J0_length_8abf5_r1015 a0 b0
    have h1083_ : jxw ((a0 2 2) + (f_J0_length_8abf5_r1015 a0 b0)) = (a0 2 2) + (f_J0_length_8abf5_r1015 a0 b0) := jxw_id (by omega) (by omega)
    refine jt_ite (fun c1084_ => ?_) (fun c1084_ => ?_)
    ·
      exact jt_rI ⟨hv0, (jfr_rf _ _), rfl, (show (0 ≤ 0 ∧ 0 ≤ 1) from by omega), (show ((¬ a0 2 3 = 0 ∨ a0 2 1 ≤ a0 2 2) → 0 = 0) from by omega), (show (0 = 0 → a0 2 2 = a0 2 2) from by omega), (by first | exact (fun h => absurd h (by decide)) | exact (fun _ => ⟨by omega, htw, by have h := hq0_1; rw [show (a0 2 2).toNat + wdn 15 = y2.toNat from (by show _ + 4 = _; omega), ← h3, ← h21]; exact h⟩)), (by first | exact (fun h => absurd h (by decide)) | exact (fun _ => Or.inr hnt) | exact (fun _ => Or.inl (by omega)) | exact (fun _ => Or.inr (TW_short (show _ < _ + 4 by omega))) | exact (fun _ => Or.inr (TW_let (q := y2.toNat) (show y2.toNat = (a0 2 2).toNat + 4 by omega) ⟨by omega, h97, by rw [← h3]; omega⟩)))⟩
    ·
      exact (cp_X8_takesWord_r1015_29 E d hd a0 b0 hv0 _).2 (jxw ((a0 2 2) + (f_J0_length_8abf5_r1015 a0 b0))) 0 a0 (Nat.le_refl _) hv0 (jfr_rf _ _) (show 4 ≤ jxw ((a0 2 2) + (f_J0_length_8abf5_r1015 a0 b0)) from by omega) (show jxw ((a0 2 2) + (f_J0_length_8abf5_r1015 a0 b0)) ≤ 200 from by omega) (show 0 ≤ 0 from by omega) (show 0 ≤ 4 from by omega) (show 4 ≤ a0 2 1 from by omega) (show 0 ≤ 0 from by omega) (show a0 2 2 = a0 2 2 from by omega) (by first | exact (fun k hk => absurd hk (by omega)) | (rw [show jxw (y3 + 1) = y3 + 1 from by omega]; exact hch)) (show jxw ((a0 2 2) + (f_J0_length_8abf5_r1015 a0 b0)) = (a0 2 2) + 4 from by omega) (show jxw ((a0 2 2) + (f_J0_length_8abf5_r1015 a0 b0)) ≤ a0 2 1 from by omega) (show jxw ((a0 2 2) + (f_J0_length_8abf5_r1015 a0 b0)) ≤ 200 from by omega) (show a0 2 3 = 0 from by omega) (show a0 2 2 < a0 2 1 from by omega)
  ·
    have h1085_ := iv_get hv0 (k := 2) (j := 1) (l := 0) (u := 200) rfl
    have h1086_ := iv_get hv0 (k := 2) (j := 2) (l := 0) (u := 200) rfl
    exact jt_rI ⟨hv0, (jfr_rf _ _), rfl, (show (0 ≤ 0 ∧ 0 ≤ 1) from by omega), (show ((¬ a0 2 3 = 0 ∨ a0 2 1 ≤ a0 2 2) → 0 = 0) from by omega), (show (0 = 0 → a0 2 2 = a0 2 2) from by omega), (by first | exact (fun h => absurd h (by decide)) | exact (fun _ => ⟨by omega, htw, by have h := hq0_1; rw [show (a0 2 2).toNat + wdn 15 = y2.toNat from (by show _ + 4 = _; omega), ← h3, ← h21]; exact h⟩)), (by first | exact (fun h => absurd h (by decide)) | exact (fun _ => Or.inr hnt) | exact (fun _ => Or.inl (by omega)) | exact (fun _ => Or.inr (TW_short (show _ < _ + 4 by omega))) | exact (fun _ => Or.inr (TW_let (q := y2.toNat) (show y2.toNat = (a0 2 2).toNat + 4 by omega) ⟨by omega, h97, by rw [← h3]; omega⟩)))⟩
def jW_X12_see : List (Nat × Nat) := [(146, 23)]
abbrev jQ_X12_see (a0 b0 : Nat → Nat → Int) : List jxV → (Nat → Nat → Int) → (Nat → Nat → Int) → Prop := rI (fun r a b => (iv a) ∧ (jfr jW_X12_see a0 a) ∧ (b0 = b) ∧ (a0 146 23 ≤ a 146 23) ∧ (a 146 23 ≤ a0 146 22) ∧ (((r = 0 - 1 ∧ a 146 23 = a0 146 22) ∨ (((0 ≤ r ∧ r ≤ 255) ∧ a 146 23 < a0 146 22) ∧ ¬ a 164 ((a 146 23).toNat) = 32))) ∧ (((a0 146 23 < a0 146 22 ∧ ¬ a0 164 ((a0 146 23).toNat) = 32) → a 146 23 = a0 146 23)) ∧ (a 146 23 = ((SK (UB (a0 164)) (a0 146 22).toNat (a0 146 23).toNat : Nat) : Int)) ∧ (0 ≤ r → r = UB (a0 164) (a 146 23).toNat))
theorem cp_X12_see_38 (E : jxE) (d : Nat) (hd : Nat.ble 1 (d + 1) = true) (a0 b0 : Nat → Nat → Int) (hv0 : iv a0) (hp0 : a0 146 23 ≤ a0 146 22) : ∀ (a : Nat → Nat → Int), iv a → jfr jW_X12_see a0 a → a 146 23 ≤ a 146 22 → a0 146 23 ≤ a 146 23 → ((a0 146 23 < a0 146 22 ∧ ¬ a0 164 ((a0 146 23).toNat) = 32) → a 146 23 = a0 146 23) → (a 146 23 < a 146 22 → ¬ a 164 ((a 146 23).toNat) = 32) → (SK (UB (a 164)) (a 146 22).toNat (a 146 23).toNat = SK (UB (a0 164)) (a0 146 22).toNat (a0 146 23).toNat) → (¬ ((a 146 23).toNat < (a 146 22).toNat ∧ UB (a 164) (a 146 23).toNat = 32)) → jt (jxX E d 215 38 [some (.inr (.inr (.inl 146)))] [] (jxSH, a, b0)) (jQ_X12_see a0 b0) := by
  intro a hv hf hi0 hi1 hi2 hi3 hk hst
  refine jt_eq (bq_X12_see_38 E d a b0) ?_
  have h1087_ := iv_get hv (k := 146) (j := 23) (l := 0) (u := 200) rfl
  have h1088_ := iv_get hv (k := 146) (j := 22) (l := 0) (u := 200) rfl
  have h1089_ : a 146 22 = a0 146 22 := hf 146 22 rfl
  have h1090_ := iv_get hv0 (k := 146) (j := 22) (l := 0) (u := 200) rfl
  have h1091_ := iv_get hv0 (k := 146) (j := 23) (l := 0) (u := 200) rfl
  have h1092_ := iv_get hv0 (k := 164) (j := (a0 146 23).toNat) (l := (-128)) (u := 127) rfl
  have h1093_ := iv_get hv (k := 164) (j := (a 146 23).toNat) (l := (-128)) (u := 127) rfl
  have h1094_ : a 164 ((a 146 23).toNat) = a0 164 ((a 146 23).toNat) := hf 164 ((a 146 23).toNat) rfl
  have h1095_ := iv_get hv0 (k := 164) (j := (a 146 23).toNat) (l := (-128)) (u := 127) rfl
  have h4 : a 164 = a0 164 := funext fun j => hf 164 j rfl
  have h22 := hf 146 22 rfl
  have hub := UB_sp (g := a 164) (j := (a 146 23).toNat) (iv_get hv (k := 164) (j := (a 146 23).toNat) (l := -128) (u := 127) rfl).1 (iv_get hv (k := 164) (j := (a 146 23).toNat) (l := -128) (u := 127) rfl).2
  refine jt_ite (fun c1096_ => ?_) (fun c1096_ => ?_)
  ·
    refine jt_grd (by omega) ?_
    have h1097_ := jxand_r (a 164 ((a 146 23).toNat)) 255 (by decide) (by decide)
    exact jt_rI ⟨hv, hf, rfl, (show a0 146 23 ≤ a 146 23 from by omega), (show a 146 23 ≤ a0 146 22 from by omega), (show ((jxand (a 164 ((a 146 23).toNat)) 255 = 0 - 1 ∧ a 146 23 = a0 146 22) ∨ (((0 ≤ jxand (a 164 ((a 146 23).toNat)) 255 ∧ jxand (a 164 ((a 146 23).toNat)) 255 ≤ 255) ∧ a 146 23 < a0 146 22) ∧ ¬ a 164 ((a 146 23).toNat) = 32)) from by omega), (show ((a0 146 23 < a0 146 22 ∧ ¬ a0 164 ((a0 146 23).toNat) = 32) → a 146 23 = a0 146 23) from by omega), (by rw [← hk]; by_cases hc : (a 146 23).toNat < (a 146 22).toNat <;> first | (rw [SK_stay (fun h => hst ⟨hc, h⟩)]; omega) | (rw [SK_end (by omega)]; omega)), (by first | (intro h; exact absurd h (by decide)) | (intro _; rw [← h4]; rfl))⟩
  ·
    exact jt_rI ⟨hv, hf, rfl, (show a0 146 23 ≤ a 146 23 from by omega), (show a 146 23 ≤ a0 146 22 from by omega), (show (((-1) = 0 - 1 ∧ a 146 23 = a0 146 22) ∨ (((0 ≤ (-1) ∧ (-1) ≤ 255) ∧ a 146 23 < a0 146 22) ∧ ¬ a 164 ((a 146 23).toNat) = 32)) from by omega), (show ((a0 146 23 < a0 146 22 ∧ ¬ a0 164 ((a0 146 23).toNat) = 32) → a 146 23 = a0 146 23) from by omega), (by rw [← hk]; by_cases hc : (a 146 23).toNat < (a 146 22).toNat <;> first | (rw [SK_stay (fun h => hst ⟨hc, h⟩)]; omega) | (rw [SK_end (by omega)]; omega)), (by first | (intro h; exact absurd h (by decide)) | (intro _; rw [← h4]; rfl))⟩
theorem cp_X12_see_0 (E : jxE) (d : Nat) (hd : Nat.ble 1 (d + 1) = true) (a0 b0 : Nat → Nat → Int) (hv0 : iv a0) (hp0 : a0 146 23 ≤ a0 146 22) : ∀ n : Nat, (∀ (a : Nat → Nat → Int), ((((a 146 22) - (a 146 23)) * 2) + 1).toNat ≤ n → iv a → jfr jW_X12_see a0 a → 1 ≤ a 146 22 → 1 ≤ a 146 23 → a 146 23 ≤ a 146 22 → a0 146 23 ≤ a 146 23 → ((a0 146 23 < a0 146 22 ∧ ¬ a0 164 ((a0 146 23).toNat) = 32) → a 146 23 = a0 146 23) → (SK (UB (a 164)) (a 146 22).toNat (a 146 23).toNat = SK (UB (a0 164)) (a0 146 22).toNat (a0 146 23).toNat) → jt (jxX E d 215 35 [some (.inr (.inr (.inl 146)))] [] (jxSH, a, b0)) (jQ_X12_see a0 b0)) ∧ (∀ (a : Nat → Nat → Int), ((((a 146 22) - (a 146 23)) * 2) + 0).toNat ≤ n → iv a → jfr jW_X12_see a0 a → 1 ≤ a 146 22 → 1 ≤ a 146 23 → a 146 23 ≤ a 146 22 → a0 146 23 ≤ a 146 23 → ((a0 146 23 < a0 146 22 ∧ ¬ a0 164 ((a0 146 23).toNat) = 32) → a 146 23 = a0 146 23) → (SK (UB (a 164)) (a 146 22).toNat (a 146 23).toNat = SK (UB (a0 164)) (a0 146 22).toNat (a0 146 23).toNat) → jt (jxX E d 215 0 [some (.inr (.inr (.inl 146)))] [] (jxSH, a, b0)) (jQ_X12_see a0 b0)) := by
  refine jx_ind fun n ih => ?_
  have ih35 : ∀ (a : Nat → Nat → Int), ((((a 146 22) - (a 146 23)) * 2) + 1).toNat < n → iv a → jfr jW_X12_see a0 a → 1 ≤ a 146 22 → 1 ≤ a 146 23 → a 146 23 ≤ a 146 22 → a0 146 23 ≤ a 146 23 → ((a0 146 23 < a0 146 22 ∧ ¬ a0 164 ((a0 146 23).toNat) = 32) → a 146 23 = a0 146 23) → (SK (UB (a 164)) (a 146 22).toNat (a 146 23).toNat = SK (UB (a0 164)) (a0 146 22).toNat (a0 146 23).toNat) → jt (jxX E d 215 35 [some (.inr (.inr (.inl 146)))] [] (jxSH, a, b0)) (jQ_X12_see a0 b0) := fun a hlt i0 i1 i2 i3 i4 i5 i6 i7 => (ih _ hlt).1 a (Nat.le_refl _) i0 i1 i2 i3 i4 i5 i6 i7
  have ih0 : ∀ (a : Nat → Nat → Int), ((((a 146 22) - (a 146 23)) * 2) + 0).toNat < n → iv a → jfr jW_X12_see a0 a → 1 ≤ a 146 22 → 1 ≤ a 146 23 → a 146 23 ≤ a 146 22 → a0 146 23 ≤ a 146 23 → ((a0 146 23 < a0 146 22 ∧ ¬ a0 164 ((a0 146 23).toNat) = 32) → a 146 23 = a0 146 23) → (SK (UB (a 164)) (a 146 22).toNat (a 146 23).toNat = SK (UB (a0 164)) (a0 146 22).toNat (a0 146 23).toNat) → jt (jxX E d 215 0 [some (.inr (.inr (.inl 146)))] [] (jxSH, a, b0)) (jQ_X12_see a0 b0) := fun a hlt i0 i1 i2 i3 i4 i5 i6 i7 => (ih _ hlt).2 a (Nat.le_refl _) i0 i1 i2 i3 i4 i5 i6 i7
  have hc35 : ∀ (a : Nat → Nat → Int), ((((a 146 22) - (a 146 23)) * 2) + 1).toNat ≤ n → iv a → jfr jW_X12_see a0 a → 1 ≤ a 146 22 → 1 ≤ a 146 23 → a 146 23 ≤ a 146 22 → a0 146 23 ≤ a 146 23 → ((a0 146 23 < a0 146 22 ∧ ¬ a0 164 ((a0 146 23).toNat) = 32) → a 146 23 = a0 146 23) → (SK (UB (a 164)) (a 146 22).toNat (a 146 23).toNat = SK (UB (a0 164)) (a0 146 22).toNat (a0 146 23).toNat) → jt (jxX E d 215 35 [some (.inr (.inr (.inl 146)))] [] (jxSH, a, b0)) (jQ_X12_see a0 b0) := by
    intro a hm hv hf hi0 hi1 hi2 hi3 hi4 hk
    refine jt_eq (bq_X12_see_35 E d a b0) ?_
    have h1098_ := iv_get hv (k := 146) (j := 22) (l := 0) (u := 200) rfl
    have h1099_ : a 146 22 = a0 146 22 := hf 146 22 rfl
    have h1100_ := iv_get hv0 (k := 146) (j := 22) (l := 0) (u := 200) rfl
    have h1101_ := iv_get hv (k := 146) (j := 23) (l := 0) (u := 200) rfl
    have h1102_ := iv_get hv0 (k := 146) (j := 23) (l := 0) (u := 200) rfl
    have h1103_ := iv_get hv0 (k := 164) (j := (a0 146 23).toNat) (l := (-128)) (u := 127) rfl
    exact ih0 a (show ((((a 146 22) - (a 146 23)) * 2) + 0).toNat < n from by omega) hv hf (show 1 ≤ a 146 22 from by omega) (show 1 ≤ a 146 23 from by omega) (show a 146 23 ≤ a 146 22 from by omega) (show a0 146 23 ≤ a 146 23 from by omega) (show ((a0 146 23 < a0 146 22 ∧ ¬ a0 164 ((a0 146 23).toNat) = 32) → a 146 23 = a0 146 23) from by omega) hk
  have hc0 : ∀ (a : Nat → Nat → Int), ((((a 146 22) - (a 146 23)) * 2) + 0).toNat ≤ n → iv a → jfr jW_X12_see a0 a → 1 ≤ a 146 22 → 1 ≤ a 146 23 → a 146 23 ≤ a 146 22 → a0 146 23 ≤ a 146 23 → ((a0 146 23 < a0 146 22 ∧ ¬ a0 164 ((a0 146 23).toNat) = 32) → a 146 23 = a0 146 23) → (SK (UB (a 164)) (a 146 22).toNat (a 146 23).toNat = SK (UB (a0 164)) (a0 146 22).toNat (a0 146 23).toNat) → jt (jxX E d 215 0 [some (.inr (.inr (.inl 146)))] [] (jxSH, a, b0)) (jQ_X12_see a0 b0) := by
    intro a hm hv hf hi0 hi1 hi2 hi3 hi4 hk
    refine jt_eq (bq_X12_see_0 E d a b0) ?_
    have h1104_ := iv_get hv (k := 146) (j := 22) (l := 0) (u := 200) rfl
    have h1105_ : a 146 22 = a0 146 22 := hf 146 22 rfl
    have h1106_ := iv_get hv0 (k := 146) (j := 22) (l := 0) (u := 200) rfl
    have h1107_ := iv_get hv (k := 146) (j := 23) (l := 0) (u := 200) rfl
    have h1108_ := iv_get hv0 (k := 146) (j := 23) (l := 0) (u := 200) rfl
    have h1109_ := iv_get hv0 (k := 164) (j := (a0 146 23).toNat) (l := (-128)) (u := 127) rfl
    have hcg : a 146 23 = a0 146 23 → a 164 ((a 146 23).toNat) = a0 164 ((a0 146 23).toNat) := fun h => by rw [h]; exact hf 164 _ rfl
    have h4 : a 164 = a0 164 := funext fun j => hf 164 j rfl
    have h22 := hf 146 22 rfl
    have hub := UB_sp (g := a 164) (j := (a 146 23).toNat) (iv_get hv (k := 164) (j := (a 146 23).toNat) (l := -128) (u := 127) rfl).1 (iv_get hv (k := 164) (j := (a 146 23).toNat) (l := -128) (u := 127) rfl).2
    refine jt_ite (fun c1110_ => ?_) (fun c1110_ => ?_)
    ·
      refine jt_grd (by omega) ?_
      have h1111_ := iv_get hv (k := 164) (j := (a 146 23).toNat) (l := (-128)) (u := 127) rfl
      have h1112_ : a 164 ((a 146 23).toNat) = a0 164 ((a 146 23).toNat) := hf 164 ((a 146 23).toNat) rfl
      have h1113_ := iv_get hv0 (k := 164) (j := (a 146 23).toNat) (l := (-128)) (u := 127) rfl
      refine jt_ite (fun c1114_ => ?_) (fun c1114_ => ?_)
      ·
        have h1116_ : jxw ((a 146 23) + 1) = (a 146 23) + 1 := jxw_id (by omega) (by omega)
        have hv1115_ : iv (jxu a 146 23 (jxw ((a 146 23) + 1))) := iv_put hv (l := 0) (u := 200) rfl (by omega) (by omega)
        have hf1117_ : jfr jW_X12_see a0 (jxu a 146 23 (jxw ((a 146 23) + 1))) := jfr_put hf rfl
        exact hc35 (jxu a 146 23 (jxw ((a 146 23) + 1))) (show ((((a 146 22) - (jxw ((a 146 23) + 1))) * 2) + 1).toNat ≤ n from by omega) hv1115_ hf1117_ (show 1 ≤ a 146 22 from by omega) (show 1 ≤ jxw ((a 146 23) + 1) from by omega) (show jxw ((a 146 23) + 1) ≤ a 146 22 from by omega) (show a0 146 23 ≤ jxw ((a 146 23) + 1) from by omega) (show ((a0 146 23 < a0 146 22 ∧ ¬ a0 164 ((a0 146 23).toNat) = 32) → jxw ((a 146 23) + 1) = a0 146 23) from by omega) (by have e : (jxw ((a 146 23) + 1)).toNat = (a 146 23).toNat + 1 := (by omega); show SK (UB (a 164)) (a 146 22).toNat (jxw ((a 146 23) + 1)).toNat = _; rw [e, ← SK_step (by omega) (by omega)]; exact hk)
      ·
        exact cp_X12_see_38 E d hd a0 b0 hv0 hp0 a hv hf (show a 146 23 ≤ a 146 22 from by omega) (show a0 146 23 ≤ a 146 23 from by omega) (show ((a0 146 23 < a0 146 22 ∧ ¬ a0 164 ((a0 146 23).toNat) = 32) → a 146 23 = a0 146 23) from by omega) (show (a 146 23 < a 146 22 → ¬ a 164 ((a 146 23).toNat) = 32) from by omega) hk (by omega)
    ·
      have h1118_ := iv_get hv (k := 164) (j := (a 146 23).toNat) (l := (-128)) (u := 127) rfl
      have h1119_ : a 164 ((a 146 23).toNat) = a0 164 ((a 146 23).toNat) := hf 164 ((a 146 23).toNat) rfl
      have h1120_ := iv_get hv0 (k := 164) (j := (a 146 23).toNat) (l := (-128)) (u := 127) rfl
      exact cp_X12_see_38 E d hd a0 b0 hv0 hp0 a hv hf (show a 146 23 ≤ a 146 22 from by omega) (show a0 146 23 ≤ a 146 23 from by omega) (show ((a0 146 23 < a0 146 22 ∧ ¬ a0 164 ((a0 146 23).toNat) = 32) → a 146 23 = a0 146 23) from by omega) (show (a 146 23 < a 146 22 → ¬ a 164 ((a 146 23).toNat) = 32) from by omega) hk (by omega)
  exact ⟨hc35, hc0⟩
theorem sp_X12_see (E : jxE) (d : Nat) (hd : Nat.ble 1 d = true) (a0 b0 : Nat → Nat → Int) (hv0 : iv a0) (hp0 : a0 146 23 ≤ a0 146 22) : jt (jxC E d 215 [.inr (.inr (.inl 146))] (jxSH, a0, b0)) (jQ_X12_see a0 b0) := by
  obtain ⟨d, rfl⟩ := jd_succ hd
  refine jt_eq (bq_X12_see E d a0 b0) ?_
  have h1121_ := iv_get hv0 (k := 146) (j := 23) (l := 0) (u := 200) rfl
  have h1122_ := iv_get hv0 (k := 146) (j := 22) (l := 0) (u := 200) rfl
  have hub := UB_sp (g := a0 164) (j := (a0 146 23).toNat) (iv_get hv0 (k := 164) (j := (a0 146 23).toNat) (l := -128) (u := 127) rfl).1 (iv_get hv0 (k := 164) (j := (a0 146 23).toNat) (l := -128) (u := 127) rfl).2
  refine jt_ite (fun c1123_ => ?_) (fun c1123_ => ?_)
  ·
    refine jt_grd (by omega) ?_
    have h1124_ := iv_get hv0 (k := 164) (j := (a0 146 23).toNat) (l := (-128)) (u := 127) rfl
    refine jt_ite (fun c1125_ => ?_) (fun c1125_ => ?_)
    ·
      have h1127_ : jxw ((a0 146 23) + 1) = (a0 146 23) + 1 := jxw_id (by omega) (by omega)
      have hv1126_ : iv (jxu a0 146 23 (jxw ((a0 146 23) + 1))) := iv_put hv0 (l := 0) (u := 200) rfl (by omega) (by omega)
      have hf1128_ : jfr jW_X12_see a0 (jxu a0 146 23 (jxw ((a0 146 23) + 1))) := jfr_put (jfr_rf _ _) rfl
      exact (cp_X12_see_0 E d hd a0 b0 hv0 hp0 _).1 (jxu a0 146 23 (jxw ((a0 146 23) + 1))) (Nat.le_refl _) hv1126_ hf1128_ (show 1 ≤ a0 146 22 from by omega) (show 1 ≤ jxw ((a0 146 23) + 1) from by omega) (show jxw ((a0 146 23) + 1) ≤ a0 146 22 from by omega) (show a0 146 23 ≤ jxw ((a0 146 23) + 1) from by omega) (show ((a0 146 23 < a0 146 22 ∧ ¬ a0 164 ((a0 146 23).toNat) = 32) → jxw ((a0 146 23) + 1) = a0 146 23) from by omega) (by have e : (jxw ((a0 146 23) + 1)).toNat = (a0 146 23).toNat + 1 := (by omega); show SK (UB (a0 164)) (a0 146 22).toNat (jxw ((a0 146 23) + 1)).toNat = _; rw [e, ← SK_step (by omega) (by omega)])
    ·
      exact cp_X12_see_38 E d hd a0 b0 hv0 hp0 a0 hv0 (jfr_rf _ _) (show a0 146 23 ≤ a0 146 22 from by omega) (show a0 146 23 ≤ a0 146 23 from by omega) (show ((a0 146 23 < a0 146 22 ∧ ¬ a0 164 ((a0 146 23).toNat) = 32) → a0 146 23 = a0 146 23) from by omega) (show (a0 146 23 < a0 146 22 → ¬ a0 164 ((a0 146 23).toNat) = 32) from by omega) rfl (by omega)
  ·
    have h1129_ := iv_get hv0 (k := 164) (j := (a0 146 23).toNat) (l := (-128)) (u := 127) rfl
    exact cp_X12_see_38 E d hd a0 b0 hv0 hp0 a0 hv0 (jfr_rf _ _) (show a0 146 23 ≤ a0 146 22 from by omega) (show a0 146 23 ≤ a0 146 23 from by omega) (show ((a0 146 23 < a0 146 22 ∧ ¬ a0 164 ((a0 146 23).toNat) = 32) → a0 146 23 = a0 146 23) from by omega) (show (a0 146 23 < a0 146 22 → ¬ a0 164 ((a0 146 23).toNat) = 32) from by omega) rfl (by omega)
def jW_X12_fails : List (Nat × Nat) := [(146, 24)]
abbrev jQ_X12_fails (x1 x2 : Int) (a0 b0 : Nat → Nat → Int) : List jxV → (Nat → Nat → Int) → (Nat → Nat → Int) → Prop := rI (fun r a b => (iv a) ∧ (jfr jW_X12_fails a0 a) ∧ (b0 = b) ∧ ((0 ≤ r ∧ r ≤ 1)) ∧ (r = 0) ∧ ((((((a0 146 24 = 0 ∧ 0 ≤ x2) ∧ x2 ≤ 200) ∧ 0 ≤ x1) ∧ x1 ≤ 7) → a 146 24 = (1 + (8 * x2)) + x1)) ∧ ((¬ a0 146 24 = 0 → a 146 24 = a0 146 24)))
theorem sp_X12_fails (E : jxE) (d : Nat) (hd : Nat.ble 1 d = true) (x1 x2 : Int) (a0 b0 : Nat → Nat → Int) (hv0 : iv a0) : jt (jxC E d 214 [.inr (.inr (.inl 146)), .inl x1, .inl x2] (jxSH, a0, b0)) (jQ_X12_fails x1 x2 a0 b0) := by
  obtain ⟨d, rfl⟩ := jd_succ hd
  refine jt_eq (bq_X12_fails E d x1 x2 a0 b0) ?_
  refine jt_ite (fun c1130_ => ?_) (fun c1130_ => ?_)
  ·
    have hv1131_ : iv (jxu a0 146 24 (jxw ((jxw (1 + (jxw (8 * x2)))) + x1))) := iv_putf hv0 rfl
    have hf1132_ : jfr jW_X12_fails a0 (jxu a0 146 24 (jxw ((jxw (1 + (jxw (8 * x2)))) + x1))) := jfr_put (jfr_rf _ _) rfl
    have h1133_ := jxw_im (8 * x2)
    have h1134_ := jxw_rg (8 * x2)
    have h1135_ := jxw_im (1 + (jxw (8 * x2)))
    have h1136_ := jxw_rg (1 + (jxw (8 * x2)))
    have h1137_ := jxw_im ((jxw (1 + (jxw (8 * x2)))) + x1)
    have h1138_ := jxw_rg ((jxw (1 + (jxw (8 * x2)))) + x1)
    exact jt_rI ⟨hv1131_, hf1132_, rfl, (show (0 ≤ 0 ∧ 0 ≤ 1) from by omega), (show 0 = 0 from by omega), (show (((((a0 146 24 = 0 ∧ 0 ≤ x2) ∧ x2 ≤ 200) ∧ 0 ≤ x1) ∧ x1 ≤ 7) → jxw ((jxw (1 + (jxw (8 * x2)))) + x1) = (1 + (8 * x2)) + x1) from by omega), (show (¬ a0 146 24 = 0 → jxw ((jxw (1 + (jxw (8 * x2)))) + x1) = a0 146 24) from by omega)⟩
  ·
    exact jt_rI ⟨hv0, (jfr_rf _ _), rfl, (show (0 ≤ 0 ∧ 0 ≤ 1) from by omega), (show 0 = 0 from by omega), (show (((((a0 146 24 = 0 ∧ 0 ≤ x2) ∧ x2 ≤ 200) ∧ 0 ≤ x1) ∧ x1 ≤ 7) → a0 146 24 = (1 + (8 * x2)) + x1) from by omega), (show (¬ a0 146 24 = 0 → a0 146 24 = a0 146 24) from by omega)⟩
def jW_X12_number : List (Nat × Nat) := [(146, 23), (146, 24), (146, 26), (146, 27)]
abbrev jQ_X12_number (x1 x2 : Int) (a0 b0 : Nat → Nat → Int) : List jxV → (Nat → Nat → Int) → (Nat → Nat → Int) → Prop := rI (fun r a b => (iv a) ∧ (jfr jW_X12_number a0 a) ∧ (b0 = b) ∧ ((0 ≤ r ∧ r ≤ 1)) ∧ (a0 146 23 ≤ a 146 23) ∧ (a 146 23 ≤ a0 146 22) ∧ ((r = 1 → (x1 ≤ a 146 26 ∧ a 146 26 ≤ x2))) ∧ (r = 1 → NF (UB (a0 164)) (a0 146 22).toNat (SK (UB (a0 164)) (a0 146 22).toNat (a0 146 23).toNat) x1 x2 = 0 ∧ a 146 26 = NV (UB (a0 164)) (a0 146 22).toNat (SK (UB (a0 164)) (a0 146 22).toNat (a0 146 23).toNat) ∧ a 146 23 = (DE (UB (a0 164)) (a0 146 22).toNat (SK (UB (a0 164)) (a0 146 22).toNat (a0 146 23).toNat) : Int) ∧ a 146 24 = a0 146 24) ∧ (r = 0 → ¬ NF (UB (a0 164)) (a0 146 22).toNat (SK (UB (a0 164)) (a0 146 22).toNat (a0 146 23).toNat) x1 x2 = 0 ∧ a 146 24 = (if a0 146 24 = 0 then NF (UB (a0 164)) (a0 146 22).toNat (SK (UB (a0 164)) (a0 146 22).toNat (a0 146 23).toNat) x1 x2 else a0 146 24)))
theorem cp_X12_number_144 (E : jxE) (d : Nat) (hd : Nat.ble 2 (d + 1) = true) (x1 x2 : Int) (a0 b0 : Nat → Nat → Int) (hv0 : iv a0) (hp0 : a0 146 23 ≤ a0 146 22) : ∀ (a : Nat → Nat → Int), iv a → jfr jW_X12_number a0 a → a 146 23 ≤ a 146 22 → a0 146 23 ≤ a 146 23 → a 146 24 = a0 146 24 → (DG (UB (a0 164)) (a0 146 22).toNat (SK (UB (a0 164)) (a0 146 22).toNat (a0 146 23).toNat)) → (a 146 27 = ((SK (UB (a0 164)) (a0 146 22).toNat (a0 146 23).toNat) : Int)) → (NF (UB (a0 164)) (a0 146 22).toNat (SK (UB (a0 164)) (a0 146 22).toNat (a0 146 23).toNat) x1 x2 = 2 + 8 * ((SK (UB (a0 164)) (a0 146 22).toNat (a0 146 23).toNat) : Int)) → jt (jxX E d 217 144 [some (.inr (.inr (.inl 146))), none, none, none, none, none] [] (jxSH, a, b0)) (jQ_X12_number x1 x2 a0 b0) := by
  intro a hv hf hi0 hi1 hi2 hd0 hq hnf
  refine jt_eq (bq_X12_number_144 E d a b0) ?_
  have h1139_ := iv_get hv (k := 146) (j := 23) (l := 0) (u := 200) rfl
  have h1140_ := iv_get hv (k := 146) (j := 22) (l := 0) (u := 200) rfl
  have h1141_ : a 146 22 = a0 146 22 := hf 146 22 rfl
  have h1142_ := iv_get hv0 (k := 146) (j := 22) (l := 0) (u := 200) rfl
  have h1143_ := iv_get hv0 (k := 146) (j := 23) (l := 0) (u := 200) rfl
  have h4 : a 164 = a0 164 := funext fun j => hf 164 j rfl
  have h22 := hf 146 22 rfl
  have hub := UB_sp (g := a 164) (j := (a 146 23).toNat) (iv_get hv (k := 164) (j := (a 146 23).toNat) (l := -128) (u := 127) rfl).1 (iv_get hv (k := 164) (j := (a 146 23).toNat) (l := -128) (u := 127) rfl).2
  refine jt_bI (sp_X12_fails E d (jd_le hd rfl) 1 (a 146 27) a b0 hv) (fun r1144_ a1144_ b1144_ h1144_ => ?_)
  obtain ⟨hv1144_, hf1144_, rfl, hq1144_0, hq1144_1, hq1144_2, hq1144_3⟩ := h1144_
  have h23_1144 := hf1144_ 146 23 rfl
  refine jt_ite (fun c1145_ => ?_) (fun c1145_ => ?_)
  ·
    have hf1146_ : jfr jW_X12_number a0 a1144_ := jfr_tr hf hf1144_ rfl
    have h1147_ := iv_get hv1144_ (k := 146) (j := 23) (l := 0) (u := 200) rfl
    have h1148_ : a1144_ 146 23 = a 146 23 := hf1144_ 146 23 rfl
    have h1149_ := iv_get hv1144_ (k := 146) (j := 26) (l := 0) (u := 999) rfl
    have h1150_ : a1144_ 146 26 = a 146 26 := hf1144_ 146 26 rfl
    have h1151_ := iv_get hv (k := 146) (j := 26) (l := 0) (u := 999) rfl
    exact jt_rI ⟨hv1144_, hf1146_, rfl, (show (0 ≤ 0 ∧ 0 ≤ 1) from by omega), (show a0 146 23 ≤ a1144_ 146 23 from by omega), (show a1144_ 146 23 ≤ a0 146 22 from by omega), (show (0 = 1 → (x1 ≤ a1144_ 146 26 ∧ a1144_ 146 26 ≤ x2)) from by omega), (by first | exact (fun h => absurd h (by omega)) | exact (fun _ => ⟨by have hz := (DE_sp (UB (a0 164)) (a0 146 22).toNat (SK (UB (a0 164)) (a0 146 22).toNat (a0 146 23).toNat)).2.2.1; unfold NF; rw [if_neg (fun h => hz (by rw [h]; exact hd0)), if_neg (by rw [hde, ← hnv]; omega)], hnv, by rw [hde]; show a 146 23 = _; omega, by show a 146 24 = _; omega⟩)), (by first | exact (fun h => absurd h (by decide)) | exact (fun _ => ⟨by rw [hnf]; omega, by rw [hnf]; split <;> omega⟩) | (intro _; have e := hq0_4; have hnd : ¬ DG (UB (a0 164)) (a0 146 22).toNat (SK (UB (a0 164)) (a0 146 22).toNat (a0 146 23).toNat) := (fun hd => by have e2 : (a0_ 146 23).toNat = _ := congrArg Int.toNat e; rw [Int.toNat_natCast] at e2; obtain ⟨q1, q2, q3⟩ := hd; have h5 := hq0_5; rw [e2] at h5; omega); rw [NF_none hnd]; exact ⟨by omega, by split <;> omega⟩))⟩
  ·
    have hf1152_ : jfr jW_X12_number a0 a1144_ := jfr_tr hf hf1144_ rfl
    have h1153_ := iv_get hv1144_ (k := 146) (j := 23) (l := 0) (u := 200) rfl
    have h1154_ : a1144_ 146 23 = a 146 23 := hf1144_ 146 23 rfl
    have h1155_ := iv_get hv1144_ (k := 146) (j := 26) (l := 0) (u := 999) rfl
    have h1156_ : a1144_ 146 26 = a 146 26 := hf1144_ 146 26 rfl
    have h1157_ := iv_get hv (k := 146) (j := 26) (l := 0) (u := 999) rfl
    exact jt_rI ⟨hv1144_, hf1152_, rfl, (show (0 ≤ 1 ∧ 1 ≤ 1) from by omega), (show a0 146 23 ≤ a1144_ 146 23 from by omega), (show a1144_ 146 23 ≤ a0 146 22 from by omega), (show (1 = 1 → (x1 ≤ a1144_ 146 26 ∧ a1144_ 146 26 ≤ x2)) from by omega), (by first | exact (fun h => absurd h (by omega)) | exact (fun _ => ⟨by have hz := (DE_sp (UB (a0 164)) (a0 146 22).toNat (SK (UB (a0 164)) (a0 146 22).toNat (a0 146 23).toNat)).2.2.1; unfold NF; rw [if_neg (fun h => hz (by rw [h]; exact hd0)), if_neg (by rw [hde, ← hnv]; omega)], hnv, by rw [hde]; show a 146 23 = _; omega, by show a 146 24 = _; omega⟩)), (by first | exact (fun h => absurd h (by decide)) | exact (fun _ => ⟨by rw [hnf]; omega, by rw [hnf]; split <;> omega⟩) | (intro _; have e := hq0_4; have hnd : ¬ DG (UB (a0 164)) (a0 146 22).toNat (SK (UB (a0 164)) (a0 146 22).toNat (a0 146 23).toNat) := (fun hd => by have e2 : (a0_ 146 23).toNat = _ := congrArg Int.toNat e; rw [Int.toNat_natCast] at e2; obtain ⟨q1, q2, q3⟩ := hd; have h5 := hq0_5; rw [e2] at h5; omega); rw [NF_none hnd]; exact ⟨by omega, by split <;> omega⟩))⟩
theorem cp_X12_number_122 (E : jxE) (d : Nat) (hd : Nat.ble 2 (d + 1) = true) (x1 x2 : Int) (a0 b0 : Nat → Nat → Int) (hv0 : iv a0) (hp0 : a0 146 23 ≤ a0 146 22) : ∀ (y1 y2 y4 y5 : Int) (a : Nat → Nat → Int), iv a → jfr jW_X12_number a0 a → a 146 23 ≤ a 146 22 → a0 146 23 ≤ a 146 23 → y1 = x1 → y2 = x2 → 0 ≤ y5 → y5 ≤ 999 → a 146 24 = a0 146 24 → (DG (UB (a0 164)) (a0 146 22).toNat (SK (UB (a0 164)) (a0 146 22).toNat (a0 146 23).toNat)) → (a 146 27 = ((SK (UB (a0 164)) (a0 146 22).toNat (a0 146 23).toNat) : Int)) → (y4 + ((SK (UB (a0 164)) (a0 146 22).toNat (a0 146 23).toNat) : Int) = a 146 23) → (DE (UB (a0 164)) (a0 146 22).toNat (SK (UB (a0 164)) (a0 146 22).toNat (a0 146 23).toNat) = (a 146 23).toNat) → (y5 = NV (UB (a0 164)) (a0 146 22).toNat (SK (UB (a0 164)) (a0 146 22).toNat (a0 146 23).toNat)) → jt (jxX E d 217 122 [some (.inr (.inr (.inl 146))), some (.inl y1), some (.inl y2), none, some (.inl y4), some (.inl y5)] [] (jxSH, a, b0)) (jQ_X12_number x1 x2 a0 b0) := by
  intro y1 y2 y4 y5 a hv hf hi0 hi1 hi2 hi3 hi4 hi5 hi6 hd0 hq hm4 hde hnv
  refine jt_eq (bq_X12_number_122 E d y1 y2 y4 y5 a b0) ?_
  have h1158_ := iv_get hv (k := 146) (j := 23) (l := 0) (u := 200) rfl
  have h1159_ := iv_get hv (k := 146) (j := 22) (l := 0) (u := 200) rfl
  have h1160_ : a 146 22 = a0 146 22 := hf 146 22 rfl
  have h1161_ := iv_get hv0 (k := 146) (j := 22) (l := 0) (u := 200) rfl
  have h1162_ := iv_get hv0 (k := 146) (j := 23) (l := 0) (u := 200) rfl
  have h4 : a 164 = a0 164 := funext fun j => hf 164 j rfl
  have h22 := hf 146 22 rfl
  have hub := UB_sp (g := a 164) (j := (a 146 23).toNat) (iv_get hv (k := 164) (j := (a 146 23).toNat) (l := -128) (u := 127) rfl).1 (iv_get hv (k := 164) (j := (a 146 23).toNat) (l := -128) (u := 127) rfl).2
  refine jt_ite (fun c1163_ => ?_) (fun c1163_ => ?_)
  ·
    have hv1164_ : iv (jxu a 146 26 y5) := iv_put hv (l := 0) (u := 999) rfl (by omega) (by omega)
    have hf1165_ : jfr jW_X12_number a0 (jxu a 146 26 y5) := jfr_put hf rfl
    exact cp_X12_number_144 E d hd x1 x2 a0 b0 hv0 hp0 (jxu a 146 26 y5) hv1164_ hf1165_ (show a 146 23 ≤ a 146 22 from by omega) (show a0 146 23 ≤ a 146 23 from by omega) (show a 146 24 = a0 146 24 from by omega) (by first | exact hd0 | (have e := hq0_4; have h5 := hq0_5 (by omega); have e2 : (a0_ 146 23).toNat = _ := congrArg Int.toNat e; rw [Int.toNat_natCast] at e2; rw [e2] at h5; exact ⟨by omega, by omega, by omega⟩)) hq (by have hz := (DE_sp (UB (a0 164)) (a0 146 22).toNat (SK (UB (a0 164)) (a0 146 22).toNat (a0 146 23).toNat)).2.2.1; unfold NF; rw [if_neg (fun h => hz (by rw [h]; exact hd0)), if_pos (by rw [hde, ← hnv]; omega)])
  ·
    refine jt_eI (eq_X12_in E d (jd_le hd rfl) y5 y1 y2 (jxu a 146 26 y5) b0) ?_
    have h1166_ : f_X12_in (jxu a 146 26 y5) b0 y5 y1 y2 = (if y5 < y1 then 0 else (if y2 < y5 then 0 else 1)) := f_X12_in_eq (jxu a 146 26 y5) b0 y5 y1 y2
    refine jt_ite (fun c1167_ => ?_) (fun c1167_ => ?_)
    ·
      have hv1168_ : iv (jxu a 146 26 y5) := iv_put hv (l := 0) (u := 999) rfl (by omega) (by omega)
      have hf1169_ : jfr jW_X12_number a0 (jxu a 146 26 y5) := jfr_put hf rfl
      exact cp_X12_number_144 E d hd x1 x2 a0 b0 hv0 hp0 (jxu a 146 26 y5) hv1168_ hf1169_ (show a 146 23 ≤ a 146 22 from by omega) (show a0 146 23 ≤ a 146 23 from by omega) (show a 146 24 = a0 146 24 from by omega) (by first | exact hd0 | (have e := hq0_4; have h5 := hq0_5 (by omega); have e2 : (a0_ 146 23).toNat = _ := congrArg Int.toNat e; rw [Int.toNat_natCast] at e2; rw [e2] at h5; exact ⟨by omega, by omega, by omega⟩)) hq (by have hz := (DE_sp (UB (a0 164)) (a0 146 22).toNat (SK (UB (a0 164)) (a0 146 22).toNat (a0 146 23).toNat)).2.2.1; unfold NF; rw [if_neg (fun h => hz (by rw [h]; exact hd0)), if_pos (by rw [hde, ← hnv]; omega)])
    ·
      have hv1170_ : iv (jxu a 146 26 y5) := iv_put hv (l := 0) (u := 999) rfl (by omega) (by omega)
      have hf1171_ : jfr jW_X12_number a0 (jxu a 146 26 y5) := jfr_put hf rfl
      exact jt_rI ⟨hv1170_, hf1171_, rfl, (show (0 ≤ 1 ∧ 1 ≤ 1) from by omega), (show a0 146 23 ≤ a 146 23 from by omega), (show a 146 23 ≤ a0 146 22 from by omega), (show (1 = 1 → (x1 ≤ y5 ∧ y5 ≤ x2)) from by omega), (by first | exact (fun h => absurd h (by omega)) | exact (fun _ => ⟨by have hz := (DE_sp (UB (a0 164)) (a0 146 22).toNat (SK (UB (a0 164)) (a0 146 22).toNat (a0 146 23).toNat)).2.2.1; unfold NF; rw [if_neg (fun h => hz (by rw [h]; exact hd0)), if_neg (by rw [hde, ← hnv]; omega)], hnv, by rw [hde]; show a 146 23 = _; omega, by show a 146 24 = _; omega⟩)), (by first | exact (fun h => absurd h (by decide)) | exact (fun _ => ⟨by rw [hnf]; omega, by rw [hnf]; split <;> omega⟩) | (intro _; have e := hq0_4; have hnd : ¬ DG (UB (a0 164)) (a0 146 22).toNat (SK (UB (a0 164)) (a0 146 22).toNat (a0 146 23).toNat) := (fun hd => by have e2 : (a0_ 146 23).toNat = _ := congrArg Int.toNat e; rw [Int.toNat_natCast] at e2; obtain ⟨q1, q2, q3⟩ := hd; have h5 := hq0_5; rw [e2] at h5; omega); rw [NF_none hnd]; exact ⟨by omega, by split <;> omega⟩))⟩
theorem cp_X12_number_41 (E : jxE) (d : Nat) (hd : Nat.ble 2 (d + 1) = true) (x1 x2 : Int) (a0 b0 : Nat → Nat → Int) (hv0 : iv a0) (hp0 : a0 146 23 ≤ a0 146 22) : ∀ n : Nat, (∀ (y1 y2 y4 y5 : Int) (a : Nat → Nat → Int), ((((a 146 22) - (a 146 23)) * 1) + 0).toNat ≤ n → iv a → jfr jW_X12_number a0 a → 1 ≤ a 146 22 → a 146 23 ≤ 199 → a 146 23 ≤ a 146 22 → a0 146 23 ≤ a 146 23 → y1 = x1 → y2 = x2 → 0 ≤ y4 → y4 ≤ a 146 23 → 0 ≤ y5 → y5 ≤ 999 → (y4 ≤ 1 → y5 ≤ 99) → (y4 ≤ 0 → y5 ≤ 9) → a 146 23 < a 146 22 → a 146 24 = a0 146 24 → (DG (UB (a0 164)) (a0 146 22).toNat (SK (UB (a0 164)) (a0 146 22).toNat (a0 146 23).toNat)) → (a 146 27 = ((SK (UB (a0 164)) (a0 146 22).toNat (a0 146 23).toNat) : Int)) → (y4 + ((SK (UB (a0 164)) (a0 146 22).toNat (a0 146 23).toNat) : Int) = a 146 23) → (∀ j : Nat, (SK (UB (a0 164)) (a0 146 22).toNat (a0 146 23).toNat) ≤ j → (j : Int) < a 146 23 → DG (UB (a0 164)) (a0 146 22).toNat j) → (DG (UB (a0 164)) (a0 146 22).toNat (a 146 23).toNat) → (y5 = DV (UB (a0 164)) (SK (UB (a0 164)) (a0 146 22).toNat (a0 146 23).toNat) (y4.toNat + 1)) → jt (jxX E d 217 106 [some (.inr (.inr (.inl 146))), some (.inl y1), some (.inl y2), none, some (.inl y4), some (.inl y5)] [] (jxSH, a, b0)) (jQ_X12_number x1 x2 a0 b0)) ∧ (∀ (y1 y2 y4 y5 : Int) (a : Nat → Nat → Int), ((((a 146 22) - (a 146 23)) * 1) + 0).toNat ≤ n → iv a → jfr jW_X12_number a0 a → 1 ≤ a 146 22 → a 146 23 ≤ 199 → a 146 23 ≤ a 146 22 → a0 146 23 ≤ a 146 23 → y1 = x1 → y2 = x2 → 0 ≤ y4 → y4 ≤ a 146 23 → 0 ≤ y5 → y5 ≤ 999 → (y4 ≤ 2 → y5 ≤ 99) → (y4 ≤ 1 → y5 ≤ 9) → (y4 ≤ 0 → y5 ≤ 0) → a 146 23 < a 146 22 → 48 ≤ a 164 ((a 146 23).toNat) → a 164 ((a 146 23).toNat) ≤ 57 → a 146 24 = a0 146 24 → (DG (UB (a0 164)) (a0 146 22).toNat (SK (UB (a0 164)) (a0 146 22).toNat (a0 146 23).toNat)) → (a 146 27 = ((SK (UB (a0 164)) (a0 146 22).toNat (a0 146 23).toNat) : Int)) → (y4 + ((SK (UB (a0 164)) (a0 146 22).toNat (a0 146 23).toNat) : Int) = a 146 23) → (∀ j : Nat, (SK (UB (a0 164)) (a0 146 22).toNat (a0 146 23).toNat) ≤ j → (j : Int) < a 146 23 → DG (UB (a0 164)) (a0 146 22).toNat j) → (y5 = DV (UB (a0 164)) (SK (UB (a0 164)) (a0 146 22).toNat (a0 146 23).toNat) y4.toNat) → (DG (UB (a0 164)) (a0 146 22).toNat (a 146 23).toNat) → jt (jxX E d 217 80 [some (.inr (.inr (.inl 146))), some (.inl y1), some (.inl y2), none, some (.inl y4), some (.inl y5)] [] (jxSH, a, b0)) (jQ_X12_number x1 x2 a0 b0)) ∧ (∀ (y1 y2 y4 y5 : Int) (a : Nat → Nat → Int), ((((a 146 22) - (a 146 23)) * 1) + 0).toNat ≤ n → iv a → jfr jW_X12_number a0 a → a 146 23 ≤ a 146 22 → a0 146 23 ≤ a 146 23 → y1 = x1 → y2 = x2 → 0 ≤ y4 → y4 ≤ a 146 23 → 0 ≤ y5 → y5 ≤ 999 → (y4 ≤ 2 → y5 ≤ 99) → (y4 ≤ 1 → y5 ≤ 9) → (y4 ≤ 0 → y5 ≤ 0) → a 146 24 = a0 146 24 → (DG (UB (a0 164)) (a0 146 22).toNat (SK (UB (a0 164)) (a0 146 22).toNat (a0 146 23).toNat)) → (a 146 27 = ((SK (UB (a0 164)) (a0 146 22).toNat (a0 146 23).toNat) : Int)) → (y4 + ((SK (UB (a0 164)) (a0 146 22).toNat (a0 146 23).toNat) : Int) = a 146 23) → (∀ j : Nat, (SK (UB (a0 164)) (a0 146 22).toNat (a0 146 23).toNat) ≤ j → (j : Int) < a 146 23 → DG (UB (a0 164)) (a0 146 22).toNat j) → (y5 = DV (UB (a0 164)) (SK (UB (a0 164)) (a0 146 22).toNat (a0 146 23).toNat) y4.toNat) → jt (jxX E d 217 41 [some (.inr (.inr (.inl 146))), some (.inl y1), some (.inl y2), none, some (.inl y4), some (.inl y5)] [] (jxSH, a, b0)) (jQ_X12_number x1 x2 a0 b0)) := by
  refine jx_ind fun n ih => ?_
  have ih106 : ∀ (y1 y2 y4 y5 : Int) (a : Nat → Nat → Int), ((((a 146 22) - (a 146 23)) * 1) + 0).toNat < n → iv a → jfr jW_X12_number a0 a → 1 ≤ a 146 22 → a 146 23 ≤ 199 → a 146 23 ≤ a 146 22 → a0 146 23 ≤ a 146 23 → y1 = x1 → y2 = x2 → 0 ≤ y4 → y4 ≤ a 146 23 → 0 ≤ y5 → y5 ≤ 999 → (y4 ≤ 1 → y5 ≤ 99) → (y4 ≤ 0 → y5 ≤ 9) → a 146 23 < a 146 22 → a 146 24 = a0 146 24 → (DG (UB (a0 164)) (a0 146 22).toNat (SK (UB (a0 164)) (a0 146 22).toNat (a0 146 23).toNat)) → (a 146 27 = ((SK (UB (a0 164)) (a0 146 22).toNat (a0 146 23).toNat) : Int)) → (y4 + ((SK (UB (a0 164)) (a0 146 22).toNat (a0 146 23).toNat) : Int) = a 146 23) → (∀ j : Nat, (SK (UB (a0 164)) (a0 146 22).toNat (a0 146 23).toNat) ≤ j → (j : Int) < a 146 23 → DG (UB (a0 164)) (a0 146 22).toNat j) → (DG (UB (a0 164)) (a0 146 22).toNat (a 146 23).toNat) → (y5 = DV (UB (a0 164)) (SK (UB (a0 164)) (a0 146 22).toNat (a0 146 23).toNat) (y4.toNat + 1)) → jt (jxX E d 217 106 [some (.inr (.inr (.inl 146))), some (.inl y1), some (.inl y2), none, some (.inl y4), some (.inl y5)] [] (jxSH, a, b0)) (jQ_X12_number x1 x2 a0 b0) := fun y1 y2 y4 y5 a hlt i0 i1 i2 i3 i4 i5 i6 i7 i8 i9 i10 i11 i12 i13 i14 i15 i16 i17 i18 i19 i20 i21 => (ih _ hlt).1 y1 y2 y4 y5 a (Nat.le_refl _) i0 i1 i2 i3 i4 i5 i6 i7 i8 i9 i10 i11 i12 i13 i14 i15 i16 i17 i18 i19 i20 i21
  have ih80 : ∀ (y1 y2 y4 y5 : Int) (a : Nat → Nat → Int), ((((a 146 22) - (a 146 23)) * 1) + 0).toNat < n → iv a → jfr jW_X12_number a0 a → 1 ≤ a 146 22 → a 146 23 ≤ 199 → a 146 23 ≤ a 146 22 → a0 146 23 ≤ a 146 23 → y1 = x1 → y2 = x2 → 0 ≤ y4 → y4 ≤ a 146 23 → 0 ≤ y5 → y5 ≤ 999 → (y4 ≤ 2 → y5 ≤ 99) → (y4 ≤ 1 → y5 ≤ 9) → (y4 ≤ 0 → y5 ≤ 0) → a 146 23 < a 146 22 → 48 ≤ a 164 ((a 146 23).toNat) → a 164 ((a 146 23).toNat) ≤ 57 → a 146 24 = a0 146 24 → (DG (UB (a0 164)) (a0 146 22).toNat (SK (UB (a0 164)) (a0 146 22).toNat (a0 146 23).toNat)) → (a 146 27 = ((SK (UB (a0 164)) (a0 146 22).toNat (a0 146 23).toNat) : Int)) → (y4 + ((SK (UB (a0 164)) (a0 146 22).toNat (a0 146 23).toNat) : Int) = a 146 23) → (∀ j : Nat, (SK (UB (a0 164)) (a0 146 22).toNat (a0 146 23).toNat) ≤ j → (j : Int) < a 146 23 → DG (UB (a0 164)) (a0 146 22).toNat j) → (y5 = DV (UB (a0 164)) (SK (UB (a0 164)) (a0 146 22).toNat (a0 146 23).toNat) y4.toNat) → (DG (UB (a0 164)) (a0 146 22).toNat (a 146 23).toNat) → jt (jxX E d 217 80 [some (.inr (.inr (.inl 146))), some (.inl y1), some (.inl y2), none, some (.inl y4), some (.inl y5)] [] (jxSH, a, b0)) (jQ_X12_number x1 x2 a0 b0) := fun y1 y2 y4 y5 a hlt i0 i1 i2 i3 i4 i5 i6 i7 i8 i9 i10 i11 i12 i13 i14 i15 i16 i17 i18 i19 i20 i21 i22 i23 i24 => (ih _ hlt).2.1 y1 y2 y4 y5 a (Nat.le_refl _) i0 i1 i2 i3 i4 i5 i6 i7 i8 i9 i10 i11 i12 i13 i14 i15 i16 i17 i18 i19 i20 i21 i22 i23 i24
  have ih41 : ∀ (y1 y2 y4 y5 : Int) (a : Nat → Nat → Int), ((((a 146 22) - (a 146 23)) * 1) + 0).toNat < n → iv a → jfr jW_X12_number a0 a → a 146 23 ≤ a 146 22 → a0 146 23 ≤ a 146 23 → y1 = x1 → y2 = x2 → 0 ≤ y4 → y4 ≤ a 146 23 → 0 ≤ y5 → y5 ≤ 999 → (y4 ≤ 2 → y5 ≤ 99) → (y4 ≤ 1 → y5 ≤ 9) → (y4 ≤ 0 → y5 ≤ 0) → a 146 24 = a0 146 24 → (DG (UB (a0 164)) (a0 146 22).toNat (SK (UB (a0 164)) (a0 146 22).toNat (a0 146 23).toNat)) → (a 146 27 = ((SK (UB (a0 164)) (a0 146 22).toNat (a0 146 23).toNat) : Int)) → (y4 + ((SK (UB (a0 164)) (a0 146 22).toNat (a0 146 23).toNat) : Int) = a 146 23) → (∀ j : Nat, (SK (UB (a0 164)) (a0 146 22).toNat (a0 146 23).toNat) ≤ j → (j : Int) < a 146 23 → DG (UB (a0 164)) (a0 146 22).toNat j) → (y5 = DV (UB (a0 164)) (SK (UB (a0 164)) (a0 146 22).toNat (a0 146 23).toNat) y4.toNat) → jt (jxX E d 217 41 [some (.inr (.inr (.inl 146))), some (.inl y1), some (.inl y2), none, some (.inl y4), some (.inl y5)] [] (jxSH, a, b0)) (jQ_X12_number x1 x2 a0 b0) := fun y1 y2 y4 y5 a hlt i0 i1 i2 i3 i4 i5 i6 i7 i8 i9 i10 i11 i12 i13 i14 i15 i16 i17 i18 => (ih _ hlt).2.2 y1 y2 y4 y5 a (Nat.le_refl _) i0 i1 i2 i3 i4 i5 i6 i7 i8 i9 i10 i11 i12 i13 i14 i15 i16 i17 i18
  have hc106 : ∀ (y1 y2 y4 y5 : Int) (a : Nat → Nat → Int), ((((a 146 22) - (a 146 23)) * 1) + 0).toNat ≤ n → iv a → jfr jW_X12_number a0 a → 1 ≤ a 146 22 → a 146 23 ≤ 199 → a 146 23 ≤ a 146 22 → a0 146 23 ≤ a 146 23 → y1 = x1 → y2 = x2 → 0 ≤ y4 → y4 ≤ a 146 23 → 0 ≤ y5 → y5 ≤ 999 → (y4 ≤ 1 → y5 ≤ 99) → (y4 ≤ 0 → y5 ≤ 9) → a 146 23 < a 146 22 → a 146 24 = a0 146 24 → (DG (UB (a0 164)) (a0 146 22).toNat (SK (UB (a0 164)) (a0 146 22).toNat (a0 146 23).toNat)) → (a 146 27 = ((SK (UB (a0 164)) (a0 146 22).toNat (a0 146 23).toNat) : Int)) → (y4 + ((SK (UB (a0 164)) (a0 146 22).toNat (a0 146 23).toNat) : Int) = a 146 23) → (∀ j : Nat, (SK (UB (a0 164)) (a0 146 22).toNat (a0 146 23).toNat) ≤ j → (j : Int) < a 146 23 → DG (UB (a0 164)) (a0 146 22).toNat j) → (DG (UB (a0 164)) (a0 146 22).toNat (a 146 23).toNat) → (y5 = DV (UB (a0 164)) (SK (UB (a0 164)) (a0 146 22).toNat (a0 146 23).toNat) (y4.toNat + 1)) → jt (jxX E d 217 106 [some (.inr (.inr (.inl 146))), some (.inl y1), some (.inl y2), none, some (.inl y4), some (.inl y5)] [] (jxSH, a, b0)) (jQ_X12_number x1 x2 a0 b0) := by
    intro y1 y2 y4 y5 a hm hv hf hi0 hi1 hi2 hi3 hi4 hi5 hi6 hi7 hi8 hi9 hi10 hi11 hi12 hi13 hd0 hq hm4 hdg hd1 hdv
    refine jt_eq (bq_X12_number_106 E d y1 y2 y4 y5 a b0) ?_
    have h1172_ := iv_get hv (k := 146) (j := 22) (l := 0) (u := 200) rfl
    have h1173_ : a 146 22 = a0 146 22 := hf 146 22 rfl
    have h1174_ := iv_get hv0 (k := 146) (j := 22) (l := 0) (u := 200) rfl
    have h1175_ := iv_get hv (k := 146) (j := 23) (l := 0) (u := 200) rfl
    have h1176_ := iv_get hv0 (k := 146) (j := 23) (l := 0) (u := 200) rfl
    have h4 : a 164 = a0 164 := funext fun j => hf 164 j rfl
    have h22 := hf 146 22 rfl
    have hub := UB_sp (g := a 164) (j := (a 146 23).toNat) (iv_get hv (k := 164) (j := (a 146 23).toNat) (l := -128) (u := 127) rfl).1 (iv_get hv (k := 164) (j := (a 146 23).toNat) (l := -128) (u := 127) rfl).2
    have h1178_ : jxw ((a 146 23) + 1) = (a 146 23) + 1 := jxw_id (by omega) (by omega)
    have hv1177_ : iv (jxu a 146 23 (jxw ((a 146 23) + 1))) := iv_put hv (l := 0) (u := 200) rfl (by omega) (by omega)
    have hf1179_ : jfr jW_X12_number a0 (jxu a 146 23 (jxw ((a 146 23) + 1))) := jfr_put hf rfl
    have h1180_ := jxw_im (y4 + 1)
    have h1181_ := jxw_rg (y4 + 1)
    exact ih41 y1 y2 (jxw (y4 + 1)) y5 (jxu a 146 23 (jxw ((a 146 23) + 1))) (show ((((a 146 22) - (jxw ((a 146 23) + 1))) * 1) + 0).toNat < n from by omega) hv1177_ hf1179_ (show jxw ((a 146 23) + 1) ≤ a 146 22 from by omega) (show a0 146 23 ≤ jxw ((a 146 23) + 1) from by omega) (show y1 = x1 from by omega) (show y2 = x2 from by omega) (show 0 ≤ jxw (y4 + 1) from by omega) (show jxw (y4 + 1) ≤ jxw ((a 146 23) + 1) from by omega) (show 0 ≤ y5 from by omega) (show y5 ≤ 999 from by omega) (show (jxw (y4 + 1) ≤ 2 → y5 ≤ 99) from by omega) (show (jxw (y4 + 1) ≤ 1 → y5 ≤ 9) from by omega) (show (jxw (y4 + 1) ≤ 0 → y5 ≤ 0) from by omega) (show a 146 24 = a0 146 24 from by omega) (by first | exact hd0 | (have e := hq0_4; have h5 := hq0_5 (by omega); have e2 : (a0_ 146 23).toNat = _ := congrArg Int.toNat e; rw [Int.toNat_natCast] at e2; rw [e2] at h5; exact ⟨by omega, by omega, by omega⟩)) hq (by first | exact hm4 | (rw [hn]; omega) | (show jxw (y4 + 1) + _ = jxw ((a 146 23) + 1); omega)) (by first | exact (fun j h1 h2 => absurd h2 (by omega)) | exact (dg_ext hdg hd1 (by omega) (show jxw ((a 146 23) + 1) = a 146 23 + 1 by omega))) (by first | (rw [show y4.toNat = 0 from by omega]; rfl) | rfl | (rw [show (jxw (y4 + 1)).toNat = y4.toNat + 1 from by omega]; exact hdv))
  have hc80 : ∀ (y1 y2 y4 y5 : Int) (a : Nat → Nat → Int), ((((a 146 22) - (a 146 23)) * 1) + 0).toNat ≤ n → iv a → jfr jW_X12_number a0 a → 1 ≤ a 146 22 → a 146 23 ≤ 199 → a 146 23 ≤ a 146 22 → a0 146 23 ≤ a 146 23 → y1 = x1 → y2 = x2 → 0 ≤ y4 → y4 ≤ a 146 23 → 0 ≤ y5 → y5 ≤ 999 → (y4 ≤ 2 → y5 ≤ 99) → (y4 ≤ 1 → y5 ≤ 9) → (y4 ≤ 0 → y5 ≤ 0) → a 146 23 < a 146 22 → 48 ≤ a 164 ((a 146 23).toNat) → a 164 ((a 146 23).toNat) ≤ 57 → a 146 24 = a0 146 24 → (DG (UB (a0 164)) (a0 146 22).toNat (SK (UB (a0 164)) (a0 146 22).toNat (a0 146 23).toNat)) → (a 146 27 = ((SK (UB (a0 164)) (a0 146 22).toNat (a0 146 23).toNat) : Int)) → (y4 + ((SK (UB (a0 164)) (a0 146 22).toNat (a0 146 23).toNat) : Int) = a 146 23) → (∀ j : Nat, (SK (UB (a0 164)) (a0 146 22).toNat (a0 146 23).toNat) ≤ j → (j : Int) < a 146 23 → DG (UB (a0 164)) (a0 146 22).toNat j) → (y5 = DV (UB (a0 164)) (SK (UB (a0 164)) (a0 146 22).toNat (a0 146 23).toNat) y4.toNat) → (DG (UB (a0 164)) (a0 146 22).toNat (a 146 23).toNat) → jt (jxX E d 217 80 [some (.inr (.inr (.inl 146))), some (.inl y1), some (.inl y2), none, some (.inl y4), some (.inl y5)] [] (jxSH, a, b0)) (jQ_X12_number x1 x2 a0 b0) := by
    intro y1 y2 y4 y5 a hm hv hf hi0 hi1 hi2 hi3 hi4 hi5 hi6 hi7 hi8 hi9 hi10 hi11 hi12 hi13 hi14 hi15 hi16 hd0 hq hm4 hdg hdv hd1
    refine jt_eq (bq_X12_number_80 E d y1 y2 y4 y5 a b0) ?_
    have h1182_ := iv_get hv (k := 146) (j := 22) (l := 0) (u := 200) rfl
    have h1183_ : a 146 22 = a0 146 22 := hf 146 22 rfl
    have h1184_ := iv_get hv0 (k := 146) (j := 22) (l := 0) (u := 200) rfl
    have h1185_ := iv_get hv (k := 146) (j := 23) (l := 0) (u := 200) rfl
    have h1186_ := iv_get hv0 (k := 146) (j := 23) (l := 0) (u := 200) rfl
    have h1187_ := iv_get hv (k := 164) (j := (a 146 23).toNat) (l := (-128)) (u := 127) rfl
    have h1188_ : a 164 ((a 146 23).toNat) = a0 164 ((a 146 23).toNat) := hf 164 ((a 146 23).toNat) rfl
    have h1189_ := iv_get hv0 (k := 164) (j := (a 146 23).toNat) (l := (-128)) (u := 127) rfl
    have h4 : a 164 = a0 164 := funext fun j => hf 164 j rfl
    have h22 := hf 146 22 rfl
    have hub := UB_sp (g := a 164) (j := (a 146 23).toNat) (iv_get hv (k := 164) (j := (a 146 23).toNat) (l := -128) (u := 127) rfl).1 (iv_get hv (k := 164) (j := (a 146 23).toNat) (l := -128) (u := 127) rfl).2
    refine jt_ite (fun c1190_ => ?_) (fun c1190_ => ?_)
    ·
      refine jt_grd (by omega) ?_
      have h1191_ : jxw (10 * y5) = 10 * y5 := jxw_id (by omega) (by omega)
      have h1192_ : jxw ((jxw (10 * y5)) + (a 164 ((a 146 23).toNat))) = (jxw (10 * y5)) + (a 164 ((a 146 23).toNat)) := jxw_id (by omega) (by omega)
      have h1193_ : jxw ((jxw ((jxw (10 * y5)) + (a 164 ((a 146 23).toNat)))) - 48) = (jxw ((jxw (10 * y5)) + (a 164 ((a 146 23).toNat)))) - 48 := jxw_id (by omega) (by omega)
      exact hc106 y1 y2 y4 (jxw ((jxw ((jxw (10 * y5)) + (a 164 ((a 146 23).toNat)))) - 48)) a (show ((((a 146 22) - (a 146 23)) * 1) + 0).toNat ≤ n from by omega) hv hf (show 1 ≤ a 146 22 from by omega) (show a 146 23 ≤ 199 from by omega) (show a 146 23 ≤ a 146 22 from by omega) (show a0 146 23 ≤ a 146 23 from by omega) (show y1 = x1 from by omega) (show y2 = x2 from by omega) (show 0 ≤ y4 from by omega) (show y4 ≤ a 146 23 from by omega) (show 0 ≤ jxw ((jxw ((jxw (10 * y5)) + (a 164 ((a 146 23).toNat)))) - 48) from by omega) (show jxw ((jxw ((jxw (10 * y5)) + (a 164 ((a 146 23).toNat)))) - 48) ≤ 999 from by omega) (show (y4 ≤ 1 → jxw ((jxw ((jxw (10 * y5)) + (a 164 ((a 146 23).toNat)))) - 48) ≤ 99) from by omega) (show (y4 ≤ 0 → jxw ((jxw ((jxw (10 * y5)) + (a 164 ((a 146 23).toNat)))) - 48) ≤ 9) from by omega) (show a 146 23 < a 146 22 from by omega) (show a 146 24 = a0 146 24 from by omega) (by first | exact hd0 | (have e := hq0_4; have h5 := hq0_5 (by omega); have e2 : (a0_ 146 23).toNat = _ := congrArg Int.toNat e; rw [Int.toNat_natCast] at e2; rw [e2] at h5; exact ⟨by omega, by omega, by omega⟩)) hq hm4 hdg hd1 (by first | (rw [DV_lt (by omega), ← hdv, show (SK (UB (a0 164)) (a0 146 22).toNat (a0 146 23).toNat) + y4.toNat = (a 146 23).toNat from by omega, ← h4]; have hd2 := hd1; rw [← h4] at hd2; obtain ⟨q1, q2, q3⟩ := hd2; omega) | (rw [DV_ge (by omega)]; exact hdv))
    ·
      exact hc106 y1 y2 y4 y5 a (show ((((a 146 22) - (a 146 23)) * 1) + 0).toNat ≤ n from by omega) hv hf (show 1 ≤ a 146 22 from by omega) (show a 146 23 ≤ 199 from by omega) (show a 146 23 ≤ a 146 22 from by omega) (show a0 146 23 ≤ a 146 23 from by omega) (show y1 = x1 from by omega) (show y2 = x2 from by omega) (show 0 ≤ y4 from by omega) (show y4 ≤ a 146 23 from by omega) (show 0 ≤ y5 from by omega) (show y5 ≤ 999 from by omega) (show (y4 ≤ 1 → y5 ≤ 99) from by omega) (show (y4 ≤ 0 → y5 ≤ 9) from by omega) (show a 146 23 < a 146 22 from by omega) (show a 146 24 = a0 146 24 from by omega) (by first | exact hd0 | (have e := hq0_4; have h5 := hq0_5 (by omega); have e2 : (a0_ 146 23).toNat = _ := congrArg Int.toNat e; rw [Int.toNat_natCast] at e2; rw [e2] at h5; exact ⟨by omega, by omega, by omega⟩)) hq hm4 hdg hd1 (by first | (rw [DV_lt (by omega), ← hdv, show (SK (UB (a0 164)) (a0 146 22).toNat (a0 146 23).toNat) + y4.toNat = (a 146 23).toNat from by omega, ← h4]; have hd2 := hd1; rw [← h4] at hd2; obtain ⟨q1, q2, q3⟩ := hd2; omega) | (rw [DV_ge (by omega)]; exact hdv))
  have hc41 : ∀ (y1 y2 y4 y5 : Int) (a : Nat → Nat → Int), ((((a 146 22) - (a 146 23)) * 1) + 0).toNat ≤ n → iv a → jfr jW_X12_number a0 a → a 146 23 ≤ a 146 22 → a0 146 23 ≤ a 146 23 → y1 = x1 → y2 = x2 → 0 ≤ y4 → y4 ≤ a 146 23 → 0 ≤ y5 → y5 ≤ 999 → (y4 ≤ 2 → y5 ≤ 99) → (y4 ≤ 1 → y5 ≤ 9) → (y4 ≤ 0 → y5 ≤ 0) → a 146 24 = a0 146 24 → (DG (UB (a0 164)) (a0 146 22).toNat (SK (UB (a0 164)) (a0 146 22).toNat (a0 146 23).toNat)) → (a 146 27 = ((SK (UB (a0 164)) (a0 146 22).toNat (a0 146 23).toNat) : Int)) → (y4 + ((SK (UB (a0 164)) (a0 146 22).toNat (a0 146 23).toNat) : Int) = a 146 23) → (∀ j : Nat, (SK (UB (a0 164)) (a0 146 22).toNat (a0 146 23).toNat) ≤ j → (j : Int) < a 146 23 → DG (UB (a0 164)) (a0 146 22).toNat j) → (y5 = DV (UB (a0 164)) (SK (UB (a0 164)) (a0 146 22).toNat (a0 146 23).toNat) y4.toNat) → jt (jxX E d 217 41 [some (.inr (.inr (.inl 146))), some (.inl y1), some (.inl y2), none, some (.inl y4), some (.inl y5)] [] (jxSH, a, b0)) (jQ_X12_number x1 x2 a0 b0) := by
    intro y1 y2 y4 y5 a hm hv hf hi0 hi1 hi2 hi3 hi4 hi5 hi6 hi7 hi8 hi9 hi10 hi11 hd0 hq hm4 hdg hdv
    refine jt_eq (bq_X12_number_41 E d y1 y2 y4 y5 a b0) ?_
    have h1194_ := iv_get hv (k := 146) (j := 23) (l := 0) (u := 200) rfl
    have h1195_ := iv_get hv (k := 146) (j := 22) (l := 0) (u := 200) rfl
    have h1196_ : a 146 22 = a0 146 22 := hf 146 22 rfl
    have h1197_ := iv_get hv0 (k := 146) (j := 22) (l := 0) (u := 200) rfl
    have h1198_ := iv_get hv0 (k := 146) (j := 23) (l := 0) (u := 200) rfl
    have h4 : a 164 = a0 164 := funext fun j => hf 164 j rfl
    have h22 := hf 146 22 rfl
    have hub := UB_sp (g := a 164) (j := (a 146 23).toNat) (iv_get hv (k := 164) (j := (a 146 23).toNat) (l := -128) (u := 127) rfl).1 (iv_get hv (k := 164) (j := (a 146 23).toNat) (l := -128) (u := 127) rfl).2
    refine jt_ite (fun c1199_ => ?_) (fun c1199_ => ?_)
    ·
      refine jt_grd (by omega) ?_
      have h1200_ := iv_get hv (k := 164) (j := (a 146 23).toNat) (l := (-128)) (u := 127) rfl
      have h1201_ : a 164 ((a 146 23).toNat) = a0 164 ((a 146 23).toNat) := hf 164 ((a 146 23).toNat) rfl
      have h1202_ := iv_get hv0 (k := 164) (j := (a 146 23).toNat) (l := (-128)) (u := 127) rfl
      refine jt_ite (fun c1203_ => ?_) (fun c1203_ => ?_)
      ·
        exact cp_X12_number_122 E d hd x1 x2 a0 b0 hv0 hp0 y1 y2 y4 y5 a hv hf (show a 146 23 ≤ a 146 22 from by omega) (show a0 146 23 ≤ a 146 23 from by omega) (show y1 = x1 from by omega) (show y2 = x2 from by omega) (show 0 ≤ y5 from by omega) (show y5 ≤ 999 from by omega) (show a 146 24 = a0 146 24 from by omega) (by first | exact hd0 | (have e := hq0_4; have h5 := hq0_5 (by omega); have e2 : (a0_ 146 23).toNat = _ := congrArg Int.toNat e; rw [Int.toNat_natCast] at e2; rw [e2] at h5; exact ⟨by omega, by omega, by omega⟩)) hq hm4 (DE_un (q := (a 146 23).toNat) (by omega) (fun j h1 h2 => hdg j h1 (by omega)) (fun h => by rw [← h4] at h; obtain ⟨q1, q2, q3⟩ := h; omega)) (by unfold NV; rw [(DE_un (q := (a 146 23).toNat) (by omega) (fun j h1 h2 => hdg j h1 (by omega)) (fun h => by rw [← h4] at h; obtain ⟨q1, q2, q3⟩ := h; omega)), show (a 146 23).toNat - (SK (UB (a0 164)) (a0 146 22).toNat (a0 146 23).toNat) = y4.toNat from by omega]; exact hdv)
      ·
        refine jt_grd (by omega) ?_
        refine jt_ite (fun c1204_ => ?_) (fun c1204_ => ?_)
        ·
          exact cp_X12_number_122 E d hd x1 x2 a0 b0 hv0 hp0 y1 y2 y4 y5 a hv hf (show a 146 23 ≤ a 146 22 from by omega) (show a0 146 23 ≤ a 146 23 from by omega) (show y1 = x1 from by omega) (show y2 = x2 from by omega) (show 0 ≤ y5 from by omega) (show y5 ≤ 999 from by omega) (show a 146 24 = a0 146 24 from by omega) (by first | exact hd0 | (have e := hq0_4; have h5 := hq0_5 (by omega); have e2 : (a0_ 146 23).toNat = _ := congrArg Int.toNat e; rw [Int.toNat_natCast] at e2; rw [e2] at h5; exact ⟨by omega, by omega, by omega⟩)) hq hm4 (DE_un (q := (a 146 23).toNat) (by omega) (fun j h1 h2 => hdg j h1 (by omega)) (fun h => by rw [← h4] at h; obtain ⟨q1, q2, q3⟩ := h; omega)) (by unfold NV; rw [(DE_un (q := (a 146 23).toNat) (by omega) (fun j h1 h2 => hdg j h1 (by omega)) (fun h => by rw [← h4] at h; obtain ⟨q1, q2, q3⟩ := h; omega)), show (a 146 23).toNat - (SK (UB (a0 164)) (a0 146 22).toNat (a0 146 23).toNat) = y4.toNat from by omega]; exact hdv)
        ·
          exact hc80 y1 y2 y4 y5 a (show ((((a 146 22) - (a 146 23)) * 1) + 0).toNat ≤ n from by omega) hv hf (show 1 ≤ a 146 22 from by omega) (show a 146 23 ≤ 199 from by omega) (show a 146 23 ≤ a 146 22 from by omega) (show a0 146 23 ≤ a 146 23 from by omega) (show y1 = x1 from by omega) (show y2 = x2 from by omega) (show 0 ≤ y4 from by omega) (show y4 ≤ a 146 23 from by omega) (show 0 ≤ y5 from by omega) (show y5 ≤ 999 from by omega) (show (y4 ≤ 2 → y5 ≤ 99) from by omega) (show (y4 ≤ 1 → y5 ≤ 9) from by omega) (show (y4 ≤ 0 → y5 ≤ 0) from by omega) (show a 146 23 < a 146 22 from by omega) (show 48 ≤ a 164 ((a 146 23).toNat) from by omega) (show a 164 ((a 146 23).toNat) ≤ 57 from by omega) (show a 146 24 = a0 146 24 from by omega) (by first | exact hd0 | (have e := hq0_4; have h5 := hq0_5 (by omega); have e2 : (a0_ 146 23).toNat = _ := congrArg Int.toNat e; rw [Int.toNat_natCast] at e2; rw [e2] at h5; exact ⟨by omega, by omega, by omega⟩)) hq hm4 hdg hdv (by rw [← h4]; exact ⟨by omega, by omega, by omega⟩)
    ·
      exact cp_X12_number_122 E d hd x1 x2 a0 b0 hv0 hp0 y1 y2 y4 y5 a hv hf (show a 146 23 ≤ a 146 22 from by omega) (show a0 146 23 ≤ a 146 23 from by omega) (show y1 = x1 from by omega) (show y2 = x2 from by omega) (show 0 ≤ y5 from by omega) (show y5 ≤ 999 from by omega) (show a 146 24 = a0 146 24 from by omega) (by first | exact hd0 | (have e := hq0_4; have h5 := hq0_5 (by omega); have e2 : (a0_ 146 23).toNat = _ := congrArg Int.toNat e; rw [Int.toNat_natCast] at e2; rw [e2] at h5; exact ⟨by omega, by omega, by omega⟩)) hq hm4 (DE_un (q := (a 146 23).toNat) (by omega) (fun j h1 h2 => hdg j h1 (by omega)) (fun h => by rw [← h4] at h; obtain ⟨q1, q2, q3⟩ := h; omega)) (by unfold NV; rw [(DE_un (q := (a 146 23).toNat) (by omega) (fun j h1 h2 => hdg j h1 (by omega)) (fun h => by rw [← h4] at h; obtain ⟨q1, q2, q3⟩ := h; omega)), show (a 146 23).toNat - (SK (UB (a0 164)) (a0 146 22).toNat (a0 146 23).toNat) = y4.toNat from by omega]; exact hdv)
  exact ⟨hc106, hc80, hc41⟩
theorem cp_X12_number_38 (E : jxE) (d : Nat) (hd : Nat.ble 2 (d + 1) = true) (x1 x2 : Int) (a0 b0 : Nat → Nat → Int) (hv0 : iv a0) (hp0 : a0 146 23 ≤ a0 146 22) : ∀ (y1 y2 y4 : Int) (a : Nat → Nat → Int), iv a → jfr jW_X12_number a0 a → 0 ≤ y4 → y4 ≤ 0 → a 146 23 ≤ a 146 22 → a0 146 23 ≤ a 146 23 → y1 = x1 → y2 = x2 → y4 = 0 → a 146 24 = a0 146 24 → (DG (UB (a0 164)) (a0 146 22).toNat (SK (UB (a0 164)) (a0 146 22).toNat (a0 146 23).toNat)) → (a 146 27 = ((SK (UB (a0 164)) (a0 146 22).toNat (a0 146 23).toNat) : Int)) → (a 146 23 = ((SK (UB (a0 164)) (a0 146 22).toNat (a0 146 23).toNat) : Int)) → jt (jxX E d 217 38 [some (.inr (.inr (.inl 146))), some (.inl y1), some (.inl y2), none, some (.inl y4), none] [] (jxSH, a, b0)) (jQ_X12_number x1 x2 a0 b0) := by
  intro y1 y2 y4 a hv hf hi0 hi1 hi2 hi3 hi4 hi5 hi6 hi7 hd0 hq hn
  refine jt_eq (bq_X12_number_38 E d y1 y2 y4 a b0) ?_
  have h1205_ := iv_get hv (k := 146) (j := 23) (l := 0) (u := 200) rfl
  have h1206_ := iv_get hv (k := 146) (j := 22) (l := 0) (u := 200) rfl
  have h1207_ : a 146 22 = a0 146 22 := hf 146 22 rfl
  have h1208_ := iv_get hv0 (k := 146) (j := 22) (l := 0) (u := 200) rfl
  have h1209_ := iv_get hv0 (k := 146) (j := 23) (l := 0) (u := 200) rfl
  have h4 : a 164 = a0 164 := funext fun j => hf 164 j rfl
  have h22 := hf 146 22 rfl
  have hub := UB_sp (g := a 164) (j := (a 146 23).toNat) (iv_get hv (k := 164) (j := (a 146 23).toNat) (l := -128) (u := 127) rfl).1 (iv_get hv (k := 164) (j := (a 146 23).toNat) (l := -128) (u := 127) rfl).2
  exact (cp_X12_number_41 E d hd x1 x2 a0 b0 hv0 hp0 _).2.2 y1 y2 y4 0 a (Nat.le_refl _) hv hf (show a 146 23 ≤ a 146 22 from by omega) (show a0 146 23 ≤ a 146 23 from by omega) (show y1 = x1 from by omega) (show y2 = x2 from by omega) (show 0 ≤ y4 from by omega) (show y4 ≤ a 146 23 from by omega) (show 0 ≤ 0 from by omega) (show 0 ≤ 999 from by omega) (show (y4 ≤ 2 → 0 ≤ 99) from by omega) (show (y4 ≤ 1 → 0 ≤ 9) from by omega) (show (y4 ≤ 0 → 0 ≤ 0) from by omega) (show a 146 24 = a0 146 24 from by omega) (by first | exact hd0 | (have e := hq0_4; have h5 := hq0_5 (by omega); have e2 : (a0_ 146 23).toNat = _ := congrArg Int.toNat e; rw [Int.toNat_natCast] at e2; rw [e2] at h5; exact ⟨by omega, by omega, by omega⟩)) hq (by first | exact hm4 | (rw [hn]; omega) | (show jxw (y4 + 1) + _ = jxw ((a 146 23) + 1); omega)) (by first | exact (fun j h1 h2 => absurd h2 (by omega)) | exact (dg_ext hdg hd1 (by omega) (show jxw ((a 146 23) + 1) = a 146 23 + 1 by omega))) (by first | (rw [show y4.toNat = 0 from by omega]; rfl) | rfl | (rw [show (jxw (y4 + 1)).toNat = y4.toNat + 1 from by omega]; exact hdv))
theorem sp_X12_number (E : jxE) (d : Nat) (hd : Nat.ble 2 d = true) (x1 x2 : Int) (a0 b0 : Nat → Nat → Int) (hv0 : iv a0) (hp0 : a0 146 23 ≤ a0 146 22) : jt (jxC E d 217 [.inr (.inr (.inl 146)), .inl x1, .inl x2] (jxSH, a0, b0)) (jQ_X12_number x1 x2 a0 b0) := by
  obtain ⟨d, rfl⟩ := jd_succ hd
  refine jt_eq (bq_X12_number E d x1 x2 a0 b0) ?_
  have h1210_ := iv_get hv0 (k := 146) (j := 23) (l := 0) (u := 200) rfl
  have h1211_ := iv_get hv0 (k := 146) (j := 22) (l := 0) (u := 200) rfl
  refine jt_bI (sp_X12_see E d (jd_le hd rfl) a0 b0 hv0 (show a0 146 23 ≤ a0 146 22 from by omega)) (fun r1212_ a1212_ b1212_ h1212_ => ?_)
  obtain ⟨hv1212_, hf1212_, rfl, hq1212_0, hq1212_1, hq1212_2, hq1212_3, hq1212_4, hq1212_5⟩ := h1212_
  have h1213_ := iv_get hv1212_ (k := 146) (j := 23) (l := 0) (u := 200) rfl
  have h1214_ := iv_get hv1212_ (k := 164) (j := (a1212_ 146 23).toNat) (l := (-128)) (u := 127) rfl
  have h1215_ : a1212_ 164 ((a1212_ 146 23).toNat) = a0 164 ((a1212_ 146 23).toNat) := hf1212_ 164 ((a1212_ 146 23).toNat) rfl
  have h1216_ := iv_get hv0 (k := 164) (j := (a1212_ 146 23).toNat) (l := (-128)) (u := 127) rfl
  have h1217_ := iv_get hv0 (k := 164) (j := (a0 146 23).toNat) (l := (-128)) (u := 127) rfl
  have h22_1212 := hf1212_ 146 22 rfl
  have h24_1212 := hf1212_ 146 24 rfl
  refine jt_ite (fun c1218_ => ?_) (fun c1218_ => ?_)
  ·
    refine jt_bI (sp_X12_fails E d (jd_le hd rfl) 0 (a1212_ 146 23) a1212_ b0 hv1212_) (fun r1219_ a1219_ b1219_ h1219_ => ?_)
    obtain ⟨hv1219_, hf1219_, rfl, hq1219_0, hq1219_1, hq1219_2, hq1219_3⟩ := h1219_
    have h1220_ : a1212_ 146 24 = a0 146 24 := hf1212_ 146 24 rfl
    have h23_1219 := hf1219_ 146 23 rfl
    refine jt_grd (by omega) ?_
    have hf1221_ : jfr jW_X12_number a0 a1212_ := jfr_tr (jfr_rf _ _) hf1212_ rfl
    have hf1222_ : jfr jW_X12_number a0 a1219_ := jfr_tr hf1221_ hf1219_ rfl
    have h1223_ := iv_get hv1219_ (k := 146) (j := 23) (l := 0) (u := 200) rfl
    have h1224_ : a1219_ 146 23 = a1212_ 146 23 := hf1219_ 146 23 rfl
    have h1225_ := iv_get hv1219_ (k := 146) (j := 26) (l := 0) (u := 999) rfl
    have h1226_ : a1219_ 146 26 = a1212_ 146 26 := hf1219_ 146 26 rfl
    have h1227_ := iv_get hv1212_ (k := 146) (j := 26) (l := 0) (u := 999) rfl
    have h1228_ : a1212_ 146 26 = a0 146 26 := hf1212_ 146 26 rfl
    have h1229_ := iv_get hv0 (k := 146) (j := 26) (l := 0) (u := 999) rfl
    exact jt_rI ⟨hv1219_, hf1222_, rfl, (show (0 ≤ r1219_ ∧ r1219_ ≤ 1) from by omega), (show a0 146 23 ≤ a1219_ 146 23 from by omega), (show a1219_ 146 23 ≤ a0 146 22 from by omega), (show (r1219_ = 1 → (x1 ≤ a1219_ 146 26 ∧ a1219_ 146 26 ≤ x2)) from by omega), (by first | exact (fun h => absurd h (by omega)) | exact (fun _ => ⟨by have hz := (DE_sp (UB (a0 164)) (a0 146 22).toNat (SK (UB (a0 164)) (a0 146 22).toNat (a0 146 23).toNat)).2.2.1; unfold NF; rw [if_neg (fun h => hz (by rw [h]; exact hd0)), if_neg (by rw [hde, ← hnv]; omega)], hnv, by rw [hde]; show a 146 23 = _; omega, by show a 146 24 = _; omega⟩)), (by first | exact (fun h => absurd h (by decide)) | exact (fun _ => ⟨by rw [hnf]; omega, by rw [hnf]; split <;> omega⟩) | (intro _; have e := hq1212_4; have hnd : ¬ DG (UB (a0 164)) (a0 146 22).toNat (SK (UB (a0 164)) (a0 146 22).toNat (a0 146 23).toNat) := (fun hd => by have e2 : (a1212_ 146 23).toNat = _ := congrArg Int.toNat e; rw [Int.toNat_natCast] at e2; obtain ⟨q1, q2, q3⟩ := hd; have h5 := hq1212_5; rw [e2] at h5; omega); rw [NF_none hnd]; exact ⟨by omega, by split <;> omega⟩))⟩
  ·
    refine jt_ite (fun c1230_ => ?_) (fun c1230_ => ?_)
    ·
      refine jt_bI (sp_X12_fails E d (jd_le hd rfl) 0 (a1212_ 146 23) a1212_ b0 hv1212_) (fun r1231_ a1231_ b1231_ h1231_ => ?_)
      obtain ⟨hv1231_, hf1231_, rfl, hq1231_0, hq1231_1, hq1231_2, hq1231_3⟩ := h1231_
      have h1232_ : a1212_ 146 24 = a0 146 24 := hf1212_ 146 24 rfl
      have h23_1231 := hf1231_ 146 23 rfl
      refine jt_grd (by omega) ?_
      have hf1233_ : jfr jW_X12_number a0 a1212_ := jfr_tr (jfr_rf _ _) hf1212_ rfl
      have hf1234_ : jfr jW_X12_number a0 a1231_ := jfr_tr hf1233_ hf1231_ rfl
      have h1235_ := iv_get hv1231_ (k := 146) (j := 23) (l := 0) (u := 200) rfl
      have h1236_ : a1231_ 146 23 = a1212_ 146 23 := hf1231_ 146 23 rfl
      have h1237_ := iv_get hv1231_ (k := 146) (j := 26) (l := 0) (u := 999) rfl
      have h1238_ : a1231_ 146 26 = a1212_ 146 26 := hf1231_ 146 26 rfl
      have h1239_ := iv_get hv1212_ (k := 146) (j := 26) (l := 0) (u := 999) rfl
      have h1240_ : a1212_ 146 26 = a0 146 26 := hf1212_ 146 26 rfl
      have h1241_ := iv_get hv0 (k := 146) (j := 26) (l := 0) (u := 999) rfl
      exact jt_rI ⟨hv1231_, hf1234_, rfl, (show (0 ≤ r1231_ ∧ r1231_ ≤ 1) from by omega), (show a0 146 23 ≤ a1231_ 146 23 from by omega), (show a1231_ 146 23 ≤ a0 146 22 from by omega), (show (r1231_ = 1 → (x1 ≤ a1231_ 146 26 ∧ a1231_ 146 26 ≤ x2)) from by omega), (by first | exact (fun h => absurd h (by omega)) | exact (fun _ => ⟨by have hz := (DE_sp (UB (a0 164)) (a0 146 22).toNat (SK (UB (a0 164)) (a0 146 22).toNat (a0 146 23).toNat)).2.2.1; unfold NF; rw [if_neg (fun h => hz (by rw [h]; exact hd0)), if_neg (by rw [hde, ← hnv]; omega)], hnv, by rw [hde]; show a 146 23 = _; omega, by show a 146 24 = _; omega⟩)), (by first | exact (fun h => absurd h (by decide)) | exact (fun _ => ⟨by rw [hnf]; omega, by rw [hnf]; split <;> omega⟩) | (intro _; have e := hq1212_4; have hnd : ¬ DG (UB (a0 164)) (a0 146 22).toNat (SK (UB (a0 164)) (a0 146 22).toNat (a0 146 23).toNat) := (fun hd => by have e2 : (a1212_ 146 23).toNat = _ := congrArg Int.toNat e; rw [Int.toNat_natCast] at e2; obtain ⟨q1, q2, q3⟩ := hd; have h5 := hq1212_5; rw [e2] at h5; omega); rw [NF_none hnd]; exact ⟨by omega, by split <;> omega⟩))⟩
    ·
      have hv1242_ : iv (jxu a1212_ 146 27 (a1212_ 146 23)) := iv_putf hv1212_ rfl
      have hf1243_ : jfr jW_X12_number a0 a1212_ := jfr_tr (jfr_rf _ _) hf1212_ rfl
      have hf1244_ : jfr jW_X12_number a0 (jxu a1212_ 146 27 (a1212_ 146 23)) := jfr_put hf1243_ rfl
      have h1245_ := iv_get hv1212_ (k := 146) (j := 22) (l := 0) (u := 200) rfl
      have h1246_ : a1212_ 146 22 = a0 146 22 := hf1212_ 146 22 rfl
      have h1247_ : a1212_ 146 24 = a0 146 24 := hf1212_ 146 24 rfl
      exact cp_X12_number_38 E d hd x1 x2 a0 b0 hv0 hp0 x1 x2 0 (jxu a1212_ 146 27 (a1212_ 146 23)) hv1242_ hf1244_ (show 0 ≤ 0 from by omega) (show 0 ≤ 0 from by omega) (show a1212_ 146 23 ≤ a1212_ 146 22 from by omega) (show a0 146 23 ≤ a1212_ 146 23 from by omega) (show x1 = x1 from by omega) (show x2 = x2 from by omega) (show 0 = 0 from by omega) (show a1212_ 146 24 = a0 146 24 from by omega) (by first | exact hd0 | (have e := hq1212_4; have h5 := hq1212_5 (by omega); have e2 : (a1212_ 146 23).toNat = _ := congrArg Int.toNat e; rw [Int.toNat_natCast] at e2; rw [e2] at h5; exact ⟨by omega, by omega, by omega⟩)) (by have e := hq1212_4; exact e) (by have e := hq1212_4; exact e)
def jW_X12_wordHere : List (Nat × Nat) := [(146, 23), (146, 25)]
abbrev jQ_X12_wordHere (a0 b0 : Nat → Nat → Int) : List jxV → (Nat → Nat → Int) → (Nat → Nat → Int) → Prop := rI (fun r a b => (iv a) ∧ (jfr jW_X12_wordHere a0 a) ∧ (b0 = b) ∧ ((a 146 23) + (a 146 25) ≤ a 146 22) ∧ (a0 146 23 ≤ a 146 23) ∧ (0 - 1 ≤ r) ∧ (r ≤ 15) ∧ ((r = 2 → a 146 25 = 3)) ∧ ((0 ≤ r → 2 ≤ a 146 25)) ∧ (((a0 146 23 < a0 146 22 ∧ ¬ a0 164 ((a0 146 23).toNat) = 32) → a 146 23 = a0 146 23)) ∧ (a 146 23 = ((SK (UB (a0 164)) (a0 146 22).toNat (a0 146 23).toNat) : Int)) ∧ (∀ w : Nat, w < 16 → (TW (UB (a0 164)) (a0 146 22).toNat (SK (UB (a0 164)) (a0 146 22).toNat (a0 146 23).toNat) w ↔ r = (w : Int))) ∧ (0 ≤ r → a 146 25 = (wdn r.toNat : Int)))
theorem cp_X12_wordHere_79 (E : jxE) (d : Nat) (hd : Nat.ble 2 (d + 1) = true) (a0 b0 : Nat → Nat → Int) (hv0 : iv a0) (hp0 : a0 146 23 ≤ a0 146 22) : ∀ n : Nat, (∀ (y1 y2 y4 : Int) (a : Nat → Nat → Int), (((((16 - y1) * 17) + 0) + ((6 - y4) * 1)) + 0).toNat ≤ n → iv a → jfr jW_X12_wordHere a0 a → 0 ≤ y1 → y1 ≤ 15 → 1 ≤ y2 → y2 ≤ 6 → 0 ≤ y4 → y4 ≤ 5 → a 146 25 ≤ 6 → (a 146 23) + (a 146 25) ≤ a 146 22 → a0 146 23 ≤ a 146 23 → 2 ≤ y2 → (y1 = 2 → y2 = 3) → y2 = a 146 25 → y4 < y2 → ((a0 146 23 < a0 146 22 ∧ ¬ a0 164 ((a0 146 23).toNat) = 32) → a 146 23 = a0 146 23) → (a 146 23 = ((SK (UB (a0 164)) (a0 146 22).toNat (a0 146 23).toNat) : Int)) → (∀ k : Nat, (k : Int) < a 146 25 → LT (UB (a0 164)) (a0 146 22).toNat ((SK (UB (a0 164)) (a0 146 22).toNat (a0 146 23).toNat) + k)) → (¬ LT (UB (a0 164)) (a0 146 22).toNat ((SK (UB (a0 164)) (a0 146 22).toNat (a0 146 23).toNat) + (a 146 25).toNat)) → (∀ v : Nat, (v : Int) < y1 → v < 16 → ¬ TW (UB (a0 164)) (a0 146 22).toNat (SK (UB (a0 164)) (a0 146 22).toNat (a0 146 23).toNat) v) → (y2 = (wdn y1.toNat : Int)) → (y2 = a 146 25) → (∀ k : Nat, (k : Int) < y4 + 1 → (UB (a0 164)) ((SK (UB (a0 164)) (a0 146 22).toNat (a0 146 23).toNat) + k) = (wdl y1.toNat).getD k 0) → jt (jxX E d 216 176 [some (.inr (.inr (.inl 146))), some (.inl y1), some (.inl y2), none, some (.inl y4)] [] (jxSH, a, b0)) (jQ_X12_wordHere a0 b0)) ∧ (∀ (y1 y2 y4 : Int) (a : Nat → Nat → Int), (((((16 - y1) * 17) + 0) + ((6 - y4) * 1)) + 0).toNat ≤ n → iv a → jfr jW_X12_wordHere a0 a → 0 ≤ y1 → y1 ≤ 15 → 1 ≤ y2 → y2 ≤ 6 → 0 ≤ y4 → y4 ≤ 5 → a 146 25 ≤ 6 → (a 146 23) + (a 146 25) ≤ a 146 22 → a0 146 23 ≤ a 146 23 → 2 ≤ y2 → (y1 = 2 → y2 = 3) → y2 = a 146 25 → y4 < y2 → ((a0 146 23 < a0 146 22 ∧ ¬ a0 164 ((a0 146 23).toNat) = 32) → a 146 23 = a0 146 23) → (a 146 23 = ((SK (UB (a0 164)) (a0 146 22).toNat (a0 146 23).toNat) : Int)) → (∀ k : Nat, (k : Int) < a 146 25 → LT (UB (a0 164)) (a0 146 22).toNat ((SK (UB (a0 164)) (a0 146 22).toNat (a0 146 23).toNat) + k)) → (¬ LT (UB (a0 164)) (a0 146 22).toNat ((SK (UB (a0 164)) (a0 146 22).toNat (a0 146 23).toNat) + (a 146 25).toNat)) → (∀ v : Nat, (v : Int) < y1 → v < 16 → ¬ TW (UB (a0 164)) (a0 146 22).toNat (SK (UB (a0 164)) (a0 146 22).toNat (a0 146 23).toNat) v) → (y2 = (wdn y1.toNat : Int)) → (¬ TW (UB (a0 164)) (a0 146 22).toNat (SK (UB (a0 164)) (a0 146 22).toNat (a0 146 23).toNat) y1.toNat) → jt (jxX E d 216 180 [some (.inr (.inr (.inl 146))), some (.inl y1), some (.inl y2), none, some (.inl y4)] [] (jxSH, a, b0)) (jQ_X12_wordHere a0 b0)) ∧ (∀ (y1 y2 y3 y4 : Int) (a : Nat → Nat → Int), (((((16 - y1) * 17) + 0) + ((6 - y4) * 1)) + 0).toNat ≤ n → iv a → jfr jW_X12_wordHere a0 a → 0 ≤ y1 → y1 ≤ 15 → 0 ≤ y2 → y2 ≤ 6 → 0 ≤ y3 → y3 ≤ 1 → 0 ≤ y4 → y4 ≤ 6 → a 146 25 ≤ 6 → (a 146 23) + (a 146 25) ≤ a 146 22 → a0 146 23 ≤ a 146 23 → 2 ≤ y2 → (y1 = 2 → y2 = 3) → (y3 = 0 ∨ y2 = a 146 25) → (y3 = 0 ∨ y3 = 1) → ((a0 146 23 < a0 146 22 ∧ ¬ a0 164 ((a0 146 23).toNat) = 32) → a 146 23 = a0 146 23) → (a 146 23 = ((SK (UB (a0 164)) (a0 146 22).toNat (a0 146 23).toNat) : Int)) → (∀ k : Nat, (k : Int) < a 146 25 → LT (UB (a0 164)) (a0 146 22).toNat ((SK (UB (a0 164)) (a0 146 22).toNat (a0 146 23).toNat) + k)) → (¬ LT (UB (a0 164)) (a0 146 22).toNat ((SK (UB (a0 164)) (a0 146 22).toNat (a0 146 23).toNat) + (a 146 25).toNat)) → (∀ v : Nat, (v : Int) < y1 → v < 16 → ¬ TW (UB (a0 164)) (a0 146 22).toNat (SK (UB (a0 164)) (a0 146 22).toNat (a0 146 23).toNat) v) → (y2 = (wdn y1.toNat : Int)) → ((y3 = 0 ∧ ¬ TW (UB (a0 164)) (a0 146 22).toNat (SK (UB (a0 164)) (a0 146 22).toNat (a0 146 23).toNat) y1.toNat) ∨ (y3 = 1 ∧ y2 = a 146 25 ∧ ∀ k : Nat, (k : Int) < y4 → (UB (a0 164)) ((SK (UB (a0 164)) (a0 146 22).toNat (a0 146 23).toNat) + k) = (wdl y1.toNat).getD k 0)) → jt (jxX E d 216 139 [some (.inr (.inr (.inl 146))), some (.inl y1), some (.inl y2), some (.inl y3), some (.inl y4)] [] (jxSH, a, b0)) (jQ_X12_wordHere a0 b0)) ∧ (∀ (y1 y2 : Int) (a : Nat → Nat → Int), (((16 - y1) * 17) + 8).toNat ≤ n → iv a → jfr jW_X12_wordHere a0 a → 0 ≤ y1 → y1 ≤ 15 → 0 ≤ y2 → y2 ≤ 6 → a 146 25 ≤ 6 → (a 146 23) + (a 146 25) ≤ a 146 22 → a0 146 23 ≤ a 146 23 → (y1 = 2 → y2 = 3) → 2 ≤ y2 → ((a0 146 23 < a0 146 22 ∧ ¬ a0 164 ((a0 146 23).toNat) = 32) → a 146 23 = a0 146 23) → (a 146 23 = ((SK (UB (a0 164)) (a0 146 22).toNat (a0 146 23).toNat) : Int)) → (∀ k : Nat, (k : Int) < a 146 25 → LT (UB (a0 164)) (a0 146 22).toNat ((SK (UB (a0 164)) (a0 146 22).toNat (a0 146 23).toNat) + k)) → (¬ LT (UB (a0 164)) (a0 146 22).toNat ((SK (UB (a0 164)) (a0 146 22).toNat (a0 146 23).toNat) + (a 146 25).toNat)) → (∀ v : Nat, (v : Int) < y1 → v < 16 → ¬ TW (UB (a0 164)) (a0 146 22).toNat (SK (UB (a0 164)) (a0 146 22).toNat (a0 146 23).toNat) v) → (y2 = (wdn y1.toNat : Int)) → jt (jxX E d 216 122 [some (.inr (.inr (.inl 146))), some (.inl y1), some (.inl y2), none, none] [] (jxSH, a, b0)) (jQ_X12_wordHere a0 b0)) ∧ (∀ (y1 y2 : Int) (a : Nat → Nat → Int), (((((16 - y1) * 17) + 8) + ((6 - y2) * 1)) + 0).toNat ≤ n → iv a → jfr jW_X12_wordHere a0 a → 0 ≤ y1 → y1 ≤ 15 → 0 ≤ y2 → y2 ≤ 6 → a 146 25 ≤ 6 → (a 146 23) + (a 146 25) ≤ a 146 22 → a0 146 23 ≤ a 146 23 → (y1 = 2 → y2 ≤ 3) → ((a0 146 23 < a0 146 22 ∧ ¬ a0 164 ((a0 146 23).toNat) = 32) → a 146 23 = a0 146 23) → (a 146 23 = ((SK (UB (a0 164)) (a0 146 22).toNat (a0 146 23).toNat) : Int)) → (∀ k : Nat, (k : Int) < a 146 25 → LT (UB (a0 164)) (a0 146 22).toNat ((SK (UB (a0 164)) (a0 146 22).toNat (a0 146 23).toNat) + k)) → (¬ LT (UB (a0 164)) (a0 146 22).toNat ((SK (UB (a0 164)) (a0 146 22).toNat (a0 146 23).toNat) + (a 146 25).toNat)) → (∀ v : Nat, (v : Int) < y1 → v < 16 → ¬ TW (UB (a0 164)) (a0 146 22).toNat (SK (UB (a0 164)) (a0 146 22).toNat (a0 146 23).toNat) v) → (y2 ≤ (wdn y1.toNat : Int)) → jt (jxX E d 216 96 [some (.inr (.inr (.inl 146))), some (.inl y1), some (.inl y2), none, none] [] (jxSH, a, b0)) (jQ_X12_wordHere a0 b0)) ∧ (∀ (y1 : Int) (a : Nat → Nat → Int), (((16 - y1) * 17) + 16).toNat ≤ n → iv a → jfr jW_X12_wordHere a0 a → 0 ≤ y1 → y1 ≤ 16 → (a 146 23) + (a 146 25) ≤ a 146 22 → a0 146 23 ≤ a 146 23 → ((a0 146 23 < a0 146 22 ∧ ¬ a0 164 ((a0 146 23).toNat) = 32) → a 146 23 = a0 146 23) → (a 146 23 = ((SK (UB (a0 164)) (a0 146 22).toNat (a0 146 23).toNat) : Int)) → (∀ k : Nat, (k : Int) < a 146 25 → LT (UB (a0 164)) (a0 146 22).toNat ((SK (UB (a0 164)) (a0 146 22).toNat (a0 146 23).toNat) + k)) → (¬ LT (UB (a0 164)) (a0 146 22).toNat ((SK (UB (a0 164)) (a0 146 22).toNat (a0 146 23).toNat) + (a 146 25).toNat)) → (∀ v : Nat, (v : Int) < y1 → v < 16 → ¬ TW (UB (a0 164)) (a0 146 22).toNat (SK (UB (a0 164)) (a0 146 22).toNat (a0 146 23).toNat) v) → jt (jxX E d 216 79 [some (.inr (.inr (.inl 146))), some (.inl y1), none, none, none] [] (jxSH, a, b0)) (jQ_X12_wordHere a0 b0)) := by
  refine jx_ind fun n ih => ?_
  have ih176 : ∀ (y1 y2 y4 : Int) (a : Nat → Nat → Int), (((((16 - y1) * 17) + 0) + ((6 - y4) * 1)) + 0).toNat < n → iv a → jfr jW_X12_wordHere a0 a → 0 ≤ y1 → y1 ≤ 15 → 1 ≤ y2 → y2 ≤ 6 → 0 ≤ y4 → y4 ≤ 5 → a 146 25 ≤ 6 → (a 146 23) + (a 146 25) ≤ a 146 22 → a0 146 23 ≤ a 146 23 → 2 ≤ y2 → (y1 = 2 → y2 = 3) → y2 = a 146 25 → y4 < y2 → ((a0 146 23 < a0 146 22 ∧ ¬ a0 164 ((a0 146 23).toNat) = 32) → a 146 23 = a0 146 23) → (a 146 23 = ((SK (UB (a0 164)) (a0 146 22).toNat (a0 146 23).toNat) : Int)) → (∀ k : Nat, (k : Int) < a 146 25 → LT (UB (a0 164)) (a0 146 22).toNat ((SK (UB (a0 164)) (a0 146 22).toNat (a0 146 23).toNat) + k)) → (¬ LT (UB (a0 164)) (a0 146 22).toNat ((SK (UB (a0 164)) (a0 146 22).toNat (a0 146 23).toNat) + (a 146 25).toNat)) → (∀ v : Nat, (v : Int) < y1 → v < 16 → ¬ TW (UB (a0 164)) (a0 146 22).toNat (SK (UB (a0 164)) (a0 146 22).toNat (a0 146 23).toNat) v) → (y2 = (wdn y1.toNat : Int)) → (y2 = a 146 25) → (∀ k : Nat, (k : Int) < y4 + 1 → (UB (a0 164)) ((SK (UB (a0 164)) (a0 146 22).toNat (a0 146 23).toNat) + k) = (wdl y1.toNat).getD k 0) → jt (jxX E d 216 176 [some (.inr (.inr (.inl 146))), some (.inl y1), some (.inl y2), none, some (.inl y4)] [] (jxSH, a, b0)) (jQ_X12_wordHere a0 b0) := fun y1 y2 y4 a hlt i0 i1 i2 i3 i4 i5 i6 i7 i8 i9 i10 i11 i12 i13 i14 i15 i16 i17 i18 i19 i20 i21 i22 => (ih _ hlt).1 y1 y2 y4 a (Nat.le_refl _) i0 i1 i2 i3 i4 i5 i6 i7 i8 i9 i10 i11 i12 i13 i14 i15 i16 i17 i18 i19 i20 i21 i22
  have ih180 : ∀ (y1 y2 y4 : Int) (a : Nat → Nat → Int), (((((16 - y1) * 17) + 0) + ((6 - y4) * 1)) + 0).toNat < n → iv a → jfr jW_X12_wordHere a0 a → 0 ≤ y1 → y1 ≤ 15 → 1 ≤ y2 → y2 ≤ 6 → 0 ≤ y4 → y4 ≤ 5 → a 146 25 ≤ 6 → (a 146 23) + (a 146 25) ≤ a 146 22 → a0 146 23 ≤ a 146 23 → 2 ≤ y2 → (y1 = 2 → y2 = 3) → y2 = a 146 25 → y4 < y2 → ((a0 146 23 < a0 146 22 ∧ ¬ a0 164 ((a0 146 23).toNat) = 32) → a 146 23 = a0 146 23) → (a 146 23 = ((SK (UB (a0 164)) (a0 146 22).toNat (a0 146 23).toNat) : Int)) → (∀ k : Nat, (k : Int) < a 146 25 → LT (UB (a0 164)) (a0 146 22).toNat ((SK (UB (a0 164)) (a0 146 22).toNat (a0 146 23).toNat) + k)) → (¬ LT (UB (a0 164)) (a0 146 22).toNat ((SK (UB (a0 164)) (a0 146 22).toNat (a0 146 23).toNat) + (a 146 25).toNat)) → (∀ v : Nat, (v : Int) < y1 → v < 16 → ¬ TW (UB (a0 164)) (a0 146 22).toNat (SK (UB (a0 164)) (a0 146 22).toNat (a0 146 23).toNat) v) → (y2 = (wdn y1.toNat : Int)) → (¬ TW (UB (a0 164)) (a0 146 22).toNat (SK (UB (a0 164)) (a0 146 22).toNat (a0 146 23).toNat) y1.toNat) → jt (jxX E d 216 180 [some (.inr (.inr (.inl 146))), some (.inl y1), some (.inl y2), none, some (.inl y4)] [] (jxSH, a, b0)) (jQ_X12_wordHere a0 b0) := fun y1 y2 y4 a hlt i0 i1 i2 i3 i4 i5 i6 i7 i8 i9 i10 i11 i12 i13 i14 i15 i16 i17 i18 i19 i20 i21 => (ih _ hlt).2.1 y1 y2 y4 a (Nat.le_refl _) i0 i1 i2 i3 i4 i5 i6 i7 i8 i9 i10 i11 i12 i13 i14 i15 i16 i17 i18 i19 i20 i21
  have ih139 : ∀ (y1 y2 y3 y4 : Int) (a : Nat → Nat → Int), (((((16 - y1) * 17) + 0) + ((6 - y4) * 1)) + 0).toNat < n → iv a → jfr jW_X12_wordHere a0 a → 0 ≤ y1 → y1 ≤ 15 → 0 ≤ y2 → y2 ≤ 6 → 0 ≤ y3 → y3 ≤ 1 → 0 ≤ y4 → y4 ≤ 6 → a 146 25 ≤ 6 → (a 146 23) + (a 146 25) ≤ a 146 22 → a0 146 23 ≤ a 146 23 → 2 ≤ y2 → (y1 = 2 → y2 = 3) → (y3 = 0 ∨ y2 = a 146 25) → (y3 = 0 ∨ y3 = 1) → ((a0 146 23 < a0 146 22 ∧ ¬ a0 164 ((a0 146 23).toNat) = 32) → a 146 23 = a0 146 23) → (a 146 23 = ((SK (UB (a0 164)) (a0 146 22).toNat (a0 146 23).toNat) : Int)) → (∀ k : Nat, (k : Int) < a 146 25 → LT (UB (a0 164)) (a0 146 22).toNat ((SK (UB (a0 164)) (a0 146 22).toNat (a0 146 23).toNat) + k)) → (¬ LT (UB (a0 164)) (a0 146 22).toNat ((SK (UB (a0 164)) (a0 146 22).toNat (a0 146 23).toNat) + (a 146 25).toNat)) → (∀ v : Nat, (v : Int) < y1 → v < 16 → ¬ TW (UB (a0 164)) (a0 146 22).toNat (SK (UB (a0 164)) (a0 146 22).toNat (a0 146 23).toNat) v) → (y2 = (wdn y1.toNat : Int)) → ((y3 = 0 ∧ ¬ TW (UB (a0 164)) (a0 146 22).toNat (SK (UB (a0 164)) (a0 146 22).toNat (a0 146 23).toNat) y1.toNat) ∨ (y3 = 1 ∧ y2 = a 146 25 ∧ ∀ k : Nat, (k : Int) < y4 → (UB (a0 164)) ((SK (UB (a0 164)) (a0 146 22).toNat (a0 146 23).toNat) + k) = (wdl y1.toNat).getD k 0)) → jt (jxX E d 216 139 [some (.inr (.inr (.inl 146))), some (.inl y1), some (.inl y2), some (.inl y3), some (.inl y4)] [] (jxSH, a, b0)) (jQ_X12_wordHere a0 b0) := fun y1 y2 y3 y4 a hlt i0 i1 i2 i3 i4 i5 i6 i7 i8 i9 i10 i11 i12 i13 i14 i15 i16 i17 i18 i19 i20 i21 i22 i23 => (ih _ hlt).2.2.1 y1 y2 y3 y4 a (Nat.le_refl _) i0 i1 i2 i3 i4 i5 i6 i7 i8 i9 i10 i11 i12 i13 i14 i15 i16 i17 i18 i19 i20 i21 i22 i23
  have ih122 : ∀ (y1 y2 : Int) (a : Nat → Nat → Int), (((16 - y1) * 17) + 8).toNat < n → iv a → jfr jW_X12_wordHere a0 a → 0 ≤ y1 → y1 ≤ 15 → 0 ≤ y2 → y2 ≤ 6 → a 146 25 ≤ 6 → (a 146 23) + (a 146 25) ≤ a 146 22 → a0 146 23 ≤ a 146 23 → (y1 = 2 → y2 = 3) → 2 ≤ y2 → ((a0 146 23 < a0 146 22 ∧ ¬ a0 164 ((a0 146 23).toNat) = 32) → a 146 23 = a0 146 23) → (a 146 23 = ((SK (UB (a0 164)) (a0 146 22).toNat (a0 146 23).toNat) : Int)) → (∀ k : Nat, (k : Int) < a 146 25 → LT (UB (a0 164)) (a0 146 22).toNat ((SK (UB (a0 164)) (a0 146 22).toNat (a0 146 23).toNat) + k)) → (¬ LT (UB (a0 164)) (a0 146 22).toNat ((SK (UB (a0 164)) (a0 146 22).toNat (a0 146 23).toNat) + (a 146 25).toNat)) → (∀ v : Nat, (v : Int) < y1 → v < 16 → ¬ TW (UB (a0 164)) (a0 146 22).toNat (SK (UB (a0 164)) (a0 146 22).toNat (a0 146 23).toNat) v) → (y2 = (wdn y1.toNat : Int)) → jt (jxX E d 216 122 [some (.inr (.inr (.inl 146))), some (.inl y1), some (.inl y2), none, none] [] (jxSH, a, b0)) (jQ_X12_wordHere a0 b0) := fun y1 y2 a hlt i0 i1 i2 i3 i4 i5 i6 i7 i8 i9 i10 i11 i12 i13 i14 i15 i16 => (ih _ hlt).2.2.2.1 y1 y2 a (Nat.le_refl _) i0 i1 i2 i3 i4 i5 i6 i7 i8 i9 i10 i11 i12 i13 i14 i15 i16
  have ih96 : ∀ (y1 y2 : Int) (a : Nat → Nat → Int), (((((16 - y1) * 17) + 8) + ((6 - y2) * 1)) + 0).toNat < n → iv a → jfr jW_X12_wordHere a0 a → 0 ≤ y1 → y1 ≤ 15 → 0 ≤ y2 → y2 ≤ 6 → a 146 25 ≤ 6 → (a 146 23) + (a 146 25) ≤ a 146 22 → a0 146 23 ≤ a 146 23 → (y1 = 2 → y2 ≤ 3) → ((a0 146 23 < a0 146 22 ∧ ¬ a0 164 ((a0 146 23).toNat) = 32) → a 146 23 = a0 146 23) → (a 146 23 = ((SK (UB (a0 164)) (a0 146 22).toNat (a0 146 23).toNat) : Int)) → (∀ k : Nat, (k : Int) < a 146 25 → LT (UB (a0 164)) (a0 146 22).toNat ((SK (UB (a0 164)) (a0 146 22).toNat (a0 146 23).toNat) + k)) → (¬ LT (UB (a0 164)) (a0 146 22).toNat ((SK (UB (a0 164)) (a0 146 22).toNat (a0 146 23).toNat) + (a 146 25).toNat)) → (∀ v : Nat, (v : Int) < y1 → v < 16 → ¬ TW (UB (a0 164)) (a0 146 22).toNat (SK (UB (a0 164)) (a0 146 22).toNat (a0 146 23).toNat) v) → (y2 ≤ (wdn y1.toNat : Int)) → jt (jxX E d 216 96 [some (.inr (.inr (.inl 146))), some (.inl y1), some (.inl y2), none, none] [] (jxSH, a, b0)) (jQ_X12_wordHere a0 b0) := fun y1 y2 a hlt i0 i1 i2 i3 i4 i5 i6 i7 i8 i9 i10 i11 i12 i13 i14 i15 => (ih _ hlt).2.2.2.2.1 y1 y2 a (Nat.le_refl _) i0 i1 i2 i3 i4 i5 i6 i7 i8 i9 i10 i11 i12 i13 i14 i15
  have ih79 : ∀ (y1 : Int) (a : Nat → Nat → Int), (((16 - y1) * 17) + 16).toNat < n → iv a → jfr jW_X12_wordHere a0 a → 0 ≤ y1 → y1 ≤ 16 → (a 146 23) + (a 146 25) ≤ a 146 22 → a0 146 23 ≤ a 146 23 → ((a0 146 23 < a0 146 22 ∧ ¬ a0 164 ((a0 146 23).toNat) = 32) → a 146 23 = a0 146 23) → (a 146 23 = ((SK (UB (a0 164)) (a0 146 22).toNat (a0 146 23).toNat) : Int)) → (∀ k : Nat, (k : Int) < a 146 25 → LT (UB (a0 164)) (a0 146 22).toNat ((SK (UB (a0 164)) (a0 146 22).toNat (a0 146 23).toNat) + k)) → (¬ LT (UB (a0 164)) (a0 146 22).toNat ((SK (UB (a0 164)) (a0 146 22).toNat (a0 146 23).toNat) + (a 146 25).toNat)) → (∀ v : Nat, (v : Int) < y1 → v < 16 → ¬ TW (UB (a0 164)) (a0 146 22).toNat (SK (UB (a0 164)) (a0 146 22).toNat (a0 146 23).toNat) v) → jt (jxX E d 216 79 [some (.inr (.inr (.inl 146))), some (.inl y1), none, none, none] [] (jxSH, a, b0)) (jQ_X12_wordHere a0 b0) := fun y1 a hlt i0 i1 i2 i3 i4 i5 i6 i7 i8 i9 i10 => (ih _ hlt).2.2.2.2.2 y1 a (Nat.le_refl _) i0 i1 i2 i3 i4 i5 i6 i7 i8 i9 i10
  have hc176 : ∀ (y1 y2 y4 : Int) (a : Nat → Nat → Int), (((((16 - y1) * 17) + 0) + ((6 - y4) * 1)) + 0).toNat ≤ n → iv a → jfr jW_X12_wordHere a0 a → 0 ≤ y1 → y1 ≤ 15 → 1 ≤ y2 → y2 ≤ 6 → 0 ≤ y4 → y4 ≤ 5 → a 146 25 ≤ 6 → (a 146 23) + (a 146 25) ≤ a 146 22 → a0 146 23 ≤ a 146 23 → 2 ≤ y2 → (y1 = 2 → y2 = 3) → y2 = a 146 25 → y4 < y2 → ((a0 146 23 < a0 146 22 ∧ ¬ a0 164 ((a0 146 23).toNat) = 32) → a 146 23 = a0 146 23) → (a 146 23 = ((SK (UB (a0 164)) (a0 146 22).toNat (a0 146 23).toNat) : Int)) → (∀ k : Nat, (k : Int) < a 146 25 → LT (UB (a0 164)) (a0 146 22).toNat ((SK (UB (a0 164)) (a0 146 22).toNat (a0 146 23).toNat) + k)) → (¬ LT (UB (a0 164)) (a0 146 22).toNat ((SK (UB (a0 164)) (a0 146 22).toNat (a0 146 23).toNat) + (a 146 25).toNat)) → (∀ v : Nat, (v : Int) < y1 → v < 16 → ¬ TW (UB (a0 164)) (a0 146 22).toNat (SK (UB (a0 164)) (a0 146 22).toNat (a0 146 23).toNat) v) → (y2 = (wdn y1.toNat : Int)) → (y2 = a 146 25) → (∀ k : Nat, (k : Int) < y4 + 1 → (UB (a0 164)) ((SK (UB (a0 164)) (a0 146 22).toNat (a0 146 23).toNat) + k) = (wdl y1.toNat).getD k 0) → jt (jxX E d 216 176 [some (.inr (.inr (.inl 146))), some (.inl y1), some (.inl y2), none, some (.inl y4)] [] (jxSH, a, b0)) (jQ_X12_wordHere a0 b0) := by
    intro y1 y2 y4 a hm hv hf hi0 hi1 hi2 hi3 hi4 hi5 hi6 hi7 hi8 hi9 hi10 hi11 hi12 hi13 hn hl hnl hno hwn hsz hch
    refine jt_eq (bq_X12_wordHere_176 E d y1 y2 y4 a b0) ?_
    have h1248_ := iv_get hv (k := 146) (j := 25) (l := 0) (u := 200) rfl
    have h1249_ := iv_get hv (k := 146) (j := 23) (l := 0) (u := 200) rfl
    have h1250_ := iv_get hv (k := 146) (j := 22) (l := 0) (u := 200) rfl
    have h1251_ : a 146 22 = a0 146 22 := hf 146 22 rfl
    have h1252_ := iv_get hv0 (k := 146) (j := 22) (l := 0) (u := 200) rfl
    have h1253_ := iv_get hv0 (k := 146) (j := 23) (l := 0) (u := 200) rfl
    have h1254_ := iv_get hv0 (k := 164) (j := (a0 146 23).toNat) (l := (-128)) (u := 127) rfl
    have h4 : a 164 = a0 164 := funext fun j => hf 164 j rfl
    have h22 := hf 146 22 rfl
    have h1255_ : jxw (y4 + 1) = y4 + 1 := jxw_id (by omega) (by omega)
    exact ih139 y1 y2 1 (jxw (y4 + 1)) a (show (((((16 - y1) * 17) + 0) + ((6 - (jxw (y4 + 1))) * 1)) + 0).toNat < n from by omega) hv hf (show 0 ≤ y1 from by omega) (show y1 ≤ 15 from by omega) (show 0 ≤ y2 from by omega) (show y2 ≤ 6 from by omega) (show 0 ≤ 1 from by omega) (show 1 ≤ 1 from by omega) (show 0 ≤ jxw (y4 + 1) from by omega) (show jxw (y4 + 1) ≤ 6 from by omega) (show a 146 25 ≤ 6 from by omega) (show (a 146 23) + (a 146 25) ≤ a 146 22 from by omega) (show a0 146 23 ≤ a 146 23 from by omega) (show 2 ≤ y2 from by omega) (show (y1 = 2 → y2 = 3) from by omega) (show (1 = 0 ∨ y2 = a 146 25) from by omega) (show (1 = 0 ∨ 1 = 1) from by omega) (show ((a0 146 23 < a0 146 22 ∧ ¬ a0 164 ((a0 146 23).toNat) = 32) → a 146 23 = a0 146 23) from by omega) (by first | exact hn | (have e := hq0_4; exact e)) (by first | exact hl | exact (fun k hk => absurd hk (show ¬ (k : Int) < 0 by omega)) | exact lt_ext hl hl1 (by omega) (show jxw ((a 146 25) + 1) = a 146 25 + 1 by omega)) (by first | exact hnl | (rw [show (SK (UB (a0 164)) (a0 146 22).toNat (a0 146 23).toNat) + (a 146 25).toNat = (jxw ((a 146 23) + (a 146 25))).toNat from by omega, ← h4]; exact LT_no1 (by omega))) hno hwn (by first | exact Or.inl ⟨rfl, fun t => by have e := TW_run (s := (a 146 25).toNat) (by omega) (fun k hk => hl k (by omega)) hnl t; omega⟩ | exact Or.inr ⟨rfl, by omega, fun k hk => absurd hk (by omega)⟩ | exact Or.inl ⟨rfl, hno1⟩ | exact Or.inr ⟨rfl, hsz, by rw [show jxw (y4 + 1) = y4 + 1 from by omega]; exact hch⟩)
  have hc180 : ∀ (y1 y2 y4 : Int) (a : Nat → Nat → Int), (((((16 - y1) * 17) + 0) + ((6 - y4) * 1)) + 0).toNat ≤ n → iv a → jfr jW_X12_wordHere a0 a → 0 ≤ y1 → y1 ≤ 15 → 1 ≤ y2 → y2 ≤ 6 → 0 ≤ y4 → y4 ≤ 5 → a 146 25 ≤ 6 → (a 146 23) + (a 146 25) ≤ a 146 22 → a0 146 23 ≤ a 146 23 → 2 ≤ y2 → (y1 = 2 → y2 = 3) → y2 = a 146 25 → y4 < y2 → ((a0 146 23 < a0 146 22 ∧ ¬ a0 164 ((a0 146 23).toNat) = 32) → a 146 23 = a0 146 23) → (a 146 23 = ((SK (UB (a0 164)) (a0 146 22).toNat (a0 146 23).toNat) : Int)) → (∀ k : Nat, (k : Int) < a 146 25 → LT (UB (a0 164)) (a0 146 22).toNat ((SK (UB (a0 164)) (a0 146 22).toNat (a0 146 23).toNat) + k)) → (¬ LT (UB (a0 164)) (a0 146 22).toNat ((SK (UB (a0 164)) (a0 146 22).toNat (a0 146 23).toNat) + (a 146 25).toNat)) → (∀ v : Nat, (v : Int) < y1 → v < 16 → ¬ TW (UB (a0 164)) (a0 146 22).toNat (SK (UB (a0 164)) (a0 146 22).toNat (a0 146 23).toNat) v) → (y2 = (wdn y1.toNat : Int)) → (¬ TW (UB (a0 164)) (a0 146 22).toNat (SK (UB (a0 164)) (a0 146 22).toNat (a0 146 23).toNat) y1.toNat) → jt (jxX E d 216 180 [some (.inr (.inr (.inl 146))), some (.inl y1), some (.inl y2), none, some (.inl y4)] [] (jxSH, a, b0)) (jQ_X12_wordHere a0 b0) := by
    intro y1 y2 y4 a hm hv hf hi0 hi1 hi2 hi3 hi4 hi5 hi6 hi7 hi8 hi9 hi10 hi11 hi12 hi13 hn hl hnl hno hwn hno1
    refine jt_eq (bq_X12_wordHere_180 E d y1 y2 y4 a b0) ?_
    have h1256_ := iv_get hv (k := 146) (j := 25) (l := 0) (u := 200) rfl
    have h1257_ := iv_get hv (k := 146) (j := 23) (l := 0) (u := 200) rfl
    have h1258_ := iv_get hv (k := 146) (j := 22) (l := 0) (u := 200) rfl
    have h1259_ : a 146 22 = a0 146 22 := hf 146 22 rfl
    have h1260_ := iv_get hv0 (k := 146) (j := 22) (l := 0) (u := 200) rfl
    have h1261_ := iv_get hv0 (k := 146) (j := 23) (l := 0) (u := 200) rfl
    have h1262_ := iv_get hv0 (k := 164) (j := (a0 146 23).toNat) (l := (-128)) (u := 127) rfl
    have h4 : a 164 = a0 164 := funext fun j => hf 164 j rfl
    have h22 := hf 146 22 rfl
    have h1263_ : jxw (y4 + 1) = y4 + 1 := jxw_id (by omega) (by omega)
    exact ih139 y1 y2 0 (jxw (y4 + 1)) a (show (((((16 - y1) * 17) + 0) + ((6 - (jxw (y4 + 1))) * 1)) + 0).toNat < n from by omega) hv hf (show 0 ≤ y1 from by omega) (show y1 ≤ 15 from by omega) (show 0 ≤ y2 from by omega) (show y2 ≤ 6 from by omega) (show 0 ≤ 0 from by omega) (show 0 ≤ 1 from by omega) (show 0 ≤ jxw (y4 + 1) from by omega) (show jxw (y4 + 1) ≤ 6 from by omega) (show a 146 25 ≤ 6 from by omega) (show (a 146 23) + (a 146 25) ≤ a 146 22 from by omega) (show a0 146 23 ≤ a 146 23 from by omega) (show 2 ≤ y2 from by omega) (show (y1 = 2 → y2 = 3) from by omega) (show (0 = 0 ∨ y2 = a 146 25) from by omega) (show (0 = 0 ∨ 0 = 1) from by omega) (show ((a0 146 23 < a0 146 22 ∧ ¬ a0 164 ((a0 146 23).toNat) = 32) → a 146 23 = a0 146 23) from by omega) (by first | exact hn | (have e := hq0_4; exact e)) (by first | exact hl | exact (fun k hk => absurd hk (show ¬ (k : Int) < 0 by omega)) | exact lt_ext hl hl1 (by omega) (show jxw ((a 146 25) + 1) = a 146 25 + 1 by omega)) (by first | exact hnl | (rw [show (SK (UB (a0 164)) (a0 146 22).toNat (a0 146 23).toNat) + (a 146 25).toNat = (jxw ((a 146 23) + (a 146 25))).toNat from by omega, ← h4]; exact LT_no1 (by omega))) hno hwn (by first | exact Or.inl ⟨rfl, fun t => by have e := TW_run (s := (a 146 25).toNat) (by omega) (fun k hk => hl k (by omega)) hnl t; omega⟩ | exact Or.inr ⟨rfl, by omega, fun k hk => absurd hk (by omega)⟩ | exact Or.inl ⟨rfl, hno1⟩ | exact Or.inr ⟨rfl, hsz, by rw [show jxw (y4 + 1) = y4 + 1 from by omega]; exact hch⟩)
  have hc139 : ∀ (y1 y2 y3 y4 : Int) (a : Nat → Nat → Int), (((((16 - y1) * 17) + 0) + ((6 - y4) * 1)) + 0).toNat ≤ n → iv a → jfr jW_X12_wordHere a0 a → 0 ≤ y1 → y1 ≤ 15 → 0 ≤ y2 → y2 ≤ 6 → 0 ≤ y3 → y3 ≤ 1 → 0 ≤ y4 → y4 ≤ 6 → a 146 25 ≤ 6 → (a 146 23) + (a 146 25) ≤ a 146 22 → a0 146 23 ≤ a 146 23 → 2 ≤ y2 → (y1 = 2 → y2 = 3) → (y3 = 0 ∨ y2 = a 146 25) → (y3 = 0 ∨ y3 = 1) → ((a0 146 23 < a0 146 22 ∧ ¬ a0 164 ((a0 146 23).toNat) = 32) → a 146 23 = a0 146 23) → (a 146 23 = ((SK (UB (a0 164)) (a0 146 22).toNat (a0 146 23).toNat) : Int)) → (∀ k : Nat, (k : Int) < a 146 25 → LT (UB (a0 164)) (a0 146 22).toNat ((SK (UB (a0 164)) (a0 146 22).toNat (a0 146 23).toNat) + k)) → (¬ LT (UB (a0 164)) (a0 146 22).toNat ((SK (UB (a0 164)) (a0 146 22).toNat (a0 146 23).toNat) + (a 146 25).toNat)) → (∀ v : Nat, (v : Int) < y1 → v < 16 → ¬ TW (UB (a0 164)) (a0 146 22).toNat (SK (UB (a0 164)) (a0 146 22).toNat (a0 146 23).toNat) v) → (y2 = (wdn y1.toNat : Int)) → ((y3 = 0 ∧ ¬ TW (UB (a0 164)) (a0 146 22).toNat (SK (UB (a0 164)) (a0 146 22).toNat (a0 146 23).toNat) y1.toNat) ∨ (y3 = 1 ∧ y2 = a 146 25 ∧ ∀ k : Nat, (k : Int) < y4 → (UB (a0 164)) ((SK (UB (a0 164)) (a0 146 22).toNat (a0 146 23).toNat) + k) = (wdl y1.toNat).getD k 0)) → jt (jxX E d 216 139 [some (.inr (.inr (.inl 146))), some (.inl y1), some (.inl y2), some (.inl y3), some (.inl y4)] [] (jxSH, a, b0)) (jQ_X12_wordHere a0 b0) := by
    intro y1 y2 y3 y4 a hm hv hf hi0 hi1 hi2 hi3 hi4 hi5 hi6 hi7 hi8 hi9 hi10 hi11 hi12 hi13 hi14 hi15 hn hl hnl hno hwn hs
    refine jt_eq (bq_X12_wordHere_139 E d y1 y2 y3 y4 a b0) ?_
    have h1264_ := iv_get hv (k := 146) (j := 25) (l := 0) (u := 200) rfl
    have h1265_ := iv_get hv (k := 146) (j := 23) (l := 0) (u := 200) rfl
    have h1266_ := iv_get hv (k := 146) (j := 22) (l := 0) (u := 200) rfl
    have h1267_ : a 146 22 = a0 146 22 := hf 146 22 rfl
    have h1268_ := iv_get hv0 (k := 146) (j := 22) (l := 0) (u := 200) rfl
    have h1269_ := iv_get hv0 (k := 146) (j := 23) (l := 0) (u := 200) rfl
    have h1270_ := iv_get hv0 (k := 164) (j := (a0 146 23).toNat) (l := (-128)) (u := 127) rfl
    have h4 : a 164 = a0 164 := funext fun j => hf 164 j rfl
    have h22 := hf 146 22 rfl
    have hub := UB_sp (g := a 164) (j := (jxw ((a 146 23) + y4)).toNat) (iv_get hv (k := 164) (j := (jxw ((a 146 23) + y4)).toNat) (l := -128) (u := 127) rfl).1 (iv_get hv (k := 164) (j := (jxw ((a 146 23) + y4)).toNat) (l := -128) (u := 127) rfl).2
    refine jt_ite (fun c1271_ => ?_) (fun c1271_ => ?_)
    ·
      refine jt_ite (fun c1272_ => ?_) (fun c1272_ => ?_)
      ·
        have h1273_ : jxw (y1 + 1) = y1 + 1 := jxw_id (by omega) (by omega)
        exact ih79 (jxw (y1 + 1)) a (show (((16 - (jxw (y1 + 1))) * 17) + 16).toNat < n from by omega) hv hf (show 0 ≤ jxw (y1 + 1) from by omega) (show jxw (y1 + 1) ≤ 16 from by omega) (show (a 146 23) + (a 146 25) ≤ a 146 22 from by omega) (show a0 146 23 ≤ a 146 23 from by omega) (show ((a0 146 23 < a0 146 22 ∧ ¬ a0 164 ((a0 146 23).toNat) = 32) → a 146 23 = a0 146 23) from by omega) (by first | exact hn | (have e := hq0_4; exact e)) (by first | exact hl | exact (fun k hk => absurd hk (show ¬ (k : Int) < 0 by omega)) | exact lt_ext hl hl1 (by omega) (show jxw ((a 146 25) + 1) = a 146 25 + 1 by omega)) (by first | exact hnl | (rw [show (SK (UB (a0 164)) (a0 146 22).toNat (a0 146 23).toNat) + (a 146 25).toNat = (jxw ((a 146 23) + (a 146 25))).toNat from by omega, ← h4]; exact LT_no1 (by omega))) (by first | exact (fun v h => absurd h (by omega)) | exact no_ext hno hno1 (by omega) (show jxw (y1 + 1) = y1 + 1 by omega) | (rcases hs with hs | hs <;> first | exact no_ext hno hs.2 (by omega) (show jxw (y1 + 1) = y1 + 1 by omega) | exact absurd hs.1 (by omega)))
      ·
        exact jt_rI ⟨hv, hf, rfl, (show (a 146 23) + (a 146 25) ≤ a 146 22 from by omega), (show a0 146 23 ≤ a 146 23 from by omega), (show 0 - 1 ≤ y1 from by omega), (show y1 ≤ 15 from by omega), (show (y1 = 2 → a 146 25 = 3) from by omega), (show (0 ≤ y1 → 2 ≤ a 146 25) from by omega), (show ((a0 146 23 < a0 146 22 ∧ ¬ a0 164 ((a0 146 23).toNat) = 32) → a 146 23 = a0 146 23) from by omega), hn, (by first | exact (fun w hw => ⟨fun t => absurd t (hno w (by omega) hw), fun e => absurd e (by omega)⟩) | exact (fun w hw => ⟨fun t => by have e := TW_run (s := (a 146 25).toNat) hw (fun k hk => hl k (by omega)) hnl t; have hb := wdn_bd w hw; omega, fun e => absurd e (by omega)⟩) | (rcases hs with hs | hs <;> first | exact absurd hs.1 (by assumption) | (have ht := TW_mk (w := y1.toNat) (q := (SK (UB (a0 164)) (a0 146 22).toNat (a0 146 23).toNat) + (a 146 25).toNat) (by omega) (by omega) (fun k hk => hs.2.2 k (by omega)) hnl; exact fun w hw => ⟨fun t => by have e := TW_one (by omega) hw ht t; omega, fun e => by rw [show w = y1.toNat from by omega]; exact ht⟩))), (by first | exact (fun h => absurd h (by decide)) | (rcases hs with hs | hs <;> first | exact absurd hs.1 (by assumption) | exact (fun _ => by rw [← hs.2.1]; exact hwn)))⟩
    ·
      refine jt_ite (fun c1274_ => ?_) (fun c1274_ => ?_)
      ·
        have h1275_ : jxw (6 * y1) = 6 * y1 := jxw_id (by omega) (by omega)
        have h1276_ : jxw ((jxw (6 * y1)) + y4) = (jxw (6 * y1)) + y4 := jxw_id (by omega) (by omega)
        refine jt_grd (by omega) ?_
        have h1277_ : jxw ((a 146 23) + y4) = (a 146 23) + y4 := jxw_id (by omega) (by omega)
        refine jt_grd (by omega) ?_
        have h1278_ := iv_wd hv ((jxw ((jxw (6 * y1)) + y4)).toNat)
        have h1279_ : a 165 ((jxw ((jxw (6 * y1)) + y4)).toNat) = a0 165 ((jxw ((jxw (6 * y1)) + y4)).toNat) := hf 165 ((jxw ((jxw (6 * y1)) + y4)).toNat) rfl
        have h1280_ := iv_wd hv0 ((jxw ((jxw (6 * y1)) + y4)).toNat)
        have h1281_ := iv_get hv (k := 164) (j := (jxw ((a 146 23) + y4)).toNat) (l := (-128)) (u := 127) rfl
        have h1282_ : a 164 ((jxw ((a 146 23) + y4)).toNat) = a0 164 ((jxw ((a 146 23) + y4)).toNat) := hf 164 ((jxw ((a 146 23) + y4)).toNat) rfl
        have h1283_ := iv_get hv0 (k := 164) (j := (jxw ((a 146 23) + y4)).toNat) (l := (-128)) (u := 127) rfl
        refine jt_ite (fun c1284_ => ?_) (fun c1284_ => ?_)
        ·
          exact hc176 y1 y2 y4 a (show (((((16 - y1) * 17) + 0) + ((6 - y4) * 1)) + 0).toNat ≤ n from by omega) hv hf (show 0 ≤ y1 from by omega) (show y1 ≤ 15 from by omega) (show 1 ≤ y2 from by omega) (show y2 ≤ 6 from by omega) (show 0 ≤ y4 from by omega) (show y4 ≤ 5 from by omega) (show a 146 25 ≤ 6 from by omega) (show (a 146 23) + (a 146 25) ≤ a 146 22 from by omega) (show a0 146 23 ≤ a 146 23 from by omega) (show 2 ≤ y2 from by omega) (show (y1 = 2 → y2 = 3) from by omega) (show y2 = a 146 25 from by omega) (show y4 < y2 from by omega) (show ((a0 146 23 < a0 146 22 ∧ ¬ a0 164 ((a0 146 23).toNat) = 32) → a 146 23 = a0 146 23) from by omega) (by first | exact hn | (have e := hq0_4; exact e)) (by first | exact hl | exact (fun k hk => absurd hk (show ¬ (k : Int) < 0 by omega)) | exact lt_ext hl hl1 (by omega) (show jxw ((a 146 25) + 1) = a 146 25 + 1 by omega)) (by first | exact hnl | (rw [show (SK (UB (a0 164)) (a0 146 22).toNat (a0 146 23).toNat) + (a 146 25).toNat = (jxw ((a 146 23) + (a 146 25))).toNat from by omega, ← h4]; exact LT_no1 (by omega))) hno hwn (by rcases hs with hs | hs <;> first | exact hs.2.1 | exact absurd hs.1 (by assumption)) (by rcases hs with hs | hs <;> first | exact absurd hs.1 (by assumption) | (have hwl := wdl_lt y1.toNat (by omega) y4.toNat (by omega); have h1 := wd_val (w := y1.toNat) (k := y4.toNat) (by omega) (by omega); rw [show 6 * y1.toNat + y4.toNat = (jxw ((jxw (6 * y1)) + y4)).toNat from by omega, ← iv_wd hv] at h1; exact ch_ext hs.2.2 (by omega) (q := (jxw ((a 146 23) + y4)).toNat) (by omega) (by rw [← h4]; exact (show _ = (wdl y1.toNat).getD y4.toNat 0 by omega)) rfl))
        ·
          exact hc180 y1 y2 y4 a (show (((((16 - y1) * 17) + 0) + ((6 - y4) * 1)) + 0).toNat ≤ n from by omega) hv hf (show 0 ≤ y1 from by omega) (show y1 ≤ 15 from by omega) (show 1 ≤ y2 from by omega) (show y2 ≤ 6 from by omega) (show 0 ≤ y4 from by omega) (show y4 ≤ 5 from by omega) (show a 146 25 ≤ 6 from by omega) (show (a 146 23) + (a 146 25) ≤ a 146 22 from by omega) (show a0 146 23 ≤ a 146 23 from by omega) (show 2 ≤ y2 from by omega) (show (y1 = 2 → y2 = 3) from by omega) (show y2 = a 146 25 from by omega) (show y4 < y2 from by omega) (show ((a0 146 23 < a0 146 22 ∧ ¬ a0 164 ((a0 146 23).toNat) = 32) → a 146 23 = a0 146 23) from by omega) (by first | exact hn | (have e := hq0_4; exact e)) (by first | exact hl | exact (fun k hk => absurd hk (show ¬ (k : Int) < 0 by omega)) | exact lt_ext hl hl1 (by omega) (show jxw ((a 146 25) + 1) = a 146 25 + 1 by omega)) (by first | exact hnl | (rw [show (SK (UB (a0 164)) (a0 146 22).toNat (a0 146 23).toNat) + (a 146 25).toNat = (jxw ((a 146 23) + (a 146 25))).toNat from by omega, ← h4]; exact LT_no1 (by omega))) hno hwn (by have hwl := wdl_lt y1.toNat (by omega) y4.toNat (by omega); have h1 := wd_val (w := y1.toNat) (k := y4.toNat) (by omega) (by omega); rw [show 6 * y1.toNat + y4.toNat = (jxw ((jxw (6 * y1)) + y4)).toNat from by omega, ← iv_wd hv] at h1; exact TW_no (y := y4) (by omega) (by omega) (q := (jxw ((a 146 23) + y4)).toNat) (by omega) rfl (by rw [← h4]; omega))
      ·
        refine jt_ite (fun c1285_ => ?_) (fun c1285_ => ?_)
        ·
          have h1286_ : jxw (y1 + 1) = y1 + 1 := jxw_id (by omega) (by omega)
          exact ih79 (jxw (y1 + 1)) a (show (((16 - (jxw (y1 + 1))) * 17) + 16).toNat < n from by omega) hv hf (show 0 ≤ jxw (y1 + 1) from by omega) (show jxw (y1 + 1) ≤ 16 from by omega) (show (a 146 23) + (a 146 25) ≤ a 146 22 from by omega) (show a0 146 23 ≤ a 146 23 from by omega) (show ((a0 146 23 < a0 146 22 ∧ ¬ a0 164 ((a0 146 23).toNat) = 32) → a 146 23 = a0 146 23) from by omega) (by first | exact hn | (have e := hq0_4; exact e)) (by first | exact hl | exact (fun k hk => absurd hk (show ¬ (k : Int) < 0 by omega)) | exact lt_ext hl hl1 (by omega) (show jxw ((a 146 25) + 1) = a 146 25 + 1 by omega)) (by first | exact hnl | (rw [show (SK (UB (a0 164)) (a0 146 22).toNat (a0 146 23).toNat) + (a 146 25).toNat = (jxw ((a 146 23) + (a 146 25))).toNat from by omega, ← h4]; exact LT_no1 (by omega))) (by first | exact (fun v h => absurd h (by omega)) | exact no_ext hno hno1 (by omega) (show jxw (y1 + 1) = y1 + 1 by omega) | (rcases hs with hs | hs <;> first | exact no_ext hno hs.2 (by omega) (show jxw (y1 + 1) = y1 + 1 by omega) | exact absurd hs.1 (by omega)))
        ·
          exact jt_rI ⟨hv, hf, rfl, (show (a 146 23) + (a 146 25) ≤ a 146 22 from by omega), (show a0 146 23 ≤ a 146 23 from by omega), (show 0 - 1 ≤ y1 from by omega), (show y1 ≤ 15 from by omega), (show (y1 = 2 → a 146 25 = 3) from by omega), (show (0 ≤ y1 → 2 ≤ a 146 25) from by omega), (show ((a0 146 23 < a0 146 22 ∧ ¬ a0 164 ((a0 146 23).toNat) = 32) → a 146 23 = a0 146 23) from by omega), hn, (by first | exact (fun w hw => ⟨fun t => absurd t (hno w (by omega) hw), fun e => absurd e (by omega)⟩) | exact (fun w hw => ⟨fun t => by have e := TW_run (s := (a 146 25).toNat) hw (fun k hk => hl k (by omega)) hnl t; have hb := wdn_bd w hw; omega, fun e => absurd e (by omega)⟩) | (rcases hs with hs | hs <;> first | exact absurd hs.1 (by assumption) | (have ht := TW_mk (w := y1.toNat) (q := (SK (UB (a0 164)) (a0 146 22).toNat (a0 146 23).toNat) + (a 146 25).toNat) (by omega) (by omega) (fun k hk => hs.2.2 k (by omega)) hnl; exact fun w hw => ⟨fun t => by have e := TW_one (by omega) hw ht t; omega, fun e => by rw [show w = y1.toNat from by omega]; exact ht⟩))), (by first | exact (fun h => absurd h (by decide)) | (rcases hs with hs | hs <;> first | exact absurd hs.1 (by assumption) | exact (fun _ => by rw [← hs.2.1]; exact hwn)))⟩
  have hc122 : ∀ (y1 y2 : Int) (a : Nat → Nat → Int), (((16 - y1) * 17) + 8).toNat ≤ n → iv a → jfr jW_X12_wordHere a0 a → 0 ≤ y1 → y1 ≤ 15 → 0 ≤ y2 → y2 ≤ 6 → a 146 25 ≤ 6 → (a 146 23) + (a 146 25) ≤ a 146 22 → a0 146 23 ≤ a 146 23 → (y1 = 2 → y2 = 3) → 2 ≤ y2 → ((a0 146 23 < a0 146 22 ∧ ¬ a0 164 ((a0 146 23).toNat) = 32) → a 146 23 = a0 146 23) → (a 146 23 = ((SK (UB (a0 164)) (a0 146 22).toNat (a0 146 23).toNat) : Int)) → (∀ k : Nat, (k : Int) < a 146 25 → LT (UB (a0 164)) (a0 146 22).toNat ((SK (UB (a0 164)) (a0 146 22).toNat (a0 146 23).toNat) + k)) → (¬ LT (UB (a0 164)) (a0 146 22).toNat ((SK (UB (a0 164)) (a0 146 22).toNat (a0 146 23).toNat) + (a 146 25).toNat)) → (∀ v : Nat, (v : Int) < y1 → v < 16 → ¬ TW (UB (a0 164)) (a0 146 22).toNat (SK (UB (a0 164)) (a0 146 22).toNat (a0 146 23).toNat) v) → (y2 = (wdn y1.toNat : Int)) → jt (jxX E d 216 122 [some (.inr (.inr (.inl 146))), some (.inl y1), some (.inl y2), none, none] [] (jxSH, a, b0)) (jQ_X12_wordHere a0 b0) := by
    intro y1 y2 a hm hv hf hi0 hi1 hi2 hi3 hi4 hi5 hi6 hi7 hi8 hi9 hn hl hnl hno hwn
    refine jt_eq (bq_X12_wordHere_122 E d y1 y2 a b0) ?_
    have h1287_ := iv_get hv (k := 146) (j := 25) (l := 0) (u := 200) rfl
    have h1288_ := iv_get hv (k := 146) (j := 23) (l := 0) (u := 200) rfl
    have h1289_ := iv_get hv (k := 146) (j := 22) (l := 0) (u := 200) rfl
    have h1290_ : a 146 22 = a0 146 22 := hf 146 22 rfl
    have h1291_ := iv_get hv0 (k := 146) (j := 22) (l := 0) (u := 200) rfl
    have h1292_ := iv_get hv0 (k := 146) (j := 23) (l := 0) (u := 200) rfl
    have h1293_ := iv_get hv0 (k := 164) (j := (a0 146 23).toNat) (l := (-128)) (u := 127) rfl
    have h4 : a 164 = a0 164 := funext fun j => hf 164 j rfl
    have h22 := hf 146 22 rfl
    refine jt_ite (fun c1294_ => ?_) (fun c1294_ => ?_)
    ·
      exact hc139 y1 y2 1 0 a (show (((((16 - y1) * 17) + 0) + ((6 - 0) * 1)) + 0).toNat ≤ n from by omega) hv hf (show 0 ≤ y1 from by omega) (show y1 ≤ 15 from by omega) (show 0 ≤ y2 from by omega) (show y2 ≤ 6 from by omega) (show 0 ≤ 1 from by omega) (show 1 ≤ 1 from by omega) (show 0 ≤ 0 from by omega) (show 0 ≤ 6 from by omega) (show a 146 25 ≤ 6 from by omega) (show (a 146 23) + (a 146 25) ≤ a 146 22 from by omega) (show a0 146 23 ≤ a 146 23 from by omega) (show 2 ≤ y2 from by omega) (show (y1 = 2 → y2 = 3) from by omega) (show (1 = 0 ∨ y2 = a 146 25) from by omega) (show (1 = 0 ∨ 1 = 1) from by omega) (show ((a0 146 23 < a0 146 22 ∧ ¬ a0 164 ((a0 146 23).toNat) = 32) → a 146 23 = a0 146 23) from by omega) (by first | exact hn | (have e := hq0_4; exact e)) (by first | exact hl | exact (fun k hk => absurd hk (show ¬ (k : Int) < 0 by omega)) | exact lt_ext hl hl1 (by omega) (show jxw ((a 146 25) + 1) = a 146 25 + 1 by omega)) (by first | exact hnl | (rw [show (SK (UB (a0 164)) (a0 146 22).toNat (a0 146 23).toNat) + (a 146 25).toNat = (jxw ((a 146 23) + (a 146 25))).toNat from by omega, ← h4]; exact LT_no1 (by omega))) hno hwn (by first | exact Or.inl ⟨rfl, fun t => by have e := TW_run (s := (a 146 25).toNat) (by omega) (fun k hk => hl k (by omega)) hnl t; omega⟩ | exact Or.inr ⟨rfl, by omega, fun k hk => absurd hk (by omega)⟩ | exact Or.inl ⟨rfl, hno1⟩ | exact Or.inr ⟨rfl, hsz, by rw [show jxw (y4 + 1) = y4 + 1 from by omega]; exact hch⟩)
    ·
      exact hc139 y1 y2 0 0 a (show (((((16 - y1) * 17) + 0) + ((6 - 0) * 1)) + 0).toNat ≤ n from by omega) hv hf (show 0 ≤ y1 from by omega) (show y1 ≤ 15 from by omega) (show 0 ≤ y2 from by omega) (show y2 ≤ 6 from by omega) (show 0 ≤ 0 from by omega) (show 0 ≤ 1 from by omega) (show 0 ≤ 0 from by omega) (show 0 ≤ 6 from by omega) (show a 146 25 ≤ 6 from by omega) (show (a 146 23) + (a 146 25) ≤ a 146 22 from by omega) (show a0 146 23 ≤ a 146 23 from by omega) (show 2 ≤ y2 from by omega) (show (y1 = 2 → y2 = 3) from by omega) (show (0 = 0 ∨ y2 = a 146 25) from by omega) (show (0 = 0 ∨ 0 = 1) from by omega) (show ((a0 146 23 < a0 146 22 ∧ ¬ a0 164 ((a0 146 23).toNat) = 32) → a 146 23 = a0 146 23) from by omega) (by first | exact hn | (have e := hq0_4; exact e)) (by first | exact hl | exact (fun k hk => absurd hk (show ¬ (k : Int) < 0 by omega)) | exact lt_ext hl hl1 (by omega) (show jxw ((a 146 25) + 1) = a 146 25 + 1 by omega)) (by first | exact hnl | (rw [show (SK (UB (a0 164)) (a0 146 22).toNat (a0 146 23).toNat) + (a 146 25).toNat = (jxw ((a 146 23) + (a 146 25))).toNat from by omega, ← h4]; exact LT_no1 (by omega))) hno hwn (by first | exact Or.inl ⟨rfl, fun t => by have e := TW_run (s := (a 146 25).toNat) (by omega) (fun k hk => hl k (by omega)) hnl t; omega⟩ | exact Or.inr ⟨rfl, by omega, fun k hk => absurd hk (by omega)⟩ | exact Or.inl ⟨rfl, hno1⟩ | exact Or.inr ⟨rfl, hsz, by rw [show jxw (y4 + 1) = y4 + 1 from by omega]; exact hch⟩)
  have hc96 : ∀ (y1 y2 : Int) (a : Nat → Nat → Int), (((((16 - y1) * 17) + 8) + ((6 - y2) * 1)) + 0).toNat ≤ n → iv a → jfr jW_X12_wordHere a0 a → 0 ≤ y1 → y1 ≤ 15 → 0 ≤ y2 → y2 ≤ 6 → a 146 25 ≤ 6 → (a 146 23) + (a 146 25) ≤ a 146 22 → a0 146 23 ≤ a 146 23 → (y1 = 2 → y2 ≤ 3) → ((a0 146 23 < a0 146 22 ∧ ¬ a0 164 ((a0 146 23).toNat) = 32) → a 146 23 = a0 146 23) → (a 146 23 = ((SK (UB (a0 164)) (a0 146 22).toNat (a0 146 23).toNat) : Int)) → (∀ k : Nat, (k : Int) < a 146 25 → LT (UB (a0 164)) (a0 146 22).toNat ((SK (UB (a0 164)) (a0 146 22).toNat (a0 146 23).toNat) + k)) → (¬ LT (UB (a0 164)) (a0 146 22).toNat ((SK (UB (a0 164)) (a0 146 22).toNat (a0 146 23).toNat) + (a 146 25).toNat)) → (∀ v : Nat, (v : Int) < y1 → v < 16 → ¬ TW (UB (a0 164)) (a0 146 22).toNat (SK (UB (a0 164)) (a0 146 22).toNat (a0 146 23).toNat) v) → (y2 ≤ (wdn y1.toNat : Int)) → jt (jxX E d 216 96 [some (.inr (.inr (.inl 146))), some (.inl y1), some (.inl y2), none, none] [] (jxSH, a, b0)) (jQ_X12_wordHere a0 b0) := by
    intro y1 y2 a hm hv hf hi0 hi1 hi2 hi3 hi4 hi5 hi6 hi7 hi8 hn hl hnl hno hle
    refine jt_eq (bq_X12_wordHere_96 E d y1 y2 a b0) ?_
    have h1295_ := iv_get hv (k := 146) (j := 25) (l := 0) (u := 200) rfl
    have h1296_ := iv_get hv (k := 146) (j := 23) (l := 0) (u := 200) rfl
    have h1297_ := iv_get hv (k := 146) (j := 22) (l := 0) (u := 200) rfl
    have h1298_ : a 146 22 = a0 146 22 := hf 146 22 rfl
    have h1299_ := iv_get hv0 (k := 146) (j := 22) (l := 0) (u := 200) rfl
    have h1300_ := iv_get hv0 (k := 146) (j := 23) (l := 0) (u := 200) rfl
    have h1301_ := iv_get hv0 (k := 164) (j := (a0 146 23).toNat) (l := (-128)) (u := 127) rfl
    have hw1 := wd_ne (y1 := y1) (y2 := y2) (by omega) (by omega)
    rw [← iv_wd hv] at hw1
    have hw2 : y1 = 2 → (y2 = 0 ∨ y2 = 1 ∨ y2 = 2) → ¬ a 165 ((jxw ((jxw (6 * y1)) + y2)).toNat) = 0 := by rintro rfl (rfl | rfl | rfl) <;> rw [iv_wd hv] <;> decide
    have hw3 : y1 = 2 → y2 = 3 → a 165 ((jxw ((jxw (6 * y1)) + y2)).toNat) = 0 := by rintro rfl rfl; rw [iv_wd hv]; decide
    have h4 : a 164 = a0 164 := funext fun j => hf 164 j rfl
    have h22 := hf 146 22 rfl
    refine jt_ite (fun c1302_ => ?_) (fun c1302_ => ?_)
    ·
      have h1303_ : jxw (6 * y1) = 6 * y1 := jxw_id (by omega) (by omega)
      have h1304_ : jxw ((jxw (6 * y1)) + y2) = (jxw (6 * y1)) + y2 := jxw_id (by omega) (by omega)
      refine jt_grd (by omega) ?_
      have h1305_ := iv_wd hv ((jxw ((jxw (6 * y1)) + y2)).toNat)
      have h1306_ : a 165 ((jxw ((jxw (6 * y1)) + y2)).toNat) = a0 165 ((jxw ((jxw (6 * y1)) + y2)).toNat) := hf 165 ((jxw ((jxw (6 * y1)) + y2)).toNat) rfl
      have h1307_ := iv_wd hv0 ((jxw ((jxw (6 * y1)) + y2)).toNat)
      refine jt_ite (fun c1308_ => ?_) (fun c1308_ => ?_)
      ·
        exact hc122 y1 y2 a (show (((16 - y1) * 17) + 8).toNat ≤ n from by omega) hv hf (show 0 ≤ y1 from by omega) (show y1 ≤ 15 from by omega) (show 0 ≤ y2 from by omega) (show y2 ≤ 6 from by omega) (show a 146 25 ≤ 6 from by omega) (show (a 146 23) + (a 146 25) ≤ a 146 22 from by omega) (show a0 146 23 ≤ a 146 23 from by omega) (show (y1 = 2 → y2 = 3) from by omega) (show 2 ≤ y2 from by omega) (show ((a0 146 23 < a0 146 22 ∧ ¬ a0 164 ((a0 146 23).toNat) = 32) → a 146 23 = a0 146 23) from by omega) (by first | exact hn | (have e := hq0_4; exact e)) (by first | exact hl | exact (fun k hk => absurd hk (show ¬ (k : Int) < 0 by omega)) | exact lt_ext hl hl1 (by omega) (show jxw ((a 146 25) + 1) = a 146 25 + 1 by omega)) (by first | exact hnl | (rw [show (SK (UB (a0 164)) (a0 146 22).toNat (a0 146 23).toNat) + (a 146 25).toNat = (jxw ((a 146 23) + (a 146 25))).toNat from by omega, ← h4]; exact LT_no1 (by omega))) hno (by have hb := wdn_bd y1.toNat (by omega); first | omega | (have h1 := wd_in (w := y1.toNat) (k := y2.toNat) (by omega) (by omega); rw [show 6 * y1.toNat + y2.toNat = (jxw ((jxw (6 * y1)) + y2)).toNat from by omega, ← iv_wd hv] at h1; omega))
      ·
        have h1309_ : jxw (y2 + 1) = y2 + 1 := jxw_id (by omega) (by omega)
        exact ih96 y1 (jxw (y2 + 1)) a (show (((((16 - y1) * 17) + 8) + ((6 - (jxw (y2 + 1))) * 1)) + 0).toNat < n from by omega) hv hf (show 0 ≤ y1 from by omega) (show y1 ≤ 15 from by omega) (show 0 ≤ jxw (y2 + 1) from by omega) (show jxw (y2 + 1) ≤ 6 from by omega) (show a 146 25 ≤ 6 from by omega) (show (a 146 23) + (a 146 25) ≤ a 146 22 from by omega) (show a0 146 23 ≤ a 146 23 from by omega) (show (y1 = 2 → jxw (y2 + 1) ≤ 3) from by omega) (show ((a0 146 23 < a0 146 22 ∧ ¬ a0 164 ((a0 146 23).toNat) = 32) → a 146 23 = a0 146 23) from by omega) (by first | exact hn | (have e := hq0_4; exact e)) (by first | exact hl | exact (fun k hk => absurd hk (show ¬ (k : Int) < 0 by omega)) | exact lt_ext hl hl1 (by omega) (show jxw ((a 146 25) + 1) = a 146 25 + 1 by omega)) (by first | exact hnl | (rw [show (SK (UB (a0 164)) (a0 146 22).toNat (a0 146 23).toNat) + (a 146 25).toNat = (jxw ((a 146 23) + (a 146 25))).toNat from by omega, ← h4]; exact LT_no1 (by omega))) hno (by first | omega | (have h1 := wd_in (w := y1.toNat) (k := y2.toNat) (by omega) (by omega); rw [show 6 * y1.toNat + y2.toNat = (jxw ((jxw (6 * y1)) + y2)).toNat from by omega, ← iv_wd hv] at h1; omega))
    ·
      exact hc122 y1 y2 a (show (((16 - y1) * 17) + 8).toNat ≤ n from by omega) hv hf (show 0 ≤ y1 from by omega) (show y1 ≤ 15 from by omega) (show 0 ≤ y2 from by omega) (show y2 ≤ 6 from by omega) (show a 146 25 ≤ 6 from by omega) (show (a 146 23) + (a 146 25) ≤ a 146 22 from by omega) (show a0 146 23 ≤ a 146 23 from by omega) (show (y1 = 2 → y2 = 3) from by omega) (show 2 ≤ y2 from by omega) (show ((a0 146 23 < a0 146 22 ∧ ¬ a0 164 ((a0 146 23).toNat) = 32) → a 146 23 = a0 146 23) from by omega) (by first | exact hn | (have e := hq0_4; exact e)) (by first | exact hl | exact (fun k hk => absurd hk (show ¬ (k : Int) < 0 by omega)) | exact lt_ext hl hl1 (by omega) (show jxw ((a 146 25) + 1) = a 146 25 + 1 by omega)) (by first | exact hnl | (rw [show (SK (UB (a0 164)) (a0 146 22).toNat (a0 146 23).toNat) + (a 146 25).toNat = (jxw ((a 146 23) + (a 146 25))).toNat from by omega, ← h4]; exact LT_no1 (by omega))) hno (by have hb := wdn_bd y1.toNat (by omega); first | omega | (have h1 := wd_in (w := y1.toNat) (k := y2.toNat) (by omega) (by omega); rw [show 6 * y1.toNat + y2.toNat = (jxw ((jxw (6 * y1)) + y2)).toNat from by omega, ← iv_wd hv] at h1; omega))
  have hc79 : ∀ (y1 : Int) (a : Nat → Nat → Int), (((16 - y1) * 17) + 16).toNat ≤ n → iv a → jfr jW_X12_wordHere a0 a → 0 ≤ y1 → y1 ≤ 16 → (a 146 23) + (a 146 25) ≤ a 146 22 → a0 146 23 ≤ a 146 23 → ((a0 146 23 < a0 146 22 ∧ ¬ a0 164 ((a0 146 23).toNat) = 32) → a 146 23 = a0 146 23) → (a 146 23 = ((SK (UB (a0 164)) (a0 146 22).toNat (a0 146 23).toNat) : Int)) → (∀ k : Nat, (k : Int) < a 146 25 → LT (UB (a0 164)) (a0 146 22).toNat ((SK (UB (a0 164)) (a0 146 22).toNat (a0 146 23).toNat) + k)) → (¬ LT (UB (a0 164)) (a0 146 22).toNat ((SK (UB (a0 164)) (a0 146 22).toNat (a0 146 23).toNat) + (a 146 25).toNat)) → (∀ v : Nat, (v : Int) < y1 → v < 16 → ¬ TW (UB (a0 164)) (a0 146 22).toNat (SK (UB (a0 164)) (a0 146 22).toNat (a0 146 23).toNat) v) → jt (jxX E d 216 79 [some (.inr (.inr (.inl 146))), some (.inl y1), none, none, none] [] (jxSH, a, b0)) (jQ_X12_wordHere a0 b0) := by
    intro y1 a hm hv hf hi0 hi1 hi2 hi3 hi4 hn hl hnl hno
    refine jt_eq (bq_X12_wordHere_79 E d y1 a b0) ?_
    have h1310_ := iv_get hv (k := 146) (j := 23) (l := 0) (u := 200) rfl
    have h1311_ := iv_get hv (k := 146) (j := 25) (l := 0) (u := 200) rfl
    have h1312_ := iv_get hv (k := 146) (j := 22) (l := 0) (u := 200) rfl
    have h1313_ : a 146 22 = a0 146 22 := hf 146 22 rfl
    have h1314_ := iv_get hv0 (k := 146) (j := 22) (l := 0) (u := 200) rfl
    have h1315_ := iv_get hv0 (k := 146) (j := 23) (l := 0) (u := 200) rfl
    have h1316_ := iv_get hv0 (k := 164) (j := (a0 146 23).toNat) (l := (-128)) (u := 127) rfl
    have h4 : a 164 = a0 164 := funext fun j => hf 164 j rfl
    have h22 := hf 146 22 rfl
    refine jt_ite (fun c1317_ => ?_) (fun c1317_ => ?_)
    ·
      refine jt_ite (fun c1318_ => ?_) (fun c1318_ => ?_)
      ·
        exact jt_rI ⟨hv, hf, rfl, (show (a 146 23) + (a 146 25) ≤ a 146 22 from by omega), (show a0 146 23 ≤ a 146 23 from by omega), (show 0 - 1 ≤ (-1) from by omega), (show (-1) ≤ 15 from by omega), (show ((-1) = 2 → a 146 25 = 3) from by omega), (show (0 ≤ (-1) → 2 ≤ a 146 25) from by omega), (show ((a0 146 23 < a0 146 22 ∧ ¬ a0 164 ((a0 146 23).toNat) = 32) → a 146 23 = a0 146 23) from by omega), hn, (by first | exact (fun w hw => ⟨fun t => absurd t (hno w (by omega) hw), fun e => absurd e (by omega)⟩) | exact (fun w hw => ⟨fun t => by have e := TW_run (s := (a 146 25).toNat) hw (fun k hk => hl k (by omega)) hnl t; have hb := wdn_bd w hw; omega, fun e => absurd e (by omega)⟩) | (rcases hs with hs | hs <;> first | exact absurd hs.1 (by assumption) | (have ht := TW_mk (w := y1.toNat) (q := (SK (UB (a0 164)) (a0 146 22).toNat (a0 146 23).toNat) + (a 146 25).toNat) (by omega) (by omega) (fun k hk => hs.2.2 k (by omega)) hnl; exact fun w hw => ⟨fun t => by have e := TW_one (by omega) hw ht t; omega, fun e => by rw [show w = y1.toNat from by omega]; exact ht⟩))), (by first | exact (fun h => absurd h (by decide)) | (rcases hs with hs | hs <;> first | exact absurd hs.1 (by assumption) | exact (fun _ => by rw [← hs.2.1]; exact hwn)))⟩
      ·
        exact hc96 y1 0 a (show (((((16 - y1) * 17) + 8) + ((6 - 0) * 1)) + 0).toNat ≤ n from by omega) hv hf (show 0 ≤ y1 from by omega) (show y1 ≤ 15 from by omega) (show 0 ≤ 0 from by omega) (show 0 ≤ 6 from by omega) (show a 146 25 ≤ 6 from by omega) (show (a 146 23) + (a 146 25) ≤ a 146 22 from by omega) (show a0 146 23 ≤ a 146 23 from by omega) (show (y1 = 2 → 0 ≤ 3) from by omega) (show ((a0 146 23 < a0 146 22 ∧ ¬ a0 164 ((a0 146 23).toNat) = 32) → a 146 23 = a0 146 23) from by omega) (by first | exact hn | (have e := hq0_4; exact e)) (by first | exact hl | exact (fun k hk => absurd hk (show ¬ (k : Int) < 0 by omega)) | exact lt_ext hl hl1 (by omega) (show jxw ((a 146 25) + 1) = a 146 25 + 1 by omega)) (by first | exact hnl | (rw [show (SK (UB (a0 164)) (a0 146 22).toNat (a0 146 23).toNat) + (a 146 25).toNat = (jxw ((a 146 23) + (a 146 25))).toNat from by omega, ← h4]; exact LT_no1 (by omega))) hno (by first | omega | (have h1 := wd_in (w := y1.toNat) (k := y2.toNat) (by omega) (by omega); rw [show 6 * y1.toNat + y2.toNat = (jxw ((jxw (6 * y1)) + y2)).toNat from by omega, ← iv_wd hv] at h1; omega))
    ·
      exact jt_rI ⟨hv, hf, rfl, (show (a 146 23) + (a 146 25) ≤ a 146 22 from by omega), (show a0 146 23 ≤ a 146 23 from by omega), (show 0 - 1 ≤ (-1) from by omega), (show (-1) ≤ 15 from by omega), (show ((-1) = 2 → a 146 25 = 3) from by omega), (show (0 ≤ (-1) → 2 ≤ a 146 25) from by omega), (show ((a0 146 23 < a0 146 22 ∧ ¬ a0 164 ((a0 146 23).toNat) = 32) → a 146 23 = a0 146 23) from by omega), hn, (by first | exact (fun w hw => ⟨fun t => absurd t (hno w (by omega) hw), fun e => absurd e (by omega)⟩) | exact (fun w hw => ⟨fun t => by have e := TW_run (s := (a 146 25).toNat) hw (fun k hk => hl k (by omega)) hnl t; have hb := wdn_bd w hw; omega, fun e => absurd e (by omega)⟩) | (rcases hs with hs | hs <;> first | exact absurd hs.1 (by assumption) | (have ht := TW_mk (w := y1.toNat) (q := (SK (UB (a0 164)) (a0 146 22).toNat (a0 146 23).toNat) + (a 146 25).toNat) (by omega) (by omega) (fun k hk => hs.2.2 k (by omega)) hnl; exact fun w hw => ⟨fun t => by have e := TW_one (by omega) hw ht t; omega, fun e => by rw [show w = y1.toNat from by omega]; exact ht⟩))), (by first | exact (fun h => absurd h (by decide)) | (rcases hs with hs | hs <;> first | exact absurd hs.1 (by assumption) | exact (fun _ => by rw [← hs.2.1]; exact hwn)))⟩
  exact ⟨hc176, hc180, hc139, hc122, hc96, hc79⟩
theorem cp_X12_wordHere_77 (E : jxE) (d : Nat) (hd : Nat.ble 2 (d + 1) = true) (a0 b0 : Nat → Nat → Int) (hv0 : iv a0) (hp0 : a0 146 23 ≤ a0 146 22) : ∀ (a : Nat → Nat → Int), iv a → jfr jW_X12_wordHere a0 a → (a 146 23) + (a 146 25) ≤ a 146 22 → a0 146 23 ≤ a 146 23 → ((a0 146 23 < a0 146 22 ∧ ¬ a0 164 ((a0 146 23).toNat) = 32) → a 146 23 = a0 146 23) → (a 146 23 = ((SK (UB (a0 164)) (a0 146 22).toNat (a0 146 23).toNat) : Int)) → (∀ k : Nat, (k : Int) < a 146 25 → LT (UB (a0 164)) (a0 146 22).toNat ((SK (UB (a0 164)) (a0 146 22).toNat (a0 146 23).toNat) + k)) → (¬ LT (UB (a0 164)) (a0 146 22).toNat ((SK (UB (a0 164)) (a0 146 22).toNat (a0 146 23).toNat) + (a 146 25).toNat)) → jt (jxX E d 216 77 [some (.inr (.inr (.inl 146))), none, none, none, none] [] (jxSH, a, b0)) (jQ_X12_wordHere a0 b0) := by
  intro a hv hf hi0 hi1 hi2 hn hl hnl
  refine jt_eq (bq_X12_wordHere_77 E d a b0) ?_
  have h1319_ := iv_get hv (k := 146) (j := 23) (l := 0) (u := 200) rfl
  have h1320_ := iv_get hv (k := 146) (j := 25) (l := 0) (u := 200) rfl
  have h1321_ := iv_get hv (k := 146) (j := 22) (l := 0) (u := 200) rfl
  have h1322_ : a 146 22 = a0 146 22 := hf 146 22 rfl
  have h1323_ := iv_get hv0 (k := 146) (j := 22) (l := 0) (u := 200) rfl
  have h1324_ := iv_get hv0 (k := 146) (j := 23) (l := 0) (u := 200) rfl
  have h1325_ := iv_get hv0 (k := 164) (j := (a0 146 23).toNat) (l := (-128)) (u := 127) rfl
  have h4 : a 164 = a0 164 := funext fun j => hf 164 j rfl
  have h22 := hf 146 22 rfl
  exact (cp_X12_wordHere_79 E d hd a0 b0 hv0 hp0 _).2.2.2.2.2 0 a (Nat.le_refl _) hv hf (show 0 ≤ 0 from by omega) (show 0 ≤ 16 from by omega) (show (a 146 23) + (a 146 25) ≤ a 146 22 from by omega) (show a0 146 23 ≤ a 146 23 from by omega) (show ((a0 146 23 < a0 146 22 ∧ ¬ a0 164 ((a0 146 23).toNat) = 32) → a 146 23 = a0 146 23) from by omega) (by first | exact hn | (have e := hq0_4; exact e)) (by first | exact hl | exact (fun k hk => absurd hk (show ¬ (k : Int) < 0 by omega)) | exact lt_ext hl hl1 (by omega) (show jxw ((a 146 25) + 1) = a 146 25 + 1 by omega)) (by first | exact hnl | (rw [show (SK (UB (a0 164)) (a0 146 22).toNat (a0 146 23).toNat) + (a 146 25).toNat = (jxw ((a 146 23) + (a 146 25))).toNat from by omega, ← h4]; exact LT_no1 (by omega))) (by first | exact (fun v h => absurd h (by omega)) | exact no_ext hno hno1 (by omega) (show jxw (y1 + 1) = y1 + 1 by omega) | (rcases hs with hs | hs <;> first | exact no_ext hno hs.2 (by omega) (show jxw (y1 + 1) = y1 + 1 by omega) | exact absurd hs.1 (by omega)))
theorem cp_X12_wordHere_10 (E : jxE) (d : Nat) (hd : Nat.ble 2 (d + 1) = true) (a0 b0 : Nat → Nat → Int) (hv0 : iv a0) (hp0 : a0 146 23 ≤ a0 146 22) : ∀ n : Nat, (∀ (a : Nat → Nat → Int), (((((a 146 22) - (a 146 23)) - (a 146 25)) * 2) + 1).toNat ≤ n → iv a → jfr jW_X12_wordHere a0 a → 1 ≤ a 146 22 → 1 ≤ a 146 25 → (a 146 23) + (a 146 25) ≤ a 146 22 → a0 146 23 ≤ a 146 23 → ((a0 146 23 < a0 146 22 ∧ ¬ a0 164 ((a0 146 23).toNat) = 32) → a 146 23 = a0 146 23) → (a 146 23 = ((SK (UB (a0 164)) (a0 146 22).toNat (a0 146 23).toNat) : Int)) → (∀ k : Nat, (k : Int) < a 146 25 → LT (UB (a0 164)) (a0 146 22).toNat ((SK (UB (a0 164)) (a0 146 22).toNat (a0 146 23).toNat) + k)) → jt (jxX E d 216 74 [some (.inr (.inr (.inl 146))), none, none, none, none] [] (jxSH, a, b0)) (jQ_X12_wordHere a0 b0)) ∧ (∀ (a : Nat → Nat → Int), (((((a 146 22) - (a 146 23)) - (a 146 25)) * 2) + 0).toNat ≤ n → iv a → jfr jW_X12_wordHere a0 a → 1 ≤ a 146 22 → (a 146 23) + (a 146 25) ≤ a 146 22 → a0 146 23 ≤ a 146 23 → (a 146 23) + (a 146 25) < a 146 22 → ((a0 146 23 < a0 146 22 ∧ ¬ a0 164 ((a0 146 23).toNat) = 32) → a 146 23 = a0 146 23) → (a 146 23 = ((SK (UB (a0 164)) (a0 146 22).toNat (a0 146 23).toNat) : Int)) → (∀ k : Nat, (k : Int) < a 146 25 → LT (UB (a0 164)) (a0 146 22).toNat ((SK (UB (a0 164)) (a0 146 22).toNat (a0 146 23).toNat) + k)) → (97 ≤ a 164 (jxw ((a 146 23) + (a 146 25))).toNat) → (a 146 23) + (a 146 25) < a 146 22 → jt (jxX E d 216 45 [some (.inr (.inr (.inl 146))), none, none, none, none] [] (jxSH, a, b0)) (jQ_X12_wordHere a0 b0)) ∧ (∀ (a : Nat → Nat → Int), (((((a 146 22) - (a 146 23)) - (a 146 25)) * 2) + 0).toNat ≤ n → iv a → jfr jW_X12_wordHere a0 a → (a 146 23) + (a 146 25) ≤ a 146 22 → a0 146 23 ≤ a 146 23 → ((a0 146 23 < a0 146 22 ∧ ¬ a0 164 ((a0 146 23).toNat) = 32) → a 146 23 = a0 146 23) → (a 146 23 = ((SK (UB (a0 164)) (a0 146 22).toNat (a0 146 23).toNat) : Int)) → (∀ k : Nat, (k : Int) < a 146 25 → LT (UB (a0 164)) (a0 146 22).toNat ((SK (UB (a0 164)) (a0 146 22).toNat (a0 146 23).toNat) + k)) → jt (jxX E d 216 10 [some (.inr (.inr (.inl 146))), none, none, none, none] [] (jxSH, a, b0)) (jQ_X12_wordHere a0 b0)) := by
  refine jx_ind fun n ih => ?_
  have ih74 : ∀ (a : Nat → Nat → Int), (((((a 146 22) - (a 146 23)) - (a 146 25)) * 2) + 1).toNat < n → iv a → jfr jW_X12_wordHere a0 a → 1 ≤ a 146 22 → 1 ≤ a 146 25 → (a 146 23) + (a 146 25) ≤ a 146 22 → a0 146 23 ≤ a 146 23 → ((a0 146 23 < a0 146 22 ∧ ¬ a0 164 ((a0 146 23).toNat) = 32) → a 146 23 = a0 146 23) → (a 146 23 = ((SK (UB (a0 164)) (a0 146 22).toNat (a0 146 23).toNat) : Int)) → (∀ k : Nat, (k : Int) < a 146 25 → LT (UB (a0 164)) (a0 146 22).toNat ((SK (UB (a0 164)) (a0 146 22).toNat (a0 146 23).toNat) + k)) → jt (jxX E d 216 74 [some (.inr (.inr (.inl 146))), none, none, none, none] [] (jxSH, a, b0)) (jQ_X12_wordHere a0 b0) := fun a hlt i0 i1 i2 i3 i4 i5 i6 i7 i8 => (ih _ hlt).1 a (Nat.le_refl _) i0 i1 i2 i3 i4 i5 i6 i7 i8
  have ih45 : ∀ (a : Nat → Nat → Int), (((((a 146 22) - (a 146 23)) - (a 146 25)) * 2) + 0).toNat < n → iv a → jfr jW_X12_wordHere a0 a → 1 ≤ a 146 22 → (a 146 23) + (a 146 25) ≤ a 146 22 → a0 146 23 ≤ a 146 23 → (a 146 23) + (a 146 25) < a 146 22 → ((a0 146 23 < a0 146 22 ∧ ¬ a0 164 ((a0 146 23).toNat) = 32) → a 146 23 = a0 146 23) → (a 146 23 = ((SK (UB (a0 164)) (a0 146 22).toNat (a0 146 23).toNat) : Int)) → (∀ k : Nat, (k : Int) < a 146 25 → LT (UB (a0 164)) (a0 146 22).toNat ((SK (UB (a0 164)) (a0 146 22).toNat (a0 146 23).toNat) + k)) → (97 ≤ a 164 (jxw ((a 146 23) + (a 146 25))).toNat) → (a 146 23) + (a 146 25) < a 146 22 → jt (jxX E d 216 45 [some (.inr (.inr (.inl 146))), none, none, none, none] [] (jxSH, a, b0)) (jQ_X12_wordHere a0 b0) := fun a hlt i0 i1 i2 i3 i4 i5 i6 i7 i8 i9 i10 => (ih _ hlt).2.1 a (Nat.le_refl _) i0 i1 i2 i3 i4 i5 i6 i7 i8 i9 i10
  have ih10 : ∀ (a : Nat → Nat → Int), (((((a 146 22) - (a 146 23)) - (a 146 25)) * 2) + 0).toNat < n → iv a → jfr jW_X12_wordHere a0 a → (a 146 23) + (a 146 25) ≤ a 146 22 → a0 146 23 ≤ a 146 23 → ((a0 146 23 < a0 146 22 ∧ ¬ a0 164 ((a0 146 23).toNat) = 32) → a 146 23 = a0 146 23) → (a 146 23 = ((SK (UB (a0 164)) (a0 146 22).toNat (a0 146 23).toNat) : Int)) → (∀ k : Nat, (k : Int) < a 146 25 → LT (UB (a0 164)) (a0 146 22).toNat ((SK (UB (a0 164)) (a0 146 22).toNat (a0 146 23).toNat) + k)) → jt (jxX E d 216 10 [some (.inr (.inr (.inl 146))), none, none, none, none] [] (jxSH, a, b0)) (jQ_X12_wordHere a0 b0) := fun a hlt i0 i1 i2 i3 i4 i5 i6 => (ih _ hlt).2.2 a (Nat.le_refl _) i0 i1 i2 i3 i4 i5 i6
  have hc74 : ∀ (a : Nat → Nat → Int), (((((a 146 22) - (a 146 23)) - (a 146 25)) * 2) + 1).toNat ≤ n → iv a → jfr jW_X12_wordHere a0 a → 1 ≤ a 146 22 → 1 ≤ a 146 25 → (a 146 23) + (a 146 25) ≤ a 146 22 → a0 146 23 ≤ a 146 23 → ((a0 146 23 < a0 146 22 ∧ ¬ a0 164 ((a0 146 23).toNat) = 32) → a 146 23 = a0 146 23) → (a 146 23 = ((SK (UB (a0 164)) (a0 146 22).toNat (a0 146 23).toNat) : Int)) → (∀ k : Nat, (k : Int) < a 146 25 → LT (UB (a0 164)) (a0 146 22).toNat ((SK (UB (a0 164)) (a0 146 22).toNat (a0 146 23).toNat) + k)) → jt (jxX E d 216 74 [some (.inr (.inr (.inl 146))), none, none, none, none] [] (jxSH, a, b0)) (jQ_X12_wordHere a0 b0) := by
    intro a hm hv hf hi0 hi1 hi2 hi3 hi4 hn hl
    refine jt_eq (bq_X12_wordHere_74 E d a b0) ?_
    have h1326_ := iv_get hv (k := 146) (j := 22) (l := 0) (u := 200) rfl
    have h1327_ : a 146 22 = a0 146 22 := hf 146 22 rfl
    have h1328_ := iv_get hv0 (k := 146) (j := 22) (l := 0) (u := 200) rfl
    have h1329_ := iv_get hv (k := 146) (j := 25) (l := 0) (u := 200) rfl
    have h1330_ := iv_get hv (k := 146) (j := 23) (l := 0) (u := 200) rfl
    have h1331_ := iv_get hv0 (k := 146) (j := 23) (l := 0) (u := 200) rfl
    have h1332_ := iv_get hv0 (k := 164) (j := (a0 146 23).toNat) (l := (-128)) (u := 127) rfl
    have h4 : a 164 = a0 164 := funext fun j => hf 164 j rfl
    have h22 := hf 146 22 rfl
    exact ih10 a (show (((((a 146 22) - (a 146 23)) - (a 146 25)) * 2) + 0).toNat < n from by omega) hv hf (show (a 146 23) + (a 146 25) ≤ a 146 22 from by omega) (show a0 146 23 ≤ a 146 23 from by omega) (show ((a0 146 23 < a0 146 22 ∧ ¬ a0 164 ((a0 146 23).toNat) = 32) → a 146 23 = a0 146 23) from by omega) (by first | exact hn | (have e := hq0_4; exact e)) (by first | exact hl | exact (fun k hk => absurd hk (show ¬ (k : Int) < 0 by omega)) | exact lt_ext hl hl1 (by omega) (show jxw ((a 146 25) + 1) = a 146 25 + 1 by omega))
  have hc45 : ∀ (a : Nat → Nat → Int), (((((a 146 22) - (a 146 23)) - (a 146 25)) * 2) + 0).toNat ≤ n → iv a → jfr jW_X12_wordHere a0 a → 1 ≤ a 146 22 → (a 146 23) + (a 146 25) ≤ a 146 22 → a0 146 23 ≤ a 146 23 → (a 146 23) + (a 146 25) < a 146 22 → ((a0 146 23 < a0 146 22 ∧ ¬ a0 164 ((a0 146 23).toNat) = 32) → a 146 23 = a0 146 23) → (a 146 23 = ((SK (UB (a0 164)) (a0 146 22).toNat (a0 146 23).toNat) : Int)) → (∀ k : Nat, (k : Int) < a 146 25 → LT (UB (a0 164)) (a0 146 22).toNat ((SK (UB (a0 164)) (a0 146 22).toNat (a0 146 23).toNat) + k)) → (97 ≤ a 164 (jxw ((a 146 23) + (a 146 25))).toNat) → (a 146 23) + (a 146 25) < a 146 22 → jt (jxX E d 216 45 [some (.inr (.inr (.inl 146))), none, none, none, none] [] (jxSH, a, b0)) (jQ_X12_wordHere a0 b0) := by
    intro a hm hv hf hi0 hi1 hi2 hi3 hi4 hn hl h97 hi8
    refine jt_eq (bq_X12_wordHere_45 E d a b0) ?_
    have h1333_ := iv_get hv (k := 146) (j := 22) (l := 0) (u := 200) rfl
    have h1334_ : a 146 22 = a0 146 22 := hf 146 22 rfl
    have h1335_ := iv_get hv0 (k := 146) (j := 22) (l := 0) (u := 200) rfl
    have h1336_ := iv_get hv (k := 146) (j := 23) (l := 0) (u := 200) rfl
    have h1337_ := iv_get hv (k := 146) (j := 25) (l := 0) (u := 200) rfl
    have h1338_ := iv_get hv0 (k := 146) (j := 23) (l := 0) (u := 200) rfl
    have h1339_ := iv_get hv0 (k := 164) (j := (a0 146 23).toNat) (l := (-128)) (u := 127) rfl
    have h4 : a 164 = a0 164 := funext fun j => hf 164 j rfl
    have h22 := hf 146 22 rfl
    have hub := UB_sp (g := a 164) (j := (jxw ((a 146 23) + (a 146 25))).toNat) (iv_get hv (k := 164) (j := (jxw ((a 146 23) + (a 146 25))).toNat) (l := -128) (u := 127) rfl).1 (iv_get hv (k := 164) (j := (jxw ((a 146 23) + (a 146 25))).toNat) (l := -128) (u := 127) rfl).2
    have h1340_ : jxw ((a 146 23) + (a 146 25)) = (a 146 23) + (a 146 25) := jxw_id (by omega) (by omega)
    refine jt_grd (by omega) ?_
    have h1341_ := iv_get hv (k := 164) (j := (jxw ((a 146 23) + (a 146 25))).toNat) (l := (-128)) (u := 127) rfl
    have h1342_ : a 164 ((jxw ((a 146 23) + (a 146 25))).toNat) = a0 164 ((jxw ((a 146 23) + (a 146 25))).toNat) := hf 164 ((jxw ((a 146 23) + (a 146 25))).toNat) rfl
    have h1343_ := iv_get hv0 (k := 164) (j := (jxw ((a 146 23) + (a 146 25))).toNat) (l := (-128)) (u := 127) rfl
    refine jt_ite (fun c1344_ => ?_) (fun c1344_ => ?_)
    ·
      exact cp_X12_wordHere_77 E d hd a0 b0 hv0 hp0 a hv hf (show (a 146 23) + (a 146 25) ≤ a 146 22 from by omega) (show a0 146 23 ≤ a 146 23 from by omega) (show ((a0 146 23 < a0 146 22 ∧ ¬ a0 164 ((a0 146 23).toNat) = 32) → a 146 23 = a0 146 23) from by omega) (by first | exact hn | (have e := hq0_4; exact e)) (by first | exact hl | exact (fun k hk => absurd hk (show ¬ (k : Int) < 0 by omega)) | exact lt_ext hl hl1 (by omega) (show jxw ((a 146 25) + 1) = a 146 25 + 1 by omega)) (by first | exact hnl | (rw [show (SK (UB (a0 164)) (a0 146 22).toNat (a0 146 23).toNat) + (a 146 25).toNat = (jxw ((a 146 23) + (a 146 25))).toNat from by omega, ← h4]; exact LT_no1 (by omega)))
    ·
      have h1346_ : jxw ((a 146 25) + 1) = (a 146 25) + 1 := jxw_id (by omega) (by omega)
      have hv1345_ : iv (jxu a 146 25 (jxw ((a 146 25) + 1))) := iv_put hv (l := 0) (u := 200) rfl (by omega) (by omega)
      have hf1347_ : jfr jW_X12_wordHere a0 (jxu a 146 25 (jxw ((a 146 25) + 1))) := jfr_put hf rfl
      exact hc74 (jxu a 146 25 (jxw ((a 146 25) + 1))) (show (((((a 146 22) - (a 146 23)) - (jxw ((a 146 25) + 1))) * 2) + 1).toNat ≤ n from by omega) hv1345_ hf1347_ (show 1 ≤ a 146 22 from by omega) (show 1 ≤ jxw ((a 146 25) + 1) from by omega) (show (a 146 23) + (jxw ((a 146 25) + 1)) ≤ a 146 22 from by omega) (show a0 146 23 ≤ a 146 23 from by omega) (show ((a0 146 23 < a0 146 22 ∧ ¬ a0 164 ((a0 146 23).toNat) = 32) → a 146 23 = a0 146 23) from by omega) (by first | exact hn | (have e := hq0_4; exact e)) (lt_ext hl (by rw [show (SK (UB (a0 164)) (a0 146 22).toNat (a0 146 23).toNat) + (a 146 25).toNat = (jxw ((a 146 23) + (a 146 25))).toNat from by omega, ← h4]; exact ⟨by omega, by omega, by omega⟩) (by omega) (show jxw ((a 146 25) + 1) = a 146 25 + 1 by omega))
  have hc10 : ∀ (a : Nat → Nat → Int), (((((a 146 22) - (a 146 23)) - (a 146 25)) * 2) + 0).toNat ≤ n → iv a → jfr jW_X12_wordHere a0 a → (a 146 23) + (a 146 25) ≤ a 146 22 → a0 146 23 ≤ a 146 23 → ((a0 146 23 < a0 146 22 ∧ ¬ a0 164 ((a0 146 23).toNat) = 32) → a 146 23 = a0 146 23) → (a 146 23 = ((SK (UB (a0 164)) (a0 146 22).toNat (a0 146 23).toNat) : Int)) → (∀ k : Nat, (k : Int) < a 146 25 → LT (UB (a0 164)) (a0 146 22).toNat ((SK (UB (a0 164)) (a0 146 22).toNat (a0 146 23).toNat) + k)) → jt (jxX E d 216 10 [some (.inr (.inr (.inl 146))), none, none, none, none] [] (jxSH, a, b0)) (jQ_X12_wordHere a0 b0) := by
    intro a hm hv hf hi0 hi1 hi2 hn hl
    refine jt_eq (bq_X12_wordHere_10 E d a b0) ?_
    have h1348_ := iv_get hv (k := 146) (j := 23) (l := 0) (u := 200) rfl
    have h1349_ := iv_get hv (k := 146) (j := 25) (l := 0) (u := 200) rfl
    have h1350_ := iv_get hv (k := 146) (j := 22) (l := 0) (u := 200) rfl
    have h1351_ : a 146 22 = a0 146 22 := hf 146 22 rfl
    have h1352_ := iv_get hv0 (k := 146) (j := 22) (l := 0) (u := 200) rfl
    have h1353_ := iv_get hv0 (k := 146) (j := 23) (l := 0) (u := 200) rfl
    have h1354_ := iv_get hv0 (k := 164) (j := (a0 146 23).toNat) (l := (-128)) (u := 127) rfl
    have h4 : a 164 = a0 164 := funext fun j => hf 164 j rfl
    have h22 := hf 146 22 rfl
    have hub := UB_sp (g := a 164) (j := (jxw ((a 146 23) + (a 146 25))).toNat) (iv_get hv (k := 164) (j := (jxw ((a 146 23) + (a 146 25))).toNat) (l := -128) (u := 127) rfl).1 (iv_get hv (k := 164) (j := (jxw ((a 146 23) + (a 146 25))).toNat) (l := -128) (u := 127) rfl).2
    have h1355_ : jxw ((a 146 23) + (a 146 25)) = (a 146 23) + (a 146 25) := jxw_id (by omega) (by omega)
    refine jt_ite (fun c1356_ => ?_) (fun c1356_ => ?_)
    ·
      refine jt_grd (by omega) ?_
      have h1357_ := iv_get hv (k := 164) (j := (jxw ((a 146 23) + (a 146 25))).toNat) (l := (-128)) (u := 127) rfl
      have h1358_ : a 164 ((jxw ((a 146 23) + (a 146 25))).toNat) = a0 164 ((jxw ((a 146 23) + (a 146 25))).toNat) := hf 164 ((jxw ((a 146 23) + (a 146 25))).toNat) rfl
      have h1359_ := iv_get hv0 (k := 164) (j := (jxw ((a 146 23) + (a 146 25))).toNat) (l := (-128)) (u := 127) rfl
      refine jt_ite (fun c1360_ => ?_) (fun c1360_ => ?_)
      ·
        exact cp_X12_wordHere_77 E d hd a0 b0 hv0 hp0 a hv hf (show (a 146 23) + (a 146 25) ≤ a 146 22 from by omega) (show a0 146 23 ≤ a 146 23 from by omega) (show ((a0 146 23 < a0 146 22 ∧ ¬ a0 164 ((a0 146 23).toNat) = 32) → a 146 23 = a0 146 23) from by omega) (by first | exact hn | (have e := hq0_4; exact e)) (by first | exact hl | exact (fun k hk => absurd hk (show ¬ (k : Int) < 0 by omega)) | exact lt_ext hl hl1 (by omega) (show jxw ((a 146 25) + 1) = a 146 25 + 1 by omega)) (by first | exact hnl | (rw [show (SK (UB (a0 164)) (a0 146 22).toNat (a0 146 23).toNat) + (a 146 25).toNat = (jxw ((a 146 23) + (a 146 25))).toNat from by omega, ← h4]; exact LT_no1 (by omega)))
      ·
        exact hc45 a (show (((((a 146 22) - (a 146 23)) - (a 146 25)) * 2) + 0).toNat ≤ n from by omega) hv hf (show 1 ≤ a 146 22 from by omega) (show (a 146 23) + (a 146 25) ≤ a 146 22 from by omega) (show a0 146 23 ≤ a 146 23 from by omega) (show (a 146 23) + (a 146 25) < a 146 22 from by omega) (show ((a0 146 23 < a0 146 22 ∧ ¬ a0 164 ((a0 146 23).toNat) = 32) → a 146 23 = a0 146 23) from by omega) (by first | exact hn | (have e := hq0_4; exact e)) (by first | exact hl | exact (fun k hk => absurd hk (show ¬ (k : Int) < 0 by omega)) | exact lt_ext hl hl1 (by omega) (show jxw ((a 146 25) + 1) = a 146 25 + 1 by omega)) (by omega) (show (a 146 23) + (a 146 25) < a 146 22 from by omega)
    ·
      exact cp_X12_wordHere_77 E d hd a0 b0 hv0 hp0 a hv hf (show (a 146 23) + (a 146 25) ≤ a 146 22 from by omega) (show a0 146 23 ≤ a 146 23 from by omega) (show ((a0 146 23 < a0 146 22 ∧ ¬ a0 164 ((a0 146 23).toNat) = 32) → a 146 23 = a0 146 23) from by omega) (by first | exact hn | (have e := hq0_4; exact e)) (by first | exact hl | exact (fun k hk => absurd hk (show ¬ (k : Int) < 0 by omega)) | exact lt_ext hl hl1 (by omega) (show jxw ((a 146 25) + 1) = a 146 25 + 1 by omega)) (by first | exact hnl | (rw [show (SK (UB (a0 164)) (a0 146 22).toNat (a0 146 23).toNat) + (a 146 25).toNat = (jxw ((a 146 23) + (a 146 25))).toNat from by omega, ← h4]; exact LT_no1 (by omega)))
  exact ⟨hc74, hc45, hc10⟩
theorem sp_X12_wordHere (E : jxE) (d : Nat) (hd : Nat.ble 2 d = true) (a0 b0 : Nat → Nat → Int) (hv0 : iv a0) (hp0 : a0 146 23 ≤ a0 146 22) : jt (jxC E d 216 [.inr (.inr (.inl 146))] (jxSH, a0, b0)) (jQ_X12_wordHere a0 b0) := by
  obtain ⟨d, rfl⟩ := jd_succ hd
  refine jt_eq (bq_X12_wordHere E d a0 b0) ?_
  have h1361_ := iv_get hv0 (k := 146) (j := 23) (l := 0) (u := 200) rfl
  have h1362_ := iv_get hv0 (k := 146) (j := 22) (l := 0) (u := 200) rfl
  refine jt_bI (sp_X12_see E d (jd_le hd rfl) a0 b0 hv0 (show a0 146 23 ≤ a0 146 22 from by omega)) (fun r1363_ a1363_ b1363_ h1363_ => ?_)
  obtain ⟨hv1363_, hf1363_, rfl, hq1363_0, hq1363_1, hq1363_2, hq1363_3, hq1363_4, hq1363_5⟩ := h1363_
  have h1364_ := iv_get hv1363_ (k := 146) (j := 23) (l := 0) (u := 200) rfl
  have h1365_ := iv_get hv1363_ (k := 164) (j := (a1363_ 146 23).toNat) (l := (-128)) (u := 127) rfl
  have h1366_ : a1363_ 164 ((a1363_ 146 23).toNat) = a0 164 ((a1363_ 146 23).toNat) := hf1363_ 164 ((a1363_ 146 23).toNat) rfl
  have h1367_ := iv_get hv0 (k := 164) (j := (a1363_ 146 23).toNat) (l := (-128)) (u := 127) rfl
  have h1368_ := iv_get hv0 (k := 164) (j := (a0 146 23).toNat) (l := (-128)) (u := 127) rfl
  have hv1369_ : iv (jxu a1363_ 146 25 0) := iv_put hv1363_ (l := 0) (u := 200) rfl (by omega) (by omega)
  have hf1370_ : jfr jW_X12_wordHere a0 a1363_ := jfr_tr (jfr_rf _ _) hf1363_ rfl
  have hf1371_ : jfr jW_X12_wordHere a0 (jxu a1363_ 146 25 0) := jfr_put hf1370_ rfl
  have h1372_ := iv_get hv1363_ (k := 146) (j := 22) (l := 0) (u := 200) rfl
  have h1373_ : a1363_ 146 22 = a0 146 22 := hf1363_ 146 22 rfl
  exact (cp_X12_wordHere_10 E d hd a0 b0 hv0 hp0 _).2.2 (jxu a1363_ 146 25 0) (Nat.le_refl _) hv1369_ hf1371_ (show (a1363_ 146 23) + 0 ≤ a1363_ 146 22 from by omega) (show a0 146 23 ≤ a1363_ 146 23 from by omega) (show ((a0 146 23 < a0 146 22 ∧ ¬ a0 164 ((a0 146 23).toNat) = 32) → a1363_ 146 23 = a0 146 23) from by omega) (by first | exact hn | (have e := hq1363_4; exact e)) (by first | exact hl | exact (fun k hk => absurd hk (show ¬ (k : Int) < 0 by omega)) | exact lt_ext hl hl1 (by omega) (show jxw ((a 146 25) + 1) = a 146 25 + 1 by omega))
def jW_X12_writes : List (Nat × Nat) := [(146, 32), (168, 9999)]
abbrev jQ_X12_writes (x1 : Int) (a0 b0 : Nat → Nat → Int) : List jxV → (Nat → Nat → Int) → (Nat → Nat → Int) → Prop := rV (fun a b => (iv a) ∧ (jfr jW_X12_writes a0 a) ∧ (b0 = b) ∧ (a 146 32 = (a0 146 32) + 1) ∧ (a 168 (a0 146 32).toNat = x1) ∧ (∀ k, ¬ k = (a0 146 32).toNat → a 168 k = a0 168 k))
theorem sp_X12_writes (E : jxE) (d : Nat) (hd : Nat.ble 1 d = true) (x1 : Int) (a0 b0 : Nat → Nat → Int) (hv0 : iv a0) (hp0 : a0 146 32 < 64) : jt (jxC E d 218 [.inr (.inr (.inl 146)), .inl x1] (jxSH, a0, b0)) (jQ_X12_writes x1 a0 b0) := by
  obtain ⟨d, rfl⟩ := jd_succ hd
  refine jt_eq (bq_X12_writes E d x1 a0 b0) ?_
  have h1374_ := iv_get hv0 (k := 146) (j := 32) (l := 0) (u := 64) rfl
  refine jt_grd (by omega) ?_
  have hv1375_ : iv (jxu a0 168 ((a0 146 32).toNat) x1) := iv_putf hv0 rfl
  have h1377_ : jxw ((a0 146 32) + 1) = (a0 146 32) + 1 := jxw_id (by omega) (by omega)
  have hv1376_ : iv (jxu (jxu a0 168 ((a0 146 32).toNat) x1) 146 32 (jxw ((a0 146 32) + 1))) := iv_put hv1375_ (l := 0) (u := 64) rfl (by omega) (by omega)
  have hf1378_ : jfr jW_X12_writes a0 (jxu a0 168 ((a0 146 32).toNat) x1) := jfr_put (jfr_rf _ _) rfl
  have hf1379_ : jfr jW_X12_writes a0 (jxu (jxu a0 168 ((a0 146 32).toNat) x1) 146 32 (jxw ((a0 146 32) + 1))) := jfr_put hf1378_ rfl
  exact jt_rV ⟨hv1376_, hf1379_, rfl, (show jxw ((a0 146 32) + 1) = (a0 146 32) + 1 from by omega), (by simp [jxu]), (by intro k hk; simp [jxu, hk])⟩
def jWat : List (Nat × Nat) := [(146, 23), (146, 24), (146, 26), (146, 27), (146, 33)]
def jW_X12_atom : List (Nat × Nat) := [(146, 23), (146, 24), (146, 26), (146, 27), (146, 32), (146, 33), (168, 9999)]
abbrev jQ_X12_atom (x1 : Int) (a0 b0 : Nat → Nat → Int) : List jxV → (Nat → Nat → Int) → (Nat → Nat → Int) → Prop := rI (fun r a b => (iv a) ∧ (jfr jW_X12_atom a0 a) ∧ (b0 = b) ∧ ((0 ≤ r ∧ r ≤ 1)) ∧ (a0 146 23 ≤ a 146 23) ∧ (a 146 23 ≤ a 146 22) ∧ ((r = 1 → (a0 146 23) + 2 ≤ a 146 23)) ∧ (((r = 0 ∧ a 146 32 = a0 146 32) ∨ (r = 1 ∧ a 146 32 = (a0 146 32) + 1))) ∧ (r = 1 → 1024 ≤ a 168 (a0 146 32).toNat) ∧ (∀ k : Nat, (k : Int) < a0 146 32 → a 168 k = a0 168 k))
theorem cp_X12_atom_113 (E : jxE) (d : Nat) (hd : Nat.ble 3 (d + 1) = true) (x1 : Int) (a0 b0 : Nat → Nat → Int) (hv0 : iv a0) (hp0 : (a0 146 23) + (a0 146 25) ≤ a0 146 22) (hp1 : (0 ≤ x1 → 2 ≤ a0 146 25)) (hp2 : a0 146 32 < 64) (hp3 : x1 ≤ 15) (hp4 : 0 - 1 ≤ x1) : ∀ (y1 : Int) (a : Nat → Nat → Int), iv a → jfr jW_X12_atom a0 a → 3 ≤ y1 → y1 ≤ 9 → 1 ≤ a 146 33 → a 146 23 ≤ a 146 22 → (a0 146 23) + 2 ≤ a 146 23 → 3 ≤ y1 → y1 ≤ 9 → a 146 32 = a0 146 32 → (jfr jWat a0 a) → jt (jxX E d 220 113 [some (.inr (.inr (.inl 146))), some (.inl y1)] [] (jxSH, a, b0)) (jQ_X12_atom x1 a0 b0) := by
  intro y1 a hv hf hi0 hi1 hi2 hi3 hi4 hi5 hi6 hi7 hfat
  refine jt_eq (bq_X12_atom_113 E d y1 a b0) ?_
  have h1380_ := iv_get hv (k := 146) (j := 33) (l := 0) (u := 12) rfl
  have h1381_ := iv_get hv (k := 146) (j := 23) (l := 0) (u := 200) rfl
  have h1382_ := iv_get hv (k := 146) (j := 22) (l := 0) (u := 200) rfl
  have h1383_ : a 146 22 = a0 146 22 := hf 146 22 rfl
  have h1384_ := iv_get hv0 (k := 146) (j := 22) (l := 0) (u := 200) rfl
  have h1385_ := iv_get hv0 (k := 146) (j := 23) (l := 0) (u := 200) rfl
  have h1386_ := iv_get hv (k := 146) (j := 32) (l := 0) (u := 64) rfl
  have h1387_ := iv_get hv0 (k := 146) (j := 32) (l := 0) (u := 64) rfl
  refine jt_bV (sp_X12_writes E d (jd_le hd rfl) (jxw ((jxw (1024 * (jxw (1 + y1)))) + (a 146 26))) a b0 hv (show a 146 32 < 64 from by omega)) (fun a1388_ b1388_ h1388_ => ?_)
  obtain ⟨hv1388_, hf1388_, rfl, hq1388_0, hq1388_1, hq1388_2⟩ := h1388_
  have h1389_ := iv_get hv1388_ (k := 146) (j := 32) (l := 0) (u := 64) rfl
  have i26_1388 := iv_get hv (k := 146) (j := 26) (l := 0) (u := 999) rfl
  have hA1388 : jxw ((jxw (1024 * (jxw (1 + y1)))) + (a 146 26)) = 1024 * (1 + y1) + a 146 26 := by
    have := iv_get hv (k := 146) (j := 26) (l := 0) (u := 999) rfl
    rw [jxw_id (x := 1 + y1) (by omega) (by omega), jxw_id (x := 1024 * (1 + y1)) (by omega) (by omega), jxw_id (by omega) (by omega)]
  have hf1390_ : jfr jW_X12_atom a0 a1388_ := jfr_tr hf hf1388_ rfl
  have h1391_ := iv_get hv1388_ (k := 146) (j := 23) (l := 0) (u := 200) rfl
  have h1392_ : a1388_ 146 23 = a 146 23 := hf1388_ 146 23 rfl
  have h1393_ := iv_get hv1388_ (k := 146) (j := 22) (l := 0) (u := 200) rfl
  have h1394_ : a1388_ 146 22 = a 146 22 := hf1388_ 146 22 rfl
  exact jt_rI ⟨hv1388_, hf1390_, rfl, (show (0 ≤ 1 ∧ 1 ≤ 1) from by omega), (show a0 146 23 ≤ a1388_ 146 23 from by omega), (show a1388_ 146 23 ≤ a1388_ 146 22 from by omega), (show (1 = 1 → (a0 146 23) + 2 ≤ a1388_ 146 23) from by omega), (show ((1 = 0 ∧ a1388_ 146 32 = a0 146 32) ∨ (1 = 1 ∧ a1388_ 146 32 = (a0 146 32) + 1)) from by omega), (fun _ => by rw [show (a0 146 32).toNat = (a 146 32).toNat from (by omega), hq1388_1, hA1388]; omega), (fun k hk => by rw [hq1388_2 k (by omega)]; exact hfat 168 k rfl)⟩
theorem cp_X12_atom_105 (E : jxE) (d : Nat) (hd : Nat.ble 3 (d + 1) = true) (x1 : Int) (a0 b0 : Nat → Nat → Int) (hv0 : iv a0) (hp0 : (a0 146 23) + (a0 146 25) ≤ a0 146 22) (hp1 : (0 ≤ x1 → 2 ≤ a0 146 25)) (hp2 : a0 146 32 < 64) (hp3 : x1 ≤ 15) (hp4 : 0 - 1 ≤ x1) : ∀ (y1 s1 s2 : Int) (a : Nat → Nat → Int), iv a → jfr jW_X12_atom a0 a → 3 ≤ y1 → y1 ≤ 8 → 0 ≤ s1 → s1 ≤ 0 → 15 ≤ s2 → s2 ≤ 999 → 1 ≤ a 146 33 → a 146 23 ≤ a 146 22 → (a0 146 23) + 2 ≤ a 146 23 → 3 ≤ y1 → y1 ≤ 9 → a 146 32 = a0 146 32 → (jfr jWat a0 a) → jt (jxX E d 220 105 [some (.inr (.inr (.inl 146))), some (.inl y1)] [.inl s2, .inl s1, .inr (.inr (.inl 146))] (jxSH, a, b0)) (jQ_X12_atom x1 a0 b0) := by
  intro y1 s1 s2 a hv hf hi0 hi1 hi2 hi3 hi4 hi5 hi6 hi7 hi8 hi9 hi10 hi11 hfat
  refine jt_eq (bq_X12_atom_105 E d y1 s1 s2 a b0) ?_
  have h1395_ := iv_get hv (k := 146) (j := 33) (l := 0) (u := 12) rfl
  have h1396_ := iv_get hv (k := 146) (j := 23) (l := 0) (u := 200) rfl
  have h1397_ := iv_get hv (k := 146) (j := 22) (l := 0) (u := 200) rfl
  have h1398_ : a 146 22 = a0 146 22 := hf 146 22 rfl
  have h1399_ := iv_get hv0 (k := 146) (j := 22) (l := 0) (u := 200) rfl
  have h1400_ := iv_get hv0 (k := 146) (j := 23) (l := 0) (u := 200) rfl
  have h1401_ := iv_get hv (k := 146) (j := 32) (l := 0) (u := 64) rfl
  have h1402_ := iv_get hv0 (k := 146) (j := 32) (l := 0) (u := 64) rfl
  refine jt_bI (sp_X12_number E d (jd_le hd rfl) s1 s2 a b0 hv (show a 146 23 ≤ a 146 22 from by omega)) (fun r1403_ a1403_ b1403_ h1403_ => ?_)
  obtain ⟨hv1403_, hf1403_, rfl, hq1403_0, hq1403_1, hq1403_2, hq1403_3, hq1403_4, hq1403_5⟩ := h1403_
  have h1404_ := iv_get hv1403_ (k := 146) (j := 23) (l := 0) (u := 200) rfl
  have h1405_ := iv_get hv1403_ (k := 146) (j := 26) (l := 0) (u := 999) rfl
  refine jt_ite (fun c1406_ => ?_) (fun c1406_ => ?_)
  ·
    have hf1407_ : jfr jW_X12_atom a0 a1403_ := jfr_tr hf hf1403_ rfl
    have h1408_ := iv_get hv1403_ (k := 146) (j := 22) (l := 0) (u := 200) rfl
    have h1409_ : a1403_ 146 22 = a 146 22 := hf1403_ 146 22 rfl
    have h1410_ := iv_get hv1403_ (k := 146) (j := 32) (l := 0) (u := 64) rfl
    have h1411_ : a1403_ 146 32 = a 146 32 := hf1403_ 146 32 rfl
    have hf1412_ : jfr jWat a0 a1403_ := jfr_tr hfat hf1403_ rfl
    exact jt_rI ⟨hv1403_, hf1407_, rfl, (show (0 ≤ 0 ∧ 0 ≤ 1) from by omega), (show a0 146 23 ≤ a1403_ 146 23 from by omega), (show a1403_ 146 23 ≤ a1403_ 146 22 from by omega), (show (0 = 1 → (a0 146 23) + 2 ≤ a1403_ 146 23) from by omega), (show ((0 = 0 ∧ a1403_ 146 32 = a0 146 32) ∨ (0 = 1 ∧ a1403_ 146 32 = (a0 146 32) + 1)) from by omega), (fun h => by omega), (fun k _ => hf1412_ 168 k rfl)⟩
  ·
    have hf1413_ : jfr jW_X12_atom a0 a1403_ := jfr_tr hf hf1403_ rfl
    have h1414_ := iv_get hv1403_ (k := 146) (j := 33) (l := 0) (u := 12) rfl
    have h1415_ : a1403_ 146 33 = a 146 33 := hf1403_ 146 33 rfl
    have h1416_ := iv_get hv1403_ (k := 146) (j := 22) (l := 0) (u := 200) rfl
    have h1417_ : a1403_ 146 22 = a 146 22 := hf1403_ 146 22 rfl
    have h1418_ := iv_get hv1403_ (k := 146) (j := 32) (l := 0) (u := 64) rfl
    have h1419_ : a1403_ 146 32 = a 146 32 := hf1403_ 146 32 rfl
    have hf1420_ : jfr jWat a0 a1403_ := jfr_tr hfat hf1403_ rfl
    exact cp_X12_atom_113 E d hd x1 a0 b0 hv0 hp0 hp1 hp2 hp3 hp4 y1 a1403_ hv1403_ hf1413_ (show 3 ≤ y1 from by omega) (show y1 ≤ 9 from by omega) (show 1 ≤ a1403_ 146 33 from by omega) (show a1403_ 146 23 ≤ a1403_ 146 22 from by omega) (show (a0 146 23) + 2 ≤ a1403_ 146 23 from by omega) (show 3 ≤ y1 from by omega) (show y1 ≤ 9 from by omega) (show a1403_ 146 32 = a0 146 32 from by omega) hf1420_
theorem cp_X12_atom_79 (E : jxE) (d : Nat) (hd : Nat.ble 3 (d + 1) = true) (x1 : Int) (a0 b0 : Nat → Nat → Int) (hv0 : iv a0) (hp0 : (a0 146 23) + (a0 146 25) ≤ a0 146 22) (hp1 : (0 ≤ x1 → 2 ≤ a0 146 25)) (hp2 : a0 146 32 < 64) (hp3 : x1 ≤ 15) (hp4 : 0 - 1 ≤ x1) : ∀ (y1 : Int) (a : Nat → Nat → Int), iv a → jfr jW_X12_atom a0 a → 3 ≤ y1 → y1 ≤ 8 → 1 ≤ a 146 33 → a 146 23 ≤ a 146 22 → (a0 146 23) + 2 ≤ a 146 23 → 3 ≤ y1 → y1 ≤ 9 → a 146 32 = a0 146 32 → (jfr jWat a0 a) → jt (jxX E d 220 79 [some (.inr (.inr (.inl 146))), some (.inl y1)] [] (jxSH, a, b0)) (jQ_X12_atom x1 a0 b0) := by
  intro y1 a hv hf hi0 hi1 hi2 hi3 hi4 hi5 hi6 hi7 hfat
  refine jt_eq (bq_X12_atom_79 E d y1 a b0) ?_
  have h1421_ := iv_get hv (k := 146) (j := 33) (l := 0) (u := 12) rfl
  have h1422_ := iv_get hv (k := 146) (j := 23) (l := 0) (u := 200) rfl
  have h1423_ := iv_get hv (k := 146) (j := 22) (l := 0) (u := 200) rfl
  have h1424_ : a 146 22 = a0 146 22 := hf 146 22 rfl
  have h1425_ := iv_get hv0 (k := 146) (j := 22) (l := 0) (u := 200) rfl
  have h1426_ := iv_get hv0 (k := 146) (j := 23) (l := 0) (u := 200) rfl
  have h1427_ := iv_get hv (k := 146) (j := 32) (l := 0) (u := 64) rfl
  have h1428_ := iv_get hv0 (k := 146) (j := 32) (l := 0) (u := 64) rfl
  refine jt_ite (fun c1429_ => ?_) (fun c1429_ => ?_)
  ·
    refine jt_ite (fun c1430_ => ?_) (fun c1430_ => ?_)
    ·
      exact cp_X12_atom_105 E d hd x1 a0 b0 hv0 hp0 hp1 hp2 hp3 hp4 y1 0 999 a hv hf (show 3 ≤ y1 from by omega) (show y1 ≤ 8 from by omega) (show 0 ≤ 0 from by omega) (show 0 ≤ 0 from by omega) (show 15 ≤ 999 from by omega) (show 999 ≤ 999 from by omega) (show 1 ≤ a 146 33 from by omega) (show a 146 23 ≤ a 146 22 from by omega) (show (a0 146 23) + 2 ≤ a 146 23 from by omega) (show 3 ≤ y1 from by omega) (show y1 ≤ 9 from by omega) (show a 146 32 = a0 146 32 from by omega) hfat
    ·
      exact cp_X12_atom_105 E d hd x1 a0 b0 hv0 hp0 hp1 hp2 hp3 hp4 y1 0 99 a hv hf (show 3 ≤ y1 from by omega) (show y1 ≤ 8 from by omega) (show 0 ≤ 0 from by omega) (show 0 ≤ 0 from by omega) (show 15 ≤ 99 from by omega) (show 99 ≤ 999 from by omega) (show 1 ≤ a 146 33 from by omega) (show a 146 23 ≤ a 146 22 from by omega) (show (a0 146 23) + 2 ≤ a 146 23 from by omega) (show 3 ≤ y1 from by omega) (show y1 ≤ 9 from by omega) (show a 146 32 = a0 146 32 from by omega) hfat
  ·
    exact cp_X12_atom_105 E d hd x1 a0 b0 hv0 hp0 hp1 hp2 hp3 hp4 y1 0 15 a hv hf (show 3 ≤ y1 from by omega) (show y1 ≤ 8 from by omega) (show 0 ≤ 0 from by omega) (show 0 ≤ 0 from by omega) (show 15 ≤ 15 from by omega) (show 15 ≤ 999 from by omega) (show 1 ≤ a 146 33 from by omega) (show a 146 23 ≤ a 146 22 from by omega) (show (a0 146 23) + 2 ≤ a 146 23 from by omega) (show 3 ≤ y1 from by omega) (show y1 ≤ 9 from by omega) (show a 146 32 = a0 146 32 from by omega) hfat
theorem cp_X12_atom_53 (E : jxE) (d : Nat) (hd : Nat.ble 3 (d + 1) = true) (x1 : Int) (a0 b0 : Nat → Nat → Int) (hv0 : iv a0) (hp0 : (a0 146 23) + (a0 146 25) ≤ a0 146 22) (hp1 : (0 ≤ x1 → 2 ≤ a0 146 25)) (hp2 : a0 146 32 < 64) (hp3 : x1 ≤ 15) (hp4 : 0 - 1 ≤ x1) : ∀ (y1 : Int) (a : Nat → Nat → Int), iv a → jfr jW_X12_atom a0 a → 3 ≤ y1 → y1 ≤ 9 → a 146 33 ≤ 11 → a 146 23 ≤ a 146 22 → (a0 146 23) + 2 ≤ a 146 23 → 3 ≤ y1 → y1 ≤ 9 → a 146 32 = a0 146 32 → (jfr jWat a0 a) → jt (jxX E d 220 53 [some (.inr (.inr (.inl 146))), some (.inl y1)] [] (jxSH, a, b0)) (jQ_X12_atom x1 a0 b0) := by
  intro y1 a hv hf hi0 hi1 hi2 hi3 hi4 hi5 hi6 hi7 hfat
  refine jt_eq (bq_X12_atom_53 E d y1 a b0) ?_
  have h1431_ := iv_get hv (k := 146) (j := 33) (l := 0) (u := 12) rfl
  have h1432_ := iv_get hv (k := 146) (j := 23) (l := 0) (u := 200) rfl
  have h1433_ := iv_get hv (k := 146) (j := 22) (l := 0) (u := 200) rfl
  have h1434_ : a 146 22 = a0 146 22 := hf 146 22 rfl
  have h1435_ := iv_get hv0 (k := 146) (j := 22) (l := 0) (u := 200) rfl
  have h1436_ := iv_get hv0 (k := 146) (j := 23) (l := 0) (u := 200) rfl
  have h1437_ := iv_get hv (k := 146) (j := 32) (l := 0) (u := 64) rfl
  have h1438_ := iv_get hv0 (k := 146) (j := 32) (l := 0) (u := 64) rfl
  refine jt_ite (fun c1439_ => ?_) (fun c1439_ => ?_)
  ·
    have h1441_ : jxw ((a 146 33) + 1) = (a 146 33) + 1 := jxw_id (by omega) (by omega)
    have hv1440_ : iv (jxu a 146 33 (jxw ((a 146 33) + 1))) := iv_put hv (l := 0) (u := 12) rfl (by omega) (by omega)
    have hv1442_ : iv (jxu (jxu a 146 33 (jxw ((a 146 33) + 1))) 146 26 0) := iv_put hv1440_ (l := 0) (u := 999) rfl (by omega) (by omega)
    have hf1443_ : jfr jW_X12_atom a0 (jxu a 146 33 (jxw ((a 146 33) + 1))) := jfr_put hf rfl
    have hf1444_ : jfr jW_X12_atom a0 (jxu (jxu a 146 33 (jxw ((a 146 33) + 1))) 146 26 0) := jfr_put hf1443_ rfl
    have hf1445_ : jfr jWat a0 (jxu a 146 33 (jxw ((a 146 33) + 1))) := jfr_put hfat rfl
    have hf1446_ : jfr jWat a0 (jxu (jxu a 146 33 (jxw ((a 146 33) + 1))) 146 26 0) := jfr_put hf1445_ rfl
    exact cp_X12_atom_113 E d hd x1 a0 b0 hv0 hp0 hp1 hp2 hp3 hp4 y1 (jxu (jxu a 146 33 (jxw ((a 146 33) + 1))) 146 26 0) hv1442_ hf1444_ (show 3 ≤ y1 from by omega) (show y1 ≤ 9 from by omega) (show 1 ≤ jxw ((a 146 33) + 1) from by omega) (show a 146 23 ≤ a 146 22 from by omega) (show (a0 146 23) + 2 ≤ a 146 23 from by omega) (show 3 ≤ y1 from by omega) (show y1 ≤ 9 from by omega) (show a 146 32 = a0 146 32 from by omega) hf1446_
  ·
    refine jt_ite (fun c1447_ => ?_) (fun c1447_ => ?_)
    ·
      have h1449_ : jxw ((a 146 33) + 1) = (a 146 33) + 1 := jxw_id (by omega) (by omega)
      have hv1448_ : iv (jxu a 146 33 (jxw ((a 146 33) + 1))) := iv_put hv (l := 0) (u := 12) rfl (by omega) (by omega)
      have hv1450_ : iv (jxu (jxu a 146 33 (jxw ((a 146 33) + 1))) 146 26 0) := iv_put hv1448_ (l := 0) (u := 999) rfl (by omega) (by omega)
      have hf1451_ : jfr jW_X12_atom a0 (jxu a 146 33 (jxw ((a 146 33) + 1))) := jfr_put hf rfl
      have hf1452_ : jfr jW_X12_atom a0 (jxu (jxu a 146 33 (jxw ((a 146 33) + 1))) 146 26 0) := jfr_put hf1451_ rfl
      have hf1453_ : jfr jWat a0 (jxu a 146 33 (jxw ((a 146 33) + 1))) := jfr_put hfat rfl
      have hf1454_ : jfr jWat a0 (jxu (jxu a 146 33 (jxw ((a 146 33) + 1))) 146 26 0) := jfr_put hf1453_ rfl
      exact cp_X12_atom_113 E d hd x1 a0 b0 hv0 hp0 hp1 hp2 hp3 hp4 y1 (jxu (jxu a 146 33 (jxw ((a 146 33) + 1))) 146 26 0) hv1450_ hf1452_ (show 3 ≤ y1 from by omega) (show y1 ≤ 9 from by omega) (show 1 ≤ jxw ((a 146 33) + 1) from by omega) (show a 146 23 ≤ a 146 22 from by omega) (show (a0 146 23) + 2 ≤ a 146 23 from by omega) (show 3 ≤ y1 from by omega) (show y1 ≤ 9 from by omega) (show a 146 32 = a0 146 32 from by omega) hf1454_
    ·
      have h1456_ : jxw ((a 146 33) + 1) = (a 146 33) + 1 := jxw_id (by omega) (by omega)
      have hv1455_ : iv (jxu a 146 33 (jxw ((a 146 33) + 1))) := iv_put hv (l := 0) (u := 12) rfl (by omega) (by omega)
      have hv1457_ : iv (jxu (jxu a 146 33 (jxw ((a 146 33) + 1))) 146 26 0) := iv_put hv1455_ (l := 0) (u := 999) rfl (by omega) (by omega)
      have hf1458_ : jfr jW_X12_atom a0 (jxu a 146 33 (jxw ((a 146 33) + 1))) := jfr_put hf rfl
      have hf1459_ : jfr jW_X12_atom a0 (jxu (jxu a 146 33 (jxw ((a 146 33) + 1))) 146 26 0) := jfr_put hf1458_ rfl
      have hf1460_ : jfr jWat a0 (jxu a 146 33 (jxw ((a 146 33) + 1))) := jfr_put hfat rfl
      have hf1461_ : jfr jWat a0 (jxu (jxu a 146 33 (jxw ((a 146 33) + 1))) 146 26 0) := jfr_put hf1460_ rfl
      exact cp_X12_atom_79 E d hd x1 a0 b0 hv0 hp0 hp1 hp2 hp3 hp4 y1 (jxu (jxu a 146 33 (jxw ((a 146 33) + 1))) 146 26 0) hv1457_ hf1459_ (show 3 ≤ y1 from by omega) (show y1 ≤ 8 from by omega) (show 1 ≤ jxw ((a 146 33) + 1) from by omega) (show a 146 23 ≤ a 146 22 from by omega) (show (a0 146 23) + 2 ≤ a 146 23 from by omega) (show 3 ≤ y1 from by omega) (show y1 ≤ 9 from by omega) (show a 146 32 = a0 146 32 from by omega) hf1461_
theorem sp_X12_atom (E : jxE) (d : Nat) (hd : Nat.ble 3 d = true) (x1 : Int) (a0 b0 : Nat → Nat → Int) (hv0 : iv a0) (hp0 : (a0 146 23) + (a0 146 25) ≤ a0 146 22) (hp1 : (0 ≤ x1 → 2 ≤ a0 146 25)) (hp2 : a0 146 32 < 64) (hp3 : x1 ≤ 15) (hp4 : 0 - 1 ≤ x1) : jt (jxC E d 220 [.inr (.inr (.inl 146)), .inl x1] (jxSH, a0, b0)) (jQ_X12_atom x1 a0 b0) := by
  obtain ⟨d, rfl⟩ := jd_succ hd
  refine jt_eq (bq_X12_atom E d x1 a0 b0) ?_
  have h1462_ := iv_get hv0 (k := 146) (j := 23) (l := 0) (u := 200) rfl
  have h1463_ := iv_get hv0 (k := 146) (j := 25) (l := 0) (u := 200) rfl
  have h1464_ := iv_get hv0 (k := 146) (j := 22) (l := 0) (u := 200) rfl
  have h1465_ := iv_get hv0 (k := 146) (j := 32) (l := 0) (u := 64) rfl
  refine jt_ite (fun c1466_ => ?_) (fun c1466_ => ?_)
  ·
    refine jt_bI (sp_X12_fails E d (jd_le hd rfl) 0 (a0 146 23) a0 b0 hv0) (fun r1467_ a1467_ b1467_ h1467_ => ?_)
    obtain ⟨hv1467_, hf1467_, rfl, hq1467_0, hq1467_1, hq1467_2, hq1467_3⟩ := h1467_
    refine jt_grd (by omega) ?_
    have hf1468_ : jfr jW_X12_atom a0 a1467_ := jfr_tr (jfr_rf _ _) hf1467_ rfl
    have h1469_ := iv_get hv1467_ (k := 146) (j := 23) (l := 0) (u := 200) rfl
    have h1470_ : a1467_ 146 23 = a0 146 23 := hf1467_ 146 23 rfl
    have h1471_ := iv_get hv1467_ (k := 146) (j := 22) (l := 0) (u := 200) rfl
    have h1472_ : a1467_ 146 22 = a0 146 22 := hf1467_ 146 22 rfl
    have h1473_ := iv_get hv1467_ (k := 146) (j := 32) (l := 0) (u := 64) rfl
    have h1474_ : a1467_ 146 32 = a0 146 32 := hf1467_ 146 32 rfl
    have hf1475_ : jfr jWat a0 a1467_ := jfr_tr (jfr_rf _ _) hf1467_ rfl
    exact jt_rI ⟨hv1467_, hf1468_, rfl, (show (0 ≤ r1467_ ∧ r1467_ ≤ 1) from by omega), (show a0 146 23 ≤ a1467_ 146 23 from by omega), (show a1467_ 146 23 ≤ a1467_ 146 22 from by omega), (show (r1467_ = 1 → (a0 146 23) + 2 ≤ a1467_ 146 23) from by omega), (show ((r1467_ = 0 ∧ a1467_ 146 32 = a0 146 32) ∨ (r1467_ = 1 ∧ a1467_ 146 32 = (a0 146 32) + 1)) from by omega), (fun h => by omega), (fun k _ => hf1475_ 168 k rfl)⟩
  ·
    refine jt_ite (fun c1476_ => ?_) (fun c1476_ => ?_)
    ·
      refine jt_bI (sp_X12_fails E d (jd_le hd rfl) 0 (a0 146 23) a0 b0 hv0) (fun r1477_ a1477_ b1477_ h1477_ => ?_)
      obtain ⟨hv1477_, hf1477_, rfl, hq1477_0, hq1477_1, hq1477_2, hq1477_3⟩ := h1477_
      refine jt_grd (by omega) ?_
      have hf1478_ : jfr jW_X12_atom a0 a1477_ := jfr_tr (jfr_rf _ _) hf1477_ rfl
      have h1479_ := iv_get hv1477_ (k := 146) (j := 23) (l := 0) (u := 200) rfl
      have h1480_ : a1477_ 146 23 = a0 146 23 := hf1477_ 146 23 rfl
      have h1481_ := iv_get hv1477_ (k := 146) (j := 22) (l := 0) (u := 200) rfl
      have h1482_ : a1477_ 146 22 = a0 146 22 := hf1477_ 146 22 rfl
      have h1483_ := iv_get hv1477_ (k := 146) (j := 32) (l := 0) (u := 64) rfl
      have h1484_ : a1477_ 146 32 = a0 146 32 := hf1477_ 146 32 rfl
      have hf1485_ : jfr jWat a0 a1477_ := jfr_tr (jfr_rf _ _) hf1477_ rfl
      exact jt_rI ⟨hv1477_, hf1478_, rfl, (show (0 ≤ r1477_ ∧ r1477_ ≤ 1) from by omega), (show a0 146 23 ≤ a1477_ 146 23 from by omega), (show a1477_ 146 23 ≤ a1477_ 146 22 from by omega), (show (r1477_ = 1 → (a0 146 23) + 2 ≤ a1477_ 146 23) from by omega), (show ((r1477_ = 0 ∧ a1477_ 146 32 = a0 146 32) ∨ (r1477_ = 1 ∧ a1477_ 146 32 = (a0 146 32) + 1)) from by omega), (fun h => by omega), (fun k _ => hf1485_ 168 k rfl)⟩
    ·
      have h1486_ := iv_get hv0 (k := 146) (j := 33) (l := 0) (u := 12) rfl
      refine jt_ite (fun c1487_ => ?_) (fun c1487_ => ?_)
      ·
        refine jt_bI (sp_X12_fails E d (jd_le hd rfl) 2 (a0 146 23) a0 b0 hv0) (fun r1488_ a1488_ b1488_ h1488_ => ?_)
        obtain ⟨hv1488_, hf1488_, rfl, hq1488_0, hq1488_1, hq1488_2, hq1488_3⟩ := h1488_
        refine jt_grd (by omega) ?_
        have hf1489_ : jfr jW_X12_atom a0 a1488_ := jfr_tr (jfr_rf _ _) hf1488_ rfl
        have h1490_ := iv_get hv1488_ (k := 146) (j := 23) (l := 0) (u := 200) rfl
        have h1491_ : a1488_ 146 23 = a0 146 23 := hf1488_ 146 23 rfl
        have h1492_ := iv_get hv1488_ (k := 146) (j := 22) (l := 0) (u := 200) rfl
        have h1493_ : a1488_ 146 22 = a0 146 22 := hf1488_ 146 22 rfl
        have h1494_ := iv_get hv1488_ (k := 146) (j := 32) (l := 0) (u := 64) rfl
        have h1495_ : a1488_ 146 32 = a0 146 32 := hf1488_ 146 32 rfl
        have hf1496_ : jfr jWat a0 a1488_ := jfr_tr (jfr_rf _ _) hf1488_ rfl
        exact jt_rI ⟨hv1488_, hf1489_, rfl, (show (0 ≤ r1488_ ∧ r1488_ ≤ 1) from by omega), (show a0 146 23 ≤ a1488_ 146 23 from by omega), (show a1488_ 146 23 ≤ a1488_ 146 22 from by omega), (show (r1488_ = 1 → (a0 146 23) + 2 ≤ a1488_ 146 23) from by omega), (show ((r1488_ = 0 ∧ a1488_ 146 32 = a0 146 32) ∨ (r1488_ = 1 ∧ a1488_ 146 32 = (a0 146 32) + 1)) from by omega), (fun h => by omega), (fun k _ => hf1496_ 168 k rfl)⟩
      ·
        have h1498_ : jxw ((a0 146 23) + (a0 146 25)) = (a0 146 23) + (a0 146 25) := jxw_id (by omega) (by omega)
        have hv1497_ : iv (jxu a0 146 23 (jxw ((a0 146 23) + (a0 146 25)))) := iv_put hv0 (l := 0) (u := 200) rfl (by omega) (by omega)
        have hf1499_ : jfr jW_X12_atom a0 (jxu a0 146 23 (jxw ((a0 146 23) + (a0 146 25)))) := jfr_put (jfr_rf _ _) rfl
        have hf1500_ : jfr jWat a0 (jxu a0 146 23 (jxw ((a0 146 23) + (a0 146 25)))) := jfr_put (jfr_rf _ _) rfl
        exact cp_X12_atom_53 E d hd x1 a0 b0 hv0 hp0 hp1 hp2 hp3 hp4 x1 (jxu a0 146 23 (jxw ((a0 146 23) + (a0 146 25)))) hv1497_ hf1499_ (show 3 ≤ x1 from by omega) (show x1 ≤ 9 from by omega) (show a0 146 33 ≤ 11 from by omega) (show jxw ((a0 146 23) + (a0 146 25)) ≤ a0 146 22 from by omega) (show (a0 146 23) + 2 ≤ jxw ((a0 146 23) + (a0 146 25)) from by omega) (show 3 ≤ x1 from by omega) (show x1 ≤ 9 from by omega) (show a0 146 32 = a0 146 32 from by omega) hf1500_
def jW_X12_clause : List (Nat × Nat) := [(146, 23), (146, 24), (146, 25), (146, 26), (146, 27), (195, 9999)]
abbrev jQ_X12_clause (x1 : Int) (a0 b0 : Nat → Nat → Int) : List jxV → (Nat → Nat → Int) → (Nat → Nat → Int) → Prop := rI (fun r a b => (iv a) ∧ (jfr jW_X12_clause a0 a) ∧ (b0 = b) ∧ ((0 ≤ r ∧ r ≤ 1)) ∧ (a0 146 23 ≤ a 146 23) ∧ (a 146 23 ≤ a 146 22) ∧ ((r = 1 → (x1 < 12 ∧ (a0 146 23) + 2 ≤ a 146 23))) ∧ (((a0 146 22 = 0 ∧ a0 146 24 = 0) → (r = 0 ∧ a 146 24 = 1))) ∧ (r = 1 → (CF (UB (a0 164)) (a0 146 22).toNat (SK (UB (a0 164)) (a0 146 22).toNat (a0 146 23).toNat) x1 (LSr a0 (UB (a0 164)) (a0 146 22).toNat (SK (UB (a0 164)) (a0 146 22).toNat (a0 146 23).toNat) x1.toNat)) = 0 ∧ SK (UB (a0 164)) (a0 146 22).toNat (a 146 23).toNat = (C4 (UB (a0 164)) (a0 146 22).toNat (SK (UB (a0 164)) (a0 146 22).toNat (a0 146 23).toNat)) ∧ CLP a0 a (UB (a0 164)) (a0 146 22).toNat (SK (UB (a0 164)) (a0 146 22).toNat (a0 146 23).toNat) x1.toNat) ∧ (r = 0 → ¬ (CF (UB (a0 164)) (a0 146 22).toNat (SK (UB (a0 164)) (a0 146 22).toNat (a0 146 23).toNat) x1 (LSr a0 (UB (a0 164)) (a0 146 22).toNat (SK (UB (a0 164)) (a0 146 22).toNat (a0 146 23).toNat) x1.toNat)) = 0 ∧ a 146 24 = CF (UB (a0 164)) (a0 146 22).toNat (SK (UB (a0 164)) (a0 146 22).toNat (a0 146 23).toNat) x1 (LSr a0 (UB (a0 164)) (a0 146 22).toNat (SK (UB (a0 164)) (a0 146 22).toNat (a0 146 23).toNat) x1.toNat)) ∧ ((r = 1 → a 146 24 = 0)))
theorem cp_X12_clause_155 (E : jxE) (d : Nat) (hd : Nat.ble 3 (d + 1) = true) (x1 : Int) (a0 b0 : Nat → Nat → Int) (hv0 : iv a0) (hp0 : a0 146 23 ≤ a0 146 22) (hp1 : 0 ≤ x1) (hp2 : x1 ≤ 12) (hp3 : a0 146 24 = 0) : ∀ (a : Nat → Nat → Int), iv a → jfr jW_X12_clause a0 a → a0 146 23 ≤ a 146 23 → a 146 23 ≤ a 146 22 → (¬ (CF (UB (a0 164)) (a0 146 22).toNat (SK (UB (a0 164)) (a0 146 22).toNat (a0 146 23).toNat) x1 (LSr a0 (UB (a0 164)) (a0 146 22).toNat (SK (UB (a0 164)) (a0 146 22).toNat (a0 146 23).toNat) x1.toNat)) = 0 ∧ a 146 24 = CF (UB (a0 164)) (a0 146 22).toNat (SK (UB (a0 164)) (a0 146 22).toNat (a0 146 23).toNat) x1 (LSr a0 (UB (a0 164)) (a0 146 22).toNat (SK (UB (a0 164)) (a0 146 22).toNat (a0 146 23).toNat) x1.toNat)) → 1 ≤ a0 146 22 → jt (jxX E d 281 155 [none, none, none, none, none] [] (jxSH, a, b0)) (jQ_X12_clause x1 a0 b0) := by
  intro a hv hf hi0 hi1 hcf hi3
  refine jt_eq (bq_X12_clause_155 E d a b0) ?_
  have h1501_ := iv_get hv0 (k := 146) (j := 23) (l := 0) (u := 200) rfl
  have h1502_ := iv_get hv (k := 146) (j := 23) (l := 0) (u := 200) rfl
  have h1503_ := iv_get hv (k := 146) (j := 22) (l := 0) (u := 200) rfl
  have h1504_ : a 146 22 = a0 146 22 := hf 146 22 rfl
  have h1505_ := iv_get hv0 (k := 146) (j := 22) (l := 0) (u := 200) rfl
  have h4 : a 164 = a0 164 := funext fun j => hf 164 j rfl
  have h22 := hf 146 22 rfl
  exact jt_rI ⟨hv, hf, rfl, (show (0 ≤ 0 ∧ 0 ≤ 1) from by omega), (show a0 146 23 ≤ a 146 23 from by omega), (show a 146 23 ≤ a 146 22 from by omega), (show (0 = 1 → (x1 < 12 ∧ (a0 146 23) + 2 ≤ a 146 23)) from by omega), (show ((a0 146 22 = 0 ∧ a0 146 24 = 0) → (0 = 0 ∧ a 146 24 = 1)) from by omega), (fun h => absurd h (by omega)), (fun _ => hcf), (show (0 = 1 → a 146 24 = 0) from by omega)⟩
theorem cp_X12_clause_157 (E : jxE) (d : Nat) (hd : Nat.ble 3 (d + 1) = true) (x1 : Int) (a0 b0 : Nat → Nat → Int) (hv0 : iv a0) (hp0 : a0 146 23 ≤ a0 146 22) (hp1 : 0 ≤ x1) (hp2 : x1 ≤ 12) (hp3 : a0 146 24 = 0) : ∀ (y1 : Int) (a : Nat → Nat → Int), iv a → jfr jW_X12_clause a0 a → 0 ≤ y1 → y1 ≤ 11 → a 146 23 ≤ a 146 22 → (a0 146 23) + 2 ≤ a 146 23 → y1 = x1 → y1 < 12 → 0 ≤ y1 → a 146 26 ≤ 900 → (y1 = x1) → x1 ≤ 11 → 0 ≤ x1 → ((CF (UB (a0 164)) (a0 146 22).toNat (SK (UB (a0 164)) (a0 146 22).toNat (a0 146 23).toNat) x1 (LSr a0 (UB (a0 164)) (a0 146 22).toNat (SK (UB (a0 164)) (a0 146 22).toNat (a0 146 23).toNat) x1.toNat)) = 0) → a 146 24 = 0 → (a 146 26 = NV (UB (a0 164)) (a0 146 22).toNat (C3 (UB (a0 164)) (a0 146 22).toNat (SK (UB (a0 164)) (a0 146 22).toNat (a0 146 23).toNat))) → (SK (UB (a0 164)) (a0 146 22).toNat (a 146 23).toNat = (C4 (UB (a0 164)) (a0 146 22).toNat (SK (UB (a0 164)) (a0 146 22).toNat (a0 146 23).toNat))) → (a 195 (3 * x1.toNat) = NV (UB (a0 164)) (a0 146 22).toNat (C1 (UB (a0 164)) (a0 146 22).toNat (SK (UB (a0 164)) (a0 146 22).toNat (a0 146 23).toNat)) ∧ a 195 (3 * x1.toNat + 1) = NV (UB (a0 164)) (a0 146 22).toNat (C2 (UB (a0 164)) (a0 146 22).toNat (SK (UB (a0 164)) (a0 146 22).toNat (a0 146 23).toNat)) ∧ ∀ j, j < 3 * x1.toNat → a 195 j = a0 195 j) → 1 ≤ a0 146 22 → jt (jxX E d 281 157 [some (.inr (.inr (.inl 146))), some (.inl y1), none, none, none] [] (jxSH, a, b0)) (jQ_X12_clause x1 a0 b0) := by
  intro y1 a hv hf hi0 hi1 hi2 hi3 hi4 hi5 hi6 hi7 hy1 hi9 hi10 hcf hi12 hsd hnx hr hi16
  refine jt_eq (bq_X12_clause_157 E d y1 a b0) ?_
  have h1506_ := iv_get hv (k := 146) (j := 23) (l := 0) (u := 200) rfl
  have h1507_ := iv_get hv (k := 146) (j := 22) (l := 0) (u := 200) rfl
  have h1508_ : a 146 22 = a0 146 22 := hf 146 22 rfl
  have h1509_ := iv_get hv0 (k := 146) (j := 22) (l := 0) (u := 200) rfl
  have h1510_ := iv_get hv0 (k := 146) (j := 23) (l := 0) (u := 200) rfl
  have h1511_ := iv_get hv (k := 146) (j := 26) (l := 0) (u := 999) rfl
  have h4 : a 164 = a0 164 := funext fun j => hf 164 j rfl
  have h22 := hf 146 22 rfl
  have hq : ∀ j, jxu a 195 ((jxw ((jxw (3 * y1)) + 2)).toNat) (a 146 26) 195 j = if j = 3 * x1.toNat + 2 then a 146 26 else a 195 j := fun j => by rw [show 3 * x1.toNat + 2 = (jxw ((jxw (3 * y1)) + 2)).toNat from (by rw [jxw_id (x := 3 * y1) (by omega) (by omega), jxw_id (by omega) (by omega)]; omega)]; simp only [jxu, if_true]
  have hr1 : jxu a 195 ((jxw ((jxw (3 * y1)) + 2)).toNat) (a 146 26) 195 (3 * x1.toNat) = NV (UB (a0 164)) (a0 146 22).toNat (C1 (UB (a0 164)) (a0 146 22).toNat (SK (UB (a0 164)) (a0 146 22).toNat (a0 146 23).toNat)) := by rw [hq, if_neg (by omega)]; exact hr.1
  have hr2 : jxu a 195 ((jxw ((jxw (3 * y1)) + 2)).toNat) (a 146 26) 195 (3 * x1.toNat + 1) = NV (UB (a0 164)) (a0 146 22).toNat (C2 (UB (a0 164)) (a0 146 22).toNat (SK (UB (a0 164)) (a0 146 22).toNat (a0 146 23).toNat)) := by rw [hq, if_neg (by omega)]; exact hr.2.1
  have hr3 : jxu a 195 ((jxw ((jxw (3 * y1)) + 2)).toNat) (a 146 26) 195 (3 * x1.toNat + 2) = NV (UB (a0 164)) (a0 146 22).toNat (C3 (UB (a0 164)) (a0 146 22).toNat (SK (UB (a0 164)) (a0 146 22).toNat (a0 146 23).toNat)) := by rw [hq, if_pos rfl]; exact hsd
  have hr4 : ∀ j, j < 3 * x1.toNat → jxu a 195 ((jxw ((jxw (3 * y1)) + 2)).toNat) (a 146 26) 195 j = a0 195 j := fun j hj => by rw [hq, if_neg (by omega)]; exact hr.2.2 j hj
  have h1512_ : jxw (3 * y1) = 3 * y1 := jxw_id (by omega) (by omega)
  have h1513_ : jxw ((jxw (3 * y1)) + 2) = (jxw (3 * y1)) + 2 := jxw_id (by omega) (by omega)
  refine jt_grd (by omega) ?_
  have hv1514_ : iv (jxu a 195 ((jxw ((jxw (3 * y1)) + 2)).toNat) (a 146 26)) := iv_put hv (l := 0) (u := 900) rfl (by omega) (by omega)
  have hf1515_ : jfr jW_X12_clause a0 (jxu a 195 ((jxw ((jxw (3 * y1)) + 2)).toNat) (a 146 26)) := jfr_put hf rfl
  exact jt_rI ⟨hv1514_, hf1515_, rfl, (show (0 ≤ 1 ∧ 1 ≤ 1) from by omega), (show a0 146 23 ≤ a 146 23 from by omega), (show a 146 23 ≤ a 146 22 from by omega), (show (1 = 1 → (x1 < 12 ∧ (a0 146 23) + 2 ≤ a 146 23)) from by omega), (show ((a0 146 22 = 0 ∧ a0 146 24 = 0) → (1 = 0 ∧ a 146 24 = 1)) from by omega), (fun _ => ⟨hcf, hnx, ⟨hr1, hr2, hr3, hr4⟩⟩), (fun h => absurd h (by decide)), (show (1 = 1 → a 146 24 = 0) from by omega)⟩
theorem cp_X12_clause_130 (E : jxE) (d : Nat) (hd : Nat.ble 3 (d + 1) = true) (x1 : Int) (a0 b0 : Nat → Nat → Int) (hv0 : iv a0) (hp0 : a0 146 23 ≤ a0 146 22) (hp1 : 0 ≤ x1) (hp2 : x1 ≤ 12) (hp3 : a0 146 24 = 0) : ∀ (y1 : Int) (a : Nat → Nat → Int), iv a → jfr jW_X12_clause a0 a → 0 ≤ y1 → y1 ≤ 11 → a 146 23 ≤ a 146 22 → (a0 146 23) + 2 ≤ a 146 23 → y1 = x1 → y1 < 12 → 0 ≤ y1 → a 146 26 ≤ 500 → (TW (UB (a0 164)) (a0 146 22).toNat (SK (UB (a0 164)) (a0 146 22).toNat (a0 146 23).toNat) 15) → (y1 = x1) → x1 ≤ 11 → 0 ≤ x1 → a 146 24 = 0 → (NF (UB (a0 164)) (a0 146 22).toNat (C1 (UB (a0 164)) (a0 146 22).toNat (SK (UB (a0 164)) (a0 146 22).toNat (a0 146 23).toNat)) 0 3 = 0) → (NF (UB (a0 164)) (a0 146 22).toNat (C2 (UB (a0 164)) (a0 146 22).toNat (SK (UB (a0 164)) (a0 146 22).toNat (a0 146 23).toNat)) (LSr a0 (UB (a0 164)) (a0 146 22).toNat (SK (UB (a0 164)) (a0 146 22).toNat (a0 146 23).toNat) x1.toNat + 1) 500 = 0) → (a 146 26 = NV (UB (a0 164)) (a0 146 22).toNat (C2 (UB (a0 164)) (a0 146 22).toNat (SK (UB (a0 164)) (a0 146 22).toNat (a0 146 23).toNat))) → (SK (UB (a0 164)) (a0 146 22).toNat (a 146 23).toNat = (C3 (UB (a0 164)) (a0 146 22).toNat (SK (UB (a0 164)) (a0 146 22).toNat (a0 146 23).toNat))) → (UP (a0 195) (a 195) (3 * x1.toNat) (NV (UB (a0 164)) (a0 146 22).toNat (C1 (UB (a0 164)) (a0 146 22).toNat (SK (UB (a0 164)) (a0 146 22).toNat (a0 146 23).toNat)))) → 1 ≤ a0 146 22 → jt (jxX E d 281 130 [some (.inr (.inr (.inl 146))), some (.inl y1), none, none, none] [] (jxSH, a, b0)) (jQ_X12_clause x1 a0 b0) := by
  intro y1 a hv hf hi0 hi1 hi2 hi3 hi4 hi5 hi6 hi7 htw hy1 hi10 hi11 hi12 h1z h2z hsd hnx hu hi18
  refine jt_eq (bq_X12_clause_130 E d y1 a b0) ?_
  have h1516_ := iv_get hv (k := 146) (j := 23) (l := 0) (u := 200) rfl
  have h1517_ := iv_get hv (k := 146) (j := 22) (l := 0) (u := 200) rfl
  have h1518_ : a 146 22 = a0 146 22 := hf 146 22 rfl
  have h1519_ := iv_get hv0 (k := 146) (j := 22) (l := 0) (u := 200) rfl
  have h1520_ := iv_get hv0 (k := 146) (j := 23) (l := 0) (u := 200) rfl
  have h1521_ := iv_get hv (k := 146) (j := 26) (l := 0) (u := 999) rfl
  have h4 : a 164 = a0 164 := funext fun j => hf 164 j rfl
  have h22 := hf 146 22 rfl
  have hP : SK (UB (a 164)) (a 146 22).toNat (a 146 23).toNat = C3 (UB (a0 164)) (a0 146 22).toNat (SK (UB (a0 164)) (a0 146 22).toNat (a0 146 23).toNat) := by rw [h4, h22]; exact hnx
  have h1522_ : jxw (3 * y1) = 3 * y1 := jxw_id (by omega) (by omega)
  have h1523_ : jxw ((jxw (3 * y1)) + 1) = (jxw (3 * y1)) + 1 := jxw_id (by omega) (by omega)
  refine jt_grd (by omega) ?_
  have hv1524_ : iv (jxu a 195 ((jxw ((jxw (3 * y1)) + 1)).toNat) (a 146 26)) := iv_put hv (l := 0) (u := 900) rfl (by omega) (by omega)
  refine jt_bI (sp_X12_number E d (jd_le hd rfl) 1 900 (jxu a 195 ((jxw ((jxw (3 * y1)) + 1)).toNat) (a 146 26)) b0 hv1524_ (show a 146 23 ≤ a 146 22 from by omega)) (fun r1525_ a1525_ b1525_ h1525_ => ?_)
  obtain ⟨hv1525_, hf1525_, rfl, hq1525_0, hq1525_1, hq1525_2, hq1525_3, hq1525_4, hq1525_5⟩ := h1525_
  have h1526_ := iv_get hv1525_ (k := 146) (j := 23) (l := 0) (u := 200) rfl
  have h1527_ : a 146 23 ≤ a1525_ 146 23 := hq1525_1
  have h1528_ : a1525_ 146 23 ≤ a 146 22 := hq1525_2
  have h1529_ := iv_get hv1525_ (k := 146) (j := 26) (l := 0) (u := 999) rfl
  have h1530_ : (r1525_ = 1 → (1 ≤ a1525_ 146 26 ∧ a1525_ 146 26 ≤ 900)) := hq1525_3
  refine jt_ite (fun c1531_ => ?_) (fun c1531_ => ?_)
  ·
    have hf1532_ : jfr jW_X12_clause a0 (jxu a 195 ((jxw ((jxw (3 * y1)) + 1)).toNat) (a 146 26)) := jfr_put hf rfl
    have hf1533_ : jfr jW_X12_clause a0 a1525_ := jfr_tr hf1532_ hf1525_ rfl
    have h1534_ := iv_get hv1525_ (k := 146) (j := 22) (l := 0) (u := 200) rfl
    have h1535_ : a1525_ 146 22 = a 146 22 := hf1525_ 146 22 rfl
    exact cp_X12_clause_155 E d hd x1 a0 b0 hv0 hp0 hp1 hp2 hp3 a1525_ hv1525_ hf1533_ (show a0 146 23 ≤ a1525_ 146 23 from by omega) (show a1525_ 146 23 ≤ a1525_ 146 22 from by omega) (by have p1 := hq1525_4; have p2 := hq1525_5; rw [show (jxu a 195 ((jxw ((jxw (3 * y1)) + 1)).toNat) (a 146 26)) 164 = a 164 from rfl, show (jxu a 195 ((jxw ((jxw (3 * y1)) + 1)).toNat) (a 146 26)) 146 22 = a 146 22 from rfl, show (jxu a 195 ((jxw ((jxw (3 * y1)) + 1)).toNat) (a 146 26)) 146 23 = a 146 23 from rfl, h4, h22, hP] at p1 p2; rw [CF_go htw (by omega), if_neg (fun h => h h1z), if_neg (fun h => h h2z)]; have q := p2 (by omega); rw [if_pos (show jxu a 195 ((jxw ((jxw (3 * y1)) + 1)).toNat) (a 146 26) 146 24 = 0 from (show a 146 24 = 0 by omega))] at q; exact q) (show 1 ≤ a0 146 22 from by omega)
  ·
    have hf1536_ : jfr jW_X12_clause a0 (jxu a 195 ((jxw ((jxw (3 * y1)) + 1)).toNat) (a 146 26)) := jfr_put hf rfl
    have hf1537_ : jfr jW_X12_clause a0 a1525_ := jfr_tr hf1536_ hf1525_ rfl
    have h1538_ := iv_get hv1525_ (k := 146) (j := 22) (l := 0) (u := 200) rfl
    have h1539_ : a1525_ 146 22 = a 146 22 := hf1525_ 146 22 rfl
    exact cp_X12_clause_157 E d hd x1 a0 b0 hv0 hp0 hp1 hp2 hp3 y1 a1525_ hv1525_ hf1537_ (show 0 ≤ y1 from by omega) (show y1 ≤ 11 from by omega) (show a1525_ 146 23 ≤ a1525_ 146 22 from by omega) (show (a0 146 23) + 2 ≤ a1525_ 146 23 from by omega) (show y1 = x1 from by omega) (show y1 < 12 from by omega) (show 0 ≤ y1 from by omega) (show a1525_ 146 26 ≤ 900 from by omega) (by first | rfl | assumption) (show x1 ≤ 11 from by omega) (show 0 ≤ x1 from by omega) (by have p1 := hq1525_4; have p2 := hq1525_5; rw [show (jxu a 195 ((jxw ((jxw (3 * y1)) + 1)).toNat) (a 146 26)) 164 = a 164 from rfl, show (jxu a 195 ((jxw ((jxw (3 * y1)) + 1)).toNat) (a 146 26)) 146 22 = a 146 22 from rfl, show (jxu a 195 ((jxw ((jxw (3 * y1)) + 1)).toNat) (a 146 26)) 146 23 = a 146 23 from rfl, h4, h22, hP] at p1 p2; rw [CF_go htw (by omega), if_neg (fun h => h h1z), if_neg (fun h => h h2z)]; exact (p1 (by omega)).1) (show a1525_ 146 24 = 0 from by omega) (by have p1 := hq1525_4; have p2 := hq1525_5; rw [show (jxu a 195 ((jxw ((jxw (3 * y1)) + 1)).toNat) (a 146 26)) 164 = a 164 from rfl, show (jxu a 195 ((jxw ((jxw (3 * y1)) + 1)).toNat) (a 146 26)) 146 22 = a 146 22 from rfl, show (jxu a 195 ((jxw ((jxw (3 * y1)) + 1)).toNat) (a 146 26)) 146 23 = a 146 23 from rfl, h4, h22, hP] at p1 p2; exact (p1 (by omega)).2.1) (by have p1 := hq1525_4; have p2 := hq1525_5; rw [show (jxu a 195 ((jxw ((jxw (3 * y1)) + 1)).toNat) (a 146 26)) 164 = a 164 from rfl, show (jxu a 195 ((jxw ((jxw (3 * y1)) + 1)).toNat) (a 146 26)) 146 22 = a 146 22 from rfl, show (jxu a 195 ((jxw ((jxw (3 * y1)) + 1)).toNat) (a 146 26)) 146 23 = a 146 23 from rfl, h4, h22, hP] at p1 p2; rw [(p1 (by omega)).2.2.1, Int.toNat_natCast]; rfl) (by have hq : ∀ j, a1525_ 195 j = if j = 3 * x1.toNat + 1 then a 146 26 else a 195 j := (fun j => by rw [hf1525_ 195 j rfl, show 3 * x1.toNat + 1 = (jxw ((jxw (3 * y1)) + 1)).toNat from by omega]; simp only [jxu, if_true]); refine ⟨by rw [hq, if_neg (by omega), hu _, if_pos rfl], by rw [hq, if_pos rfl]; exact hsd, fun j hj => by rw [hq, if_neg (by omega), hu _, if_neg (by omega)]⟩) (show 1 ≤ a0 146 22 from by omega)
theorem cp_X12_clause_69 (E : jxE) (d : Nat) (hd : Nat.ble 3 (d + 1) = true) (x1 : Int) (a0 b0 : Nat → Nat → Int) (hv0 : iv a0) (hp0 : a0 146 23 ≤ a0 146 22) (hp1 : 0 ≤ x1) (hp2 : x1 ≤ 12) (hp3 : a0 146 24 = 0) : ∀ n : Nat, (∀ (y1 y2 y3 y4 : Int) (a : Nat → Nat → Int), (((11 - y4) * 1) + 0).toNat ≤ n → iv a → jfr jW_X12_clause a0 a → 1 ≤ y1 → y1 ≤ 11 → 0 ≤ y2 → y2 ≤ 999 → 0 ≤ y3 → y3 ≤ 900 → 0 ≤ y4 → y4 ≤ 10 → a 146 23 ≤ a 146 22 → (a0 146 23) + 2 ≤ a 146 23 → y1 = x1 → y1 < 12 → 0 ≤ y1 → 0 ≤ y2 → y2 ≤ 3 → 0 ≤ y3 → y3 ≤ 900 → 0 ≤ y4 → y4 < y1 → (TW (UB (a0 164)) (a0 146 22).toNat (SK (UB (a0 164)) (a0 146 22).toNat (a0 146 23).toNat) 15) → (y1 = x1) → x1 ≤ 11 → 0 ≤ x1 → a 146 24 = 0 → (NF (UB (a0 164)) (a0 146 22).toNat (C1 (UB (a0 164)) (a0 146 22).toNat (SK (UB (a0 164)) (a0 146 22).toNat (a0 146 23).toNat)) 0 3 = 0) → (SK (UB (a0 164)) (a0 146 22).toNat (a 146 23).toNat = (C2 (UB (a0 164)) (a0 146 22).toNat (SK (UB (a0 164)) (a0 146 22).toNat (a0 146 23).toNat))) → (y2 = NV (UB (a0 164)) (a0 146 22).toNat (C1 (UB (a0 164)) (a0 146 22).toNat (SK (UB (a0 164)) (a0 146 22).toNat (a0 146 23).toNat))) → (∀ j, a 195 j = a0 195 j) → y4 < x1 → (y3 = LG (fun k => a0 195 (3 * k)) (fun k => a0 195 (3 * k + 1)) (NV (UB (a0 164)) (a0 146 22).toNat (C1 (UB (a0 164)) (a0 146 22).toNat (SK (UB (a0 164)) (a0 146 22).toNat (a0 146 23).toNat))) (y4.toNat + 1)) → 1 ≤ a0 146 22 → jt (jxX E d 281 100 [some (.inr (.inr (.inl 146))), some (.inl y1), some (.inl y2), some (.inl y3), some (.inl y4)] [] (jxSH, a, b0)) (jQ_X12_clause x1 a0 b0)) ∧ (∀ (y1 y2 y3 y4 : Int) (a : Nat → Nat → Int), (((11 - y4) * 1) + 0).toNat ≤ n → iv a → jfr jW_X12_clause a0 a → 0 ≤ y1 → y1 ≤ 11 → 0 ≤ y2 → y2 ≤ 999 → 0 ≤ y3 → y3 ≤ 900 → 0 ≤ y4 → y4 ≤ 11 → a 146 23 ≤ a 146 22 → (a0 146 23) + 2 ≤ a 146 23 → y1 = x1 → y1 < 12 → 0 ≤ y1 → 0 ≤ y2 → y2 ≤ 3 → 0 ≤ y3 → y3 ≤ 900 → 0 ≤ y4 → y4 ≤ y1 → (TW (UB (a0 164)) (a0 146 22).toNat (SK (UB (a0 164)) (a0 146 22).toNat (a0 146 23).toNat) 15) → (y1 = x1) → x1 ≤ 11 → 0 ≤ x1 → a 146 24 = 0 → (NF (UB (a0 164)) (a0 146 22).toNat (C1 (UB (a0 164)) (a0 146 22).toNat (SK (UB (a0 164)) (a0 146 22).toNat (a0 146 23).toNat)) 0 3 = 0) → (SK (UB (a0 164)) (a0 146 22).toNat (a 146 23).toNat = (C2 (UB (a0 164)) (a0 146 22).toNat (SK (UB (a0 164)) (a0 146 22).toNat (a0 146 23).toNat))) → (y2 = NV (UB (a0 164)) (a0 146 22).toNat (C1 (UB (a0 164)) (a0 146 22).toNat (SK (UB (a0 164)) (a0 146 22).toNat (a0 146 23).toNat))) → (∀ j, a 195 j = a0 195 j) → y4 ≤ x1 → (y3 = LG (fun k => a0 195 (3 * k)) (fun k => a0 195 (3 * k + 1)) (NV (UB (a0 164)) (a0 146 22).toNat (C1 (UB (a0 164)) (a0 146 22).toNat (SK (UB (a0 164)) (a0 146 22).toNat (a0 146 23).toNat))) y4.toNat) → 1 ≤ a0 146 22 → jt (jxX E d 281 69 [some (.inr (.inr (.inl 146))), some (.inl y1), some (.inl y2), some (.inl y3), some (.inl y4)] [] (jxSH, a, b0)) (jQ_X12_clause x1 a0 b0)) := by
  refine jx_ind fun n ih => ?_
  have ih100 : ∀ (y1 y2 y3 y4 : Int) (a : Nat → Nat → Int), (((11 - y4) * 1) + 0).toNat < n → iv a → jfr jW_X12_clause a0 a → 1 ≤ y1 → y1 ≤ 11 → 0 ≤ y2 → y2 ≤ 999 → 0 ≤ y3 → y3 ≤ 900 → 0 ≤ y4 → y4 ≤ 10 → a 146 23 ≤ a 146 22 → (a0 146 23) + 2 ≤ a 146 23 → y1 = x1 → y1 < 12 → 0 ≤ y1 → 0 ≤ y2 → y2 ≤ 3 → 0 ≤ y3 → y3 ≤ 900 → 0 ≤ y4 → y4 < y1 → (TW (UB (a0 164)) (a0 146 22).toNat (SK (UB (a0 164)) (a0 146 22).toNat (a0 146 23).toNat) 15) → (y1 = x1) → x1 ≤ 11 → 0 ≤ x1 → a 146 24 = 0 → (NF (UB (a0 164)) (a0 146 22).toNat (C1 (UB (a0 164)) (a0 146 22).toNat (SK (UB (a0 164)) (a0 146 22).toNat (a0 146 23).toNat)) 0 3 = 0) → (SK (UB (a0 164)) (a0 146 22).toNat (a 146 23).toNat = (C2 (UB (a0 164)) (a0 146 22).toNat (SK (UB (a0 164)) (a0 146 22).toNat (a0 146 23).toNat))) → (y2 = NV (UB (a0 164)) (a0 146 22).toNat (C1 (UB (a0 164)) (a0 146 22).toNat (SK (UB (a0 164)) (a0 146 22).toNat (a0 146 23).toNat))) → (∀ j, a 195 j = a0 195 j) → y4 < x1 → (y3 = LG (fun k => a0 195 (3 * k)) (fun k => a0 195 (3 * k + 1)) (NV (UB (a0 164)) (a0 146 22).toNat (C1 (UB (a0 164)) (a0 146 22).toNat (SK (UB (a0 164)) (a0 146 22).toNat (a0 146 23).toNat))) (y4.toNat + 1)) → 1 ≤ a0 146 22 → jt (jxX E d 281 100 [some (.inr (.inr (.inl 146))), some (.inl y1), some (.inl y2), some (.inl y3), some (.inl y4)] [] (jxSH, a, b0)) (jQ_X12_clause x1 a0 b0) := fun y1 y2 y3 y4 a hlt i0 i1 i2 i3 i4 i5 i6 i7 i8 i9 i10 i11 i12 i13 i14 i15 i16 i17 i18 i19 i20 i21 i22 i23 i24 i25 i26 i27 i28 i29 i30 i31 i32 => (ih _ hlt).1 y1 y2 y3 y4 a (Nat.le_refl _) i0 i1 i2 i3 i4 i5 i6 i7 i8 i9 i10 i11 i12 i13 i14 i15 i16 i17 i18 i19 i20 i21 i22 i23 i24 i25 i26 i27 i28 i29 i30 i31 i32
  have ih69 : ∀ (y1 y2 y3 y4 : Int) (a : Nat → Nat → Int), (((11 - y4) * 1) + 0).toNat < n → iv a → jfr jW_X12_clause a0 a → 0 ≤ y1 → y1 ≤ 11 → 0 ≤ y2 → y2 ≤ 999 → 0 ≤ y3 → y3 ≤ 900 → 0 ≤ y4 → y4 ≤ 11 → a 146 23 ≤ a 146 22 → (a0 146 23) + 2 ≤ a 146 23 → y1 = x1 → y1 < 12 → 0 ≤ y1 → 0 ≤ y2 → y2 ≤ 3 → 0 ≤ y3 → y3 ≤ 900 → 0 ≤ y4 → y4 ≤ y1 → (TW (UB (a0 164)) (a0 146 22).toNat (SK (UB (a0 164)) (a0 146 22).toNat (a0 146 23).toNat) 15) → (y1 = x1) → x1 ≤ 11 → 0 ≤ x1 → a 146 24 = 0 → (NF (UB (a0 164)) (a0 146 22).toNat (C1 (UB (a0 164)) (a0 146 22).toNat (SK (UB (a0 164)) (a0 146 22).toNat (a0 146 23).toNat)) 0 3 = 0) → (SK (UB (a0 164)) (a0 146 22).toNat (a 146 23).toNat = (C2 (UB (a0 164)) (a0 146 22).toNat (SK (UB (a0 164)) (a0 146 22).toNat (a0 146 23).toNat))) → (y2 = NV (UB (a0 164)) (a0 146 22).toNat (C1 (UB (a0 164)) (a0 146 22).toNat (SK (UB (a0 164)) (a0 146 22).toNat (a0 146 23).toNat))) → (∀ j, a 195 j = a0 195 j) → y4 ≤ x1 → (y3 = LG (fun k => a0 195 (3 * k)) (fun k => a0 195 (3 * k + 1)) (NV (UB (a0 164)) (a0 146 22).toNat (C1 (UB (a0 164)) (a0 146 22).toNat (SK (UB (a0 164)) (a0 146 22).toNat (a0 146 23).toNat))) y4.toNat) → 1 ≤ a0 146 22 → jt (jxX E d 281 69 [some (.inr (.inr (.inl 146))), some (.inl y1), some (.inl y2), some (.inl y3), some (.inl y4)] [] (jxSH, a, b0)) (jQ_X12_clause x1 a0 b0) := fun y1 y2 y3 y4 a hlt i0 i1 i2 i3 i4 i5 i6 i7 i8 i9 i10 i11 i12 i13 i14 i15 i16 i17 i18 i19 i20 i21 i22 i23 i24 i25 i26 i27 i28 i29 i30 i31 i32 => (ih _ hlt).2 y1 y2 y3 y4 a (Nat.le_refl _) i0 i1 i2 i3 i4 i5 i6 i7 i8 i9 i10 i11 i12 i13 i14 i15 i16 i17 i18 i19 i20 i21 i22 i23 i24 i25 i26 i27 i28 i29 i30 i31 i32
  have hc100 : ∀ (y1 y2 y3 y4 : Int) (a : Nat → Nat → Int), (((11 - y4) * 1) + 0).toNat ≤ n → iv a → jfr jW_X12_clause a0 a → 1 ≤ y1 → y1 ≤ 11 → 0 ≤ y2 → y2 ≤ 999 → 0 ≤ y3 → y3 ≤ 900 → 0 ≤ y4 → y4 ≤ 10 → a 146 23 ≤ a 146 22 → (a0 146 23) + 2 ≤ a 146 23 → y1 = x1 → y1 < 12 → 0 ≤ y1 → 0 ≤ y2 → y2 ≤ 3 → 0 ≤ y3 → y3 ≤ 900 → 0 ≤ y4 → y4 < y1 → (TW (UB (a0 164)) (a0 146 22).toNat (SK (UB (a0 164)) (a0 146 22).toNat (a0 146 23).toNat) 15) → (y1 = x1) → x1 ≤ 11 → 0 ≤ x1 → a 146 24 = 0 → (NF (UB (a0 164)) (a0 146 22).toNat (C1 (UB (a0 164)) (a0 146 22).toNat (SK (UB (a0 164)) (a0 146 22).toNat (a0 146 23).toNat)) 0 3 = 0) → (SK (UB (a0 164)) (a0 146 22).toNat (a 146 23).toNat = (C2 (UB (a0 164)) (a0 146 22).toNat (SK (UB (a0 164)) (a0 146 22).toNat (a0 146 23).toNat))) → (y2 = NV (UB (a0 164)) (a0 146 22).toNat (C1 (UB (a0 164)) (a0 146 22).toNat (SK (UB (a0 164)) (a0 146 22).toNat (a0 146 23).toNat))) → (∀ j, a 195 j = a0 195 j) → y4 < x1 → (y3 = LG (fun k => a0 195 (3 * k)) (fun k => a0 195 (3 * k + 1)) (NV (UB (a0 164)) (a0 146 22).toNat (C1 (UB (a0 164)) (a0 146 22).toNat (SK (UB (a0 164)) (a0 146 22).toNat (a0 146 23).toNat))) (y4.toNat + 1)) → 1 ≤ a0 146 22 → jt (jxX E d 281 100 [some (.inr (.inr (.inl 146))), some (.inl y1), some (.inl y2), some (.inl y3), some (.inl y4)] [] (jxSH, a, b0)) (jQ_X12_clause x1 a0 b0) := by
    intro y1 y2 y3 y4 a hm hv hf hi0 hi1 hi2 hi3 hi4 hi5 hi6 hi7 hi8 hi9 hi10 hi11 hi12 hi13 hi14 hi15 hi16 hi17 hi18 htw hy1 hi21 hi22 hi23 h1z hnx hz hs195 hi28 hlg hi30
    refine jt_eq (bq_X12_clause_100 E d y1 y2 y3 y4 a b0) ?_
    have h1540_ := iv_get hv (k := 146) (j := 23) (l := 0) (u := 200) rfl
    have h1541_ := iv_get hv (k := 146) (j := 22) (l := 0) (u := 200) rfl
    have h1542_ : a 146 22 = a0 146 22 := hf 146 22 rfl
    have h1543_ := iv_get hv0 (k := 146) (j := 22) (l := 0) (u := 200) rfl
    have h1544_ := iv_get hv0 (k := 146) (j := 23) (l := 0) (u := 200) rfl
    have h4 : a 164 = a0 164 := funext fun j => hf 164 j rfl
    have h22 := hf 146 22 rfl
    have h1545_ : jxw (y4 + 1) = y4 + 1 := jxw_id (by omega) (by omega)
    exact ih69 y1 y2 y3 (jxw (y4 + 1)) a (show (((11 - (jxw (y4 + 1))) * 1) + 0).toNat < n from by omega) hv hf (show 0 ≤ y1 from by omega) (show y1 ≤ 11 from by omega) (show 0 ≤ y2 from by omega) (show y2 ≤ 999 from by omega) (show 0 ≤ y3 from by omega) (show y3 ≤ 900 from by omega) (show 0 ≤ jxw (y4 + 1) from by omega) (show jxw (y4 + 1) ≤ 11 from by omega) (show a 146 23 ≤ a 146 22 from by omega) (show (a0 146 23) + 2 ≤ a 146 23 from by omega) (show y1 = x1 from by omega) (show y1 < 12 from by omega) (show 0 ≤ y1 from by omega) (show 0 ≤ y2 from by omega) (show y2 ≤ 3 from by omega) (show 0 ≤ y3 from by omega) (show y3 ≤ 900 from by omega) (show 0 ≤ jxw (y4 + 1) from by omega) (show jxw (y4 + 1) ≤ y1 from by omega) (by first | exact htw | exact (hq0_8 15 (by decide)).2 (by omega)) (by first | rfl | assumption) (show x1 ≤ 11 from by omega) (show 0 ≤ x1 from by omega) (show a 146 24 = 0 from by omega) (by first | exact h1z | (have p1 := hq0_4; have p2 := hq0_5; rw [h4, h22, hP] at p1 p2; exact (p1 (by omega)).1)) (by first | exact hnx | (have p1 := hq0_4; have p2 := hq0_5; rw [h4, h22, hP] at p1 p2; rw [(p1 (by omega)).2.2.1, Int.toNat_natCast]; rfl)) (by first | exact hz | (have p1 := hq0_4; have p2 := hq0_5; rw [h4, h22, hP] at p1 p2; exact (p1 (by omega)).2.1)) (fun j => (rfl).trans (hs195 j)) (show jxw (y4 + 1) ≤ x1 from by omega) (by first | rfl | (rw [show (jxw (y4 + 1)).toNat = y4.toNat + 1 from by omega]; exact hlg)) (show 1 ≤ a0 146 22 from by omega)
  have hc69 : ∀ (y1 y2 y3 y4 : Int) (a : Nat → Nat → Int), (((11 - y4) * 1) + 0).toNat ≤ n → iv a → jfr jW_X12_clause a0 a → 0 ≤ y1 → y1 ≤ 11 → 0 ≤ y2 → y2 ≤ 999 → 0 ≤ y3 → y3 ≤ 900 → 0 ≤ y4 → y4 ≤ 11 → a 146 23 ≤ a 146 22 → (a0 146 23) + 2 ≤ a 146 23 → y1 = x1 → y1 < 12 → 0 ≤ y1 → 0 ≤ y2 → y2 ≤ 3 → 0 ≤ y3 → y3 ≤ 900 → 0 ≤ y4 → y4 ≤ y1 → (TW (UB (a0 164)) (a0 146 22).toNat (SK (UB (a0 164)) (a0 146 22).toNat (a0 146 23).toNat) 15) → (y1 = x1) → x1 ≤ 11 → 0 ≤ x1 → a 146 24 = 0 → (NF (UB (a0 164)) (a0 146 22).toNat (C1 (UB (a0 164)) (a0 146 22).toNat (SK (UB (a0 164)) (a0 146 22).toNat (a0 146 23).toNat)) 0 3 = 0) → (SK (UB (a0 164)) (a0 146 22).toNat (a 146 23).toNat = (C2 (UB (a0 164)) (a0 146 22).toNat (SK (UB (a0 164)) (a0 146 22).toNat (a0 146 23).toNat))) → (y2 = NV (UB (a0 164)) (a0 146 22).toNat (C1 (UB (a0 164)) (a0 146 22).toNat (SK (UB (a0 164)) (a0 146 22).toNat (a0 146 23).toNat))) → (∀ j, a 195 j = a0 195 j) → y4 ≤ x1 → (y3 = LG (fun k => a0 195 (3 * k)) (fun k => a0 195 (3 * k + 1)) (NV (UB (a0 164)) (a0 146 22).toNat (C1 (UB (a0 164)) (a0 146 22).toNat (SK (UB (a0 164)) (a0 146 22).toNat (a0 146 23).toNat))) y4.toNat) → 1 ≤ a0 146 22 → jt (jxX E d 281 69 [some (.inr (.inr (.inl 146))), some (.inl y1), some (.inl y2), some (.inl y3), some (.inl y4)] [] (jxSH, a, b0)) (jQ_X12_clause x1 a0 b0) := by
    intro y1 y2 y3 y4 a hm hv hf hi0 hi1 hi2 hi3 hi4 hi5 hi6 hi7 hi8 hi9 hi10 hi11 hi12 hi13 hi14 hi15 hi16 hi17 hi18 htw hy1 hi21 hi22 hi23 h1z hnx hz hs195 hi28 hlg hi30
    refine jt_eq (bq_X12_clause_69 E d y1 y2 y3 y4 a b0) ?_
    have h1546_ := iv_get hv (k := 146) (j := 23) (l := 0) (u := 200) rfl
    have h1547_ := iv_get hv (k := 146) (j := 22) (l := 0) (u := 200) rfl
    have h1548_ : a 146 22 = a0 146 22 := hf 146 22 rfl
    have h1549_ := iv_get hv0 (k := 146) (j := 22) (l := 0) (u := 200) rfl
    have h1550_ := iv_get hv0 (k := 146) (j := 23) (l := 0) (u := 200) rfl
    have h4 : a 164 = a0 164 := funext fun j => hf 164 j rfl
    have h22 := hf 146 22 rfl
    have hP : SK (UB (a 164)) (a 146 22).toNat (a 146 23).toNat = C2 (UB (a0 164)) (a0 146 22).toNat (SK (UB (a0 164)) (a0 146 22).toNat (a0 146 23).toNat) := by rw [h4, h22]; exact hnx
    have hla : ¬ y4 < y1 → y3 = LSr a0 (UB (a0 164)) (a0 146 22).toNat (SK (UB (a0 164)) (a0 146 22).toNat (a0 146 23).toNat) x1.toNat := fun h => by rw [hlg, show y4.toNat = x1.toNat from by omega]; rfl
    refine jt_ite (fun c1551_ => ?_) (fun c1551_ => ?_)
    ·
      have h1552_ : jxw (3 * y4) = 3 * y4 := jxw_id (by omega) (by omega)
      refine jt_grd (by omega) ?_
      have h1553_ := iv_get hv (k := 195) (j := (jxw (3 * y4)).toNat) (l := 0) (u := 900) rfl
      refine jt_ite (fun c1554_ => ?_) (fun c1554_ => ?_)
      ·
        have h1555_ : jxw ((jxw (3 * y4)) + 1) = (jxw (3 * y4)) + 1 := jxw_id (by omega) (by omega)
        refine jt_grd (by omega) ?_
        have h1556_ := iv_get hv (k := 195) (j := (jxw ((jxw (3 * y4)) + 1)).toNat) (l := 0) (u := 900) rfl
        exact hc100 y1 y2 (a 195 ((jxw ((jxw (3 * y4)) + 1)).toNat)) y4 a (show (((11 - y4) * 1) + 0).toNat ≤ n from by omega) hv hf (show 1 ≤ y1 from by omega) (show y1 ≤ 11 from by omega) (show 0 ≤ y2 from by omega) (show y2 ≤ 999 from by omega) (show 0 ≤ a 195 ((jxw ((jxw (3 * y4)) + 1)).toNat) from by omega) (show a 195 ((jxw ((jxw (3 * y4)) + 1)).toNat) ≤ 900 from by omega) (show 0 ≤ y4 from by omega) (show y4 ≤ 10 from by omega) (show a 146 23 ≤ a 146 22 from by omega) (show (a0 146 23) + 2 ≤ a 146 23 from by omega) (show y1 = x1 from by omega) (show y1 < 12 from by omega) (show 0 ≤ y1 from by omega) (show 0 ≤ y2 from by omega) (show y2 ≤ 3 from by omega) (show 0 ≤ a 195 ((jxw ((jxw (3 * y4)) + 1)).toNat) from by omega) (show a 195 ((jxw ((jxw (3 * y4)) + 1)).toNat) ≤ 900 from by omega) (show 0 ≤ y4 from by omega) (show y4 < y1 from by omega) (by first | exact htw | exact (hq0_8 15 (by decide)).2 (by omega)) (by first | rfl | assumption) (show x1 ≤ 11 from by omega) (show 0 ≤ x1 from by omega) (show a 146 24 = 0 from by omega) (by first | exact h1z | (have p1 := hq0_4; have p2 := hq0_5; rw [h4, h22, hP] at p1 p2; exact (p1 (by omega)).1)) (by first | exact hnx | (have p1 := hq0_4; have p2 := hq0_5; rw [h4, h22, hP] at p1 p2; rw [(p1 (by omega)).2.2.1, Int.toNat_natCast]; rfl)) (by first | exact hz | (have p1 := hq0_4; have p2 := hq0_5; rw [h4, h22, hP] at p1 p2; exact (p1 (by omega)).2.1)) (fun j => (rfl).trans (hs195 j)) (show y4 < x1 from by omega) (by first | (rw [LG_s1 (by rw [← hz, ← hs195, ← (show (jxw (3 * y4)).toNat = 3 * y4.toNat from by omega)]; assumption), (show (jxw ((jxw (3 * y4)) + 1)).toNat = 3 * y4.toNat + 1 from by omega), hs195]) | (rw [LG_s2 (by rw [← hz, ← hs195, ← (show (jxw (3 * y4)).toNat = 3 * y4.toNat from by omega)]; assumption)]; exact hlg)) (show 1 ≤ a0 146 22 from by omega)
      ·
        exact hc100 y1 y2 y3 y4 a (show (((11 - y4) * 1) + 0).toNat ≤ n from by omega) hv hf (show 1 ≤ y1 from by omega) (show y1 ≤ 11 from by omega) (show 0 ≤ y2 from by omega) (show y2 ≤ 999 from by omega) (show 0 ≤ y3 from by omega) (show y3 ≤ 900 from by omega) (show 0 ≤ y4 from by omega) (show y4 ≤ 10 from by omega) (show a 146 23 ≤ a 146 22 from by omega) (show (a0 146 23) + 2 ≤ a 146 23 from by omega) (show y1 = x1 from by omega) (show y1 < 12 from by omega) (show 0 ≤ y1 from by omega) (show 0 ≤ y2 from by omega) (show y2 ≤ 3 from by omega) (show 0 ≤ y3 from by omega) (show y3 ≤ 900 from by omega) (show 0 ≤ y4 from by omega) (show y4 < y1 from by omega) (by first | exact htw | exact (hq0_8 15 (by decide)).2 (by omega)) (by first | rfl | assumption) (show x1 ≤ 11 from by omega) (show 0 ≤ x1 from by omega) (show a 146 24 = 0 from by omega) (by first | exact h1z | (have p1 := hq0_4; have p2 := hq0_5; rw [h4, h22, hP] at p1 p2; exact (p1 (by omega)).1)) (by first | exact hnx | (have p1 := hq0_4; have p2 := hq0_5; rw [h4, h22, hP] at p1 p2; rw [(p1 (by omega)).2.2.1, Int.toNat_natCast]; rfl)) (by first | exact hz | (have p1 := hq0_4; have p2 := hq0_5; rw [h4, h22, hP] at p1 p2; exact (p1 (by omega)).2.1)) (fun j => (rfl).trans (hs195 j)) (show y4 < x1 from by omega) (by first | (rw [LG_s1 (by rw [← hz, ← hs195, ← (show (jxw (3 * y4)).toNat = 3 * y4.toNat from by omega)]; assumption), (show (jxw ((jxw (3 * y4)) + 1)).toNat = 3 * y4.toNat + 1 from by omega), hs195]) | (rw [LG_s2 (by rw [← hz, ← hs195, ← (show (jxw (3 * y4)).toNat = 3 * y4.toNat from by omega)]; assumption)]; exact hlg)) (show 1 ≤ a0 146 22 from by omega)
    ·
      refine jt_bI (sp_X12_number E d (jd_le hd rfl) (jxw (y3 + 1)) 500 a b0 hv (show a 146 23 ≤ a 146 22 from by omega)) (fun r1557_ a1557_ b1557_ h1557_ => ?_)
      obtain ⟨hv1557_, hf1557_, rfl, hq1557_0, hq1557_1, hq1557_2, hq1557_3, hq1557_4, hq1557_5⟩ := h1557_
      have h1558_ := iv_get hv1557_ (k := 146) (j := 23) (l := 0) (u := 200) rfl
      have h1559_ : jxw (y3 + 1) = y3 + 1 := jxw_id (by omega) (by omega)
      have h1560_ := iv_get hv1557_ (k := 146) (j := 26) (l := 0) (u := 999) rfl
      refine jt_ite (fun c1561_ => ?_) (fun c1561_ => ?_)
      ·
        have hf1562_ : jfr jW_X12_clause a0 a1557_ := jfr_tr hf hf1557_ rfl
        have h1563_ := iv_get hv1557_ (k := 146) (j := 22) (l := 0) (u := 200) rfl
        have h1564_ : a1557_ 146 22 = a 146 22 := hf1557_ 146 22 rfl
        exact jt_rI ⟨hv1557_, hf1562_, rfl, (show (0 ≤ 0 ∧ 0 ≤ 1) from by omega), (show a0 146 23 ≤ a1557_ 146 23 from by omega), (show a1557_ 146 23 ≤ a1557_ 146 22 from by omega), (show (0 = 1 → (x1 < 12 ∧ (a0 146 23) + 2 ≤ a1557_ 146 23)) from by omega), (show ((a0 146 22 = 0 ∧ a0 146 24 = 0) → (0 = 0 ∧ a1557_ 146 24 = 1)) from by omega), (fun h => absurd h (by omega)), (fun _ => (by have hj : jxw (y3 + 1) = y3 + 1 := (by omega); have p1 := hq1557_4; have p2 := hq1557_5; rw [h4, h22, hP, hj, hla (by omega)] at p1 p2; rw [CF_go htw (by omega), if_neg (fun h => h h1z), if_pos (p2 (by omega)).1]; have q := p2 (by omega); rw [if_pos (by omega)] at q; exact q)), (show (0 = 1 → a1557_ 146 24 = 0) from by omega)⟩
      ·
        have h1565_ : jxw (3 * y1) = 3 * y1 := jxw_id (by omega) (by omega)
        refine jt_grd (by omega) ?_
        have hv1566_ : iv (jxu a1557_ 195 ((jxw (3 * y1)).toNat) y2) := iv_put hv1557_ (l := 0) (u := 900) rfl (by omega) (by omega)
        have hf1567_ : jfr jW_X12_clause a0 a1557_ := jfr_tr hf hf1557_ rfl
        have hf1568_ : jfr jW_X12_clause a0 (jxu a1557_ 195 ((jxw (3 * y1)).toNat) y2) := jfr_put hf1567_ rfl
        have h1569_ := iv_get hv1557_ (k := 146) (j := 22) (l := 0) (u := 200) rfl
        have h1570_ : a1557_ 146 22 = a 146 22 := hf1557_ 146 22 rfl
        exact cp_X12_clause_130 E d hd x1 a0 b0 hv0 hp0 hp1 hp2 hp3 y1 (jxu a1557_ 195 ((jxw (3 * y1)).toNat) y2) hv1566_ hf1568_ (show 0 ≤ y1 from by omega) (show y1 ≤ 11 from by omega) (show a1557_ 146 23 ≤ a1557_ 146 22 from by omega) (show (a0 146 23) + 2 ≤ a1557_ 146 23 from by omega) (show y1 = x1 from by omega) (show y1 < 12 from by omega) (show 0 ≤ y1 from by omega) (show a1557_ 146 26 ≤ 500 from by omega) (by first | exact htw | exact (hq1557_8 15 (by decide)).2 (by omega)) (by first | rfl | assumption) (show x1 ≤ 11 from by omega) (show 0 ≤ x1 from by omega) (show a1557_ 146 24 = 0 from by omega) (by first | exact h1z | (have p1 := hq1557_4; have p2 := hq1557_5; rw [h4, h22, hP] at p1 p2; exact (p1 (by omega)).1)) (by have hj : jxw (y3 + 1) = y3 + 1 := (by omega); have p1 := hq1557_4; have p2 := hq1557_5; rw [h4, h22, hP, hj, hla (by omega)] at p1 p2; exact (p1 (by omega)).1) (by have hj : jxw (y3 + 1) = y3 + 1 := (by omega); have p1 := hq1557_4; have p2 := hq1557_5; rw [h4, h22, hP, hj, hla (by omega)] at p1 p2; exact (p1 (by omega)).2.1) (by have hj : jxw (y3 + 1) = y3 + 1 := (by omega); have p1 := hq1557_4; have p2 := hq1557_5; rw [h4, h22, hP, hj, hla (by omega)] at p1 p2; show SK _ _ (a1557_ 146 23).toNat = _; rw [(p1 (by omega)).2.2.1, Int.toNat_natCast]; rfl) (by rw [show 3 * x1.toNat = (jxw (3 * y1)).toNat from by omega, ← hz]; exact UP_put (fun j => (hf1557_ 195 j rfl).trans (hs195 j))) (show 1 ≤ a0 146 22 from by omega)
  exact ⟨hc100, hc69⟩
theorem cp_X12_clause_48 (E : jxE) (d : Nat) (hd : Nat.ble 3 (d + 1) = true) (x1 : Int) (a0 b0 : Nat → Nat → Int) (hv0 : iv a0) (hp0 : a0 146 23 ≤ a0 146 22) (hp1 : 0 ≤ x1) (hp2 : x1 ≤ 12) (hp3 : a0 146 24 = 0) : ∀ (y1 : Int) (a : Nat → Nat → Int), iv a → jfr jW_X12_clause a0 a → 0 ≤ y1 → y1 ≤ 11 → a 146 23 ≤ a 146 22 → (a0 146 23) + 2 ≤ a 146 23 → y1 = x1 → y1 < 12 → 0 ≤ y1 → (TW (UB (a0 164)) (a0 146 22).toNat (SK (UB (a0 164)) (a0 146 22).toNat (a0 146 23).toNat) 15) → (y1 = x1) → x1 ≤ 11 → 0 ≤ x1 → a 146 24 = 0 → (a 146 23 = ((SK (UB (a0 164)) (a0 146 22).toNat (a0 146 23).toNat) : Int) + 4) → (∀ j, a 195 j = a0 195 j) → 1 ≤ a0 146 22 → jt (jxX E d 281 48 [some (.inr (.inr (.inl 146))), some (.inl y1), none, none, none] [] (jxSH, a, b0)) (jQ_X12_clause x1 a0 b0) := by
  intro y1 a hv hf hi0 hi1 hi2 hi3 hi4 hi5 hi6 htw hy1 hi9 hi10 hi11 hnx hs195 hi14
  refine jt_eq (bq_X12_clause_48 E d y1 a b0) ?_
  have h1571_ := iv_get hv (k := 146) (j := 23) (l := 0) (u := 200) rfl
  have h1572_ := iv_get hv (k := 146) (j := 22) (l := 0) (u := 200) rfl
  have h1573_ : a 146 22 = a0 146 22 := hf 146 22 rfl
  have h1574_ := iv_get hv0 (k := 146) (j := 22) (l := 0) (u := 200) rfl
  have h1575_ := iv_get hv0 (k := 146) (j := 23) (l := 0) (u := 200) rfl
  have h4 : a 164 = a0 164 := funext fun j => hf 164 j rfl
  have h22 := hf 146 22 rfl
  have hP : SK (UB (a 164)) (a 146 22).toNat (a 146 23).toNat = C1 (UB (a0 164)) (a0 146 22).toNat (SK (UB (a0 164)) (a0 146 22).toNat (a0 146 23).toNat) := by rw [h4, h22, show (a 146 23).toNat = (SK (UB (a0 164)) (a0 146 22).toNat (a0 146 23).toNat) + 4 from by omega]; rfl
  refine jt_bI (sp_X12_number E d (jd_le hd rfl) 0 3 a b0 hv (show a 146 23 ≤ a 146 22 from by omega)) (fun r1576_ a1576_ b1576_ h1576_ => ?_)
  obtain ⟨hv1576_, hf1576_, rfl, hq1576_0, hq1576_1, hq1576_2, hq1576_3, hq1576_4, hq1576_5⟩ := h1576_
  have h1577_ := iv_get hv1576_ (k := 146) (j := 23) (l := 0) (u := 200) rfl
  have h1578_ := iv_get hv1576_ (k := 146) (j := 26) (l := 0) (u := 999) rfl
  refine jt_ite (fun c1579_ => ?_) (fun c1579_ => ?_)
  ·
    have hf1580_ : jfr jW_X12_clause a0 a1576_ := jfr_tr hf hf1576_ rfl
    have h1581_ := iv_get hv1576_ (k := 146) (j := 22) (l := 0) (u := 200) rfl
    have h1582_ : a1576_ 146 22 = a 146 22 := hf1576_ 146 22 rfl
    exact jt_rI ⟨hv1576_, hf1580_, rfl, (show (0 ≤ 0 ∧ 0 ≤ 1) from by omega), (show a0 146 23 ≤ a1576_ 146 23 from by omega), (show a1576_ 146 23 ≤ a1576_ 146 22 from by omega), (show (0 = 1 → (x1 < 12 ∧ (a0 146 23) + 2 ≤ a1576_ 146 23)) from by omega), (show ((a0 146 22 = 0 ∧ a0 146 24 = 0) → (0 = 0 ∧ a1576_ 146 24 = 1)) from by omega), (fun h => absurd h (by omega)), (fun _ => by have p1 := hq1576_4; have p2 := hq1576_5; rw [h4, h22, hP] at p1 p2; rw [CF_go htw (by omega), if_pos (p2 (by omega)).1]; have q := p2 (by omega); rw [if_pos (by omega)] at q; exact q), (show (0 = 1 → a1576_ 146 24 = 0) from by omega)⟩
  ·
    have hf1583_ : jfr jW_X12_clause a0 a1576_ := jfr_tr hf hf1576_ rfl
    have h1584_ := iv_get hv1576_ (k := 146) (j := 22) (l := 0) (u := 200) rfl
    have h1585_ : a1576_ 146 22 = a 146 22 := hf1576_ 146 22 rfl
    exact (cp_X12_clause_69 E d hd x1 a0 b0 hv0 hp0 hp1 hp2 hp3 _).2 y1 (a1576_ 146 26) 0 0 a1576_ (Nat.le_refl _) hv1576_ hf1583_ (show 0 ≤ y1 from by omega) (show y1 ≤ 11 from by omega) (show 0 ≤ a1576_ 146 26 from by omega) (show a1576_ 146 26 ≤ 999 from by omega) (show 0 ≤ 0 from by omega) (show 0 ≤ 900 from by omega) (show 0 ≤ 0 from by omega) (show 0 ≤ 11 from by omega) (show a1576_ 146 23 ≤ a1576_ 146 22 from by omega) (show (a0 146 23) + 2 ≤ a1576_ 146 23 from by omega) (show y1 = x1 from by omega) (show y1 < 12 from by omega) (show 0 ≤ y1 from by omega) (show 0 ≤ a1576_ 146 26 from by omega) (show a1576_ 146 26 ≤ 3 from by omega) (show 0 ≤ 0 from by omega) (show 0 ≤ 900 from by omega) (show 0 ≤ 0 from by omega) (show 0 ≤ y1 from by omega) (by first | exact htw | exact (hq1576_8 15 (by decide)).2 (by omega)) (by first | rfl | assumption) (show x1 ≤ 11 from by omega) (show 0 ≤ x1 from by omega) (show a1576_ 146 24 = 0 from by omega) (by first | exact h1z | (have p1 := hq1576_4; have p2 := hq1576_5; rw [h4, h22, hP] at p1 p2; exact (p1 (by omega)).1)) (by first | exact hnx | (have p1 := hq1576_4; have p2 := hq1576_5; rw [h4, h22, hP] at p1 p2; rw [(p1 (by omega)).2.2.1, Int.toNat_natCast]; rfl)) (by first | exact hz | (have p1 := hq1576_4; have p2 := hq1576_5; rw [h4, h22, hP] at p1 p2; exact (p1 (by omega)).2.1)) (fun j => ((hf1576_ 195 j rfl)).trans (hs195 j)) (show 0 ≤ x1 from by omega) (by first | rfl | (rw [show (jxw (y4 + 1)).toNat = y4.toNat + 1 from by omega]; exact hlg)) (show 1 ≤ a0 146 22 from by omega)
theorem sp_X12_clause (E : jxE) (d : Nat) (hd : Nat.ble 3 d = true) (x1 : Int) (a0 b0 : Nat → Nat → Int) (hv0 : iv a0) (hp0 : a0 146 23 ≤ a0 146 22) (hp1 : 0 ≤ x1) (hp2 : x1 ≤ 12) (hp3 : a0 146 24 = 0) : jt (jxC E d 281 [.inr (.inr (.inl 146)), .inl x1] (jxSH, a0, b0)) (jQ_X12_clause x1 a0 b0) := by
  obtain ⟨d, rfl⟩ := jd_succ hd
  refine jt_eq (bq_X12_clause E d x1 a0 b0) ?_
  have h1586_ := iv_get hv0 (k := 146) (j := 23) (l := 0) (u := 200) rfl
  have h1587_ := iv_get hv0 (k := 146) (j := 22) (l := 0) (u := 200) rfl
  refine jt_bI (sp_X12_wordHere E d (jd_le hd rfl) a0 b0 hv0 (show a0 146 23 ≤ a0 146 22 from by omega)) (fun r1588_ a1588_ b1588_ h1588_ => ?_)
  obtain ⟨hv1588_, hf1588_, rfl, hq1588_0, hq1588_1, hq1588_2, hq1588_3, hq1588_4, hq1588_5, hq1588_6, hq1588_7, hq1588_8, hq1588_9⟩ := h1588_
  have h1589_ := iv_get hv1588_ (k := 146) (j := 23) (l := 0) (u := 200) rfl
  have h1590_ := iv_get hv1588_ (k := 146) (j := 25) (l := 0) (u := 200) rfl
  have h1591_ := iv_get hv1588_ (k := 146) (j := 22) (l := 0) (u := 200) rfl
  have h1592_ : a1588_ 146 22 = a0 146 22 := hf1588_ 146 22 rfl
  have h1593_ := iv_get hv0 (k := 164) (j := (a0 146 23).toNat) (l := (-128)) (u := 127) rfl
  have hwq1588 := hq1588_7
  have hws1588 : r1588_ = 15 → a1588_ 146 25 = 4 := fun h => by have q := hq1588_9 (by omega); rw [h] at q; exact q
  have h24_1588 := hf1588_ 146 24 rfl
  have h22_1588 := hf1588_ 146 22 rfl
  refine jt_ite (fun c1594_ => ?_) (fun c1594_ => ?_)
  ·
    refine jt_ite (fun c1595_ => ?_) (fun c1595_ => ?_)
    ·
      refine jt_bI (sp_X12_fails E d (jd_le hd rfl) 2 (a1588_ 146 23) a1588_ b0 hv1588_) (fun r1596_ a1596_ b1596_ h1596_ => ?_)
      obtain ⟨hv1596_, hf1596_, rfl, hq1596_0, hq1596_1, hq1596_2, hq1596_3⟩ := h1596_
      have h1597_ : a1588_ 146 24 = a0 146 24 := hf1588_ 146 24 rfl
      refine jt_grd (by omega) ?_
      have hf1598_ : jfr jW_X12_clause a0 a1588_ := jfr_tr (jfr_rf _ _) hf1588_ rfl
      have hf1599_ : jfr jW_X12_clause a0 a1596_ := jfr_tr hf1598_ hf1596_ rfl
      have h1600_ := iv_get hv1596_ (k := 146) (j := 23) (l := 0) (u := 200) rfl
      have h1601_ : a1596_ 146 23 = a1588_ 146 23 := hf1596_ 146 23 rfl
      have h1602_ := iv_get hv1596_ (k := 146) (j := 22) (l := 0) (u := 200) rfl
      have h1603_ : a1596_ 146 22 = a1588_ 146 22 := hf1596_ 146 22 rfl
      exact jt_rI ⟨hv1596_, hf1599_, rfl, (show (0 ≤ r1596_ ∧ r1596_ ≤ 1) from by omega), (show a0 146 23 ≤ a1596_ 146 23 from by omega), (show a1596_ 146 23 ≤ a1596_ 146 22 from by omega), (show (r1596_ = 1 → (x1 < 12 ∧ (a0 146 23) + 2 ≤ a1596_ 146 23)) from by omega), (show ((a0 146 22 = 0 ∧ a0 146 24 = 0) → (r1596_ = 0 ∧ a1596_ 146 24 = 1)) from by omega), (fun h => absurd h (by omega)), (fun _ => by have q := hwq1588; first | (rw [CF_no (fun t => by have w := (hq1588_8 15 (by decide)).1 t; omega)]; exact ⟨by omega, by omega⟩) | (rw [CF_12 ((hq1588_8 15 (by decide)).2 (by omega)) (by omega)]; exact ⟨by omega, by omega⟩)), (show (r1596_ = 1 → a1596_ 146 24 = 0) from by omega)⟩
    ·
      have h1605_ : jxw ((a1588_ 146 23) + (a1588_ 146 25)) = (a1588_ 146 23) + (a1588_ 146 25) := jxw_id (by omega) (by omega)
      have hv1604_ : iv (jxu a1588_ 146 23 (jxw ((a1588_ 146 23) + (a1588_ 146 25)))) := iv_put hv1588_ (l := 0) (u := 200) rfl (by omega) (by omega)
      have hf1606_ : jfr jW_X12_clause a0 a1588_ := jfr_tr (jfr_rf _ _) hf1588_ rfl
      have hf1607_ : jfr jW_X12_clause a0 (jxu a1588_ 146 23 (jxw ((a1588_ 146 23) + (a1588_ 146 25)))) := jfr_put hf1606_ rfl
      have h1608_ : a1588_ 146 24 = a0 146 24 := hf1588_ 146 24 rfl
      exact cp_X12_clause_48 E d hd x1 a0 b0 hv0 hp0 hp1 hp2 hp3 x1 (jxu a1588_ 146 23 (jxw ((a1588_ 146 23) + (a1588_ 146 25)))) hv1604_ hf1607_ (show 0 ≤ x1 from by omega) (show x1 ≤ 11 from by omega) (show jxw ((a1588_ 146 23) + (a1588_ 146 25)) ≤ a1588_ 146 22 from by omega) (show (a0 146 23) + 2 ≤ jxw ((a1588_ 146 23) + (a1588_ 146 25)) from by omega) (show x1 = x1 from by omega) (show x1 < 12 from by omega) (show 0 ≤ x1 from by omega) (by first | exact htw | exact (hq1588_8 15 (by decide)).2 (by omega)) (by first | rfl | assumption) (show x1 ≤ 11 from by omega) (show 0 ≤ x1 from by omega) (show a1588_ 146 24 = 0 from by omega) (by show jxw _ = _; have q := hwq1588; omega) (fun j => (hf1588_ 195 j rfl)) (show 1 ≤ a0 146 22 from by omega)
  ·
    refine jt_bI (sp_X12_fails E d (jd_le hd rfl) 0 (a1588_ 146 23) a1588_ b0 hv1588_) (fun r1609_ a1609_ b1609_ h1609_ => ?_)
    obtain ⟨hv1609_, hf1609_, rfl, hq1609_0, hq1609_1, hq1609_2, hq1609_3⟩ := h1609_
    have h1610_ : a1588_ 146 24 = a0 146 24 := hf1588_ 146 24 rfl
    refine jt_grd (by omega) ?_
    have hf1611_ : jfr jW_X12_clause a0 a1588_ := jfr_tr (jfr_rf _ _) hf1588_ rfl
    have hf1612_ : jfr jW_X12_clause a0 a1609_ := jfr_tr hf1611_ hf1609_ rfl
    have h1613_ := iv_get hv1609_ (k := 146) (j := 23) (l := 0) (u := 200) rfl
    have h1614_ : a1609_ 146 23 = a1588_ 146 23 := hf1609_ 146 23 rfl
    have h1615_ := iv_get hv1609_ (k := 146) (j := 22) (l := 0) (u := 200) rfl
    have h1616_ : a1609_ 146 22 = a1588_ 146 22 := hf1609_ 146 22 rfl
    exact jt_rI ⟨hv1609_, hf1612_, rfl, (show (0 ≤ r1609_ ∧ r1609_ ≤ 1) from by omega), (show a0 146 23 ≤ a1609_ 146 23 from by omega), (show a1609_ 146 23 ≤ a1609_ 146 22 from by omega), (show (r1609_ = 1 → (x1 < 12 ∧ (a0 146 23) + 2 ≤ a1609_ 146 23)) from by omega), (show ((a0 146 22 = 0 ∧ a0 146 24 = 0) → (r1609_ = 0 ∧ a1609_ 146 24 = 1)) from by omega), (fun h => absurd h (by omega)), (fun _ => by have q := hwq1588; first | (rw [CF_no (fun t => by have w := (hq1588_8 15 (by decide)).1 t; omega)]; exact ⟨by omega, by omega⟩) | (rw [CF_12 ((hq1588_8 15 (by decide)).2 (by omega)) (by omega)]; exact ⟨by omega, by omega⟩)), (show (r1609_ = 1 → a1609_ 146 24 = 0) from by omega)⟩
def jW_X12_rules : List (Nat × Nat) := [(146, 22), (146, 23), (146, 24), (146, 25), (146, 26), (146, 27), (171, 9999), (172, 9999)]
abbrev jQ_X12_rules (a0 b0 : Nat → Nat → Int) : List jxV → (Nat → Nat → Int) → (Nat → Nat → Int) → Prop := rI (fun r a b => (iv a) ∧ (jfr jW_X12_rules a0 a) ∧ (b0 = b) ∧ ((a0 146 22 ≤ 100 → a 146 22 = 0)) ∧ ((100 < a0 146 22 → a 146 22 = a0 146 22)))
theorem cp_X12_rules_301 (E : jxE) (d : Nat) (hd : Nat.ble 3 (d + 1) = true) (a0 b0 : Nat → Nat → Int) (hv0 : iv a0) : ∀ n : Nat, (∀ (y2 y5 : Int) (a : Nat → Nat → Int), (((5 - y5) * 1) + 0).toNat ≤ n → iv a → jfr jW_X12_rules a0 a → 0 ≤ y5 → y5 ≤ 5 → a 146 22 ≤ 0 → a 146 22 = 0 → a0 146 22 ≤ 100 → jt (jxX E d 232 301 [some (.inr (.inr (.inl 146))), none, some (.inl y2), none, none, some (.inl y5)] [] (jxSH, a, b0)) (jQ_X12_rules a0 b0)) := by
  refine jx_ind fun n ih => ?_
  have ih301 : ∀ (y2 y5 : Int) (a : Nat → Nat → Int), (((5 - y5) * 1) + 0).toNat < n → iv a → jfr jW_X12_rules a0 a → 0 ≤ y5 → y5 ≤ 5 → a 146 22 ≤ 0 → a 146 22 = 0 → a0 146 22 ≤ 100 → jt (jxX E d 232 301 [some (.inr (.inr (.inl 146))), none, some (.inl y2), none, none, some (.inl y5)] [] (jxSH, a, b0)) (jQ_X12_rules a0 b0) := fun y2 y5 a hlt i0 i1 i2 i3 i4 i5 i6 => (ih _ hlt) y2 y5 a (Nat.le_refl _) i0 i1 i2 i3 i4 i5 i6
  have hc301 : ∀ (y2 y5 : Int) (a : Nat → Nat → Int), (((5 - y5) * 1) + 0).toNat ≤ n → iv a → jfr jW_X12_rules a0 a → 0 ≤ y5 → y5 ≤ 5 → a 146 22 ≤ 0 → a 146 22 = 0 → a0 146 22 ≤ 100 → jt (jxX E d 232 301 [some (.inr (.inr (.inl 146))), none, some (.inl y2), none, none, some (.inl y5)] [] (jxSH, a, b0)) (jQ_X12_rules a0 b0) := by
    intro y2 y5 a hm hv hf hi0 hi1 hi2 hi3 hi4
    refine jt_eq (bq_X12_rules_301 E d y2 y5 a b0) ?_
    have h1617_ := iv_get hv (k := 146) (j := 22) (l := 0) (u := 200) rfl
    have h1618_ := iv_get hv0 (k := 146) (j := 22) (l := 0) (u := 200) rfl
    refine jt_ite (fun c1619_ => ?_) (fun c1619_ => ?_)
    ·
      refine jt_grd (by omega) ?_
      refine jt_grd (by omega) ?_
      have hv1620_ : iv (jxu a 171 (y5.toNat) (a 172 (y5.toNat))) := iv_putf hv rfl
      have hf1621_ : jfr jW_X12_rules a0 (jxu a 171 (y5.toNat) (a 172 (y5.toNat))) := jfr_put hf rfl
      have h1622_ : jxw (y5 + 1) = y5 + 1 := jxw_id (by omega) (by omega)
      exact ih301 y2 (jxw (y5 + 1)) (jxu a 171 (y5.toNat) (a 172 (y5.toNat))) (show (((5 - (jxw (y5 + 1))) * 1) + 0).toNat < n from by omega) hv1620_ hf1621_ (show 0 ≤ jxw (y5 + 1) from by omega) (show jxw (y5 + 1) ≤ 5 from by omega) (show a 146 22 ≤ 0 from by omega) (show a 146 22 = 0 from by omega) (show a0 146 22 ≤ 100 from by omega)
    ·
      exact jt_rI ⟨hv, hf, rfl, (show (a0 146 22 ≤ 100 → a 146 22 = 0) from by omega), (show (100 < a0 146 22 → a 146 22 = a0 146 22) from by omega)⟩
  exact hc301
theorem cp_X12_rules_281 (E : jxE) (d : Nat) (hd : Nat.ble 3 (d + 1) = true) (a0 b0 : Nat → Nat → Int) (hv0 : iv a0) : ∀ (y2 y3 : Int) (a : Nat → Nat → Int), iv a → jfr jW_X12_rules a0 a → 0 ≤ y3 → y3 ≤ 1 → a 146 22 ≤ 100 → 0 ≤ y3 → y3 ≤ 1 → a0 146 22 ≤ 100 → jt (jxX E d 232 281 [some (.inr (.inr (.inl 146))), none, some (.inl y2), some (.inl y3), none, none] [] (jxSH, a, b0)) (jQ_X12_rules a0 b0) := by
  intro y2 y3 a hv hf hi0 hi1 hi2 hi3 hi4 hi5
  refine jt_eq (bq_X12_rules_281 E d y2 y3 a b0) ?_
  have h1623_ := iv_get hv (k := 146) (j := 22) (l := 0) (u := 200) rfl
  have h1624_ := iv_get hv0 (k := 146) (j := 22) (l := 0) (u := 200) rfl
  refine jt_ite (fun c1625_ => ?_) (fun c1625_ => ?_)
  ·
    have hv1626_ : iv (jxu a 146 22 0) := iv_put hv (l := 0) (u := 200) rfl (by omega) (by omega)
    have hf1627_ : jfr jW_X12_rules a0 (jxu a 146 22 0) := jfr_put hf rfl
    exact jt_rI ⟨hv1626_, hf1627_, rfl, (show (a0 146 22 ≤ 100 → 0 = 0) from by omega), (show (100 < a0 146 22 → 0 = a0 146 22) from by omega)⟩
  ·
    have hv1628_ : iv (jxu a 146 22 0) := iv_put hv (l := 0) (u := 200) rfl (by omega) (by omega)
    have hf1629_ : jfr jW_X12_rules a0 (jxu a 146 22 0) := jfr_put hf rfl
    exact (cp_X12_rules_301 E d hd a0 b0 hv0 _) y2 0 (jxu a 146 22 0) (Nat.le_refl _) hv1628_ hf1629_ (show 0 ≤ 0 from by omega) (show 0 ≤ 5 from by omega) (show 0 ≤ 0 from by omega) (show 0 = 0 from by omega) (show a0 146 22 ≤ 100 from by omega)
theorem cp_X12_rules_65 (E : jxE) (d : Nat) (hd : Nat.ble 3 (d + 1) = true) (a0 b0 : Nat → Nat → Int) (hv0 : iv a0) : ∀ n : Nat, (∀ (y1 y2 y3 y4 : Int) (a : Nat → Nat → Int), (((((a 146 22) - (a 146 23)) + (2 * y3)) + y4) + 1).toNat ≤ n → iv a → jfr jW_X12_rules a0 a → 0 ≤ y3 → y3 ≤ 1 → 0 ≤ y4 → y4 ≤ 1 → a 146 22 ≤ 100 → a 146 23 ≤ a 146 22 → 0 ≤ y2 → y2 ≤ a 146 23 → 0 ≤ y3 → 0 ≤ y4 → y3 ≤ 1 → y4 ≤ 1 → a0 146 22 ≤ 100 → jt (jxX E d 232 278 [some (.inr (.inr (.inl 146))), some (.inl y1), some (.inl y2), some (.inl y3), some (.inl y4), none] [] (jxSH, a, b0)) (jQ_X12_rules a0 b0)) ∧ (∀ (y1 y2 y3 y4 : Int) (a : Nat → Nat → Int), (((((a 146 22) - (a 146 23)) + (2 * y3)) + y4) + 1).toNat ≤ n → iv a → jfr jW_X12_rules a0 a → 0 ≤ y3 → y3 ≤ 1 → 0 ≤ y4 → y4 ≤ 1 → a 146 22 ≤ 100 → a 146 23 ≤ a 146 22 → 0 ≤ y2 → y2 ≤ a 146 23 → 0 ≤ y3 → 0 ≤ y4 → y3 ≤ 1 → y4 ≤ 1 → a0 146 22 ≤ 100 → jt (jxX E d 232 251 [some (.inr (.inr (.inl 146))), some (.inl y1), some (.inl y2), some (.inl y3), some (.inl y4), none] [] (jxSH, a, b0)) (jQ_X12_rules a0 b0)) ∧ (∀ (y1 y2 y3 y4 : Int) (a : Nat → Nat → Int), (((((a 146 22) - (a 146 23)) + (2 * y3)) + y4) + 1).toNat ≤ n → iv a → jfr jW_X12_rules a0 a → 0 ≤ y3 → y3 ≤ 1 → 0 ≤ y4 → y4 ≤ 1 → a 146 22 ≤ 100 → a 146 23 ≤ a 146 22 → 0 ≤ y2 → y2 ≤ a 146 23 → 0 ≤ y3 → 0 ≤ y4 → y3 ≤ 1 → y4 ≤ 1 → (y4 = 1 → a 146 23 < a 146 22) → a0 146 22 ≤ 100 → jt (jxX E d 232 236 [some (.inr (.inr (.inl 146))), some (.inl y1), some (.inl y2), some (.inl y3), some (.inl y4), none] [] (jxSH, a, b0)) (jQ_X12_rules a0 b0)) ∧ (∀ (y1 y2 y3 s0 : Int) (a : Nat → Nat → Int), (((((a 146 22) - (a 146 23)) + (2 * y3)) + s0) + 1).toNat ≤ n → iv a → jfr jW_X12_rules a0 a → 0 ≤ y3 → y3 ≤ 1 → 0 ≤ s0 → s0 ≤ 1 → a 146 22 ≤ 100 → a 146 23 ≤ a 146 22 → 0 ≤ y2 → y2 ≤ a 146 23 → 0 ≤ y3 → 0 ≤ s0 → y3 ≤ 1 → s0 ≤ 1 → (s0 = 1 → (a 146 23 < a 146 22 ∧ ¬ a 164 ((a 146 23).toNat) = 32)) → a0 146 22 ≤ 100 → jt (jxX E d 232 210 [some (.inr (.inr (.inl 146))), some (.inl y1), some (.inl y2), some (.inl y3), none, none] [.inl s0] (jxSH, a, b0)) (jQ_X12_rules a0 b0)) ∧ (∀ (y1 y2 y3 : Int) (a : Nat → Nat → Int), ((((a 146 22) - (a 146 23)) + (2 * y3)) + 2).toNat ≤ n → iv a → jfr jW_X12_rules a0 a → 1 ≤ y3 → y3 ≤ 1 → a 146 22 ≤ 100 → a 146 23 ≤ a 146 22 → 0 ≤ y2 → y2 ≤ a 146 23 → 0 ≤ y3 → y3 ≤ 1 → a 146 23 < a 146 22 → ¬ a 164 ((a 146 23).toNat) = 32 → a0 146 22 ≤ 100 → jt (jxX E d 232 205 [some (.inr (.inr (.inl 146))), some (.inl y1), some (.inl y2), some (.inl y3), none, none] [] (jxSH, a, b0)) (jQ_X12_rules a0 b0)) ∧ (∀ (y1 y2 y3 : Int) (a : Nat → Nat → Int), ((((a 146 22) - (a 146 23)) + (2 * y3)) + 1).toNat ≤ n → iv a → jfr jW_X12_rules a0 a → 0 ≤ y3 → y3 ≤ 1 → a 146 22 ≤ 100 → a 146 23 ≤ a 146 22 → 0 ≤ y2 → y2 ≤ a 146 23 → 0 ≤ y3 → y3 ≤ 1 → a0 146 22 ≤ 100 → jt (jxX E d 232 209 [some (.inr (.inr (.inl 146))), some (.inl y1), some (.inl y2), some (.inl y3), none, none] [] (jxSH, a, b0)) (jQ_X12_rules a0 b0)) ∧ (∀ (y1 y2 y5 s1 : Int) (a : Nat → Nat → Int), (((a 146 22) - (a 146 23)) + 4).toNat ≤ n → iv a → jfr jW_X12_rules a0 a → 0 - 11 ≤ y5 → y5 ≤ 5 → 0 ≤ s1 → s1 ≤ 1 → a 146 22 ≤ 100 → a 146 23 ≤ a 146 22 → 0 ≤ y2 → y2 + 2 ≤ a 146 23 → 0 ≤ y5 → y5 ≤ 4 → a0 146 22 ≤ 100 → jt (jxX E d 232 170 [some (.inr (.inr (.inl 146))), some (.inl y1), some (.inl y2), none, none, some (.inl y5)] [.inl s1, .inr (.inr (.inl 146))] (jxSH, a, b0)) (jQ_X12_rules a0 b0)) ∧ (∀ (y1 y2 y5 : Int) (a : Nat → Nat → Int), (((a 146 22) - (a 146 23)) + 4).toNat ≤ n → iv a → jfr jW_X12_rules a0 a → 0 ≤ y5 → y5 ≤ 3 → a 146 22 ≤ 100 → a 146 23 ≤ a 146 22 → 0 ≤ y2 → y2 + 2 ≤ a 146 23 → 0 ≤ y5 → y5 ≤ 4 → a0 146 22 ≤ 100 → jt (jxX E d 232 165 [some (.inr (.inr (.inl 146))), some (.inl y1), some (.inl y2), none, none, some (.inl y5)] [.inr (.inr (.inl 146))] (jxSH, a, b0)) (jQ_X12_rules a0 b0)) ∧ (∀ (y1 y2 y5 : Int) (a : Nat → Nat → Int), (((a 146 22) - (a 146 23)) + 4).toNat ≤ n → iv a → jfr jW_X12_rules a0 a → 0 - 11 ≤ y5 → y5 ≤ 5 → a 146 22 ≤ 100 → a 146 23 ≤ a 146 22 → 0 ≤ y2 → y2 + 2 ≤ a 146 23 → 0 ≤ y5 → y5 ≤ 4 → a0 146 22 ≤ 100 → jt (jxX E d 232 153 [some (.inr (.inr (.inl 146))), some (.inl y1), some (.inl y2), none, none, some (.inl y5)] [] (jxSH, a, b0)) (jQ_X12_rules a0 b0)) ∧ (∀ (y1 y2 y3 y5 : Int) (a : Nat → Nat → Int), (((a 146 22) - (a 146 23)) + 2).toNat ≤ n → iv a → jfr jW_X12_rules a0 a → 0 ≤ y3 → y3 ≤ 1 → 0 - 11 ≤ y5 → y5 ≤ 5 → a 146 22 ≤ 100 → a 146 23 ≤ a 146 22 → 0 ≤ y2 → y2 ≤ a 146 23 → (a 146 23) + (a 146 25) ≤ a 146 22 → 0 ≤ y3 → y3 ≤ 1 → (y3 = 1 → ((0 ≤ y5 ∧ y5 ≤ 4) ∧ 2 ≤ a 146 25)) → a0 146 22 ≤ 100 → jt (jxX E d 232 126 [some (.inr (.inr (.inl 146))), some (.inl y1), some (.inl y2), some (.inl y3), none, some (.inl y5)] [] (jxSH, a, b0)) (jQ_X12_rules a0 b0)) ∧ (∀ (y1 y2 y5 : Int) (a : Nat → Nat → Int), (((a 146 22) - (a 146 23)) + 2).toNat ≤ n → iv a → jfr jW_X12_rules a0 a → 0 - 11 ≤ y5 → y5 ≤ 5 → a 146 22 ≤ 100 → a 146 23 ≤ a 146 22 → 0 ≤ y2 → y2 ≤ a 146 23 → (a 146 23) + (a 146 25) ≤ a 146 22 → a0 146 22 ≤ 100 → jt (jxX E d 232 93 [some (.inr (.inr (.inl 146))), some (.inl y1), some (.inl y2), none, none, some (.inl y5)] [] (jxSH, a, b0)) (jQ_X12_rules a0 b0)) ∧ (∀ (y1 y2 y3 y5 : Int) (a : Nat → Nat → Int), (((a 146 22) - (a 146 23)) + 2).toNat ≤ n → iv a → jfr jW_X12_rules a0 a → 1 ≤ y3 → y3 ≤ 1 → 0 ≤ y5 → y5 ≤ 4 → a 146 22 ≤ 100 → a 146 23 ≤ a 146 22 → 0 ≤ y2 → y2 ≤ a 146 23 → (a 146 23) + (a 146 25) ≤ a 146 22 → 0 ≤ y3 → y3 ≤ 1 → 0 ≤ y5 → y5 ≤ 4 → 2 ≤ a 146 25 → a0 146 22 ≤ 100 → jt (jxX E d 232 106 [some (.inr (.inr (.inl 146))), some (.inl y1), some (.inl y2), some (.inl y3), none, some (.inl y5)] [] (jxSH, a, b0)) (jQ_X12_rules a0 b0)) ∧ (∀ (y1 y2 y3 y4 : Int) (a : Nat → Nat → Int), ((((a 146 22) - (a 146 23)) + y3) + y4).toNat ≤ n → iv a → jfr jW_X12_rules a0 a → 0 ≤ y3 → y3 ≤ 1 → 0 ≤ y4 → y4 ≤ 1 → a 146 22 ≤ 100 → a 146 23 ≤ a 146 22 → 0 ≤ y2 → y2 ≤ a 146 23 → 0 ≤ y3 → 0 ≤ y4 → y3 ≤ 1 → y4 ≤ 1 → a0 146 22 ≤ 100 → jt (jxX E d 232 65 [some (.inr (.inr (.inl 146))), some (.inl y1), some (.inl y2), some (.inl y3), some (.inl y4), none] [] (jxSH, a, b0)) (jQ_X12_rules a0 b0)) := by
  refine jx_ind fun n ih => ?_
  have ih278 : ∀ (y1 y2 y3 y4 : Int) (a : Nat → Nat → Int), (((((a 146 22) - (a 146 23)) + (2 * y3)) + y4) + 1).toNat < n → iv a → jfr jW_X12_rules a0 a → 0 ≤ y3 → y3 ≤ 1 → 0 ≤ y4 → y4 ≤ 1 → a 146 22 ≤ 100 → a 146 23 ≤ a 146 22 → 0 ≤ y2 → y2 ≤ a 146 23 → 0 ≤ y3 → 0 ≤ y4 → y3 ≤ 1 → y4 ≤ 1 → a0 146 22 ≤ 100 → jt (jxX E d 232 278 [some (.inr (.inr (.inl 146))), some (.inl y1), some (.inl y2), some (.inl y3), some (.inl y4), none] [] (jxSH, a, b0)) (jQ_X12_rules a0 b0) := fun y1 y2 y3 y4 a hlt i0 i1 i2 i3 i4 i5 i6 i7 i8 i9 i10 i11 i12 i13 i14 => (ih _ hlt).1 y1 y2 y3 y4 a (Nat.le_refl _) i0 i1 i2 i3 i4 i5 i6 i7 i8 i9 i10 i11 i12 i13 i14
  have ih251 : ∀ (y1 y2 y3 y4 : Int) (a : Nat → Nat → Int), (((((a 146 22) - (a 146 23)) + (2 * y3)) + y4) + 1).toNat < n → iv a → jfr jW_X12_rules a0 a → 0 ≤ y3 → y3 ≤ 1 → 0 ≤ y4 → y4 ≤ 1 → a 146 22 ≤ 100 → a 146 23 ≤ a 146 22 → 0 ≤ y2 → y2 ≤ a 146 23 → 0 ≤ y3 → 0 ≤ y4 → y3 ≤ 1 → y4 ≤ 1 → a0 146 22 ≤ 100 → jt (jxX E d 232 251 [some (.inr (.inr (.inl 146))), some (.inl y1), some (.inl y2), some (.inl y3), some (.inl y4), none] [] (jxSH, a, b0)) (jQ_X12_rules a0 b0) := fun y1 y2 y3 y4 a hlt i0 i1 i2 i3 i4 i5 i6 i7 i8 i9 i10 i11 i12 i13 i14 => (ih _ hlt).2.1 y1 y2 y3 y4 a (Nat.le_refl _) i0 i1 i2 i3 i4 i5 i6 i7 i8 i9 i10 i11 i12 i13 i14
  have ih236 : ∀ (y1 y2 y3 y4 : Int) (a : Nat → Nat → Int), (((((a 146 22) - (a 146 23)) + (2 * y3)) + y4) + 1).toNat < n → iv a → jfr jW_X12_rules a0 a → 0 ≤ y3 → y3 ≤ 1 → 0 ≤ y4 → y4 ≤ 1 → a 146 22 ≤ 100 → a 146 23 ≤ a 146 22 → 0 ≤ y2 → y2 ≤ a 146 23 → 0 ≤ y3 → 0 ≤ y4 → y3 ≤ 1 → y4 ≤ 1 → (y4 = 1 → a 146 23 < a 146 22) → a0 146 22 ≤ 100 → jt (jxX E d 232 236 [some (.inr (.inr (.inl 146))), some (.inl y1), some (.inl y2), some (.inl y3), some (.inl y4), none] [] (jxSH, a, b0)) (jQ_X12_rules a0 b0) := fun y1 y2 y3 y4 a hlt i0 i1 i2 i3 i4 i5 i6 i7 i8 i9 i10 i11 i12 i13 i14 i15 => (ih _ hlt).2.2.1 y1 y2 y3 y4 a (Nat.le_refl _) i0 i1 i2 i3 i4 i5 i6 i7 i8 i9 i10 i11 i12 i13 i14 i15
  have ih210 : ∀ (y1 y2 y3 s0 : Int) (a : Nat → Nat → Int), (((((a 146 22) - (a 146 23)) + (2 * y3)) + s0) + 1).toNat < n → iv a → jfr jW_X12_rules a0 a → 0 ≤ y3 → y3 ≤ 1 → 0 ≤ s0 → s0 ≤ 1 → a 146 22 ≤ 100 → a 146 23 ≤ a 146 22 → 0 ≤ y2 → y2 ≤ a 146 23 → 0 ≤ y3 → 0 ≤ s0 → y3 ≤ 1 → s0 ≤ 1 → (s0 = 1 → (a 146 23 < a 146 22 ∧ ¬ a 164 ((a 146 23).toNat) = 32)) → a0 146 22 ≤ 100 → jt (jxX E d 232 210 [some (.inr (.inr (.inl 146))), some (.inl y1), some (.inl y2), some (.inl y3), none, none] [.inl s0] (jxSH, a, b0)) (jQ_X12_rules a0 b0) := fun y1 y2 y3 s0 a hlt i0 i1 i2 i3 i4 i5 i6 i7 i8 i9 i10 i11 i12 i13 i14 i15 => (ih _ hlt).2.2.2.1 y1 y2 y3 s0 a (Nat.le_refl _) i0 i1 i2 i3 i4 i5 i6 i7 i8 i9 i10 i11 i12 i13 i14 i15
  have ih205 : ∀ (y1 y2 y3 : Int) (a : Nat → Nat → Int), ((((a 146 22) - (a 146 23)) + (2 * y3)) + 2).toNat < n → iv a → jfr jW_X12_rules a0 a → 1 ≤ y3 → y3 ≤ 1 → a 146 22 ≤ 100 → a 146 23 ≤ a 146 22 → 0 ≤ y2 → y2 ≤ a 146 23 → 0 ≤ y3 → y3 ≤ 1 → a 146 23 < a 146 22 → ¬ a 164 ((a 146 23).toNat) = 32 → a0 146 22 ≤ 100 → jt (jxX E d 232 205 [some (.inr (.inr (.inl 146))), some (.inl y1), some (.inl y2), some (.inl y3), none, none] [] (jxSH, a, b0)) (jQ_X12_rules a0 b0) := fun y1 y2 y3 a hlt i0 i1 i2 i3 i4 i5 i6 i7 i8 i9 i10 i11 i12 => (ih _ hlt).2.2.2.2.1 y1 y2 y3 a (Nat.le_refl _) i0 i1 i2 i3 i4 i5 i6 i7 i8 i9 i10 i11 i12
  have ih209 : ∀ (y1 y2 y3 : Int) (a : Nat → Nat → Int), ((((a 146 22) - (a 146 23)) + (2 * y3)) + 1).toNat < n → iv a → jfr jW_X12_rules a0 a → 0 ≤ y3 → y3 ≤ 1 → a 146 22 ≤ 100 → a 146 23 ≤ a 146 22 → 0 ≤ y2 → y2 ≤ a 146 23 → 0 ≤ y3 → y3 ≤ 1 → a0 146 22 ≤ 100 → jt (jxX E d 232 209 [some (.inr (.inr (.inl 146))), some (.inl y1), some (.inl y2), some (.inl y3), none, none] [] (jxSH, a, b0)) (jQ_X12_rules a0 b0) := fun y1 y2 y3 a hlt i0 i1 i2 i3 i4 i5 i6 i7 i8 i9 i10 => (ih _ hlt).2.2.2.2.2.1 y1 y2 y3 a (Nat.le_refl _) i0 i1 i2 i3 i4 i5 i6 i7 i8 i9 i10
  have ih170 : ∀ (y1 y2 y5 s1 : Int) (a : Nat → Nat → Int), (((a 146 22) - (a 146 23)) + 4).toNat < n → iv a → jfr jW_X12_rules a0 a → 0 - 11 ≤ y5 → y5 ≤ 5 → 0 ≤ s1 → s1 ≤ 1 → a 146 22 ≤ 100 → a 146 23 ≤ a 146 22 → 0 ≤ y2 → y2 + 2 ≤ a 146 23 → 0 ≤ y5 → y5 ≤ 4 → a0 146 22 ≤ 100 → jt (jxX E d 232 170 [some (.inr (.inr (.inl 146))), some (.inl y1), some (.inl y2), none, none, some (.inl y5)] [.inl s1, .inr (.inr (.inl 146))] (jxSH, a, b0)) (jQ_X12_rules a0 b0) := fun y1 y2 y5 s1 a hlt i0 i1 i2 i3 i4 i5 i6 i7 i8 i9 i10 i11 i12 => (ih _ hlt).2.2.2.2.2.2.1 y1 y2 y5 s1 a (Nat.le_refl _) i0 i1 i2 i3 i4 i5 i6 i7 i8 i9 i10 i11 i12
  have ih165 : ∀ (y1 y2 y5 : Int) (a : Nat → Nat → Int), (((a 146 22) - (a 146 23)) + 4).toNat < n → iv a → jfr jW_X12_rules a0 a → 0 ≤ y5 → y5 ≤ 3 → a 146 22 ≤ 100 → a 146 23 ≤ a 146 22 → 0 ≤ y2 → y2 + 2 ≤ a 146 23 → 0 ≤ y5 → y5 ≤ 4 → a0 146 22 ≤ 100 → jt (jxX E d 232 165 [some (.inr (.inr (.inl 146))), some (.inl y1), some (.inl y2), none, none, some (.inl y5)] [.inr (.inr (.inl 146))] (jxSH, a, b0)) (jQ_X12_rules a0 b0) := fun y1 y2 y5 a hlt i0 i1 i2 i3 i4 i5 i6 i7 i8 i9 i10 => (ih _ hlt).2.2.2.2.2.2.2.1 y1 y2 y5 a (Nat.le_refl _) i0 i1 i2 i3 i4 i5 i6 i7 i8 i9 i10
  have ih153 : ∀ (y1 y2 y5 : Int) (a : Nat → Nat → Int), (((a 146 22) - (a 146 23)) + 4).toNat < n → iv a → jfr jW_X12_rules a0 a → 0 - 11 ≤ y5 → y5 ≤ 5 → a 146 22 ≤ 100 → a 146 23 ≤ a 146 22 → 0 ≤ y2 → y2 + 2 ≤ a 146 23 → 0 ≤ y5 → y5 ≤ 4 → a0 146 22 ≤ 100 → jt (jxX E d 232 153 [some (.inr (.inr (.inl 146))), some (.inl y1), some (.inl y2), none, none, some (.inl y5)] [] (jxSH, a, b0)) (jQ_X12_rules a0 b0) := fun y1 y2 y5 a hlt i0 i1 i2 i3 i4 i5 i6 i7 i8 i9 i10 => (ih _ hlt).2.2.2.2.2.2.2.2.1 y1 y2 y5 a (Nat.le_refl _) i0 i1 i2 i3 i4 i5 i6 i7 i8 i9 i10
  have ih126 : ∀ (y1 y2 y3 y5 : Int) (a : Nat → Nat → Int), (((a 146 22) - (a 146 23)) + 2).toNat < n → iv a → jfr jW_X12_rules a0 a → 0 ≤ y3 → y3 ≤ 1 → 0 - 11 ≤ y5 → y5 ≤ 5 → a 146 22 ≤ 100 → a 146 23 ≤ a 146 22 → 0 ≤ y2 → y2 ≤ a 146 23 → (a 146 23) + (a 146 25) ≤ a 146 22 → 0 ≤ y3 → y3 ≤ 1 → (y3 = 1 → ((0 ≤ y5 ∧ y5 ≤ 4) ∧ 2 ≤ a 146 25)) → a0 146 22 ≤ 100 → jt (jxX E d 232 126 [some (.inr (.inr (.inl 146))), some (.inl y1), some (.inl y2), some (.inl y3), none, some (.inl y5)] [] (jxSH, a, b0)) (jQ_X12_rules a0 b0) := fun y1 y2 y3 y5 a hlt i0 i1 i2 i3 i4 i5 i6 i7 i8 i9 i10 i11 i12 i13 i14 => (ih _ hlt).2.2.2.2.2.2.2.2.2.1 y1 y2 y3 y5 a (Nat.le_refl _) i0 i1 i2 i3 i4 i5 i6 i7 i8 i9 i10 i11 i12 i13 i14
  have ih93 : ∀ (y1 y2 y5 : Int) (a : Nat → Nat → Int), (((a 146 22) - (a 146 23)) + 2).toNat < n → iv a → jfr jW_X12_rules a0 a → 0 - 11 ≤ y5 → y5 ≤ 5 → a 146 22 ≤ 100 → a 146 23 ≤ a 146 22 → 0 ≤ y2 → y2 ≤ a 146 23 → (a 146 23) + (a 146 25) ≤ a 146 22 → a0 146 22 ≤ 100 → jt (jxX E d 232 93 [some (.inr (.inr (.inl 146))), some (.inl y1), some (.inl y2), none, none, some (.inl y5)] [] (jxSH, a, b0)) (jQ_X12_rules a0 b0) := fun y1 y2 y5 a hlt i0 i1 i2 i3 i4 i5 i6 i7 i8 i9 => (ih _ hlt).2.2.2.2.2.2.2.2.2.2.1 y1 y2 y5 a (Nat.le_refl _) i0 i1 i2 i3 i4 i5 i6 i7 i8 i9
  have ih106 : ∀ (y1 y2 y3 y5 : Int) (a : Nat → Nat → Int), (((a 146 22) - (a 146 23)) + 2).toNat < n → iv a → jfr jW_X12_rules a0 a → 1 ≤ y3 → y3 ≤ 1 → 0 ≤ y5 → y5 ≤ 4 → a 146 22 ≤ 100 → a 146 23 ≤ a 146 22 → 0 ≤ y2 → y2 ≤ a 146 23 → (a 146 23) + (a 146 25) ≤ a 146 22 → 0 ≤ y3 → y3 ≤ 1 → 0 ≤ y5 → y5 ≤ 4 → 2 ≤ a 146 25 → a0 146 22 ≤ 100 → jt (jxX E d 232 106 [some (.inr (.inr (.inl 146))), some (.inl y1), some (.inl y2), some (.inl y3), none, some (.inl y5)] [] (jxSH, a, b0)) (jQ_X12_rules a0 b0) := fun y1 y2 y3 y5 a hlt i0 i1 i2 i3 i4 i5 i6 i7 i8 i9 i10 i11 i12 i13 i14 i15 i16 => (ih _ hlt).2.2.2.2.2.2.2.2.2.2.2.1 y1 y2 y3 y5 a (Nat.le_refl _) i0 i1 i2 i3 i4 i5 i6 i7 i8 i9 i10 i11 i12 i13 i14 i15 i16
  have ih65 : ∀ (y1 y2 y3 y4 : Int) (a : Nat → Nat → Int), ((((a 146 22) - (a 146 23)) + y3) + y4).toNat < n → iv a → jfr jW_X12_rules a0 a → 0 ≤ y3 → y3 ≤ 1 → 0 ≤ y4 → y4 ≤ 1 → a 146 22 ≤ 100 → a 146 23 ≤ a 146 22 → 0 ≤ y2 → y2 ≤ a 146 23 → 0 ≤ y3 → 0 ≤ y4 → y3 ≤ 1 → y4 ≤ 1 → a0 146 22 ≤ 100 → jt (jxX E d 232 65 [some (.inr (.inr (.inl 146))), some (.inl y1), some (.inl y2), some (.inl y3), some (.inl y4), none] [] (jxSH, a, b0)) (jQ_X12_rules a0 b0) := fun y1 y2 y3 y4 a hlt i0 i1 i2 i3 i4 i5 i6 i7 i8 i9 i10 i11 i12 i13 i14 => (ih _ hlt).2.2.2.2.2.2.2.2.2.2.2.2 y1 y2 y3 y4 a (Nat.le_refl _) i0 i1 i2 i3 i4 i5 i6 i7 i8 i9 i10 i11 i12 i13 i14
  have hc278 : ∀ (y1 y2 y3 y4 : Int) (a : Nat → Nat → Int), (((((a 146 22) - (a 146 23)) + (2 * y3)) + y4) + 1).toNat ≤ n → iv a → jfr jW_X12_rules a0 a → 0 ≤ y3 → y3 ≤ 1 → 0 ≤ y4 → y4 ≤ 1 → a 146 22 ≤ 100 → a 146 23 ≤ a 146 22 → 0 ≤ y2 → y2 ≤ a 146 23 → 0 ≤ y3 → 0 ≤ y4 → y3 ≤ 1 → y4 ≤ 1 → a0 146 22 ≤ 100 → jt (jxX E d 232 278 [some (.inr (.inr (.inl 146))), some (.inl y1), some (.inl y2), some (.inl y3), some (.inl y4), none] [] (jxSH, a, b0)) (jQ_X12_rules a0 b0) := by
    intro y1 y2 y3 y4 a hm hv hf hi0 hi1 hi2 hi3 hi4 hi5 hi6 hi7 hi8 hi9 hi10 hi11 hi12
    refine jt_eq (bq_X12_rules_278 E d y1 y2 y3 y4 a b0) ?_
    have h1630_ := iv_get hv (k := 146) (j := 22) (l := 0) (u := 200) rfl
    have h1631_ := iv_get hv (k := 146) (j := 23) (l := 0) (u := 200) rfl
    have h1632_ := iv_get hv0 (k := 146) (j := 22) (l := 0) (u := 200) rfl
    exact ih65 y1 y2 y3 y4 a (show ((((a 146 22) - (a 146 23)) + y3) + y4).toNat < n from by omega) hv hf (show 0 ≤ y3 from by omega) (show y3 ≤ 1 from by omega) (show 0 ≤ y4 from by omega) (show y4 ≤ 1 from by omega) (show a 146 22 ≤ 100 from by omega) (show a 146 23 ≤ a 146 22 from by omega) (show 0 ≤ y2 from by omega) (show y2 ≤ a 146 23 from by omega) (show 0 ≤ y3 from by omega) (show 0 ≤ y4 from by omega) (show y3 ≤ 1 from by omega) (show y4 ≤ 1 from by omega) (show a0 146 22 ≤ 100 from by omega)
  have hc251 : ∀ (y1 y2 y3 y4 : Int) (a : Nat → Nat → Int), (((((a 146 22) - (a 146 23)) + (2 * y3)) + y4) + 1).toNat ≤ n → iv a → jfr jW_X12_rules a0 a → 0 ≤ y3 → y3 ≤ 1 → 0 ≤ y4 → y4 ≤ 1 → a 146 22 ≤ 100 → a 146 23 ≤ a 146 22 → 0 ≤ y2 → y2 ≤ a 146 23 → 0 ≤ y3 → 0 ≤ y4 → y3 ≤ 1 → y4 ≤ 1 → a0 146 22 ≤ 100 → jt (jxX E d 232 251 [some (.inr (.inr (.inl 146))), some (.inl y1), some (.inl y2), some (.inl y3), some (.inl y4), none] [] (jxSH, a, b0)) (jQ_X12_rules a0 b0) := by
    intro y1 y2 y3 y4 a hm hv hf hi0 hi1 hi2 hi3 hi4 hi5 hi6 hi7 hi8 hi9 hi10 hi11 hi12
    refine jt_eq (bq_X12_rules_251 E d y1 y2 y3 y4 a b0) ?_
    have h1633_ := iv_get hv (k := 146) (j := 22) (l := 0) (u := 200) rfl
    have h1634_ := iv_get hv (k := 146) (j := 23) (l := 0) (u := 200) rfl
    have h1635_ := iv_get hv0 (k := 146) (j := 22) (l := 0) (u := 200) rfl
    refine jt_ite (fun c1636_ => ?_) (fun c1636_ => ?_)
    ·
      exact hc278 y1 y2 y3 y4 a (show (((((a 146 22) - (a 146 23)) + (2 * y3)) + y4) + 1).toNat ≤ n from by omega) hv hf (show 0 ≤ y3 from by omega) (show y3 ≤ 1 from by omega) (show 0 ≤ y4 from by omega) (show y4 ≤ 1 from by omega) (show a 146 22 ≤ 100 from by omega) (show a 146 23 ≤ a 146 22 from by omega) (show 0 ≤ y2 from by omega) (show y2 ≤ a 146 23 from by omega) (show 0 ≤ y3 from by omega) (show 0 ≤ y4 from by omega) (show y3 ≤ 1 from by omega) (show y4 ≤ 1 from by omega) (show a0 146 22 ≤ 100 from by omega)
    ·
      refine jt_ite (fun c1637_ => ?_) (fun c1637_ => ?_)
      ·
        exact hc278 y1 y2 y3 y4 a (show (((((a 146 22) - (a 146 23)) + (2 * y3)) + y4) + 1).toNat ≤ n from by omega) hv hf (show 0 ≤ y3 from by omega) (show y3 ≤ 1 from by omega) (show 0 ≤ y4 from by omega) (show y4 ≤ 1 from by omega) (show a 146 22 ≤ 100 from by omega) (show a 146 23 ≤ a 146 22 from by omega) (show 0 ≤ y2 from by omega) (show y2 ≤ a 146 23 from by omega) (show 0 ≤ y3 from by omega) (show 0 ≤ y4 from by omega) (show y3 ≤ 1 from by omega) (show y4 ≤ 1 from by omega) (show a0 146 22 ≤ 100 from by omega)
      ·
        refine jt_bI (sp_X12_see E d (jd_le hd rfl) a b0 hv (show a 146 23 ≤ a 146 22 from by omega)) (fun r1638_ a1638_ b1638_ h1638_ => ?_)
        obtain ⟨hv1638_, hf1638_, rfl, hq1638_0, hq1638_1, hq1638_2, hq1638_3, hq1638_4, hq1638_5⟩ := h1638_
        have h1639_ := iv_get hv1638_ (k := 146) (j := 23) (l := 0) (u := 200) rfl
        have h1640_ := iv_get hv1638_ (k := 164) (j := (a1638_ 146 23).toNat) (l := (-128)) (u := 127) rfl
        have h1641_ : a1638_ 164 ((a1638_ 146 23).toNat) = a 164 ((a1638_ 146 23).toNat) := hf1638_ 164 ((a1638_ 146 23).toNat) rfl
        have h1642_ := iv_get hv (k := 164) (j := (a1638_ 146 23).toNat) (l := (-128)) (u := 127) rfl
        have h1643_ : a 164 ((a1638_ 146 23).toNat) = a0 164 ((a1638_ 146 23).toNat) := hf 164 ((a1638_ 146 23).toNat) rfl
        have h1644_ := iv_get hv0 (k := 164) (j := (a1638_ 146 23).toNat) (l := (-128)) (u := 127) rfl
        have h1645_ := iv_get hv (k := 164) (j := (a 146 23).toNat) (l := (-128)) (u := 127) rfl
        have h1646_ : a 164 ((a 146 23).toNat) = a0 164 ((a 146 23).toNat) := hf 164 ((a 146 23).toNat) rfl
        have h1647_ := iv_get hv0 (k := 164) (j := (a 146 23).toNat) (l := (-128)) (u := 127) rfl
        refine jt_ite (fun c1648_ => ?_) (fun c1648_ => ?_)
        ·
          refine jt_bI (sp_X12_fails E d (jd_le hd rfl) 0 (a1638_ 146 23) a1638_ b0 hv1638_) (fun r1649_ a1649_ b1649_ h1649_ => ?_)
          obtain ⟨hv1649_, hf1649_, rfl, hq1649_0, hq1649_1, hq1649_2, hq1649_3⟩ := h1649_
          have h1650_ : a1638_ 146 24 = a 146 24 := hf1638_ 146 24 rfl
          have hf1651_ : jfr jW_X12_rules a0 a1638_ := jfr_tr hf hf1638_ rfl
          have hf1652_ : jfr jW_X12_rules a0 a1649_ := jfr_tr hf1651_ hf1649_ rfl
          have h1653_ := iv_get hv1649_ (k := 146) (j := 22) (l := 0) (u := 200) rfl
          have h1654_ : a1649_ 146 22 = a1638_ 146 22 := hf1649_ 146 22 rfl
          have h1655_ := iv_get hv1638_ (k := 146) (j := 22) (l := 0) (u := 200) rfl
          have h1656_ : a1638_ 146 22 = a 146 22 := hf1638_ 146 22 rfl
          have h1657_ := iv_get hv1649_ (k := 146) (j := 23) (l := 0) (u := 200) rfl
          have h1658_ : a1649_ 146 23 = a1638_ 146 23 := hf1649_ 146 23 rfl
          exact hc278 y1 y2 r1649_ y4 a1649_ (show (((((a1649_ 146 22) - (a1649_ 146 23)) + (2 * r1649_)) + y4) + 1).toNat ≤ n from by omega) hv1649_ hf1652_ (show 0 ≤ r1649_ from by omega) (show r1649_ ≤ 1 from by omega) (show 0 ≤ y4 from by omega) (show y4 ≤ 1 from by omega) (show a1649_ 146 22 ≤ 100 from by omega) (show a1649_ 146 23 ≤ a1649_ 146 22 from by omega) (show 0 ≤ y2 from by omega) (show y2 ≤ a1649_ 146 23 from by omega) (show 0 ≤ r1649_ from by omega) (show 0 ≤ y4 from by omega) (show r1649_ ≤ 1 from by omega) (show y4 ≤ 1 from by omega) (show a0 146 22 ≤ 100 from by omega)
        ·
          have hf1659_ : jfr jW_X12_rules a0 a1638_ := jfr_tr hf hf1638_ rfl
          have h1660_ := iv_get hv1638_ (k := 146) (j := 22) (l := 0) (u := 200) rfl
          have h1661_ : a1638_ 146 22 = a 146 22 := hf1638_ 146 22 rfl
          exact hc278 y1 y2 y3 y4 a1638_ (show (((((a1638_ 146 22) - (a1638_ 146 23)) + (2 * y3)) + y4) + 1).toNat ≤ n from by omega) hv1638_ hf1659_ (show 0 ≤ y3 from by omega) (show y3 ≤ 1 from by omega) (show 0 ≤ y4 from by omega) (show y4 ≤ 1 from by omega) (show a1638_ 146 22 ≤ 100 from by omega) (show a1638_ 146 23 ≤ a1638_ 146 22 from by omega) (show 0 ≤ y2 from by omega) (show y2 ≤ a1638_ 146 23 from by omega) (show 0 ≤ y3 from by omega) (show 0 ≤ y4 from by omega) (show y3 ≤ 1 from by omega) (show y4 ≤ 1 from by omega) (show a0 146 22 ≤ 100 from by omega)
  have hc236 : ∀ (y1 y2 y3 y4 : Int) (a : Nat → Nat → Int), (((((a 146 22) - (a 146 23)) + (2 * y3)) + y4) + 1).toNat ≤ n → iv a → jfr jW_X12_rules a0 a → 0 ≤ y3 → y3 ≤ 1 → 0 ≤ y4 → y4 ≤ 1 → a 146 22 ≤ 100 → a 146 23 ≤ a 146 22 → 0 ≤ y2 → y2 ≤ a 146 23 → 0 ≤ y3 → 0 ≤ y4 → y3 ≤ 1 → y4 ≤ 1 → (y4 = 1 → a 146 23 < a 146 22) → a0 146 22 ≤ 100 → jt (jxX E d 232 236 [some (.inr (.inr (.inl 146))), some (.inl y1), some (.inl y2), some (.inl y3), some (.inl y4), none] [] (jxSH, a, b0)) (jQ_X12_rules a0 b0) := by
    intro y1 y2 y3 y4 a hm hv hf hi0 hi1 hi2 hi3 hi4 hi5 hi6 hi7 hi8 hi9 hi10 hi11 hi12 hi13
    refine jt_eq (bq_X12_rules_236 E d y1 y2 y3 y4 a b0) ?_
    have h1662_ := iv_get hv (k := 146) (j := 22) (l := 0) (u := 200) rfl
    have h1663_ := iv_get hv (k := 146) (j := 23) (l := 0) (u := 200) rfl
    have h1664_ := iv_get hv0 (k := 146) (j := 22) (l := 0) (u := 200) rfl
    refine jt_ite (fun c1665_ => ?_) (fun c1665_ => ?_)
    ·
      exact hc251 y1 y2 y3 y4 a (show (((((a 146 22) - (a 146 23)) + (2 * y3)) + y4) + 1).toNat ≤ n from by omega) hv hf (show 0 ≤ y3 from by omega) (show y3 ≤ 1 from by omega) (show 0 ≤ y4 from by omega) (show y4 ≤ 1 from by omega) (show a 146 22 ≤ 100 from by omega) (show a 146 23 ≤ a 146 22 from by omega) (show 0 ≤ y2 from by omega) (show y2 ≤ a 146 23 from by omega) (show 0 ≤ y3 from by omega) (show 0 ≤ y4 from by omega) (show y3 ≤ 1 from by omega) (show y4 ≤ 1 from by omega) (show a0 146 22 ≤ 100 from by omega)
    ·
      have h1667_ : jxw ((a 146 23) + 1) = (a 146 23) + 1 := jxw_id (by omega) (by omega)
      have hv1666_ : iv (jxu a 146 23 (jxw ((a 146 23) + 1))) := iv_put hv (l := 0) (u := 200) rfl (by omega) (by omega)
      have hf1668_ : jfr jW_X12_rules a0 (jxu a 146 23 (jxw ((a 146 23) + 1))) := jfr_put hf rfl
      exact hc251 y1 y2 y3 y4 (jxu a 146 23 (jxw ((a 146 23) + 1))) (show (((((a 146 22) - (jxw ((a 146 23) + 1))) + (2 * y3)) + y4) + 1).toNat ≤ n from by omega) hv1666_ hf1668_ (show 0 ≤ y3 from by omega) (show y3 ≤ 1 from by omega) (show 0 ≤ y4 from by omega) (show y4 ≤ 1 from by omega) (show a 146 22 ≤ 100 from by omega) (show jxw ((a 146 23) + 1) ≤ a 146 22 from by omega) (show 0 ≤ y2 from by omega) (show y2 ≤ jxw ((a 146 23) + 1) from by omega) (show 0 ≤ y3 from by omega) (show 0 ≤ y4 from by omega) (show y3 ≤ 1 from by omega) (show y4 ≤ 1 from by omega) (show a0 146 22 ≤ 100 from by omega)
  have hc210 : ∀ (y1 y2 y3 s0 : Int) (a : Nat → Nat → Int), (((((a 146 22) - (a 146 23)) + (2 * y3)) + s0) + 1).toNat ≤ n → iv a → jfr jW_X12_rules a0 a → 0 ≤ y3 → y3 ≤ 1 → 0 ≤ s0 → s0 ≤ 1 → a 146 22 ≤ 100 → a 146 23 ≤ a 146 22 → 0 ≤ y2 → y2 ≤ a 146 23 → 0 ≤ y3 → 0 ≤ s0 → y3 ≤ 1 → s0 ≤ 1 → (s0 = 1 → (a 146 23 < a 146 22 ∧ ¬ a 164 ((a 146 23).toNat) = 32)) → a0 146 22 ≤ 100 → jt (jxX E d 232 210 [some (.inr (.inr (.inl 146))), some (.inl y1), some (.inl y2), some (.inl y3), none, none] [.inl s0] (jxSH, a, b0)) (jQ_X12_rules a0 b0) := by
    intro y1 y2 y3 s0 a hm hv hf hi0 hi1 hi2 hi3 hi4 hi5 hi6 hi7 hi8 hi9 hi10 hi11 hi12 hi13
    refine jt_eq (bq_X12_rules_210 E d y1 y2 y3 s0 a b0) ?_
    have h1669_ := iv_get hv (k := 146) (j := 22) (l := 0) (u := 200) rfl
    have h1670_ := iv_get hv (k := 146) (j := 23) (l := 0) (u := 200) rfl
    have h1671_ := iv_get hv (k := 164) (j := (a 146 23).toNat) (l := (-128)) (u := 127) rfl
    have h1672_ : a 164 ((a 146 23).toNat) = a0 164 ((a 146 23).toNat) := hf 164 ((a 146 23).toNat) rfl
    have h1673_ := iv_get hv0 (k := 164) (j := (a 146 23).toNat) (l := (-128)) (u := 127) rfl
    have h1674_ := iv_get hv0 (k := 146) (j := 22) (l := 0) (u := 200) rfl
    refine jt_ite (fun c1675_ => ?_) (fun c1675_ => ?_)
    ·
      exact hc236 y1 y2 y3 s0 a (show (((((a 146 22) - (a 146 23)) + (2 * y3)) + s0) + 1).toNat ≤ n from by omega) hv hf (show 0 ≤ y3 from by omega) (show y3 ≤ 1 from by omega) (show 0 ≤ s0 from by omega) (show s0 ≤ 1 from by omega) (show a 146 22 ≤ 100 from by omega) (show a 146 23 ≤ a 146 22 from by omega) (show 0 ≤ y2 from by omega) (show y2 ≤ a 146 23 from by omega) (show 0 ≤ y3 from by omega) (show 0 ≤ s0 from by omega) (show y3 ≤ 1 from by omega) (show s0 ≤ 1 from by omega) (show (s0 = 1 → a 146 23 < a 146 22) from by omega) (show a0 146 22 ≤ 100 from by omega)
    ·
      refine jt_bI (sp_X12_see E d (jd_le hd rfl) a b0 hv (show a 146 23 ≤ a 146 22 from by omega)) (fun r1676_ a1676_ b1676_ h1676_ => ?_)
      obtain ⟨hv1676_, hf1676_, rfl, hq1676_0, hq1676_1, hq1676_2, hq1676_3, hq1676_4, hq1676_5⟩ := h1676_
      have h1677_ := iv_get hv1676_ (k := 146) (j := 23) (l := 0) (u := 200) rfl
      have h1678_ := iv_get hv1676_ (k := 164) (j := (a1676_ 146 23).toNat) (l := (-128)) (u := 127) rfl
      have h1679_ : a1676_ 164 ((a1676_ 146 23).toNat) = a 164 ((a1676_ 146 23).toNat) := hf1676_ 164 ((a1676_ 146 23).toNat) rfl
      have h1680_ := iv_get hv (k := 164) (j := (a1676_ 146 23).toNat) (l := (-128)) (u := 127) rfl
      have h1681_ : a 164 ((a1676_ 146 23).toNat) = a0 164 ((a1676_ 146 23).toNat) := hf 164 ((a1676_ 146 23).toNat) rfl
      have h1682_ := iv_get hv0 (k := 164) (j := (a1676_ 146 23).toNat) (l := (-128)) (u := 127) rfl
      refine jt_ite (fun c1683_ => ?_) (fun c1683_ => ?_)
      ·
        have hf1684_ : jfr jW_X12_rules a0 a1676_ := jfr_tr hf hf1676_ rfl
        have h1685_ := iv_get hv1676_ (k := 146) (j := 22) (l := 0) (u := 200) rfl
        have h1686_ : a1676_ 146 22 = a 146 22 := hf1676_ 146 22 rfl
        exact hc236 y1 y2 y3 s0 a1676_ (show (((((a1676_ 146 22) - (a1676_ 146 23)) + (2 * y3)) + s0) + 1).toNat ≤ n from by omega) hv1676_ hf1684_ (show 0 ≤ y3 from by omega) (show y3 ≤ 1 from by omega) (show 0 ≤ s0 from by omega) (show s0 ≤ 1 from by omega) (show a1676_ 146 22 ≤ 100 from by omega) (show a1676_ 146 23 ≤ a1676_ 146 22 from by omega) (show 0 ≤ y2 from by omega) (show y2 ≤ a1676_ 146 23 from by omega) (show 0 ≤ y3 from by omega) (show 0 ≤ s0 from by omega) (show y3 ≤ 1 from by omega) (show s0 ≤ 1 from by omega) (show (s0 = 1 → a1676_ 146 23 < a1676_ 146 22) from by omega) (show a0 146 22 ≤ 100 from by omega)
      ·
        refine jt_bI (sp_X12_fails E d (jd_le hd rfl) 0 (a1676_ 146 23) a1676_ b0 hv1676_) (fun r1687_ a1687_ b1687_ h1687_ => ?_)
        obtain ⟨hv1687_, hf1687_, rfl, hq1687_0, hq1687_1, hq1687_2, hq1687_3⟩ := h1687_
        have h1688_ : a1676_ 146 24 = a 146 24 := hf1676_ 146 24 rfl
        have hf1689_ : jfr jW_X12_rules a0 a1676_ := jfr_tr hf hf1676_ rfl
        have hf1690_ : jfr jW_X12_rules a0 a1687_ := jfr_tr hf1689_ hf1687_ rfl
        have h1691_ := iv_get hv1687_ (k := 146) (j := 22) (l := 0) (u := 200) rfl
        have h1692_ : a1687_ 146 22 = a1676_ 146 22 := hf1687_ 146 22 rfl
        have h1693_ := iv_get hv1676_ (k := 146) (j := 22) (l := 0) (u := 200) rfl
        have h1694_ : a1676_ 146 22 = a 146 22 := hf1676_ 146 22 rfl
        have h1695_ := iv_get hv1687_ (k := 146) (j := 23) (l := 0) (u := 200) rfl
        have h1696_ : a1687_ 146 23 = a1676_ 146 23 := hf1687_ 146 23 rfl
        exact hc236 y1 y2 r1687_ s0 a1687_ (show (((((a1687_ 146 22) - (a1687_ 146 23)) + (2 * r1687_)) + s0) + 1).toNat ≤ n from by omega) hv1687_ hf1690_ (show 0 ≤ r1687_ from by omega) (show r1687_ ≤ 1 from by omega) (show 0 ≤ s0 from by omega) (show s0 ≤ 1 from by omega) (show a1687_ 146 22 ≤ 100 from by omega) (show a1687_ 146 23 ≤ a1687_ 146 22 from by omega) (show 0 ≤ y2 from by omega) (show y2 ≤ a1687_ 146 23 from by omega) (show 0 ≤ r1687_ from by omega) (show 0 ≤ s0 from by omega) (show r1687_ ≤ 1 from by omega) (show s0 ≤ 1 from by omega) (show (s0 = 1 → a1687_ 146 23 < a1687_ 146 22) from by omega) (show a0 146 22 ≤ 100 from by omega)
  have hc205 : ∀ (y1 y2 y3 : Int) (a : Nat → Nat → Int), ((((a 146 22) - (a 146 23)) + (2 * y3)) + 2).toNat ≤ n → iv a → jfr jW_X12_rules a0 a → 1 ≤ y3 → y3 ≤ 1 → a 146 22 ≤ 100 → a 146 23 ≤ a 146 22 → 0 ≤ y2 → y2 ≤ a 146 23 → 0 ≤ y3 → y3 ≤ 1 → a 146 23 < a 146 22 → ¬ a 164 ((a 146 23).toNat) = 32 → a0 146 22 ≤ 100 → jt (jxX E d 232 205 [some (.inr (.inr (.inl 146))), some (.inl y1), some (.inl y2), some (.inl y3), none, none] [] (jxSH, a, b0)) (jQ_X12_rules a0 b0) := by
    intro y1 y2 y3 a hm hv hf hi0 hi1 hi2 hi3 hi4 hi5 hi6 hi7 hi8 hi9 hi10
    refine jt_eq (bq_X12_rules_205 E d y1 y2 y3 a b0) ?_
    have h1697_ := iv_get hv (k := 146) (j := 22) (l := 0) (u := 200) rfl
    have h1698_ := iv_get hv (k := 146) (j := 23) (l := 0) (u := 200) rfl
    have h1699_ := iv_get hv (k := 164) (j := (a 146 23).toNat) (l := (-128)) (u := 127) rfl
    have h1700_ : a 164 ((a 146 23).toNat) = a0 164 ((a 146 23).toNat) := hf 164 ((a 146 23).toNat) rfl
    have h1701_ := iv_get hv0 (k := 164) (j := (a 146 23).toNat) (l := (-128)) (u := 127) rfl
    have h1702_ := iv_get hv0 (k := 146) (j := 22) (l := 0) (u := 200) rfl
    exact hc210 y1 y2 y3 1 a (show (((((a 146 22) - (a 146 23)) + (2 * y3)) + 1) + 1).toNat ≤ n from by omega) hv hf (show 0 ≤ y3 from by omega) (show y3 ≤ 1 from by omega) (show 0 ≤ 1 from by omega) (show 1 ≤ 1 from by omega) (show a 146 22 ≤ 100 from by omega) (show a 146 23 ≤ a 146 22 from by omega) (show 0 ≤ y2 from by omega) (show y2 ≤ a 146 23 from by omega) (show 0 ≤ y3 from by omega) (show 0 ≤ 1 from by omega) (show y3 ≤ 1 from by omega) (show 1 ≤ 1 from by omega) (show (1 = 1 → (a 146 23 < a 146 22 ∧ ¬ a 164 ((a 146 23).toNat) = 32)) from by omega) (show a0 146 22 ≤ 100 from by omega)
  have hc209 : ∀ (y1 y2 y3 : Int) (a : Nat → Nat → Int), ((((a 146 22) - (a 146 23)) + (2 * y3)) + 1).toNat ≤ n → iv a → jfr jW_X12_rules a0 a → 0 ≤ y3 → y3 ≤ 1 → a 146 22 ≤ 100 → a 146 23 ≤ a 146 22 → 0 ≤ y2 → y2 ≤ a 146 23 → 0 ≤ y3 → y3 ≤ 1 → a0 146 22 ≤ 100 → jt (jxX E d 232 209 [some (.inr (.inr (.inl 146))), some (.inl y1), some (.inl y2), some (.inl y3), none, none] [] (jxSH, a, b0)) (jQ_X12_rules a0 b0) := by
    intro y1 y2 y3 a hm hv hf hi0 hi1 hi2 hi3 hi4 hi5 hi6 hi7 hi8
    refine jt_eq (bq_X12_rules_209 E d y1 y2 y3 a b0) ?_
    have h1703_ := iv_get hv (k := 146) (j := 22) (l := 0) (u := 200) rfl
    have h1704_ := iv_get hv (k := 146) (j := 23) (l := 0) (u := 200) rfl
    have h1705_ := iv_get hv0 (k := 146) (j := 22) (l := 0) (u := 200) rfl
    have h1706_ := iv_get hv (k := 164) (j := (a 146 23).toNat) (l := (-128)) (u := 127) rfl
    have h1707_ : a 164 ((a 146 23).toNat) = a0 164 ((a 146 23).toNat) := hf 164 ((a 146 23).toNat) rfl
    have h1708_ := iv_get hv0 (k := 164) (j := (a 146 23).toNat) (l := (-128)) (u := 127) rfl
    exact hc210 y1 y2 y3 0 a (show (((((a 146 22) - (a 146 23)) + (2 * y3)) + 0) + 1).toNat ≤ n from by omega) hv hf (show 0 ≤ y3 from by omega) (show y3 ≤ 1 from by omega) (show 0 ≤ 0 from by omega) (show 0 ≤ 1 from by omega) (show a 146 22 ≤ 100 from by omega) (show a 146 23 ≤ a 146 22 from by omega) (show 0 ≤ y2 from by omega) (show y2 ≤ a 146 23 from by omega) (show 0 ≤ y3 from by omega) (show 0 ≤ 0 from by omega) (show y3 ≤ 1 from by omega) (show 0 ≤ 1 from by omega) (show (0 = 1 → (a 146 23 < a 146 22 ∧ ¬ a 164 ((a 146 23).toNat) = 32)) from by omega) (show a0 146 22 ≤ 100 from by omega)
  have hc170 : ∀ (y1 y2 y5 s1 : Int) (a : Nat → Nat → Int), (((a 146 22) - (a 146 23)) + 4).toNat ≤ n → iv a → jfr jW_X12_rules a0 a → 0 - 11 ≤ y5 → y5 ≤ 5 → 0 ≤ s1 → s1 ≤ 1 → a 146 22 ≤ 100 → a 146 23 ≤ a 146 22 → 0 ≤ y2 → y2 + 2 ≤ a 146 23 → 0 ≤ y5 → y5 ≤ 4 → a0 146 22 ≤ 100 → jt (jxX E d 232 170 [some (.inr (.inr (.inl 146))), some (.inl y1), some (.inl y2), none, none, some (.inl y5)] [.inl s1, .inr (.inr (.inl 146))] (jxSH, a, b0)) (jQ_X12_rules a0 b0) := by
    intro y1 y2 y5 s1 a hm hv hf hi0 hi1 hi2 hi3 hi4 hi5 hi6 hi7 hi8 hi9 hi10
    refine jt_eq (bq_X12_rules_170 E d y1 y2 y5 s1 a b0) ?_
    have h1709_ := iv_get hv (k := 146) (j := 22) (l := 0) (u := 200) rfl
    have h1710_ := iv_get hv (k := 146) (j := 23) (l := 0) (u := 200) rfl
    have h1711_ := iv_get hv0 (k := 146) (j := 22) (l := 0) (u := 200) rfl
    refine jt_eI (eq_X12_mostOf E d (jd_le hd rfl) y5 a b0) ?_
    refine jt_bI (sp_X12_number E d (jd_le hd rfl) s1 (f_X12_mostOf a b0 y5) a b0 hv (show a 146 23 ≤ a 146 22 from by omega)) (fun r1712_ a1712_ b1712_ h1712_ => ?_)
    obtain ⟨hv1712_, hf1712_, rfl, hq1712_0, hq1712_1, hq1712_2, hq1712_3, hq1712_4, hq1712_5⟩ := h1712_
    have h1713_ := iv_get hv1712_ (k := 146) (j := 23) (l := 0) (u := 200) rfl
    have h1714_ := iv_get hv1712_ (k := 146) (j := 26) (l := 0) (u := 999) rfl
    have h1715_ := f_X12_mostOf_eq a b0 y5
    refine jt_grd (by omega) ?_
    refine jt_ite (fun c1716_ => ?_) (fun c1716_ => ?_)
    ·
      have hv1717_ : iv (jxu a1712_ 172 (y5.toNat) (a1712_ 146 26)) := iv_putf hv1712_ rfl
      have hf1718_ : jfr jW_X12_rules a0 a1712_ := jfr_tr hf hf1712_ rfl
      have hf1719_ : jfr jW_X12_rules a0 (jxu a1712_ 172 (y5.toNat) (a1712_ 146 26)) := jfr_put hf1718_ rfl
      have h1720_ := iv_get hv1712_ (k := 146) (j := 22) (l := 0) (u := 200) rfl
      have h1721_ : a1712_ 146 22 = a 146 22 := hf1712_ 146 22 rfl
      have h1722_ := jxw_im (y2 + 1)
      have h1723_ := jxw_rg (y2 + 1)
      exact hc209 y1 (jxw (y2 + 1)) r1712_ (jxu a1712_ 172 (y5.toNat) (a1712_ 146 26)) (show ((((a1712_ 146 22) - (a1712_ 146 23)) + (2 * r1712_)) + 1).toNat ≤ n from by omega) hv1717_ hf1719_ (show 0 ≤ r1712_ from by omega) (show r1712_ ≤ 1 from by omega) (show a1712_ 146 22 ≤ 100 from by omega) (show a1712_ 146 23 ≤ a1712_ 146 22 from by omega) (show 0 ≤ jxw (y2 + 1) from by omega) (show jxw (y2 + 1) ≤ a1712_ 146 23 from by omega) (show 0 ≤ r1712_ from by omega) (show r1712_ ≤ 1 from by omega) (show a0 146 22 ≤ 100 from by omega)
    ·
      have hv1724_ : iv (jxu a1712_ 172 (y5.toNat) (a1712_ 146 26)) := iv_putf hv1712_ rfl
      have h1725_ := iv_get hv1712_ (k := 146) (j := 22) (l := 0) (u := 200) rfl
      have h1726_ : a1712_ 146 22 = a 146 22 := hf1712_ 146 22 rfl
      refine jt_bI (sp_X12_see E d (jd_le hd rfl) (jxu a1712_ 172 (y5.toNat) (a1712_ 146 26)) b0 hv1724_ (show a1712_ 146 23 ≤ a1712_ 146 22 from by omega)) (fun r1727_ a1727_ b1727_ h1727_ => ?_)
      obtain ⟨hv1727_, hf1727_, rfl, hq1727_0, hq1727_1, hq1727_2, hq1727_3, hq1727_4, hq1727_5⟩ := h1727_
      have h1728_ := iv_get hv1727_ (k := 146) (j := 23) (l := 0) (u := 200) rfl
      have h1729_ : a1712_ 146 23 ≤ a1727_ 146 23 := hq1727_0
      have h1730_ : a1727_ 146 23 ≤ a1712_ 146 22 := hq1727_1
      have h1731_ := iv_get hv1727_ (k := 164) (j := (a1727_ 146 23).toNat) (l := (-128)) (u := 127) rfl
      have h1732_ : a1727_ 164 ((a1727_ 146 23).toNat) = a1712_ 164 ((a1727_ 146 23).toNat) := hf1727_ 164 ((a1727_ 146 23).toNat) rfl
      have h1733_ := iv_get hv1712_ (k := 164) (j := (a1727_ 146 23).toNat) (l := (-128)) (u := 127) rfl
      have h1734_ : a1712_ 164 ((a1727_ 146 23).toNat) = a 164 ((a1727_ 146 23).toNat) := hf1712_ 164 ((a1727_ 146 23).toNat) rfl
      have h1735_ := iv_get hv (k := 164) (j := (a1727_ 146 23).toNat) (l := (-128)) (u := 127) rfl
      have h1736_ : a 164 ((a1727_ 146 23).toNat) = a0 164 ((a1727_ 146 23).toNat) := hf 164 ((a1727_ 146 23).toNat) rfl
      have h1737_ := iv_get hv0 (k := 164) (j := (a1727_ 146 23).toNat) (l := (-128)) (u := 127) rfl
      have h1738_ : ((r1727_ = 0 - 1 ∧ a1727_ 146 23 = a1712_ 146 22) ∨ (((0 ≤ r1727_ ∧ r1727_ ≤ 255) ∧ a1727_ 146 23 < a1712_ 146 22) ∧ ¬ a1727_ 164 ((a1727_ 146 23).toNat) = 32)) := hq1727_2
      have h1739_ := iv_get hv1712_ (k := 164) (j := (a1712_ 146 23).toNat) (l := (-128)) (u := 127) rfl
      have h1740_ : a1712_ 164 ((a1712_ 146 23).toNat) = a 164 ((a1712_ 146 23).toNat) := hf1712_ 164 ((a1712_ 146 23).toNat) rfl
      have h1741_ := iv_get hv (k := 164) (j := (a1712_ 146 23).toNat) (l := (-128)) (u := 127) rfl
      have h1742_ : a 164 ((a1712_ 146 23).toNat) = a0 164 ((a1712_ 146 23).toNat) := hf 164 ((a1712_ 146 23).toNat) rfl
      have h1743_ := iv_get hv0 (k := 164) (j := (a1712_ 146 23).toNat) (l := (-128)) (u := 127) rfl
      have h1744_ : ((a1712_ 146 23 < a1712_ 146 22 ∧ ¬ a1712_ 164 ((a1712_ 146 23).toNat) = 32) → a1727_ 146 23 = a1712_ 146 23) := hq1727_3
      refine jt_ite (fun c1745_ => ?_) (fun c1745_ => ?_)
      ·
        have hf1746_ : jfr jW_X12_rules a0 a1712_ := jfr_tr hf hf1712_ rfl
        have hf1747_ : jfr jW_X12_rules a0 (jxu a1712_ 172 (y5.toNat) (a1712_ 146 26)) := jfr_put hf1746_ rfl
        have hf1748_ : jfr jW_X12_rules a0 a1727_ := jfr_tr hf1747_ hf1727_ rfl
        have h1749_ := iv_get hv1727_ (k := 146) (j := 22) (l := 0) (u := 200) rfl
        have h1750_ : a1727_ 146 22 = a1712_ 146 22 := hf1727_ 146 22 rfl
        have h1751_ := jxw_im (y2 + 1)
        have h1752_ := jxw_rg (y2 + 1)
        exact hc209 y1 (jxw (y2 + 1)) r1712_ a1727_ (show ((((a1727_ 146 22) - (a1727_ 146 23)) + (2 * r1712_)) + 1).toNat ≤ n from by omega) hv1727_ hf1748_ (show 0 ≤ r1712_ from by omega) (show r1712_ ≤ 1 from by omega) (show a1727_ 146 22 ≤ 100 from by omega) (show a1727_ 146 23 ≤ a1727_ 146 22 from by omega) (show 0 ≤ jxw (y2 + 1) from by omega) (show jxw (y2 + 1) ≤ a1727_ 146 23 from by omega) (show 0 ≤ r1712_ from by omega) (show r1712_ ≤ 1 from by omega) (show a0 146 22 ≤ 100 from by omega)
      ·
        have hf1753_ : jfr jW_X12_rules a0 a1712_ := jfr_tr hf hf1712_ rfl
        have hf1754_ : jfr jW_X12_rules a0 (jxu a1712_ 172 (y5.toNat) (a1712_ 146 26)) := jfr_put hf1753_ rfl
        have hf1755_ : jfr jW_X12_rules a0 a1727_ := jfr_tr hf1754_ hf1727_ rfl
        have h1756_ := iv_get hv1727_ (k := 146) (j := 22) (l := 0) (u := 200) rfl
        have h1757_ : a1727_ 146 22 = a1712_ 146 22 := hf1727_ 146 22 rfl
        have h1758_ := jxw_im (y2 + 1)
        have h1759_ := jxw_rg (y2 + 1)
        exact hc205 y1 (jxw (y2 + 1)) r1712_ a1727_ (show ((((a1727_ 146 22) - (a1727_ 146 23)) + (2 * r1712_)) + 2).toNat ≤ n from by omega) hv1727_ hf1755_ (show 1 ≤ r1712_ from by omega) (show r1712_ ≤ 1 from by omega) (show a1727_ 146 22 ≤ 100 from by omega) (show a1727_ 146 23 ≤ a1727_ 146 22 from by omega) (show 0 ≤ jxw (y2 + 1) from by omega) (show jxw (y2 + 1) ≤ a1727_ 146 23 from by omega) (show 0 ≤ r1712_ from by omega) (show r1712_ ≤ 1 from by omega) (show a1727_ 146 23 < a1727_ 146 22 from by omega) (show ¬ a1727_ 164 ((a1727_ 146 23).toNat) = 32 from by omega) (show a0 146 22 ≤ 100 from by omega)
  have hc165 : ∀ (y1 y2 y5 : Int) (a : Nat → Nat → Int), (((a 146 22) - (a 146 23)) + 4).toNat ≤ n → iv a → jfr jW_X12_rules a0 a → 0 ≤ y5 → y5 ≤ 3 → a 146 22 ≤ 100 → a 146 23 ≤ a 146 22 → 0 ≤ y2 → y2 + 2 ≤ a 146 23 → 0 ≤ y5 → y5 ≤ 4 → a0 146 22 ≤ 100 → jt (jxX E d 232 165 [some (.inr (.inr (.inl 146))), some (.inl y1), some (.inl y2), none, none, some (.inl y5)] [.inr (.inr (.inl 146))] (jxSH, a, b0)) (jQ_X12_rules a0 b0) := by
    intro y1 y2 y5 a hm hv hf hi0 hi1 hi2 hi3 hi4 hi5 hi6 hi7 hi8
    refine jt_eq (bq_X12_rules_165 E d y1 y2 y5 a b0) ?_
    have h1760_ := iv_get hv (k := 146) (j := 22) (l := 0) (u := 200) rfl
    have h1761_ := iv_get hv (k := 146) (j := 23) (l := 0) (u := 200) rfl
    have h1762_ := iv_get hv0 (k := 146) (j := 22) (l := 0) (u := 200) rfl
    exact hc170 y1 y2 y5 1 a (show (((a 146 22) - (a 146 23)) + 4).toNat ≤ n from by omega) hv hf (show 0 - 11 ≤ y5 from by omega) (show y5 ≤ 5 from by omega) (show 0 ≤ 1 from by omega) (show 1 ≤ 1 from by omega) (show a 146 22 ≤ 100 from by omega) (show a 146 23 ≤ a 146 22 from by omega) (show 0 ≤ y2 from by omega) (show y2 + 2 ≤ a 146 23 from by omega) (show 0 ≤ y5 from by omega) (show y5 ≤ 4 from by omega) (show a0 146 22 ≤ 100 from by omega)
  have hc153 : ∀ (y1 y2 y5 : Int) (a : Nat → Nat → Int), (((a 146 22) - (a 146 23)) + 4).toNat ≤ n → iv a → jfr jW_X12_rules a0 a → 0 - 11 ≤ y5 → y5 ≤ 5 → a 146 22 ≤ 100 → a 146 23 ≤ a 146 22 → 0 ≤ y2 → y2 + 2 ≤ a 146 23 → 0 ≤ y5 → y5 ≤ 4 → a0 146 22 ≤ 100 → jt (jxX E d 232 153 [some (.inr (.inr (.inl 146))), some (.inl y1), some (.inl y2), none, none, some (.inl y5)] [] (jxSH, a, b0)) (jQ_X12_rules a0 b0) := by
    intro y1 y2 y5 a hm hv hf hi0 hi1 hi2 hi3 hi4 hi5 hi6 hi7 hi8
    refine jt_eq (bq_X12_rules_153 E d y1 y2 y5 a b0) ?_
    have h1763_ := iv_get hv (k := 146) (j := 22) (l := 0) (u := 200) rfl
    have h1764_ := iv_get hv (k := 146) (j := 23) (l := 0) (u := 200) rfl
    have h1765_ := iv_get hv0 (k := 146) (j := 22) (l := 0) (u := 200) rfl
    refine jt_ite (fun c1766_ => ?_) (fun c1766_ => ?_)
    ·
      exact hc165 y1 y2 y5 a (show (((a 146 22) - (a 146 23)) + 4).toNat ≤ n from by omega) hv hf (show 0 ≤ y5 from by omega) (show y5 ≤ 3 from by omega) (show a 146 22 ≤ 100 from by omega) (show a 146 23 ≤ a 146 22 from by omega) (show 0 ≤ y2 from by omega) (show y2 + 2 ≤ a 146 23 from by omega) (show 0 ≤ y5 from by omega) (show y5 ≤ 4 from by omega) (show a0 146 22 ≤ 100 from by omega)
    ·
      refine jt_ite (fun c1767_ => ?_) (fun c1767_ => ?_)
      ·
        exact hc165 y1 y2 y5 a (show (((a 146 22) - (a 146 23)) + 4).toNat ≤ n from by omega) hv hf (show 0 ≤ y5 from by omega) (show y5 ≤ 3 from by omega) (show a 146 22 ≤ 100 from by omega) (show a 146 23 ≤ a 146 22 from by omega) (show 0 ≤ y2 from by omega) (show y2 + 2 ≤ a 146 23 from by omega) (show 0 ≤ y5 from by omega) (show y5 ≤ 4 from by omega) (show a0 146 22 ≤ 100 from by omega)
      ·
        exact hc170 y1 y2 y5 0 a (show (((a 146 22) - (a 146 23)) + 4).toNat ≤ n from by omega) hv hf (show 0 - 11 ≤ y5 from by omega) (show y5 ≤ 5 from by omega) (show 0 ≤ 0 from by omega) (show 0 ≤ 1 from by omega) (show a 146 22 ≤ 100 from by omega) (show a 146 23 ≤ a 146 22 from by omega) (show 0 ≤ y2 from by omega) (show y2 + 2 ≤ a 146 23 from by omega) (show 0 ≤ y5 from by omega) (show y5 ≤ 4 from by omega) (show a0 146 22 ≤ 100 from by omega)
  have hc126 : ∀ (y1 y2 y3 y5 : Int) (a : Nat → Nat → Int), (((a 146 22) - (a 146 23)) + 2).toNat ≤ n → iv a → jfr jW_X12_rules a0 a → 0 ≤ y3 → y3 ≤ 1 → 0 - 11 ≤ y5 → y5 ≤ 5 → a 146 22 ≤ 100 → a 146 23 ≤ a 146 22 → 0 ≤ y2 → y2 ≤ a 146 23 → (a 146 23) + (a 146 25) ≤ a 146 22 → 0 ≤ y3 → y3 ≤ 1 → (y3 = 1 → ((0 ≤ y5 ∧ y5 ≤ 4) ∧ 2 ≤ a 146 25)) → a0 146 22 ≤ 100 → jt (jxX E d 232 126 [some (.inr (.inr (.inl 146))), some (.inl y1), some (.inl y2), some (.inl y3), none, some (.inl y5)] [] (jxSH, a, b0)) (jQ_X12_rules a0 b0) := by
    intro y1 y2 y3 y5 a hm hv hf hi0 hi1 hi2 hi3 hi4 hi5 hi6 hi7 hi8 hi9 hi10 hi11 hi12
    refine jt_eq (bq_X12_rules_126 E d y1 y2 y3 y5 a b0) ?_
    have h1768_ := iv_get hv (k := 146) (j := 22) (l := 0) (u := 200) rfl
    have h1769_ := iv_get hv (k := 146) (j := 23) (l := 0) (u := 200) rfl
    have h1770_ := iv_get hv (k := 146) (j := 25) (l := 0) (u := 200) rfl
    have h1771_ := iv_get hv0 (k := 146) (j := 22) (l := 0) (u := 200) rfl
    refine jt_ite (fun c1772_ => ?_) (fun c1772_ => ?_)
    ·
      exact cp_X12_rules_281 E d hd a0 b0 hv0 y2 y3 a hv hf (show 0 ≤ y3 from by omega) (show y3 ≤ 1 from by omega) (show a 146 22 ≤ 100 from by omega) (show 0 ≤ y3 from by omega) (show y3 ≤ 1 from by omega) (show a0 146 22 ≤ 100 from by omega)
    ·
      have h1774_ : jxw ((a 146 23) + (a 146 25)) = (a 146 23) + (a 146 25) := jxw_id (by omega) (by omega)
      have hv1773_ : iv (jxu a 146 23 (jxw ((a 146 23) + (a 146 25)))) := iv_put hv (l := 0) (u := 200) rfl (by omega) (by omega)
      have hf1775_ : jfr jW_X12_rules a0 (jxu a 146 23 (jxw ((a 146 23) + (a 146 25)))) := jfr_put hf rfl
      exact hc153 (jxor y1 (jxshl 1 y5)) y2 y5 (jxu a 146 23 (jxw ((a 146 23) + (a 146 25)))) (show (((a 146 22) - (jxw ((a 146 23) + (a 146 25)))) + 4).toNat ≤ n from by omega) hv1773_ hf1775_ (show 0 - 11 ≤ y5 from by omega) (show y5 ≤ 5 from by omega) (show a 146 22 ≤ 100 from by omega) (show jxw ((a 146 23) + (a 146 25)) ≤ a 146 22 from by omega) (show 0 ≤ y2 from by omega) (show y2 + 2 ≤ jxw ((a 146 23) + (a 146 25)) from by omega) (show 0 ≤ y5 from by omega) (show y5 ≤ 4 from by omega) (show a0 146 22 ≤ 100 from by omega)
  have hc93 : ∀ (y1 y2 y5 : Int) (a : Nat → Nat → Int), (((a 146 22) - (a 146 23)) + 2).toNat ≤ n → iv a → jfr jW_X12_rules a0 a → 0 - 11 ≤ y5 → y5 ≤ 5 → a 146 22 ≤ 100 → a 146 23 ≤ a 146 22 → 0 ≤ y2 → y2 ≤ a 146 23 → (a 146 23) + (a 146 25) ≤ a 146 22 → a0 146 22 ≤ 100 → jt (jxX E d 232 93 [some (.inr (.inr (.inl 146))), some (.inl y1), some (.inl y2), none, none, some (.inl y5)] [] (jxSH, a, b0)) (jQ_X12_rules a0 b0) := by
    intro y1 y2 y5 a hm hv hf hi0 hi1 hi2 hi3 hi4 hi5 hi6 hi7
    refine jt_eq (bq_X12_rules_93 E d y1 y2 y5 a b0) ?_
    have h1776_ := iv_get hv (k := 146) (j := 22) (l := 0) (u := 200) rfl
    have h1777_ := iv_get hv (k := 146) (j := 23) (l := 0) (u := 200) rfl
    have h1778_ := iv_get hv (k := 146) (j := 25) (l := 0) (u := 200) rfl
    have h1779_ := iv_get hv0 (k := 146) (j := 22) (l := 0) (u := 200) rfl
    refine jt_bI (sp_X12_fails E d (jd_le hd rfl) 0 (a 146 23) a b0 hv) (fun r1780_ a1780_ b1780_ h1780_ => ?_)
    obtain ⟨hv1780_, hf1780_, rfl, hq1780_0, hq1780_1, hq1780_2, hq1780_3⟩ := h1780_
    have hf1781_ : jfr jW_X12_rules a0 a1780_ := jfr_tr hf hf1780_ rfl
    have h1782_ := iv_get hv1780_ (k := 146) (j := 22) (l := 0) (u := 200) rfl
    have h1783_ : a1780_ 146 22 = a 146 22 := hf1780_ 146 22 rfl
    have h1784_ := iv_get hv1780_ (k := 146) (j := 23) (l := 0) (u := 200) rfl
    have h1785_ : a1780_ 146 23 = a 146 23 := hf1780_ 146 23 rfl
    have h1786_ := iv_get hv1780_ (k := 146) (j := 25) (l := 0) (u := 200) rfl
    have h1787_ : a1780_ 146 25 = a 146 25 := hf1780_ 146 25 rfl
    exact hc126 y1 y2 r1780_ y5 a1780_ (show (((a1780_ 146 22) - (a1780_ 146 23)) + 2).toNat ≤ n from by omega) hv1780_ hf1781_ (show 0 ≤ r1780_ from by omega) (show r1780_ ≤ 1 from by omega) (show 0 - 11 ≤ y5 from by omega) (show y5 ≤ 5 from by omega) (show a1780_ 146 22 ≤ 100 from by omega) (show a1780_ 146 23 ≤ a1780_ 146 22 from by omega) (show 0 ≤ y2 from by omega) (show y2 ≤ a1780_ 146 23 from by omega) (show (a1780_ 146 23) + (a1780_ 146 25) ≤ a1780_ 146 22 from by omega) (show 0 ≤ r1780_ from by omega) (show r1780_ ≤ 1 from by omega) (show (r1780_ = 1 → ((0 ≤ y5 ∧ y5 ≤ 4) ∧ 2 ≤ a1780_ 146 25)) from by omega) (show a0 146 22 ≤ 100 from by omega)
  have hc106 : ∀ (y1 y2 y3 y5 : Int) (a : Nat → Nat → Int), (((a 146 22) - (a 146 23)) + 2).toNat ≤ n → iv a → jfr jW_X12_rules a0 a → 1 ≤ y3 → y3 ≤ 1 → 0 ≤ y5 → y5 ≤ 4 → a 146 22 ≤ 100 → a 146 23 ≤ a 146 22 → 0 ≤ y2 → y2 ≤ a 146 23 → (a 146 23) + (a 146 25) ≤ a 146 22 → 0 ≤ y3 → y3 ≤ 1 → 0 ≤ y5 → y5 ≤ 4 → 2 ≤ a 146 25 → a0 146 22 ≤ 100 → jt (jxX E d 232 106 [some (.inr (.inr (.inl 146))), some (.inl y1), some (.inl y2), some (.inl y3), none, some (.inl y5)] [] (jxSH, a, b0)) (jQ_X12_rules a0 b0) := by
    intro y1 y2 y3 y5 a hm hv hf hi0 hi1 hi2 hi3 hi4 hi5 hi6 hi7 hi8 hi9 hi10 hi11 hi12 hi13 hi14
    refine jt_eq (bq_X12_rules_106 E d y1 y2 y3 y5 a b0) ?_
    have h1788_ := iv_get hv (k := 146) (j := 22) (l := 0) (u := 200) rfl
    have h1789_ := iv_get hv (k := 146) (j := 23) (l := 0) (u := 200) rfl
    have h1790_ := iv_get hv (k := 146) (j := 25) (l := 0) (u := 200) rfl
    have h1791_ := iv_get hv0 (k := 146) (j := 22) (l := 0) (u := 200) rfl
    have h1792_ := jxshr_b y1 y5
    have h1793_ := jxand_r (jxshr y1 y5) 1 (by decide) (by decide)
    refine jt_ite (fun c1794_ => ?_) (fun c1794_ => ?_)
    ·
      refine jt_bI (sp_X12_fails E d (jd_le hd rfl) 2 (a 146 23) a b0 hv) (fun r1795_ a1795_ b1795_ h1795_ => ?_)
      obtain ⟨hv1795_, hf1795_, rfl, hq1795_0, hq1795_1, hq1795_2, hq1795_3⟩ := h1795_
      have hf1796_ : jfr jW_X12_rules a0 a1795_ := jfr_tr hf hf1795_ rfl
      have h1797_ := iv_get hv1795_ (k := 146) (j := 22) (l := 0) (u := 200) rfl
      have h1798_ : a1795_ 146 22 = a 146 22 := hf1795_ 146 22 rfl
      have h1799_ := iv_get hv1795_ (k := 146) (j := 23) (l := 0) (u := 200) rfl
      have h1800_ : a1795_ 146 23 = a 146 23 := hf1795_ 146 23 rfl
      have h1801_ := iv_get hv1795_ (k := 146) (j := 25) (l := 0) (u := 200) rfl
      have h1802_ : a1795_ 146 25 = a 146 25 := hf1795_ 146 25 rfl
      exact hc126 y1 y2 r1795_ y5 a1795_ (show (((a1795_ 146 22) - (a1795_ 146 23)) + 2).toNat ≤ n from by omega) hv1795_ hf1796_ (show 0 ≤ r1795_ from by omega) (show r1795_ ≤ 1 from by omega) (show 0 - 11 ≤ y5 from by omega) (show y5 ≤ 5 from by omega) (show a1795_ 146 22 ≤ 100 from by omega) (show a1795_ 146 23 ≤ a1795_ 146 22 from by omega) (show 0 ≤ y2 from by omega) (show y2 ≤ a1795_ 146 23 from by omega) (show (a1795_ 146 23) + (a1795_ 146 25) ≤ a1795_ 146 22 from by omega) (show 0 ≤ r1795_ from by omega) (show r1795_ ≤ 1 from by omega) (show (r1795_ = 1 → ((0 ≤ y5 ∧ y5 ≤ 4) ∧ 2 ≤ a1795_ 146 25)) from by omega) (show a0 146 22 ≤ 100 from by omega)
    ·
      exact hc126 y1 y2 y3 y5 a (show (((a 146 22) - (a 146 23)) + 2).toNat ≤ n from by omega) hv hf (show 0 ≤ y3 from by omega) (show y3 ≤ 1 from by omega) (show 0 - 11 ≤ y5 from by omega) (show y5 ≤ 5 from by omega) (show a 146 22 ≤ 100 from by omega) (show a 146 23 ≤ a 146 22 from by omega) (show 0 ≤ y2 from by omega) (show y2 ≤ a 146 23 from by omega) (show (a 146 23) + (a 146 25) ≤ a 146 22 from by omega) (show 0 ≤ y3 from by omega) (show y3 ≤ 1 from by omega) (show (y3 = 1 → ((0 ≤ y5 ∧ y5 ≤ 4) ∧ 2 ≤ a 146 25)) from by omega) (show a0 146 22 ≤ 100 from by omega)
  have hc65 : ∀ (y1 y2 y3 y4 : Int) (a : Nat → Nat → Int), ((((a 146 22) - (a 146 23)) + y3) + y4).toNat ≤ n → iv a → jfr jW_X12_rules a0 a → 0 ≤ y3 → y3 ≤ 1 → 0 ≤ y4 → y4 ≤ 1 → a 146 22 ≤ 100 → a 146 23 ≤ a 146 22 → 0 ≤ y2 → y2 ≤ a 146 23 → 0 ≤ y3 → 0 ≤ y4 → y3 ≤ 1 → y4 ≤ 1 → a0 146 22 ≤ 100 → jt (jxX E d 232 65 [some (.inr (.inr (.inl 146))), some (.inl y1), some (.inl y2), some (.inl y3), some (.inl y4), none] [] (jxSH, a, b0)) (jQ_X12_rules a0 b0) := by
    intro y1 y2 y3 y4 a hm hv hf hi0 hi1 hi2 hi3 hi4 hi5 hi6 hi7 hi8 hi9 hi10 hi11 hi12
    refine jt_eq (bq_X12_rules_65 E d y1 y2 y3 y4 a b0) ?_
    have h1803_ := iv_get hv (k := 146) (j := 22) (l := 0) (u := 200) rfl
    have h1804_ := iv_get hv (k := 146) (j := 23) (l := 0) (u := 200) rfl
    have h1805_ := iv_get hv0 (k := 146) (j := 22) (l := 0) (u := 200) rfl
    refine jt_ite (fun c1806_ => ?_) (fun c1806_ => ?_)
    ·
      exact cp_X12_rules_281 E d hd a0 b0 hv0 y2 y3 a hv hf (show 0 ≤ y3 from by omega) (show y3 ≤ 1 from by omega) (show a 146 22 ≤ 100 from by omega) (show 0 ≤ y3 from by omega) (show y3 ≤ 1 from by omega) (show a0 146 22 ≤ 100 from by omega)
    ·
      refine jt_ite (fun c1807_ => ?_) (fun c1807_ => ?_)
      ·
        exact cp_X12_rules_281 E d hd a0 b0 hv0 y2 y3 a hv hf (show 0 ≤ y3 from by omega) (show y3 ≤ 1 from by omega) (show a 146 22 ≤ 100 from by omega) (show 0 ≤ y3 from by omega) (show y3 ≤ 1 from by omega) (show a0 146 22 ≤ 100 from by omega)
      ·
        refine jt_bI (sp_X12_wordHere E d (jd_le hd rfl) a b0 hv (show a 146 23 ≤ a 146 22 from by omega)) (fun r1808_ a1808_ b1808_ h1808_ => ?_)
        obtain ⟨hv1808_, hf1808_, rfl, hq1808_0, hq1808_1, hq1808_2, hq1808_3, hq1808_4, hq1808_5, hq1808_6, hq1808_7, hq1808_8, hq1808_9⟩ := h1808_
        have h1809_ := iv_get hv1808_ (k := 146) (j := 23) (l := 0) (u := 200) rfl
        have h1810_ := iv_get hv1808_ (k := 146) (j := 25) (l := 0) (u := 200) rfl
        have h1811_ := iv_get hv1808_ (k := 146) (j := 22) (l := 0) (u := 200) rfl
        have h1812_ : a1808_ 146 22 = a 146 22 := hf1808_ 146 22 rfl
        have h1813_ := iv_get hv (k := 164) (j := (a 146 23).toNat) (l := (-128)) (u := 127) rfl
        have h1814_ : a 164 ((a 146 23).toNat) = a0 164 ((a 146 23).toNat) := hf 164 ((a 146 23).toNat) rfl
        have h1815_ := iv_get hv0 (k := 164) (j := (a 146 23).toNat) (l := (-128)) (u := 127) rfl
        refine jt_eI (eq_X12_in E d (jd_le hd rfl) (jxw (r1808_ - 10)) 0 4 a1808_ b0) ?_
        have h1816_ : jxw (r1808_ - 10) = r1808_ - 10 := jxw_id (by omega) (by omega)
        have h1817_ := f_X12_in_eq a1808_ b0 (jxw (r1808_ - 10)) 0 4
        refine jt_ite (fun c1818_ => ?_) (fun c1818_ => ?_)
        ·
          have hf1819_ : jfr jW_X12_rules a0 a1808_ := jfr_tr hf hf1808_ rfl
          exact hc93 y1 y2 (jxw (r1808_ - 10)) a1808_ (show (((a1808_ 146 22) - (a1808_ 146 23)) + 2).toNat ≤ n from by omega) hv1808_ hf1819_ (show 0 - 11 ≤ jxw (r1808_ - 10) from by omega) (show jxw (r1808_ - 10) ≤ 5 from by omega) (show a1808_ 146 22 ≤ 100 from by omega) (show a1808_ 146 23 ≤ a1808_ 146 22 from by omega) (show 0 ≤ y2 from by omega) (show y2 ≤ a1808_ 146 23 from by omega) (show (a1808_ 146 23) + (a1808_ 146 25) ≤ a1808_ 146 22 from by omega) (show a0 146 22 ≤ 100 from by omega)
        ·
          have hf1820_ : jfr jW_X12_rules a0 a1808_ := jfr_tr hf hf1808_ rfl
          exact hc106 y1 y2 y3 (jxw (r1808_ - 10)) a1808_ (show (((a1808_ 146 22) - (a1808_ 146 23)) + 2).toNat ≤ n from by omega) hv1808_ hf1820_ (show 1 ≤ y3 from by omega) (show y3 ≤ 1 from by omega) (show 0 ≤ jxw (r1808_ - 10) from by omega) (show jxw (r1808_ - 10) ≤ 4 from by omega) (show a1808_ 146 22 ≤ 100 from by omega) (show a1808_ 146 23 ≤ a1808_ 146 22 from by omega) (show 0 ≤ y2 from by omega) (show y2 ≤ a1808_ 146 23 from by omega) (show (a1808_ 146 23) + (a1808_ 146 25) ≤ a1808_ 146 22 from by omega) (show 0 ≤ y3 from by omega) (show y3 ≤ 1 from by omega) (show 0 ≤ jxw (r1808_ - 10) from by omega) (show jxw (r1808_ - 10) ≤ 4 from by omega) (show 2 ≤ a1808_ 146 25 from by omega) (show a0 146 22 ≤ 100 from by omega)
  exact ⟨hc278, hc251, hc236, hc210, hc205, hc209, hc170, hc165, hc153, hc126, hc93, hc106, hc65⟩
theorem cp_X12_rules_27 (E : jxE) (d : Nat) (hd : Nat.ble 3 (d + 1) = true) (a0 b0 : Nat → Nat → Int) (hv0 : iv a0) : ∀ n : Nat, (∀ (y1 y2 y3 : Int) (a : Nat → Nat → Int), (((5 - y3) * 1) + 0).toNat ≤ n → iv a → jfr jW_X12_rules a0 a → 0 ≤ y1 → y1 ≤ 0 → 0 ≤ y2 → y2 ≤ 0 → 0 ≤ y3 → y3 ≤ 5 → a 146 22 ≤ 100 → a 146 23 ≤ a 146 22 → y2 = 0 → a0 146 22 ≤ 100 → jt (jxX E d 232 27 [some (.inr (.inr (.inl 146))), some (.inl y1), some (.inl y2), some (.inl y3), none, none] [] (jxSH, a, b0)) (jQ_X12_rules a0 b0)) := by
  refine jx_ind fun n ih => ?_
  have ih27 : ∀ (y1 y2 y3 : Int) (a : Nat → Nat → Int), (((5 - y3) * 1) + 0).toNat < n → iv a → jfr jW_X12_rules a0 a → 0 ≤ y1 → y1 ≤ 0 → 0 ≤ y2 → y2 ≤ 0 → 0 ≤ y3 → y3 ≤ 5 → a 146 22 ≤ 100 → a 146 23 ≤ a 146 22 → y2 = 0 → a0 146 22 ≤ 100 → jt (jxX E d 232 27 [some (.inr (.inr (.inl 146))), some (.inl y1), some (.inl y2), some (.inl y3), none, none] [] (jxSH, a, b0)) (jQ_X12_rules a0 b0) := fun y1 y2 y3 a hlt i0 i1 i2 i3 i4 i5 i6 i7 i8 i9 i10 i11 => (ih _ hlt) y1 y2 y3 a (Nat.le_refl _) i0 i1 i2 i3 i4 i5 i6 i7 i8 i9 i10 i11
  have hc27 : ∀ (y1 y2 y3 : Int) (a : Nat → Nat → Int), (((5 - y3) * 1) + 0).toNat ≤ n → iv a → jfr jW_X12_rules a0 a → 0 ≤ y1 → y1 ≤ 0 → 0 ≤ y2 → y2 ≤ 0 → 0 ≤ y3 → y3 ≤ 5 → a 146 22 ≤ 100 → a 146 23 ≤ a 146 22 → y2 = 0 → a0 146 22 ≤ 100 → jt (jxX E d 232 27 [some (.inr (.inr (.inl 146))), some (.inl y1), some (.inl y2), some (.inl y3), none, none] [] (jxSH, a, b0)) (jQ_X12_rules a0 b0) := by
    intro y1 y2 y3 a hm hv hf hi0 hi1 hi2 hi3 hi4 hi5 hi6 hi7 hi8 hi9
    refine jt_eq (bq_X12_rules_27 E d y1 y2 y3 a b0) ?_
    have h1821_ := iv_get hv (k := 146) (j := 22) (l := 0) (u := 200) rfl
    have h1822_ := iv_get hv (k := 146) (j := 23) (l := 0) (u := 200) rfl
    have h1823_ := iv_get hv0 (k := 146) (j := 22) (l := 0) (u := 200) rfl
    refine jt_ite (fun c1824_ => ?_) (fun c1824_ => ?_)
    ·
      refine jt_eI (eq_X12_without E d (jd_le hd rfl) y3 a b0) ?_
      refine jt_grd (by omega) ?_
      have hv1825_ : iv (jxu a 172 (y3.toNat) (f_X12_without a b0 y3)) := iv_putf hv rfl
      have hf1826_ : jfr jW_X12_rules a0 (jxu a 172 (y3.toNat) (f_X12_without a b0 y3)) := jfr_put hf rfl
      have h1827_ : jxw (y3 + 1) = y3 + 1 := jxw_id (by omega) (by omega)
      exact ih27 y1 y2 (jxw (y3 + 1)) (jxu a 172 (y3.toNat) (f_X12_without a b0 y3)) (show (((5 - (jxw (y3 + 1))) * 1) + 0).toNat < n from by omega) hv1825_ hf1826_ (show 0 ≤ y1 from by omega) (show y1 ≤ 0 from by omega) (show 0 ≤ y2 from by omega) (show y2 ≤ 0 from by omega) (show 0 ≤ jxw (y3 + 1) from by omega) (show jxw (y3 + 1) ≤ 5 from by omega) (show a 146 22 ≤ 100 from by omega) (show a 146 23 ≤ a 146 22 from by omega) (show y2 = 0 from by omega) (show a0 146 22 ≤ 100 from by omega)
    ·
      refine jt_bI (sp_X12_see E d (jd_le hd rfl) a b0 hv (show a 146 23 ≤ a 146 22 from by omega)) (fun r1828_ a1828_ b1828_ h1828_ => ?_)
      obtain ⟨hv1828_, hf1828_, rfl, hq1828_0, hq1828_1, hq1828_2, hq1828_3, hq1828_4, hq1828_5⟩ := h1828_
      have h1829_ := iv_get hv1828_ (k := 146) (j := 23) (l := 0) (u := 200) rfl
      have h1830_ := iv_get hv1828_ (k := 164) (j := (a1828_ 146 23).toNat) (l := (-128)) (u := 127) rfl
      have h1831_ : a1828_ 164 ((a1828_ 146 23).toNat) = a 164 ((a1828_ 146 23).toNat) := hf1828_ 164 ((a1828_ 146 23).toNat) rfl
      have h1832_ := iv_get hv (k := 164) (j := (a1828_ 146 23).toNat) (l := (-128)) (u := 127) rfl
      have h1833_ : a 164 ((a1828_ 146 23).toNat) = a0 164 ((a1828_ 146 23).toNat) := hf 164 ((a1828_ 146 23).toNat) rfl
      have h1834_ := iv_get hv0 (k := 164) (j := (a1828_ 146 23).toNat) (l := (-128)) (u := 127) rfl
      have h1835_ := iv_get hv (k := 164) (j := (a 146 23).toNat) (l := (-128)) (u := 127) rfl
      have h1836_ : a 164 ((a 146 23).toNat) = a0 164 ((a 146 23).toNat) := hf 164 ((a 146 23).toNat) rfl
      have h1837_ := iv_get hv0 (k := 164) (j := (a 146 23).toNat) (l := (-128)) (u := 127) rfl
      refine jt_ite (fun c1838_ => ?_) (fun c1838_ => ?_)
      ·
        have hf1839_ : jfr jW_X12_rules a0 a1828_ := jfr_tr hf hf1828_ rfl
        have h1840_ := iv_get hv1828_ (k := 146) (j := 22) (l := 0) (u := 200) rfl
        have h1841_ : a1828_ 146 22 = a 146 22 := hf1828_ 146 22 rfl
        exact (cp_X12_rules_65 E d hd a0 b0 hv0 _).2.2.2.2.2.2.2.2.2.2.2.2 y1 y2 1 0 a1828_ (Nat.le_refl _) hv1828_ hf1839_ (show 0 ≤ 1 from by omega) (show 1 ≤ 1 from by omega) (show 0 ≤ 0 from by omega) (show 0 ≤ 1 from by omega) (show a1828_ 146 22 ≤ 100 from by omega) (show a1828_ 146 23 ≤ a1828_ 146 22 from by omega) (show 0 ≤ y2 from by omega) (show y2 ≤ a1828_ 146 23 from by omega) (show 0 ≤ 1 from by omega) (show 0 ≤ 0 from by omega) (show 1 ≤ 1 from by omega) (show 0 ≤ 1 from by omega) (show a0 146 22 ≤ 100 from by omega)
      ·
        have hf1842_ : jfr jW_X12_rules a0 a1828_ := jfr_tr hf hf1828_ rfl
        have h1843_ := iv_get hv1828_ (k := 146) (j := 22) (l := 0) (u := 200) rfl
        have h1844_ : a1828_ 146 22 = a 146 22 := hf1828_ 146 22 rfl
        exact (cp_X12_rules_65 E d hd a0 b0 hv0 _).2.2.2.2.2.2.2.2.2.2.2.2 y1 y2 1 1 a1828_ (Nat.le_refl _) hv1828_ hf1842_ (show 0 ≤ 1 from by omega) (show 1 ≤ 1 from by omega) (show 0 ≤ 1 from by omega) (show 1 ≤ 1 from by omega) (show a1828_ 146 22 ≤ 100 from by omega) (show a1828_ 146 23 ≤ a1828_ 146 22 from by omega) (show 0 ≤ y2 from by omega) (show y2 ≤ a1828_ 146 23 from by omega) (show 0 ≤ 1 from by omega) (show 0 ≤ 1 from by omega) (show 1 ≤ 1 from by omega) (show 1 ≤ 1 from by omega) (show a0 146 22 ≤ 100 from by omega)
  exact hc27
theorem cp_X12_rules_25 (E : jxE) (d : Nat) (hd : Nat.ble 3 (d + 1) = true) (a0 b0 : Nat → Nat → Int) (hv0 : iv a0) : ∀ (y1 y2 : Int) (a : Nat → Nat → Int), iv a → jfr jW_X12_rules a0 a → 0 ≤ y1 → y1 ≤ 0 → 0 ≤ y2 → y2 ≤ 0 → a 146 22 ≤ 100 → a 146 23 ≤ a 146 22 → y2 = 0 → a0 146 22 ≤ 100 → jt (jxX E d 232 25 [some (.inr (.inr (.inl 146))), some (.inl y1), some (.inl y2), none, none, none] [] (jxSH, a, b0)) (jQ_X12_rules a0 b0) := by
  intro y1 y2 a hv hf hi0 hi1 hi2 hi3 hi4 hi5 hi6 hi7
  refine jt_eq (bq_X12_rules_25 E d y1 y2 a b0) ?_
  have h1845_ := iv_get hv (k := 146) (j := 22) (l := 0) (u := 200) rfl
  have h1846_ := iv_get hv (k := 146) (j := 23) (l := 0) (u := 200) rfl
  have h1847_ := iv_get hv0 (k := 146) (j := 22) (l := 0) (u := 200) rfl
  exact (cp_X12_rules_27 E d hd a0 b0 hv0 _) y1 y2 0 a (Nat.le_refl _) hv hf (show 0 ≤ y1 from by omega) (show y1 ≤ 0 from by omega) (show 0 ≤ y2 from by omega) (show y2 ≤ 0 from by omega) (show 0 ≤ 0 from by omega) (show 0 ≤ 5 from by omega) (show a 146 22 ≤ 100 from by omega) (show a 146 23 ≤ a 146 22 from by omega) (show y2 = 0 from by omega) (show a0 146 22 ≤ 100 from by omega)
theorem sp_X12_rules (E : jxE) (d : Nat) (hd : Nat.ble 3 d = true) (a0 b0 : Nat → Nat → Int) (hv0 : iv a0) : jt (jxC E d 232 [.inr (.inr (.inl 146))] (jxSH, a0, b0)) (jQ_X12_rules a0 b0) := by
  obtain ⟨d, rfl⟩ := jd_succ hd
  refine jt_eq (bq_X12_rules E d a0 b0) ?_
  have h1848_ := iv_get hv0 (k := 146) (j := 22) (l := 0) (u := 200) rfl
  refine jt_ite (fun c1849_ => ?_) (fun c1849_ => ?_)
  ·
    exact jt_rI ⟨hv0, (jfr_rf _ _), rfl, (show (a0 146 22 ≤ 100 → a0 146 22 = 0) from by omega), (show (100 < a0 146 22 → a0 146 22 = a0 146 22) from by omega)⟩
  ·
    have hv1850_ : iv (jxu a0 146 23 0) := iv_put hv0 (l := 0) (u := 200) rfl (by omega) (by omega)
    have hv1851_ : iv (jxu (jxu a0 146 23 0) 146 24 0) := iv_putf hv1850_ rfl
    have hf1852_ : jfr jW_X12_rules a0 (jxu a0 146 23 0) := jfr_put (jfr_rf _ _) rfl
    have hf1853_ : jfr jW_X12_rules a0 (jxu (jxu a0 146 23 0) 146 24 0) := jfr_put hf1852_ rfl
    exact cp_X12_rules_25 E d hd a0 b0 hv0 0 0 (jxu (jxu a0 146 23 0) 146 24 0) hv1851_ hf1853_ (show 0 ≤ 0 from by omega) (show 0 ≤ 0 from by omega) (show 0 ≤ 0 from by omega) (show 0 ≤ 0 from by omega) (show a0 146 22 ≤ 100 from by omega) (show 0 ≤ a0 146 22 from by omega) (show 0 = 0 from by omega) (show a0 146 22 ≤ 100 from by omega)
def jW_X12_rates : List (Nat × Nat) := [(146, 22), (146, 23), (146, 24), (146, 25), (146, 26), (146, 27), (146, 68), (192, 9999), (193, 9999), (194, 9999), (195, 9999)]
abbrev jQ_X12_rates (x1 : Int) (a0 b0 : Nat → Nat → Int) : List jxV → (Nat → Nat → Int) → (Nat → Nat → Int) → Prop := rI (fun r a b => (iv a) ∧ (jfr jW_X12_rates a0 a) ∧ (b0 = b) ∧ (((a0 146 22 = 0 ∧ a0 146 68 = 0) → (((0 ≤ x1 ∧ x1 ≤ 1999) ∧ r = 0 - 3) ∨ ((x1 < 0 ∨ 1999 < x1) ∧ r = 0 - 1)))) ∧ (0 ≤ x1 ∧ x1 ≤ 1999 ∧ a0 146 68 ≤ 9 → RTR (UB (a0 164)) (a0 146 22).toNat r ∧ ((1 ≤ r ∧ a 146 68 = a0 146 68 + 1) ∨ (r < 0 ∧ a 146 68 = a0 146 68))) ∧ (1 ≤ r → R194 a (UB (a0 164)) (a0 146 22).toNat (a0 146 68).toNat r.toNat ∧ UP (a0 192) (a 192) (a0 146 68).toNat x1 ∧ UP (a0 193) (a 193) (a0 146 68).toNat r ∧ ∀ j, j < 36 * (a0 146 68).toNat → a 194 j = a0 194 j) ∧ (r < 0 → ∀ j, a 192 j = a0 192 j ∧ a 193 j = a0 193 j ∧ a 194 j = a0 194 j) ∧ ((((x1 < 0 ∨ 1999 < x1) ∨ 9 < a0 146 68) → ((r = 0 - 1 ∧ a 146 68 = a0 146 68) ∧ a 146 22 = a0 146 22))) ∧ ((((0 ≤ x1 ∧ x1 ≤ 1999) ∧ a0 146 68 ≤ 9) → a 146 22 = 0)))
theorem cp_X12_rates_154 (E : jxE) (d : Nat) (hd : Nat.ble 4 (d + 1) = true) (x1 : Int) (a0 b0 : Nat → Nat → Int) (hv0 : iv a0) : ∀ n : Nat, (∀ (y2 y5 : Int) (a : Nat → Nat → Int), (((36 - y5) * 1) + 0).toNat ≤ n → iv a → jfr jW_X12_rates a0 a → 0 ≤ y5 → y5 ≤ 35 → a 146 68 ≤ 9 → 0 ≤ y2 → y2 ≤ 12 → 0 ≤ y5 → y5 < 3 * y2 → a 146 68 ≤ 9 → 1 ≤ a0 146 22 → a 146 68 = a0 146 68 → a 146 68 ≤ 9 → a 146 68 = a0 146 68 → (1 ≤ y2 ∧ RTR (UB (a0 164)) (a0 146 22).toNat y2) → (R195 a (UB (a0 164)) (a0 146 22).toNat y2.toNat) → (UP (a0 192) (a 192) (a0 146 68).toNat x1) → (UP (a0 193) (a 193) (a0 146 68).toNat y2) → (∀ j, j < 36 * (a0 146 68).toNat → a 194 j = a0 194 j) → (∀ j : Nat, (j : Int) < y5 + 1 → a 194 (36 * (a0 146 68).toNat + j) = a 195 j) → jt (jxX E d 282 184 [some (.inr (.inr (.inl 146))), none, some (.inl y2), none, none, some (.inl y5)] [] (jxSH, a, b0)) (jQ_X12_rates x1 a0 b0)) ∧ (∀ (y2 y5 : Int) (a : Nat → Nat → Int), (((36 - y5) * 1) + 0).toNat ≤ n → iv a → jfr jW_X12_rates a0 a → 0 ≤ y5 → y5 ≤ 36 → a 146 68 ≤ 9 → 0 ≤ y2 → y2 ≤ 12 → 0 ≤ y5 → a 146 68 ≤ 9 → 1 ≤ a0 146 22 → a 146 68 = a0 146 68 → a 146 68 ≤ 9 → a 146 68 = a0 146 68 → (1 ≤ y2 ∧ RTR (UB (a0 164)) (a0 146 22).toNat y2) → (R195 a (UB (a0 164)) (a0 146 22).toNat y2.toNat) → (UP (a0 192) (a 192) (a0 146 68).toNat x1) → (UP (a0 193) (a 193) (a0 146 68).toNat y2) → (∀ j, j < 36 * (a0 146 68).toNat → a 194 j = a0 194 j) → (∀ j : Nat, (j : Int) < y5 → a 194 (36 * (a0 146 68).toNat + j) = a 195 j) → 0 ≤ y5 → y5 ≤ 3 * y2 → jt (jxX E d 282 154 [some (.inr (.inr (.inl 146))), none, some (.inl y2), none, none, some (.inl y5)] [] (jxSH, a, b0)) (jQ_X12_rates x1 a0 b0)) := by
  refine jx_ind fun n ih => ?_
  have ih184 : ∀ (y2 y5 : Int) (a : Nat → Nat → Int), (((36 - y5) * 1) + 0).toNat < n → iv a → jfr jW_X12_rates a0 a → 0 ≤ y5 → y5 ≤ 35 → a 146 68 ≤ 9 → 0 ≤ y2 → y2 ≤ 12 → 0 ≤ y5 → y5 < 3 * y2 → a 146 68 ≤ 9 → 1 ≤ a0 146 22 → a 146 68 = a0 146 68 → a 146 68 ≤ 9 → a 146 68 = a0 146 68 → (1 ≤ y2 ∧ RTR (UB (a0 164)) (a0 146 22).toNat y2) → (R195 a (UB (a0 164)) (a0 146 22).toNat y2.toNat) → (UP (a0 192) (a 192) (a0 146 68).toNat x1) → (UP (a0 193) (a 193) (a0 146 68).toNat y2) → (∀ j, j < 36 * (a0 146 68).toNat → a 194 j = a0 194 j) → (∀ j : Nat, (j : Int) < y5 + 1 → a 194 (36 * (a0 146 68).toNat + j) = a 195 j) → jt (jxX E d 282 184 [some (.inr (.inr (.inl 146))), none, some (.inl y2), none, none, some (.inl y5)] [] (jxSH, a, b0)) (jQ_X12_rates x1 a0 b0) := fun y2 y5 a hlt i0 i1 i2 i3 i4 i5 i6 i7 i8 i9 i10 i11 i12 i13 i14 i15 i16 i17 i18 i19 => (ih _ hlt).1 y2 y5 a (Nat.le_refl _) i0 i1 i2 i3 i4 i5 i6 i7 i8 i9 i10 i11 i12 i13 i14 i15 i16 i17 i18 i19
  have ih154 : ∀ (y2 y5 : Int) (a : Nat → Nat → Int), (((36 - y5) * 1) + 0).toNat < n → iv a → jfr jW_X12_rates a0 a → 0 ≤ y5 → y5 ≤ 36 → a 146 68 ≤ 9 → 0 ≤ y2 → y2 ≤ 12 → 0 ≤ y5 → a 146 68 ≤ 9 → 1 ≤ a0 146 22 → a 146 68 = a0 146 68 → a 146 68 ≤ 9 → a 146 68 = a0 146 68 → (1 ≤ y2 ∧ RTR (UB (a0 164)) (a0 146 22).toNat y2) → (R195 a (UB (a0 164)) (a0 146 22).toNat y2.toNat) → (UP (a0 192) (a 192) (a0 146 68).toNat x1) → (UP (a0 193) (a 193) (a0 146 68).toNat y2) → (∀ j, j < 36 * (a0 146 68).toNat → a 194 j = a0 194 j) → (∀ j : Nat, (j : Int) < y5 → a 194 (36 * (a0 146 68).toNat + j) = a 195 j) → 0 ≤ y5 → y5 ≤ 3 * y2 → jt (jxX E d 282 154 [some (.inr (.inr (.inl 146))), none, some (.inl y2), none, none, some (.inl y5)] [] (jxSH, a, b0)) (jQ_X12_rates x1 a0 b0) := fun y2 y5 a hlt i0 i1 i2 i3 i4 i5 i6 i7 i8 i9 i10 i11 i12 i13 i14 i15 i16 i17 i18 i19 i20 => (ih _ hlt).2 y2 y5 a (Nat.le_refl _) i0 i1 i2 i3 i4 i5 i6 i7 i8 i9 i10 i11 i12 i13 i14 i15 i16 i17 i18 i19 i20
  have hc184 : ∀ (y2 y5 : Int) (a : Nat → Nat → Int), (((36 - y5) * 1) + 0).toNat ≤ n → iv a → jfr jW_X12_rates a0 a → 0 ≤ y5 → y5 ≤ 35 → a 146 68 ≤ 9 → 0 ≤ y2 → y2 ≤ 12 → 0 ≤ y5 → y5 < 3 * y2 → a 146 68 ≤ 9 → 1 ≤ a0 146 22 → a 146 68 = a0 146 68 → a 146 68 ≤ 9 → a 146 68 = a0 146 68 → (1 ≤ y2 ∧ RTR (UB (a0 164)) (a0 146 22).toNat y2) → (R195 a (UB (a0 164)) (a0 146 22).toNat y2.toNat) → (UP (a0 192) (a 192) (a0 146 68).toNat x1) → (UP (a0 193) (a 193) (a0 146 68).toNat y2) → (∀ j, j < 36 * (a0 146 68).toNat → a 194 j = a0 194 j) → (∀ j : Nat, (j : Int) < y5 + 1 → a 194 (36 * (a0 146 68).toNat + j) = a 195 j) → jt (jxX E d 282 184 [some (.inr (.inr (.inl 146))), none, some (.inl y2), none, none, some (.inl y5)] [] (jxSH, a, b0)) (jQ_X12_rates x1 a0 b0) := by
    intro y2 y5 a hm hv hf hi0 hi1 hi2 hi3 hi4 hi5 hi6 hi7 hi8 hi9 hi10 hi11 hY hR hu192 hu193 hk4 hcp
    refine jt_eq (bq_X12_rates_184 E d y2 y5 a b0) ?_
    have h1854_ := iv_get hv (k := 146) (j := 68) (l := 0) (u := 10) rfl
    have h1855_ := iv_get hv0 (k := 146) (j := 22) (l := 0) (u := 200) rfl
    have h1856_ := iv_get hv0 (k := 146) (j := 68) (l := 0) (u := 10) rfl
    have h4 : a 164 = a0 164 := funext fun j => hf 164 j rfl
    have h1857_ : jxw (y5 + 1) = y5 + 1 := jxw_id (by omega) (by omega)
    exact ih154 y2 (jxw (y5 + 1)) a (show (((36 - (jxw (y5 + 1))) * 1) + 0).toNat < n from by omega) hv hf (show 0 ≤ jxw (y5 + 1) from by omega) (show jxw (y5 + 1) ≤ 36 from by omega) (show a 146 68 ≤ 9 from by omega) (show 0 ≤ y2 from by omega) (show y2 ≤ 12 from by omega) (show 0 ≤ jxw (y5 + 1) from by omega) (show a 146 68 ≤ 9 from by omega) (show 1 ≤ a0 146 22 from by omega) (show a 146 68 = a0 146 68 from by omega) (show a 146 68 ≤ 9 from by omega) (show a 146 68 = a0 146 68 from by omega) (by first | exact hY | exact ⟨(hC (by assumption)).1, (hC (by assumption)).2.1⟩) (by first | exact hR | exact (hC (by assumption)).2.2) (by first | exact hu192 | (rw [show (a0 146 68).toNat = (a 146 68).toNat from by omega, ← hy1]; exact UP_put hs192)) (by first | exact hu193 | (rw [show (a0 146 68).toNat = (a 146 68).toNat from by omega]; exact UP_put hs193)) (by first | exact hk4 | exact (fun j hj => by show (if j = (jxw ((jxw (36 * (a 146 68))) + y5)).toNat then a 195 (y5.toNat) else a 194 j) = _; rw [hix, if_neg (by omega)]; exact hk4 j hj)) (by first | exact (fun j hj => absurd hj (by omega)) | (rw [show jxw (y5 + 1) = y5 + 1 from by omega]; exact hcp)) (show 0 ≤ jxw (y5 + 1) from by omega) (show jxw (y5 + 1) ≤ 3 * y2 from by omega)
  have hc154 : ∀ (y2 y5 : Int) (a : Nat → Nat → Int), (((36 - y5) * 1) + 0).toNat ≤ n → iv a → jfr jW_X12_rates a0 a → 0 ≤ y5 → y5 ≤ 36 → a 146 68 ≤ 9 → 0 ≤ y2 → y2 ≤ 12 → 0 ≤ y5 → a 146 68 ≤ 9 → 1 ≤ a0 146 22 → a 146 68 = a0 146 68 → a 146 68 ≤ 9 → a 146 68 = a0 146 68 → (1 ≤ y2 ∧ RTR (UB (a0 164)) (a0 146 22).toNat y2) → (R195 a (UB (a0 164)) (a0 146 22).toNat y2.toNat) → (UP (a0 192) (a 192) (a0 146 68).toNat x1) → (UP (a0 193) (a 193) (a0 146 68).toNat y2) → (∀ j, j < 36 * (a0 146 68).toNat → a 194 j = a0 194 j) → (∀ j : Nat, (j : Int) < y5 → a 194 (36 * (a0 146 68).toNat + j) = a 195 j) → 0 ≤ y5 → y5 ≤ 3 * y2 → jt (jxX E d 282 154 [some (.inr (.inr (.inl 146))), none, some (.inl y2), none, none, some (.inl y5)] [] (jxSH, a, b0)) (jQ_X12_rates x1 a0 b0) := by
    intro y2 y5 a hm hv hf hi0 hi1 hi2 hi3 hi4 hi5 hi6 hi7 hi8 hi9 hi10 hY hR hu192 hu193 hk4 hcp hi17 hi18
    refine jt_eq (bq_X12_rates_154 E d y2 y5 a b0) ?_
    have h1858_ := iv_get hv (k := 146) (j := 68) (l := 0) (u := 10) rfl
    have h1859_ := iv_get hv0 (k := 146) (j := 22) (l := 0) (u := 200) rfl
    have h1860_ := iv_get hv0 (k := 146) (j := 68) (l := 0) (u := 10) rfl
    have h4 : a 164 = a0 164 := funext fun j => hf 164 j rfl
    have hix : (jxw ((jxw (36 * (a 146 68))) + y5)).toNat = 36 * (a0 146 68).toNat + y5.toNat := by omega
    have h1861_ : jxw (3 * y2) = 3 * y2 := jxw_id (by omega) (by omega)
    refine jt_ite (fun c1862_ => ?_) (fun c1862_ => ?_)
    ·
      refine jt_grd (by omega) ?_
      have h1863_ : jxw (36 * (a 146 68)) = 36 * (a 146 68) := jxw_id (by omega) (by omega)
      have h1864_ : jxw ((jxw (36 * (a 146 68))) + y5) = (jxw (36 * (a 146 68))) + y5 := jxw_id (by omega) (by omega)
      refine jt_grd (by omega) ?_
      have h1866_ := iv_get hv (k := 195) (j := y5.toNat) (l := 0) (u := 900) rfl
      have hv1865_ : iv (jxu a 194 ((jxw ((jxw (36 * (a 146 68))) + y5)).toNat) (a 195 (y5.toNat))) := iv_put hv (l := 0) (u := 900) rfl (by omega) (by omega)
      have hf1867_ : jfr jW_X12_rates a0 (jxu a 194 ((jxw ((jxw (36 * (a 146 68))) + y5)).toNat) (a 195 (y5.toNat))) := jfr_put hf rfl
      exact hc184 y2 y5 (jxu a 194 ((jxw ((jxw (36 * (a 146 68))) + y5)).toNat) (a 195 (y5.toNat))) (show (((36 - y5) * 1) + 0).toNat ≤ n from by omega) hv1865_ hf1867_ (show 0 ≤ y5 from by omega) (show y5 ≤ 35 from by omega) (show a 146 68 ≤ 9 from by omega) (show 0 ≤ y2 from by omega) (show y2 ≤ 12 from by omega) (show 0 ≤ y5 from by omega) (show y5 < 3 * y2 from by omega) (show a 146 68 ≤ 9 from by omega) (show 1 ≤ a0 146 22 from by omega) (show a 146 68 = a0 146 68 from by omega) (show a 146 68 ≤ 9 from by omega) (show a 146 68 = a0 146 68 from by omega) (by first | exact hY | exact ⟨(hC (by assumption)).1, (hC (by assumption)).2.1⟩) (by first | exact hR | exact (hC (by assumption)).2.2) (by first | exact hu192 | (rw [show (a0 146 68).toNat = (a 146 68).toNat from by omega, ← hy1]; exact UP_put hs192)) (by first | exact hu193 | (rw [show (a0 146 68).toNat = (a 146 68).toNat from by omega]; exact UP_put hs193)) (by first | exact hk4 | exact (fun j hj => by show (if j = (jxw ((jxw (36 * (a 146 68))) + y5)).toNat then a 195 (y5.toNat) else a 194 j) = _; rw [hix, if_neg (by omega)]; exact hk4 j hj)) (fun j hj => by show (if 36 * (a0 146 68).toNat + j = (jxw ((jxw (36 * (a 146 68))) + y5)).toNat then a 195 (y5.toNat) else a 194 (36 * (a0 146 68).toNat + j)) = a 195 j; rw [hix]; by_cases e : j = y5.toNat <;> first | (rw [if_pos (by omega), e]) | (rw [if_neg (by omega)]; exact hcp j (by omega)))
    ·
      have h1869_ : jxw ((a 146 68) + 1) = (a 146 68) + 1 := jxw_id (by omega) (by omega)
      have hv1868_ : iv (jxu a 146 68 (jxw ((a 146 68) + 1))) := iv_put hv (l := 0) (u := 10) rfl (by omega) (by omega)
      have hf1870_ : jfr jW_X12_rates a0 (jxu a 146 68 (jxw ((a 146 68) + 1))) := jfr_put hf rfl
      have h1871_ := iv_get hv (k := 146) (j := 22) (l := 0) (u := 200) rfl
      exact jt_rI ⟨hv1868_, hf1870_, rfl, (show ((a0 146 22 = 0 ∧ a0 146 68 = 0) → (((0 ≤ x1 ∧ x1 ≤ 1999) ∧ y2 = 0 - 3) ∨ ((x1 < 0 ∨ 1999 < x1) ∧ y2 = 0 - 1))) from by omega), (fun _ => ⟨hY.2, Or.inl ⟨hY.1, show jxw ((a 146 68) + 1) = _ from by omega⟩⟩), (fun _ => ⟨R194_of hR (fun j hj => hcp j (by omega)), hu192, hu193, hk4⟩), (fun h => absurd h (by have q := hY.1; omega)), (show (((x1 < 0 ∨ 1999 < x1) ∨ 9 < a0 146 68) → ((y2 = 0 - 1 ∧ jxw ((a 146 68) + 1) = a0 146 68) ∧ a 146 22 = a0 146 22)) from by omega), (show (((0 ≤ x1 ∧ x1 ≤ 1999) ∧ a0 146 68 ≤ 9) → a 146 22 = 0) from by omega)⟩
  exact ⟨hc184, hc154⟩
theorem cp_X12_rates_151 (E : jxE) (d : Nat) (hd : Nat.ble 4 (d + 1) = true) (x1 : Int) (a0 b0 : Nat → Nat → Int) (hv0 : iv a0) : ∀ (y2 : Int) (a : Nat → Nat → Int), iv a → jfr jW_X12_rates a0 a → a 146 68 ≤ 9 → 0 ≤ y2 → y2 ≤ 12 → a 146 68 ≤ 9 → 1 ≤ a0 146 22 → a 146 68 = a0 146 68 → a 146 68 ≤ 9 → a 146 68 = a0 146 68 → (1 ≤ y2 ∧ RTR (UB (a0 164)) (a0 146 22).toNat y2) → (R195 a (UB (a0 164)) (a0 146 22).toNat y2.toNat) → (UP (a0 192) (a 192) (a0 146 68).toNat x1) → (UP (a0 193) (a 193) (a0 146 68).toNat y2) → (∀ j, j < 36 * (a0 146 68).toNat → a 194 j = a0 194 j) → jt (jxX E d 282 151 [some (.inr (.inr (.inl 146))), none, some (.inl y2), none, none, none] [] (jxSH, a, b0)) (jQ_X12_rates x1 a0 b0) := by
  intro y2 a hv hf hi0 hi1 hi2 hi3 hi4 hi5 hi6 hi7 hY hR hu192 hu193 hk4
  refine jt_eq (bq_X12_rates_151 E d y2 a b0) ?_
  have h1872_ := iv_get hv (k := 146) (j := 68) (l := 0) (u := 10) rfl
  have h1873_ := iv_get hv0 (k := 146) (j := 22) (l := 0) (u := 200) rfl
  have h1874_ := iv_get hv0 (k := 146) (j := 68) (l := 0) (u := 10) rfl
  have h4 : a 164 = a0 164 := funext fun j => hf 164 j rfl
  exact (cp_X12_rates_154 E d hd x1 a0 b0 hv0 _).2 y2 0 a (Nat.le_refl _) hv hf (show 0 ≤ 0 from by omega) (show 0 ≤ 36 from by omega) (show a 146 68 ≤ 9 from by omega) (show 0 ≤ y2 from by omega) (show y2 ≤ 12 from by omega) (show 0 ≤ 0 from by omega) (show a 146 68 ≤ 9 from by omega) (show 1 ≤ a0 146 22 from by omega) (show a 146 68 = a0 146 68 from by omega) (show a 146 68 ≤ 9 from by omega) (show a 146 68 = a0 146 68 from by omega) (by first | exact hY | exact ⟨(hC (by assumption)).1, (hC (by assumption)).2.1⟩) (by first | exact hR | exact (hC (by assumption)).2.2) (by first | exact hu192 | (rw [show (a0 146 68).toNat = (a 146 68).toNat from by omega, ← hy1]; exact UP_put hs192)) (by first | exact hu193 | (rw [show (a0 146 68).toNat = (a 146 68).toNat from by omega]; exact UP_put hs193)) (by first | exact hk4 | exact (fun j hj => by show (if j = (jxw ((jxw (36 * (a 146 68))) + y5)).toNat then a 195 (y5.toNat) else a 194 j) = _; rw [hix, if_neg (by omega)]; exact hk4 j hj)) (by first | exact (fun j hj => absurd hj (by omega)) | (rw [show jxw (y5 + 1) = y5 + 1 from by omega]; exact hcp)) (show 0 ≤ 0 from by omega) (show 0 ≤ 3 * y2 from by omega)
theorem cp_X12_rates_114 (E : jxE) (d : Nat) (hd : Nat.ble 4 (d + 1) = true) (x1 : Int) (a0 b0 : Nat → Nat → Int) (hv0 : iv a0) : ∀ (y1 y2 y3 : Int) (a : Nat → Nat → Int), iv a → jfr jW_X12_rates a0 a → 0 ≤ y1 → y1 ≤ 1999 → 0 ≤ y3 → y3 ≤ 1 → a 146 68 ≤ 9 → a 146 23 ≤ a 146 22 → 0 ≤ y2 → y2 ≤ 13 → (y3 = 1 → y2 ≤ 12) → 0 ≤ y3 → y3 ≤ 1 → a 146 22 = a0 146 22 → (0 ≤ x1 ∧ x1 ≤ 1999) → (a0 146 22 = 0 → (y3 = 0 ∧ a 146 24 = 1)) → a 146 68 = a0 146 68 → a 146 68 ≤ 9 → a 146 68 = a0 146 68 → (y1 = x1) → (∀ j, a 192 j = a0 192 j) → (∀ j, a 193 j = a0 193 j) → (∀ j, a 194 j = a0 194 j) → (y3 = 0 → RFX a0 a) → (¬ y3 = 0 → RFY a0 a y2) → jt (jxX E d 282 114 [some (.inr (.inr (.inl 146))), some (.inl y1), some (.inl y2), some (.inl y3), none, none] [] (jxSH, a, b0)) (jQ_X12_rates x1 a0 b0) := by
  intro y1 y2 y3 a hv hf hi0 hi1 hi2 hi3 hi4 hi5 hi6 hi7 hi8 hi9 hi10 hi11 hi12 hi13 hi14 hi15 hi16 hy1 hs192 hs193 hs194 hB hC
  refine jt_eq (bq_X12_rates_114 E d y1 y2 y3 a b0) ?_
  have h1875_ := iv_get hv (k := 146) (j := 68) (l := 0) (u := 10) rfl
  have h1876_ := iv_get hv (k := 146) (j := 23) (l := 0) (u := 200) rfl
  have h1877_ := iv_get hv (k := 146) (j := 22) (l := 0) (u := 200) rfl
  have h1878_ := iv_get hv0 (k := 146) (j := 22) (l := 0) (u := 200) rfl
  have h1879_ := iv_get hv0 (k := 146) (j := 68) (l := 0) (u := 10) rfl
  have h4 : a 164 = a0 164 := funext fun j => hf 164 j rfl
  refine jt_ite (fun c1880_ => ?_) (fun c1880_ => ?_)
  ·
    have hv1881_ : iv (jxu a 146 22 0) := iv_put hv (l := 0) (u := 200) rfl (by omega) (by omega)
    have hf1882_ : jfr jW_X12_rates a0 (jxu a 146 22 0) := jfr_put hf rfl
    have h1883_ := jxw_im ((-2) - (a 146 24))
    have h1884_ := jxw_rg ((-2) - (a 146 24))
    exact jt_rI ⟨hv1881_, hf1882_, rfl, (show ((a0 146 22 = 0 ∧ a0 146 68 = 0) → (((0 ≤ x1 ∧ x1 ≤ 1999) ∧ jxw ((-2) - (a 146 24)) = 0 - 3) ∨ ((x1 < 0 ∨ 1999 < x1) ∧ jxw ((-2) - (a 146 24)) = 0 - 1))) from by omega), (fun _ => by have q := hB (by assumption); rw [show jxw ((-2) - (a 146 24)) = -2 - a 146 24 from (by have q1 := q.1; have q2 := RTR_bd q.2 (tr200 hv0); omega)]; exact ⟨q.2, Or.inr ⟨by have q1 := q.1; omega, by show a 146 68 = _; omega⟩⟩), (fun h => absurd h (by have q := hB (by assumption); have q1 := q.1; have q2 := RTR_bd q.2 (tr200 hv0); omega)), (fun _ j => ⟨hs192 j, hs193 j, hs194 j⟩), (show (((x1 < 0 ∨ 1999 < x1) ∨ 9 < a0 146 68) → ((jxw ((-2) - (a 146 24)) = 0 - 1 ∧ a 146 68 = a0 146 68) ∧ 0 = a0 146 22)) from by omega), (show (((0 ≤ x1 ∧ x1 ≤ 1999) ∧ a0 146 68 ≤ 9) → 0 = 0) from by omega)⟩
  ·
    refine jt_grd (by omega) ?_
    refine jt_grd (by omega) ?_
    have hv1885_ : iv (jxu a 146 22 0) := iv_put hv (l := 0) (u := 200) rfl (by omega) (by omega)
    have hv1886_ : iv (jxu (jxu a 146 22 0) 192 ((a 146 68).toNat) y1) := iv_putf hv1885_ rfl
    have hv1887_ : iv (jxu (jxu (jxu a 146 22 0) 192 ((a 146 68).toNat) y1) 193 ((a 146 68).toNat) y2) := iv_put hv1886_ (l := 0) (u := 12) rfl (by omega) (by omega)
    have hf1888_ : jfr jW_X12_rates a0 (jxu a 146 22 0) := jfr_put hf rfl
    have hf1889_ : jfr jW_X12_rates a0 (jxu (jxu a 146 22 0) 192 ((a 146 68).toNat) y1) := jfr_put hf1888_ rfl
    have hf1890_ : jfr jW_X12_rates a0 (jxu (jxu (jxu a 146 22 0) 192 ((a 146 68).toNat) y1) 193 ((a 146 68).toNat) y2) := jfr_put hf1889_ rfl
    exact cp_X12_rates_151 E d hd x1 a0 b0 hv0 y2 (jxu (jxu (jxu a 146 22 0) 192 ((a 146 68).toNat) y1) 193 ((a 146 68).toNat) y2) hv1887_ hf1890_ (show a 146 68 ≤ 9 from by omega) (show 0 ≤ y2 from by omega) (show y2 ≤ 12 from by omega) (show a 146 68 ≤ 9 from by omega) (show 1 ≤ a0 146 22 from by omega) (show a 146 68 = a0 146 68 from by omega) (show a 146 68 ≤ 9 from by omega) (show a 146 68 = a0 146 68 from by omega) (by first | exact hY | exact ⟨(hC (by assumption)).1, (hC (by assumption)).2.1⟩) (by first | exact hR | exact (hC (by assumption)).2.2) (by first | exact hu192 | (rw [show (a0 146 68).toNat = (a 146 68).toNat from by omega, ← hy1]; exact UP_put hs192)) (by first | exact hu193 | (rw [show (a0 146 68).toNat = (a 146 68).toNat from by omega]; exact UP_put hs193)) (fun j _ => hs194 j)
theorem cp_X12_rates_35 (E : jxE) (d : Nat) (hd : Nat.ble 4 (d + 1) = true) (x1 : Int) (a0 b0 : Nat → Nat → Int) (hv0 : iv a0) : ∀ n : Nat, (∀ (y1 y2 y3 y4 : Int) (a : Nat → Nat → Int), (((((a 146 22) - (a 146 23)) + (2 * y3)) + y4) + 1).toNat ≤ n → iv a → jfr jW_X12_rates a0 a → 0 ≤ y1 → y1 ≤ 1999 → 0 ≤ y3 → y3 ≤ 1 → 0 ≤ y4 → y4 ≤ 1 → a 146 68 ≤ 9 → a 146 23 ≤ a 146 22 → 0 ≤ y2 → y2 ≤ 13 → (y3 = 1 → y2 ≤ 12) → 0 ≤ y3 → 0 ≤ y4 → y3 ≤ 1 → y4 ≤ 1 → (y4 = 1 → a 146 23 < a 146 22) → a 146 22 = a0 146 22 → (0 ≤ x1 ∧ x1 ≤ 1999) → (a0 146 22 = 0 → (y3 = 0 ∧ a 146 24 = 1)) → a 146 68 = a0 146 68 → a 146 68 ≤ 9 → a 146 68 = a0 146 68 → (y1 = x1) → (∀ j, a 192 j = a0 192 j) → (∀ j, a 193 j = a0 193 j) → (∀ j, a 194 j = a0 194 j) → (y3 = 0 → RFX a0 a) → (¬ y3 = 0 → y4 = 0 → RFY a0 a y2) → (¬ y3 = 0 → ¬ y4 = 0 → RFL a0 (jxu a 146 23 (jxw ((a 146 23) + 1))) y2.toNat) → jt (jxX E d 282 96 [some (.inr (.inr (.inl 146))), some (.inl y1), some (.inl y2), some (.inl y3), some (.inl y4), none] [] (jxSH, a, b0)) (jQ_X12_rates x1 a0 b0)) ∧ (∀ (y1 y2 y3 s0 : Int) (a : Nat → Nat → Int), (((((a 146 22) - (a 146 23)) + (2 * y3)) + s0) + 1).toNat ≤ n → iv a → jfr jW_X12_rates a0 a → 0 ≤ y1 → y1 ≤ 1999 → 0 ≤ y3 → y3 ≤ 1 → 0 ≤ s0 → s0 ≤ 1 → a 146 68 ≤ 9 → a 146 23 ≤ a 146 22 → 0 ≤ y2 → y2 ≤ 13 → (y3 = 1 → y2 ≤ 12) → 0 ≤ y3 → 0 ≤ s0 → y3 ≤ 1 → s0 ≤ 1 → (s0 = 1 → (a 146 23 < a 146 22 ∧ ¬ a 164 ((a 146 23).toNat) = 32)) → a 146 22 = a0 146 22 → (0 ≤ x1 ∧ x1 ≤ 1999) → (a0 146 22 = 0 → (y3 = 0 ∧ a 146 24 = 1)) → a 146 68 = a0 146 68 → a 146 68 ≤ 9 → a 146 68 = a0 146 68 → (y1 = x1) → (∀ j, a 192 j = a0 192 j) → (∀ j, a 193 j = a0 193 j) → (∀ j, a 194 j = a0 194 j) → (s0 = 0 → y3 = 0 → RFX a0 a) → (s0 = 0 → ¬ y3 = 0 → RFY a0 a y2) → (¬ s0 = 0 → ¬ y3 = 0 ∧ 1 ≤ y2 ∧ RFM a0 a (y2 - 1).toNat) → jt (jxX E d 282 70 [some (.inr (.inr (.inl 146))), some (.inl y1), some (.inl y2), some (.inl y3), none, none] [.inl s0] (jxSH, a, b0)) (jQ_X12_rates x1 a0 b0)) ∧ (∀ (y1 y2 y3 : Int) (a : Nat → Nat → Int), ((((a 146 22) - (a 146 23)) + (2 * y3)) + 2).toNat ≤ n → iv a → jfr jW_X12_rates a0 a → 0 ≤ y1 → y1 ≤ 1999 → 1 ≤ y3 → y3 ≤ 1 → a 146 68 ≤ 9 → a 146 23 ≤ a 146 22 → 0 ≤ y2 → y2 ≤ 13 → (y3 = 1 → y2 ≤ 12) → 0 ≤ y3 → y3 ≤ 1 → a 146 23 < a 146 22 → ¬ a 164 ((a 146 23).toNat) = 32 → a 146 22 = a0 146 22 → (0 ≤ x1 ∧ x1 ≤ 1999) → 1 ≤ a0 146 22 → a 146 68 = a0 146 68 → a 146 68 ≤ 9 → a 146 68 = a0 146 68 → (y1 = x1) → (∀ j, a 192 j = a0 192 j) → (∀ j, a 193 j = a0 193 j) → (∀ j, a 194 j = a0 194 j) → (RFM a0 a (y2 - 1).toNat) → 1 ≤ y2 → 1 ≤ y3 → jt (jxX E d 282 65 [some (.inr (.inr (.inl 146))), some (.inl y1), some (.inl y2), some (.inl y3), none, none] [] (jxSH, a, b0)) (jQ_X12_rates x1 a0 b0)) ∧ (∀ (y1 y2 y3 : Int) (a : Nat → Nat → Int), ((((a 146 22) - (a 146 23)) + (2 * y3)) + 1).toNat ≤ n → iv a → jfr jW_X12_rates a0 a → 0 ≤ y1 → y1 ≤ 1999 → 0 ≤ y3 → y3 ≤ 1 → a 146 68 ≤ 9 → a 146 23 ≤ a 146 22 → 0 ≤ y2 → y2 ≤ 13 → (y3 = 1 → y2 ≤ 12) → 0 ≤ y3 → y3 ≤ 1 → a 146 22 = a0 146 22 → (0 ≤ x1 ∧ x1 ≤ 1999) → (a0 146 22 = 0 → (y3 = 0 ∧ a 146 24 = 1)) → a 146 68 = a0 146 68 → a 146 68 ≤ 9 → a 146 68 = a0 146 68 → (y1 = x1) → (∀ j, a 192 j = a0 192 j) → (∀ j, a 193 j = a0 193 j) → (∀ j, a 194 j = a0 194 j) → (y3 = 0 → RFX a0 a) → (¬ y3 = 0 → RFY a0 a y2) → jt (jxX E d 282 69 [some (.inr (.inr (.inl 146))), some (.inl y1), some (.inl y2), some (.inl y3), none, none] [] (jxSH, a, b0)) (jQ_X12_rates x1 a0 b0)) ∧ (∀ (y1 y2 y3 y4 : Int) (a : Nat → Nat → Int), ((((a 146 22) - (a 146 23)) + y3) + y4).toNat ≤ n → iv a → jfr jW_X12_rates a0 a → 0 ≤ y1 → y1 ≤ 1999 → 0 ≤ y3 → y3 ≤ 1 → 0 ≤ y4 → y4 ≤ 1 → a 146 68 ≤ 9 → a 146 23 ≤ a 146 22 → 0 ≤ y2 → y2 ≤ 13 → (y3 = 1 → y2 ≤ 12) → 0 ≤ y3 → 0 ≤ y4 → y3 ≤ 1 → y4 ≤ 1 → a 146 22 = a0 146 22 → (0 ≤ x1 ∧ x1 ≤ 1999) → (a0 146 22 = 0 → (((a 146 24 = 0 ∧ ¬ y3 = 0) ∧ ¬ y4 = 0) ∨ (y3 = 0 ∧ a 146 24 = 1))) → a 146 68 = a0 146 68 → a 146 68 ≤ 9 → a 146 68 = a0 146 68 → (y1 = x1) → (∀ j, a 192 j = a0 192 j) → (∀ j, a 193 j = a0 193 j) → (∀ j, a 194 j = a0 194 j) → (¬ y3 = 0 → ¬ y4 = 0 → RFL a0 a y2.toNat) → (y3 = 0 → RFX a0 a) → (¬ y3 = 0 → y4 = 0 → RFY a0 a y2) → jt (jxX E d 282 35 [some (.inr (.inr (.inl 146))), some (.inl y1), some (.inl y2), some (.inl y3), some (.inl y4), none] [] (jxSH, a, b0)) (jQ_X12_rates x1 a0 b0)) := by
  refine jx_ind fun n ih => ?_
  have ih96 : ∀ (y1 y2 y3 y4 : Int) (a : Nat → Nat → Int), (((((a 146 22) - (a 146 23)) + (2 * y3)) + y4) + 1).toNat < n → iv a → jfr jW_X12_rates a0 a → 0 ≤ y1 → y1 ≤ 1999 → 0 ≤ y3 → y3 ≤ 1 → 0 ≤ y4 → y4 ≤ 1 → a 146 68 ≤ 9 → a 146 23 ≤ a 146 22 → 0 ≤ y2 → y2 ≤ 13 → (y3 = 1 → y2 ≤ 12) → 0 ≤ y3 → 0 ≤ y4 → y3 ≤ 1 → y4 ≤ 1 → (y4 = 1 → a 146 23 < a 146 22) → a 146 22 = a0 146 22 → (0 ≤ x1 ∧ x1 ≤ 1999) → (a0 146 22 = 0 → (y3 = 0 ∧ a 146 24 = 1)) → a 146 68 = a0 146 68 → a 146 68 ≤ 9 → a 146 68 = a0 146 68 → (y1 = x1) → (∀ j, a 192 j = a0 192 j) → (∀ j, a 193 j = a0 193 j) → (∀ j, a 194 j = a0 194 j) → (y3 = 0 → RFX a0 a) → (¬ y3 = 0 → y4 = 0 → RFY a0 a y2) → (¬ y3 = 0 → ¬ y4 = 0 → RFL a0 (jxu a 146 23 (jxw ((a 146 23) + 1))) y2.toNat) → jt (jxX E d 282 96 [some (.inr (.inr (.inl 146))), some (.inl y1), some (.inl y2), some (.inl y3), some (.inl y4), none] [] (jxSH, a, b0)) (jQ_X12_rates x1 a0 b0) := fun y1 y2 y3 y4 a hlt i0 i1 i2 i3 i4 i5 i6 i7 i8 i9 i10 i11 i12 i13 i14 i15 i16 i17 i18 i19 i20 i21 i22 i23 i24 i25 i26 i27 i28 i29 i30 => (ih _ hlt).1 y1 y2 y3 y4 a (Nat.le_refl _) i0 i1 i2 i3 i4 i5 i6 i7 i8 i9 i10 i11 i12 i13 i14 i15 i16 i17 i18 i19 i20 i21 i22 i23 i24 i25 i26 i27 i28 i29 i30
  have ih70 : ∀ (y1 y2 y3 s0 : Int) (a : Nat → Nat → Int), (((((a 146 22) - (a 146 23)) + (2 * y3)) + s0) + 1).toNat < n → iv a → jfr jW_X12_rates a0 a → 0 ≤ y1 → y1 ≤ 1999 → 0 ≤ y3 → y3 ≤ 1 → 0 ≤ s0 → s0 ≤ 1 → a 146 68 ≤ 9 → a 146 23 ≤ a 146 22 → 0 ≤ y2 → y2 ≤ 13 → (y3 = 1 → y2 ≤ 12) → 0 ≤ y3 → 0 ≤ s0 → y3 ≤ 1 → s0 ≤ 1 → (s0 = 1 → (a 146 23 < a 146 22 ∧ ¬ a 164 ((a 146 23).toNat) = 32)) → a 146 22 = a0 146 22 → (0 ≤ x1 ∧ x1 ≤ 1999) → (a0 146 22 = 0 → (y3 = 0 ∧ a 146 24 = 1)) → a 146 68 = a0 146 68 → a 146 68 ≤ 9 → a 146 68 = a0 146 68 → (y1 = x1) → (∀ j, a 192 j = a0 192 j) → (∀ j, a 193 j = a0 193 j) → (∀ j, a 194 j = a0 194 j) → (s0 = 0 → y3 = 0 → RFX a0 a) → (s0 = 0 → ¬ y3 = 0 → RFY a0 a y2) → (¬ s0 = 0 → ¬ y3 = 0 ∧ 1 ≤ y2 ∧ RFM a0 a (y2 - 1).toNat) → jt (jxX E d 282 70 [some (.inr (.inr (.inl 146))), some (.inl y1), some (.inl y2), some (.inl y3), none, none] [.inl s0] (jxSH, a, b0)) (jQ_X12_rates x1 a0 b0) := fun y1 y2 y3 s0 a hlt i0 i1 i2 i3 i4 i5 i6 i7 i8 i9 i10 i11 i12 i13 i14 i15 i16 i17 i18 i19 i20 i21 i22 i23 i24 i25 i26 i27 i28 i29 i30 => (ih _ hlt).2.1 y1 y2 y3 s0 a (Nat.le_refl _) i0 i1 i2 i3 i4 i5 i6 i7 i8 i9 i10 i11 i12 i13 i14 i15 i16 i17 i18 i19 i20 i21 i22 i23 i24 i25 i26 i27 i28 i29 i30
  have ih65 : ∀ (y1 y2 y3 : Int) (a : Nat → Nat → Int), ((((a 146 22) - (a 146 23)) + (2 * y3)) + 2).toNat < n → iv a → jfr jW_X12_rates a0 a → 0 ≤ y1 → y1 ≤ 1999 → 1 ≤ y3 → y3 ≤ 1 → a 146 68 ≤ 9 → a 146 23 ≤ a 146 22 → 0 ≤ y2 → y2 ≤ 13 → (y3 = 1 → y2 ≤ 12) → 0 ≤ y3 → y3 ≤ 1 → a 146 23 < a 146 22 → ¬ a 164 ((a 146 23).toNat) = 32 → a 146 22 = a0 146 22 → (0 ≤ x1 ∧ x1 ≤ 1999) → 1 ≤ a0 146 22 → a 146 68 = a0 146 68 → a 146 68 ≤ 9 → a 146 68 = a0 146 68 → (y1 = x1) → (∀ j, a 192 j = a0 192 j) → (∀ j, a 193 j = a0 193 j) → (∀ j, a 194 j = a0 194 j) → (RFM a0 a (y2 - 1).toNat) → 1 ≤ y2 → 1 ≤ y3 → jt (jxX E d 282 65 [some (.inr (.inr (.inl 146))), some (.inl y1), some (.inl y2), some (.inl y3), none, none] [] (jxSH, a, b0)) (jQ_X12_rates x1 a0 b0) := fun y1 y2 y3 a hlt i0 i1 i2 i3 i4 i5 i6 i7 i8 i9 i10 i11 i12 i13 i14 i15 i16 i17 i18 i19 i20 i21 i22 i23 i24 i25 i26 i27 => (ih _ hlt).2.2.1 y1 y2 y3 a (Nat.le_refl _) i0 i1 i2 i3 i4 i5 i6 i7 i8 i9 i10 i11 i12 i13 i14 i15 i16 i17 i18 i19 i20 i21 i22 i23 i24 i25 i26 i27
  have ih69 : ∀ (y1 y2 y3 : Int) (a : Nat → Nat → Int), ((((a 146 22) - (a 146 23)) + (2 * y3)) + 1).toNat < n → iv a → jfr jW_X12_rates a0 a → 0 ≤ y1 → y1 ≤ 1999 → 0 ≤ y3 → y3 ≤ 1 → a 146 68 ≤ 9 → a 146 23 ≤ a 146 22 → 0 ≤ y2 → y2 ≤ 13 → (y3 = 1 → y2 ≤ 12) → 0 ≤ y3 → y3 ≤ 1 → a 146 22 = a0 146 22 → (0 ≤ x1 ∧ x1 ≤ 1999) → (a0 146 22 = 0 → (y3 = 0 ∧ a 146 24 = 1)) → a 146 68 = a0 146 68 → a 146 68 ≤ 9 → a 146 68 = a0 146 68 → (y1 = x1) → (∀ j, a 192 j = a0 192 j) → (∀ j, a 193 j = a0 193 j) → (∀ j, a 194 j = a0 194 j) → (y3 = 0 → RFX a0 a) → (¬ y3 = 0 → RFY a0 a y2) → jt (jxX E d 282 69 [some (.inr (.inr (.inl 146))), some (.inl y1), some (.inl y2), some (.inl y3), none, none] [] (jxSH, a, b0)) (jQ_X12_rates x1 a0 b0) := fun y1 y2 y3 a hlt i0 i1 i2 i3 i4 i5 i6 i7 i8 i9 i10 i11 i12 i13 i14 i15 i16 i17 i18 i19 i20 i21 i22 i23 i24 => (ih _ hlt).2.2.2.1 y1 y2 y3 a (Nat.le_refl _) i0 i1 i2 i3 i4 i5 i6 i7 i8 i9 i10 i11 i12 i13 i14 i15 i16 i17 i18 i19 i20 i21 i22 i23 i24
  have ih35 : ∀ (y1 y2 y3 y4 : Int) (a : Nat → Nat → Int), ((((a 146 22) - (a 146 23)) + y3) + y4).toNat < n → iv a → jfr jW_X12_rates a0 a → 0 ≤ y1 → y1 ≤ 1999 → 0 ≤ y3 → y3 ≤ 1 → 0 ≤ y4 → y4 ≤ 1 → a 146 68 ≤ 9 → a 146 23 ≤ a 146 22 → 0 ≤ y2 → y2 ≤ 13 → (y3 = 1 → y2 ≤ 12) → 0 ≤ y3 → 0 ≤ y4 → y3 ≤ 1 → y4 ≤ 1 → a 146 22 = a0 146 22 → (0 ≤ x1 ∧ x1 ≤ 1999) → (a0 146 22 = 0 → (((a 146 24 = 0 ∧ ¬ y3 = 0) ∧ ¬ y4 = 0) ∨ (y3 = 0 ∧ a 146 24 = 1))) → a 146 68 = a0 146 68 → a 146 68 ≤ 9 → a 146 68 = a0 146 68 → (y1 = x1) → (∀ j, a 192 j = a0 192 j) → (∀ j, a 193 j = a0 193 j) → (∀ j, a 194 j = a0 194 j) → (¬ y3 = 0 → ¬ y4 = 0 → RFL a0 a y2.toNat) → (y3 = 0 → RFX a0 a) → (¬ y3 = 0 → y4 = 0 → RFY a0 a y2) → jt (jxX E d 282 35 [some (.inr (.inr (.inl 146))), some (.inl y1), some (.inl y2), some (.inl y3), some (.inl y4), none] [] (jxSH, a, b0)) (jQ_X12_rates x1 a0 b0) := fun y1 y2 y3 y4 a hlt i0 i1 i2 i3 i4 i5 i6 i7 i8 i9 i10 i11 i12 i13 i14 i15 i16 i17 i18 i19 i20 i21 i22 i23 i24 i25 i26 i27 i28 i29 => (ih _ hlt).2.2.2.2 y1 y2 y3 y4 a (Nat.le_refl _) i0 i1 i2 i3 i4 i5 i6 i7 i8 i9 i10 i11 i12 i13 i14 i15 i16 i17 i18 i19 i20 i21 i22 i23 i24 i25 i26 i27 i28 i29
  have hc96 : ∀ (y1 y2 y3 y4 : Int) (a : Nat → Nat → Int), (((((a 146 22) - (a 146 23)) + (2 * y3)) + y4) + 1).toNat ≤ n → iv a → jfr jW_X12_rates a0 a → 0 ≤ y1 → y1 ≤ 1999 → 0 ≤ y3 → y3 ≤ 1 → 0 ≤ y4 → y4 ≤ 1 → a 146 68 ≤ 9 → a 146 23 ≤ a 146 22 → 0 ≤ y2 → y2 ≤ 13 → (y3 = 1 → y2 ≤ 12) → 0 ≤ y3 → 0 ≤ y4 → y3 ≤ 1 → y4 ≤ 1 → (y4 = 1 → a 146 23 < a 146 22) → a 146 22 = a0 146 22 → (0 ≤ x1 ∧ x1 ≤ 1999) → (a0 146 22 = 0 → (y3 = 0 ∧ a 146 24 = 1)) → a 146 68 = a0 146 68 → a 146 68 ≤ 9 → a 146 68 = a0 146 68 → (y1 = x1) → (∀ j, a 192 j = a0 192 j) → (∀ j, a 193 j = a0 193 j) → (∀ j, a 194 j = a0 194 j) → (y3 = 0 → RFX a0 a) → (¬ y3 = 0 → y4 = 0 → RFY a0 a y2) → (¬ y3 = 0 → ¬ y4 = 0 → RFL a0 (jxu a 146 23 (jxw ((a 146 23) + 1))) y2.toNat) → jt (jxX E d 282 96 [some (.inr (.inr (.inl 146))), some (.inl y1), some (.inl y2), some (.inl y3), some (.inl y4), none] [] (jxSH, a, b0)) (jQ_X12_rates x1 a0 b0) := by
    intro y1 y2 y3 y4 a hm hv hf hi0 hi1 hi2 hi3 hi4 hi5 hi6 hi7 hi8 hi9 hi10 hi11 hi12 hi13 hi14 hi15 hi16 hi17 hi18 hi19 hi20 hi21 hy1 hs192 hs193 hs194 hB hC hN
    refine jt_eq (bq_X12_rates_96 E d y1 y2 y3 y4 a b0) ?_
    have h1891_ := iv_get hv (k := 146) (j := 68) (l := 0) (u := 10) rfl
    have h1892_ := iv_get hv (k := 146) (j := 23) (l := 0) (u := 200) rfl
    have h1893_ := iv_get hv (k := 146) (j := 22) (l := 0) (u := 200) rfl
    have h1894_ := iv_get hv0 (k := 146) (j := 22) (l := 0) (u := 200) rfl
    have h1895_ := iv_get hv0 (k := 146) (j := 68) (l := 0) (u := 10) rfl
    have h4 : a 164 = a0 164 := funext fun j => hf 164 j rfl
    refine jt_ite (fun c1896_ => ?_) (fun c1896_ => ?_)
    ·
      exact ih35 y1 y2 y3 y4 a (show ((((a 146 22) - (a 146 23)) + y3) + y4).toNat < n from by omega) hv hf (show 0 ≤ y1 from by omega) (show y1 ≤ 1999 from by omega) (show 0 ≤ y3 from by omega) (show y3 ≤ 1 from by omega) (show 0 ≤ y4 from by omega) (show y4 ≤ 1 from by omega) (show a 146 68 ≤ 9 from by omega) (show a 146 23 ≤ a 146 22 from by omega) (show 0 ≤ y2 from by omega) (show y2 ≤ 13 from by omega) (show (y3 = 1 → y2 ≤ 12) from by omega) (show 0 ≤ y3 from by omega) (show 0 ≤ y4 from by omega) (show y3 ≤ 1 from by omega) (show y4 ≤ 1 from by omega) (show a 146 22 = a0 146 22 from by omega) (show (0 ≤ x1 ∧ x1 ≤ 1999) from by omega) (show (a0 146 22 = 0 → (((a 146 24 = 0 ∧ ¬ y3 = 0) ∧ ¬ y4 = 0) ∨ (y3 = 0 ∧ a 146 24 = 1))) from by omega) (show a 146 68 = a0 146 68 from by omega) (show a 146 68 ≤ 9 from by omega) (show a 146 68 = a0 146 68 from by omega) (by first | rfl | assumption) (fun j => (rfl).trans (hs192 j)) (fun j => (rfl).trans (hs193 j)) (fun j => (rfl).trans (hs194 j)) (by first | exact (fun _ _ => ⟨by omega, by rw [show (a 146 23).toNat = 0 from by omega]; rfl, fun k hk => absurd hk (by omega), fun k hk => absurd hk (by omega)⟩) | exact (fun h1 h2 => absurd (by omega : False) id) | exact (fun h1 h2 => hN h1 h2)) (by first | exact hB | exact (fun h => absurd h (by omega))) (by first | exact (fun _ h => absurd h (by omega)) | exact (fun h _ => hC h (by assumption)) | exact (fun h1 h2 => absurd h2 (by assumption)))
    ·
      have h1898_ : jxw ((a 146 23) + 1) = (a 146 23) + 1 := jxw_id (by omega) (by omega)
      have hv1897_ : iv (jxu a 146 23 (jxw ((a 146 23) + 1))) := iv_put hv (l := 0) (u := 200) rfl (by omega) (by omega)
      have hf1899_ : jfr jW_X12_rates a0 (jxu a 146 23 (jxw ((a 146 23) + 1))) := jfr_put hf rfl
      exact ih35 y1 y2 y3 y4 (jxu a 146 23 (jxw ((a 146 23) + 1))) (show ((((a 146 22) - (jxw ((a 146 23) + 1))) + y3) + y4).toNat < n from by omega) hv1897_ hf1899_ (show 0 ≤ y1 from by omega) (show y1 ≤ 1999 from by omega) (show 0 ≤ y3 from by omega) (show y3 ≤ 1 from by omega) (show 0 ≤ y4 from by omega) (show y4 ≤ 1 from by omega) (show a 146 68 ≤ 9 from by omega) (show jxw ((a 146 23) + 1) ≤ a 146 22 from by omega) (show 0 ≤ y2 from by omega) (show y2 ≤ 13 from by omega) (show (y3 = 1 → y2 ≤ 12) from by omega) (show 0 ≤ y3 from by omega) (show 0 ≤ y4 from by omega) (show y3 ≤ 1 from by omega) (show y4 ≤ 1 from by omega) (show a 146 22 = a0 146 22 from by omega) (show (0 ≤ x1 ∧ x1 ≤ 1999) from by omega) (show (a0 146 22 = 0 → (((a 146 24 = 0 ∧ ¬ y3 = 0) ∧ ¬ y4 = 0) ∨ (y3 = 0 ∧ a 146 24 = 1))) from by omega) (show a 146 68 = a0 146 68 from by omega) (show a 146 68 ≤ 9 from by omega) (show a 146 68 = a0 146 68 from by omega) (by first | rfl | assumption) (fun j => (rfl).trans (hs192 j)) (fun j => (rfl).trans (hs193 j)) (fun j => (rfl).trans (hs194 j)) (by first | exact (fun _ _ => ⟨by omega, by rw [show (a 146 23).toNat = 0 from by omega]; rfl, fun k hk => absurd hk (by omega), fun k hk => absurd hk (by omega)⟩) | exact (fun h1 h2 => absurd (by omega : False) id) | exact (fun h1 h2 => hN h1 h2)) (by first | exact hB | exact (fun h => absurd h (by omega))) (by first | exact (fun _ h => absurd h (by omega)) | exact (fun h _ => hC h (by assumption)) | exact (fun h1 h2 => absurd h2 (by assumption)))
  have hc70 : ∀ (y1 y2 y3 s0 : Int) (a : Nat → Nat → Int), (((((a 146 22) - (a 146 23)) + (2 * y3)) + s0) + 1).toNat ≤ n → iv a → jfr jW_X12_rates a0 a → 0 ≤ y1 → y1 ≤ 1999 → 0 ≤ y3 → y3 ≤ 1 → 0 ≤ s0 → s0 ≤ 1 → a 146 68 ≤ 9 → a 146 23 ≤ a 146 22 → 0 ≤ y2 → y2 ≤ 13 → (y3 = 1 → y2 ≤ 12) → 0 ≤ y3 → 0 ≤ s0 → y3 ≤ 1 → s0 ≤ 1 → (s0 = 1 → (a 146 23 < a 146 22 ∧ ¬ a 164 ((a 146 23).toNat) = 32)) → a 146 22 = a0 146 22 → (0 ≤ x1 ∧ x1 ≤ 1999) → (a0 146 22 = 0 → (y3 = 0 ∧ a 146 24 = 1)) → a 146 68 = a0 146 68 → a 146 68 ≤ 9 → a 146 68 = a0 146 68 → (y1 = x1) → (∀ j, a 192 j = a0 192 j) → (∀ j, a 193 j = a0 193 j) → (∀ j, a 194 j = a0 194 j) → (s0 = 0 → y3 = 0 → RFX a0 a) → (s0 = 0 → ¬ y3 = 0 → RFY a0 a y2) → (¬ s0 = 0 → ¬ y3 = 0 ∧ 1 ≤ y2 ∧ RFM a0 a (y2 - 1).toNat) → jt (jxX E d 282 70 [some (.inr (.inr (.inl 146))), some (.inl y1), some (.inl y2), some (.inl y3), none, none] [.inl s0] (jxSH, a, b0)) (jQ_X12_rates x1 a0 b0) := by
    intro y1 y2 y3 s0 a hm hv hf hi0 hi1 hi2 hi3 hi4 hi5 hi6 hi7 hi8 hi9 hi10 hi11 hi12 hi13 hi14 hi15 hi16 hi17 hi18 hi19 hi20 hi21 hy1 hs192 hs193 hs194 hB hC hM
    refine jt_eq (bq_X12_rates_70 E d y1 y2 y3 s0 a b0) ?_
    have h1900_ := iv_get hv (k := 146) (j := 68) (l := 0) (u := 10) rfl
    have h1901_ := iv_get hv (k := 146) (j := 23) (l := 0) (u := 200) rfl
    have h1902_ := iv_get hv (k := 146) (j := 22) (l := 0) (u := 200) rfl
    have h1903_ := iv_get hv (k := 164) (j := (a 146 23).toNat) (l := (-128)) (u := 127) rfl
    have h1904_ : a 164 ((a 146 23).toNat) = a0 164 ((a 146 23).toNat) := hf 164 ((a 146 23).toNat) rfl
    have h1905_ := iv_get hv0 (k := 164) (j := (a 146 23).toNat) (l := (-128)) (u := 127) rfl
    have h1906_ := iv_get hv0 (k := 146) (j := 22) (l := 0) (u := 200) rfl
    have h1907_ := iv_get hv0 (k := 146) (j := 68) (l := 0) (u := 10) rfl
    have h4 : a 164 = a0 164 := funext fun j => hf 164 j rfl
    refine jt_ite (fun c1908_ => ?_) (fun c1908_ => ?_)
    ·
      exact hc96 y1 y2 y3 s0 a (show (((((a 146 22) - (a 146 23)) + (2 * y3)) + s0) + 1).toNat ≤ n from by omega) hv hf (show 0 ≤ y1 from by omega) (show y1 ≤ 1999 from by omega) (show 0 ≤ y3 from by omega) (show y3 ≤ 1 from by omega) (show 0 ≤ s0 from by omega) (show s0 ≤ 1 from by omega) (show a 146 68 ≤ 9 from by omega) (show a 146 23 ≤ a 146 22 from by omega) (show 0 ≤ y2 from by omega) (show y2 ≤ 13 from by omega) (show (y3 = 1 → y2 ≤ 12) from by omega) (show 0 ≤ y3 from by omega) (show 0 ≤ s0 from by omega) (show y3 ≤ 1 from by omega) (show s0 ≤ 1 from by omega) (show (s0 = 1 → a 146 23 < a 146 22) from by omega) (show a 146 22 = a0 146 22 from by omega) (show (0 ≤ x1 ∧ x1 ≤ 1999) from by omega) (show (a0 146 22 = 0 → (y3 = 0 ∧ a 146 24 = 1)) from by omega) (show a 146 68 = a0 146 68 from by omega) (show a 146 68 ≤ 9 from by omega) (show a 146 68 = a0 146 68 from by omega) (by first | rfl | assumption) (fun j => (rfl).trans (hs192 j)) (fun j => (rfl).trans (hs193 j)) (fun j => (rfl).trans (hs194 j)) (hB (by assumption)) (by first | exact (fun h _ => hC (by assumption) h) | exact (fun _ h => absurd h (by assumption))) (by first | exact (fun _ h => absurd (by assumption) h) | exact (fun h => absurd (by omega) h))
    ·
      refine jt_bI (sp_X12_see E d (jd_le hd rfl) a b0 hv (show a 146 23 ≤ a 146 22 from by omega)) (fun r1909_ a1909_ b1909_ h1909_ => ?_)
      obtain ⟨hv1909_, hf1909_, rfl, hq1909_0, hq1909_1, hq1909_2, hq1909_3, hq1909_4, hq1909_5⟩ := h1909_
      have h1910_ := iv_get hv1909_ (k := 146) (j := 23) (l := 0) (u := 200) rfl
      have h1911_ := iv_get hv1909_ (k := 164) (j := (a1909_ 146 23).toNat) (l := (-128)) (u := 127) rfl
      have h1912_ : a1909_ 164 ((a1909_ 146 23).toNat) = a 164 ((a1909_ 146 23).toNat) := hf1909_ 164 ((a1909_ 146 23).toNat) rfl
      have h1913_ := iv_get hv (k := 164) (j := (a1909_ 146 23).toNat) (l := (-128)) (u := 127) rfl
      have h1914_ : a 164 ((a1909_ 146 23).toNat) = a0 164 ((a1909_ 146 23).toNat) := hf 164 ((a1909_ 146 23).toNat) rfl
      have h1915_ := iv_get hv0 (k := 164) (j := (a1909_ 146 23).toNat) (l := (-128)) (u := 127) rfl
      refine jt_ite (fun c1916_ => ?_) (fun c1916_ => ?_)
      ·
        have hf1917_ : jfr jW_X12_rates a0 a1909_ := jfr_tr hf hf1909_ rfl
        have h1918_ := iv_get hv1909_ (k := 146) (j := 68) (l := 0) (u := 10) rfl
        have h1919_ : a1909_ 146 68 = a 146 68 := hf1909_ 146 68 rfl
        have h1920_ := iv_get hv1909_ (k := 146) (j := 22) (l := 0) (u := 200) rfl
        have h1921_ : a1909_ 146 22 = a 146 22 := hf1909_ 146 22 rfl
        have h1922_ : a1909_ 146 24 = a 146 24 := hf1909_ 146 24 rfl
        exact hc96 y1 y2 y3 s0 a1909_ (show (((((a1909_ 146 22) - (a1909_ 146 23)) + (2 * y3)) + s0) + 1).toNat ≤ n from by omega) hv1909_ hf1917_ (show 0 ≤ y1 from by omega) (show y1 ≤ 1999 from by omega) (show 0 ≤ y3 from by omega) (show y3 ≤ 1 from by omega) (show 0 ≤ s0 from by omega) (show s0 ≤ 1 from by omega) (show a1909_ 146 68 ≤ 9 from by omega) (show a1909_ 146 23 ≤ a1909_ 146 22 from by omega) (show 0 ≤ y2 from by omega) (show y2 ≤ 13 from by omega) (show (y3 = 1 → y2 ≤ 12) from by omega) (show 0 ≤ y3 from by omega) (show 0 ≤ s0 from by omega) (show y3 ≤ 1 from by omega) (show s0 ≤ 1 from by omega) (show (s0 = 1 → a1909_ 146 23 < a1909_ 146 22) from by omega) (show a1909_ 146 22 = a0 146 22 from by omega) (show (0 ≤ x1 ∧ x1 ≤ 1999) from by omega) (show (a0 146 22 = 0 → (y3 = 0 ∧ a1909_ 146 24 = 1)) from by omega) (show a1909_ 146 68 = a0 146 68 from by omega) (show a1909_ 146 68 ≤ 9 from by omega) (show a1909_ 146 68 = a0 146 68 from by omega) (by first | rfl | assumption) (fun j => ((hf1909_ 192 j rfl)).trans (hs192 j)) (fun j => ((hf1909_ 193 j rfl)).trans (hs193 j)) (fun j => ((hf1909_ 194 j rfl)).trans (hs194 j)) (fun h => absurd h (hM (by assumption)).1) (by first | exact (fun h _ => hC (by assumption) h) | exact (fun _ h => absurd h (by assumption))) (fun _ _ => by have e4 : a 164 = a0 164 := h4; have e := hq1909_4; rw [e4, show a 146 22 = a0 146 22 from by omega] at e; have hM2 := hM (by assumption); have hm := RFM_fr hM2.2.2 (hf1909_ 146 24 rfl) (by rw [e, Int.toNat_natCast, SK_idem]) (fun j => hf1909_ 195 j rfl); have hsk : SK (UB (a0 164)) (a0 146 22).toNat (a1909_ 146 23).toNat = (a1909_ 146 23).toNat := (by rw [e, Int.toNat_natCast, SK_idem]); have h5 := hq1909_5 (by omega); rw [e4] at h5; have hn := RF_next (a1 := jxu a1909_ 146 23 (jxw ((a1909_ 146 23) + 1))) hm hsk (by omega) (by omega) (show (jxw ((a1909_ 146 23) + 1)).toNat = _ from by omega) rfl (fun _ => rfl); rw [show (y2 - 1).toNat + 1 = y2.toNat from by omega] at hn; exact hn)
      ·
        refine jt_bI (sp_X12_fails E d (jd_le hd rfl) 0 (a1909_ 146 23) a1909_ b0 hv1909_) (fun r1923_ a1923_ b1923_ h1923_ => ?_)
        obtain ⟨hv1923_, hf1923_, rfl, hq1923_0, hq1923_1, hq1923_2, hq1923_3⟩ := h1923_
        have h1924_ : a1909_ 146 24 = a 146 24 := hf1909_ 146 24 rfl
        have hf1925_ : jfr jW_X12_rates a0 a1909_ := jfr_tr hf hf1909_ rfl
        have hf1926_ : jfr jW_X12_rates a0 a1923_ := jfr_tr hf1925_ hf1923_ rfl
        have h1927_ := iv_get hv1923_ (k := 146) (j := 68) (l := 0) (u := 10) rfl
        have h1928_ : a1923_ 146 68 = a1909_ 146 68 := hf1923_ 146 68 rfl
        have h1929_ := iv_get hv1909_ (k := 146) (j := 68) (l := 0) (u := 10) rfl
        have h1930_ : a1909_ 146 68 = a 146 68 := hf1909_ 146 68 rfl
        have h1931_ := iv_get hv1923_ (k := 146) (j := 23) (l := 0) (u := 200) rfl
        have h1932_ : a1923_ 146 23 = a1909_ 146 23 := hf1923_ 146 23 rfl
        have h1933_ := iv_get hv1923_ (k := 146) (j := 22) (l := 0) (u := 200) rfl
        have h1934_ : a1923_ 146 22 = a1909_ 146 22 := hf1923_ 146 22 rfl
        have h1935_ := iv_get hv1909_ (k := 146) (j := 22) (l := 0) (u := 200) rfl
        have h1936_ : a1909_ 146 22 = a 146 22 := hf1909_ 146 22 rfl
        exact hc96 y1 y2 r1923_ s0 a1923_ (show (((((a1923_ 146 22) - (a1923_ 146 23)) + (2 * r1923_)) + s0) + 1).toNat ≤ n from by omega) hv1923_ hf1926_ (show 0 ≤ y1 from by omega) (show y1 ≤ 1999 from by omega) (show 0 ≤ r1923_ from by omega) (show r1923_ ≤ 1 from by omega) (show 0 ≤ s0 from by omega) (show s0 ≤ 1 from by omega) (show a1923_ 146 68 ≤ 9 from by omega) (show a1923_ 146 23 ≤ a1923_ 146 22 from by omega) (show 0 ≤ y2 from by omega) (show y2 ≤ 13 from by omega) (show (r1923_ = 1 → y2 ≤ 12) from by omega) (show 0 ≤ r1923_ from by omega) (show 0 ≤ s0 from by omega) (show r1923_ ≤ 1 from by omega) (show s0 ≤ 1 from by omega) (show (s0 = 1 → a1923_ 146 23 < a1923_ 146 22) from by omega) (show a1923_ 146 22 = a0 146 22 from by omega) (show (0 ≤ x1 ∧ x1 ≤ 1999) from by omega) (show (a0 146 22 = 0 → (r1923_ = 0 ∧ a1923_ 146 24 = 1)) from by omega) (show a1923_ 146 68 = a0 146 68 from by omega) (show a1923_ 146 68 ≤ 9 from by omega) (show a1923_ 146 68 = a0 146 68 from by omega) (by first | rfl | assumption) (fun j => (((hf1923_ 192 j rfl).trans (hf1909_ 192 j rfl))).trans (hs192 j)) (fun j => (((hf1923_ 193 j rfl).trans (hf1909_ 193 j rfl))).trans (hs193 j)) (fun j => (((hf1923_ 194 j rfl).trans (hf1909_ 194 j rfl))).trans (hs194 j)) (fun _ => by have e4 : a 164 = a0 164 := h4; have e := hq1909_4; rw [e4, show a 146 22 = a0 146 22 from by omega] at e; have hM2 := hM (by assumption); have hm := RFM_fr hM2.2.2 (hf1909_ 146 24 rfl) (by rw [e, Int.toNat_natCast, SK_idem]) (fun j => hf1909_ 195 j rfl); have hsk : SK (UB (a0 164)) (a0 146 22).toNat (a1909_ 146 23).toNat = (a1909_ 146 23).toNat := (by rw [e, Int.toNat_natCast, SK_idem]); have h5 := hq1909_5 (by omega); rw [e4] at h5; have q := RF_sep (v := a1923_ 146 24) hm hsk (by omega) (by omega) (by have f := hq1923_2; have f24 := hf1909_ 146 24 rfl; have z := hM2.2.2.1; omega); exact q) (by first | exact (fun h _ => hC (by assumption) h) | exact (fun _ h => absurd h (by assumption))) (by first | exact (fun _ h => absurd (by assumption) h) | exact (fun h => absurd (by omega) h))
  have hc65 : ∀ (y1 y2 y3 : Int) (a : Nat → Nat → Int), ((((a 146 22) - (a 146 23)) + (2 * y3)) + 2).toNat ≤ n → iv a → jfr jW_X12_rates a0 a → 0 ≤ y1 → y1 ≤ 1999 → 1 ≤ y3 → y3 ≤ 1 → a 146 68 ≤ 9 → a 146 23 ≤ a 146 22 → 0 ≤ y2 → y2 ≤ 13 → (y3 = 1 → y2 ≤ 12) → 0 ≤ y3 → y3 ≤ 1 → a 146 23 < a 146 22 → ¬ a 164 ((a 146 23).toNat) = 32 → a 146 22 = a0 146 22 → (0 ≤ x1 ∧ x1 ≤ 1999) → 1 ≤ a0 146 22 → a 146 68 = a0 146 68 → a 146 68 ≤ 9 → a 146 68 = a0 146 68 → (y1 = x1) → (∀ j, a 192 j = a0 192 j) → (∀ j, a 193 j = a0 193 j) → (∀ j, a 194 j = a0 194 j) → (RFM a0 a (y2 - 1).toNat) → 1 ≤ y2 → 1 ≤ y3 → jt (jxX E d 282 65 [some (.inr (.inr (.inl 146))), some (.inl y1), some (.inl y2), some (.inl y3), none, none] [] (jxSH, a, b0)) (jQ_X12_rates x1 a0 b0) := by
    intro y1 y2 y3 a hm hv hf hi0 hi1 hi2 hi3 hi4 hi5 hi6 hi7 hi8 hi9 hi10 hi11 hi12 hi13 hi14 hi15 hi16 hi17 hi18 hy1 hs192 hs193 hs194 hM hi24 hi25
    refine jt_eq (bq_X12_rates_65 E d y1 y2 y3 a b0) ?_
    have h1937_ := iv_get hv (k := 146) (j := 68) (l := 0) (u := 10) rfl
    have h1938_ := iv_get hv (k := 146) (j := 23) (l := 0) (u := 200) rfl
    have h1939_ := iv_get hv (k := 146) (j := 22) (l := 0) (u := 200) rfl
    have h1940_ := iv_get hv (k := 164) (j := (a 146 23).toNat) (l := (-128)) (u := 127) rfl
    have h1941_ : a 164 ((a 146 23).toNat) = a0 164 ((a 146 23).toNat) := hf 164 ((a 146 23).toNat) rfl
    have h1942_ := iv_get hv0 (k := 164) (j := (a 146 23).toNat) (l := (-128)) (u := 127) rfl
    have h1943_ := iv_get hv0 (k := 146) (j := 22) (l := 0) (u := 200) rfl
    have h1944_ := iv_get hv0 (k := 146) (j := 68) (l := 0) (u := 10) rfl
    have h4 : a 164 = a0 164 := funext fun j => hf 164 j rfl
    exact hc70 y1 y2 y3 1 a (show (((((a 146 22) - (a 146 23)) + (2 * y3)) + 1) + 1).toNat ≤ n from by omega) hv hf (show 0 ≤ y1 from by omega) (show y1 ≤ 1999 from by omega) (show 0 ≤ y3 from by omega) (show y3 ≤ 1 from by omega) (show 0 ≤ 1 from by omega) (show 1 ≤ 1 from by omega) (show a 146 68 ≤ 9 from by omega) (show a 146 23 ≤ a 146 22 from by omega) (show 0 ≤ y2 from by omega) (show y2 ≤ 13 from by omega) (show (y3 = 1 → y2 ≤ 12) from by omega) (show 0 ≤ y3 from by omega) (show 0 ≤ 1 from by omega) (show y3 ≤ 1 from by omega) (show 1 ≤ 1 from by omega) (show (1 = 1 → (a 146 23 < a 146 22 ∧ ¬ a 164 ((a 146 23).toNat) = 32)) from by omega) (show a 146 22 = a0 146 22 from by omega) (show (0 ≤ x1 ∧ x1 ≤ 1999) from by omega) (show (a0 146 22 = 0 → (y3 = 0 ∧ a 146 24 = 1)) from by omega) (show a 146 68 = a0 146 68 from by omega) (show a 146 68 ≤ 9 from by omega) (show a 146 68 = a0 146 68 from by omega) (by first | rfl | assumption) (fun j => (rfl).trans (hs192 j)) (fun j => (rfl).trans (hs193 j)) (fun j => (rfl).trans (hs194 j)) (by first | exact (fun _ => hB) | exact (fun h => absurd h (by omega))) (by first | exact (fun _ => hC) | exact (fun h => absurd h (by omega))) (by first | exact (fun _ => ⟨by omega, by omega, hM⟩) | exact (fun h => absurd rfl h))
  have hc69 : ∀ (y1 y2 y3 : Int) (a : Nat → Nat → Int), ((((a 146 22) - (a 146 23)) + (2 * y3)) + 1).toNat ≤ n → iv a → jfr jW_X12_rates a0 a → 0 ≤ y1 → y1 ≤ 1999 → 0 ≤ y3 → y3 ≤ 1 → a 146 68 ≤ 9 → a 146 23 ≤ a 146 22 → 0 ≤ y2 → y2 ≤ 13 → (y3 = 1 → y2 ≤ 12) → 0 ≤ y3 → y3 ≤ 1 → a 146 22 = a0 146 22 → (0 ≤ x1 ∧ x1 ≤ 1999) → (a0 146 22 = 0 → (y3 = 0 ∧ a 146 24 = 1)) → a 146 68 = a0 146 68 → a 146 68 ≤ 9 → a 146 68 = a0 146 68 → (y1 = x1) → (∀ j, a 192 j = a0 192 j) → (∀ j, a 193 j = a0 193 j) → (∀ j, a 194 j = a0 194 j) → (y3 = 0 → RFX a0 a) → (¬ y3 = 0 → RFY a0 a y2) → jt (jxX E d 282 69 [some (.inr (.inr (.inl 146))), some (.inl y1), some (.inl y2), some (.inl y3), none, none] [] (jxSH, a, b0)) (jQ_X12_rates x1 a0 b0) := by
    intro y1 y2 y3 a hm hv hf hi0 hi1 hi2 hi3 hi4 hi5 hi6 hi7 hi8 hi9 hi10 hi11 hi12 hi13 hi14 hi15 hi16 hy1 hs192 hs193 hs194 hB hC
    refine jt_eq (bq_X12_rates_69 E d y1 y2 y3 a b0) ?_
    have h1945_ := iv_get hv (k := 146) (j := 68) (l := 0) (u := 10) rfl
    have h1946_ := iv_get hv (k := 146) (j := 23) (l := 0) (u := 200) rfl
    have h1947_ := iv_get hv (k := 146) (j := 22) (l := 0) (u := 200) rfl
    have h1948_ := iv_get hv0 (k := 146) (j := 22) (l := 0) (u := 200) rfl
    have h1949_ := iv_get hv0 (k := 146) (j := 68) (l := 0) (u := 10) rfl
    have h4 : a 164 = a0 164 := funext fun j => hf 164 j rfl
    have h1950_ := iv_get hv (k := 164) (j := (a 146 23).toNat) (l := (-128)) (u := 127) rfl
    have h1951_ : a 164 ((a 146 23).toNat) = a0 164 ((a 146 23).toNat) := hf 164 ((a 146 23).toNat) rfl
    have h1952_ := iv_get hv0 (k := 164) (j := (a 146 23).toNat) (l := (-128)) (u := 127) rfl
    exact hc70 y1 y2 y3 0 a (show (((((a 146 22) - (a 146 23)) + (2 * y3)) + 0) + 1).toNat ≤ n from by omega) hv hf (show 0 ≤ y1 from by omega) (show y1 ≤ 1999 from by omega) (show 0 ≤ y3 from by omega) (show y3 ≤ 1 from by omega) (show 0 ≤ 0 from by omega) (show 0 ≤ 1 from by omega) (show a 146 68 ≤ 9 from by omega) (show a 146 23 ≤ a 146 22 from by omega) (show 0 ≤ y2 from by omega) (show y2 ≤ 13 from by omega) (show (y3 = 1 → y2 ≤ 12) from by omega) (show 0 ≤ y3 from by omega) (show 0 ≤ 0 from by omega) (show y3 ≤ 1 from by omega) (show 0 ≤ 1 from by omega) (show (0 = 1 → (a 146 23 < a 146 22 ∧ ¬ a 164 ((a 146 23).toNat) = 32)) from by omega) (show a 146 22 = a0 146 22 from by omega) (show (0 ≤ x1 ∧ x1 ≤ 1999) from by omega) (show (a0 146 22 = 0 → (y3 = 0 ∧ a 146 24 = 1)) from by omega) (show a 146 68 = a0 146 68 from by omega) (show a 146 68 ≤ 9 from by omega) (show a 146 68 = a0 146 68 from by omega) (by first | rfl | assumption) (fun j => (rfl).trans (hs192 j)) (fun j => (rfl).trans (hs193 j)) (fun j => (rfl).trans (hs194 j)) (by first | exact (fun _ => hB) | exact (fun h => absurd h (by omega))) (by first | exact (fun _ => hC) | exact (fun h => absurd h (by omega))) (by first | exact (fun _ => ⟨by omega, by omega, hM⟩) | exact (fun h => absurd rfl h))
  have hc35 : ∀ (y1 y2 y3 y4 : Int) (a : Nat → Nat → Int), ((((a 146 22) - (a 146 23)) + y3) + y4).toNat ≤ n → iv a → jfr jW_X12_rates a0 a → 0 ≤ y1 → y1 ≤ 1999 → 0 ≤ y3 → y3 ≤ 1 → 0 ≤ y4 → y4 ≤ 1 → a 146 68 ≤ 9 → a 146 23 ≤ a 146 22 → 0 ≤ y2 → y2 ≤ 13 → (y3 = 1 → y2 ≤ 12) → 0 ≤ y3 → 0 ≤ y4 → y3 ≤ 1 → y4 ≤ 1 → a 146 22 = a0 146 22 → (0 ≤ x1 ∧ x1 ≤ 1999) → (a0 146 22 = 0 → (((a 146 24 = 0 ∧ ¬ y3 = 0) ∧ ¬ y4 = 0) ∨ (y3 = 0 ∧ a 146 24 = 1))) → a 146 68 = a0 146 68 → a 146 68 ≤ 9 → a 146 68 = a0 146 68 → (y1 = x1) → (∀ j, a 192 j = a0 192 j) → (∀ j, a 193 j = a0 193 j) → (∀ j, a 194 j = a0 194 j) → (¬ y3 = 0 → ¬ y4 = 0 → RFL a0 a y2.toNat) → (y3 = 0 → RFX a0 a) → (¬ y3 = 0 → y4 = 0 → RFY a0 a y2) → jt (jxX E d 282 35 [some (.inr (.inr (.inl 146))), some (.inl y1), some (.inl y2), some (.inl y3), some (.inl y4), none] [] (jxSH, a, b0)) (jQ_X12_rates x1 a0 b0) := by
    intro y1 y2 y3 y4 a hm hv hf hi0 hi1 hi2 hi3 hi4 hi5 hi6 hi7 hi8 hi9 hi10 hi11 hi12 hi13 hi14 hi15 hi16 hi17 hi18 hi19 hi20 hy1 hs192 hs193 hs194 hA hB hC
    refine jt_eq (bq_X12_rates_35 E d y1 y2 y3 y4 a b0) ?_
    have h1953_ := iv_get hv (k := 146) (j := 68) (l := 0) (u := 10) rfl
    have h1954_ := iv_get hv (k := 146) (j := 23) (l := 0) (u := 200) rfl
    have h1955_ := iv_get hv (k := 146) (j := 22) (l := 0) (u := 200) rfl
    have h1956_ := iv_get hv0 (k := 146) (j := 22) (l := 0) (u := 200) rfl
    have h1957_ := iv_get hv0 (k := 146) (j := 68) (l := 0) (u := 10) rfl
    have h4 : a 164 = a0 164 := funext fun j => hf 164 j rfl
    have hz24 : ¬ y3 = 0 → ¬ y4 = 0 → a 146 24 = 0 := fun h1 h2 => (hA h1 h2).1
    refine jt_ite (fun c1958_ => ?_) (fun c1958_ => ?_)
    ·
      exact cp_X12_rates_114 E d hd x1 a0 b0 hv0 y1 y2 y3 a hv hf (show 0 ≤ y1 from by omega) (show y1 ≤ 1999 from by omega) (show 0 ≤ y3 from by omega) (show y3 ≤ 1 from by omega) (show a 146 68 ≤ 9 from by omega) (show a 146 23 ≤ a 146 22 from by omega) (show 0 ≤ y2 from by omega) (show y2 ≤ 13 from by omega) (show (y3 = 1 → y2 ≤ 12) from by omega) (show 0 ≤ y3 from by omega) (show y3 ≤ 1 from by omega) (show a 146 22 = a0 146 22 from by omega) (show (0 ≤ x1 ∧ x1 ≤ 1999) from by omega) (show (a0 146 22 = 0 → (y3 = 0 ∧ a 146 24 = 1)) from by omega) (show a 146 68 = a0 146 68 from by omega) (show a 146 68 ≤ 9 from by omega) (show a 146 68 = a0 146 68 from by omega) (by first | rfl | assumption) (fun j => (rfl).trans (hs192 j)) (fun j => (rfl).trans (hs193 j)) (fun j => (rfl).trans (hs194 j)) (by first | exact hB | exact (fun h => absurd (by assumption) h)) (by first | exact (fun h => absurd (by assumption) h) | exact (fun h => hC h (by assumption)))
    ·
      refine jt_ite (fun c1959_ => ?_) (fun c1959_ => ?_)
      ·
        exact cp_X12_rates_114 E d hd x1 a0 b0 hv0 y1 y2 y3 a hv hf (show 0 ≤ y1 from by omega) (show y1 ≤ 1999 from by omega) (show 0 ≤ y3 from by omega) (show y3 ≤ 1 from by omega) (show a 146 68 ≤ 9 from by omega) (show a 146 23 ≤ a 146 22 from by omega) (show 0 ≤ y2 from by omega) (show y2 ≤ 13 from by omega) (show (y3 = 1 → y2 ≤ 12) from by omega) (show 0 ≤ y3 from by omega) (show y3 ≤ 1 from by omega) (show a 146 22 = a0 146 22 from by omega) (show (0 ≤ x1 ∧ x1 ≤ 1999) from by omega) (show (a0 146 22 = 0 → (y3 = 0 ∧ a 146 24 = 1)) from by omega) (show a 146 68 = a0 146 68 from by omega) (show a 146 68 ≤ 9 from by omega) (show a 146 68 = a0 146 68 from by omega) (by first | rfl | assumption) (fun j => (rfl).trans (hs192 j)) (fun j => (rfl).trans (hs193 j)) (fun j => (rfl).trans (hs194 j)) (by first | exact hB | exact (fun h => absurd (by assumption) h)) (by first | exact (fun h => absurd (by assumption) h) | exact (fun h => hC h (by assumption)))
      ·
        refine jt_bI (sp_X12_clause E d (jd_le hd rfl) y2 a b0 hv (show a 146 23 ≤ a 146 22 from by omega) (show 0 ≤ y2 from by omega) (show y2 ≤ 12 from by omega) (show a 146 24 = 0 from by omega)) (fun r1960_ a1960_ b1960_ h1960_ => ?_)
        obtain ⟨hv1960_, hf1960_, rfl, hq1960_0, hq1960_1, hq1960_2, hq1960_3, hq1960_4, hq1960_5, hq1960_6, hq1960_7⟩ := h1960_
        have h1961_ := iv_get hv1960_ (k := 146) (j := 23) (l := 0) (u := 200) rfl
        have h1962_ := iv_get hv1960_ (k := 146) (j := 22) (l := 0) (u := 200) rfl
        have h1963_ : a1960_ 146 22 = a 146 22 := hf1960_ 146 22 rfl
        have h195_1960 : True := trivial
        refine jt_ite (fun c1964_ => ?_) (fun c1964_ => ?_)
        ·
          have hf1965_ : jfr jW_X12_rates a0 a1960_ := jfr_tr hf hf1960_ rfl
          have h1966_ := iv_get hv1960_ (k := 146) (j := 68) (l := 0) (u := 10) rfl
          have h1967_ : a1960_ 146 68 = a 146 68 := hf1960_ 146 68 rfl
          have h1968_ : jxw (y2 + 1) = y2 + 1 := jxw_id (by omega) (by omega)
          exact hc69 y1 (jxw (y2 + 1)) r1960_ a1960_ (show ((((a1960_ 146 22) - (a1960_ 146 23)) + (2 * r1960_)) + 1).toNat ≤ n from by omega) hv1960_ hf1965_ (show 0 ≤ y1 from by omega) (show y1 ≤ 1999 from by omega) (show 0 ≤ r1960_ from by omega) (show r1960_ ≤ 1 from by omega) (show a1960_ 146 68 ≤ 9 from by omega) (show a1960_ 146 23 ≤ a1960_ 146 22 from by omega) (show 0 ≤ jxw (y2 + 1) from by omega) (show jxw (y2 + 1) ≤ 13 from by omega) (show (r1960_ = 1 → jxw (y2 + 1) ≤ 12) from by omega) (show 0 ≤ r1960_ from by omega) (show r1960_ ≤ 1 from by omega) (show a1960_ 146 22 = a0 146 22 from by omega) (show (0 ≤ x1 ∧ x1 ≤ 1999) from by omega) (show (a0 146 22 = 0 → (r1960_ = 0 ∧ a1960_ 146 24 = 1)) from by omega) (show a1960_ 146 68 = a0 146 68 from by omega) (show a1960_ 146 68 ≤ 9 from by omega) (show a1960_ 146 68 = a0 146 68 from by omega) (by first | rfl | assumption) (fun j => ((hf1960_ 192 j rfl)).trans (hs192 j)) (fun j => ((hf1960_ 193 j rfl)).trans (hs193 j)) (fun j => ((hf1960_ 194 j rfl)).trans (hs194 j)) (fun _ => RF_bad (c := y2) (by omega) (hA (by assumption) (by assumption)) h4 (by omega) (hq1960_6 (by omega))) (fun h => absurd (by assumption) h)
        ·
          refine jt_bI (sp_X12_see E d (jd_le hd rfl) a1960_ b0 hv1960_ (show a1960_ 146 23 ≤ a1960_ 146 22 from by omega)) (fun r1969_ a1969_ b1969_ h1969_ => ?_)
          obtain ⟨hv1969_, hf1969_, rfl, hq1969_0, hq1969_1, hq1969_2, hq1969_3, hq1969_4, hq1969_5⟩ := h1969_
          have h1970_ := iv_get hv1969_ (k := 146) (j := 23) (l := 0) (u := 200) rfl
          have h1971_ := iv_get hv1969_ (k := 164) (j := (a1969_ 146 23).toNat) (l := (-128)) (u := 127) rfl
          have h1972_ : a1969_ 164 ((a1969_ 146 23).toNat) = a1960_ 164 ((a1969_ 146 23).toNat) := hf1969_ 164 ((a1969_ 146 23).toNat) rfl
          have h1973_ := iv_get hv1960_ (k := 164) (j := (a1969_ 146 23).toNat) (l := (-128)) (u := 127) rfl
          have h1974_ : a1960_ 164 ((a1969_ 146 23).toNat) = a 164 ((a1969_ 146 23).toNat) := hf1960_ 164 ((a1969_ 146 23).toNat) rfl
          have h1975_ := iv_get hv (k := 164) (j := (a1969_ 146 23).toNat) (l := (-128)) (u := 127) rfl
          have h1976_ : a 164 ((a1969_ 146 23).toNat) = a0 164 ((a1969_ 146 23).toNat) := hf 164 ((a1969_ 146 23).toNat) rfl
          have h1977_ := iv_get hv0 (k := 164) (j := (a1969_ 146 23).toNat) (l := (-128)) (u := 127) rfl
          have h1978_ := iv_get hv1960_ (k := 164) (j := (a1960_ 146 23).toNat) (l := (-128)) (u := 127) rfl
          have h1979_ : a1960_ 164 ((a1960_ 146 23).toNat) = a 164 ((a1960_ 146 23).toNat) := hf1960_ 164 ((a1960_ 146 23).toNat) rfl
          have h1980_ := iv_get hv (k := 164) (j := (a1960_ 146 23).toNat) (l := (-128)) (u := 127) rfl
          have h1981_ : a 164 ((a1960_ 146 23).toNat) = a0 164 ((a1960_ 146 23).toNat) := hf 164 ((a1960_ 146 23).toNat) rfl
          have h1982_ := iv_get hv0 (k := 164) (j := (a1960_ 146 23).toNat) (l := (-128)) (u := 127) rfl
          refine jt_ite (fun c1983_ => ?_) (fun c1983_ => ?_)
          ·
            have hf1984_ : jfr jW_X12_rates a0 a1960_ := jfr_tr hf hf1960_ rfl
            have hf1985_ : jfr jW_X12_rates a0 a1969_ := jfr_tr hf1984_ hf1969_ rfl
            have h1986_ := iv_get hv1969_ (k := 146) (j := 68) (l := 0) (u := 10) rfl
            have h1987_ : a1969_ 146 68 = a1960_ 146 68 := hf1969_ 146 68 rfl
            have h1988_ := iv_get hv1960_ (k := 146) (j := 68) (l := 0) (u := 10) rfl
            have h1989_ : a1960_ 146 68 = a 146 68 := hf1960_ 146 68 rfl
            have h1990_ := iv_get hv1969_ (k := 146) (j := 22) (l := 0) (u := 200) rfl
            have h1991_ : a1969_ 146 22 = a1960_ 146 22 := hf1969_ 146 22 rfl
            have h1992_ : jxw (y2 + 1) = y2 + 1 := jxw_id (by omega) (by omega)
            have h1993_ : a1969_ 146 24 = a1960_ 146 24 := hf1969_ 146 24 rfl
            exact hc69 y1 (jxw (y2 + 1)) r1960_ a1969_ (show ((((a1969_ 146 22) - (a1969_ 146 23)) + (2 * r1960_)) + 1).toNat ≤ n from by omega) hv1969_ hf1985_ (show 0 ≤ y1 from by omega) (show y1 ≤ 1999 from by omega) (show 0 ≤ r1960_ from by omega) (show r1960_ ≤ 1 from by omega) (show a1969_ 146 68 ≤ 9 from by omega) (show a1969_ 146 23 ≤ a1969_ 146 22 from by omega) (show 0 ≤ jxw (y2 + 1) from by omega) (show jxw (y2 + 1) ≤ 13 from by omega) (show (r1960_ = 1 → jxw (y2 + 1) ≤ 12) from by omega) (show 0 ≤ r1960_ from by omega) (show r1960_ ≤ 1 from by omega) (show a1969_ 146 22 = a0 146 22 from by omega) (show (0 ≤ x1 ∧ x1 ≤ 1999) from by omega) (show (a0 146 22 = 0 → (r1960_ = 0 ∧ a1969_ 146 24 = 1)) from by omega) (show a1969_ 146 68 = a0 146 68 from by omega) (show a1969_ 146 68 ≤ 9 from by omega) (show a1969_ 146 68 = a0 146 68 from by omega) (by first | rfl | assumption) (fun j => (((hf1969_ 192 j rfl).trans (hf1960_ 192 j rfl))).trans (hs192 j)) (fun j => (((hf1969_ 193 j rfl).trans (hf1960_ 193 j rfl))).trans (hs193 j)) (fun j => (((hf1969_ 194 j rfl).trans (hf1960_ 194 j rfl))).trans (hs194 j)) (fun h => absurd h (by omega)) (fun _ => by rw [show jxw (y2 + 1) = (y2.toNat : Int) + 1 from by omega]; exact RF_end (RFM_fr (RF_good (a1 := a1960_) (c := y2) (by omega) (hA (by assumption) (by assumption)) h4 (by omega) (hq1960_7 (by omega)) (hq1960_5 (by omega))) (hf1969_ 146 24 rfl) (by have e := hq1969_4; have e4 : a1960_ 164 = a0 164 := (funext fun j => (hf1960_ 164 j rfl).trans (congrFun h4 j)); have e22 : a1960_ 146 22 = a0 146 22 := (hf1960_ 146 22 rfl).trans (by omega); rw [e4, e22] at e; rw [e, Int.toNat_natCast, SK_idem]) (fun j => hf1969_ 195 j rfl)) (by have e := hq1969_4; have e4 : a1960_ 164 = a0 164 := (funext fun j => (hf1960_ 164 j rfl).trans (congrFun h4 j)); have e22 : a1960_ 146 22 = a0 146 22 := (hf1960_ 146 22 rfl).trans (by omega); rw [e4, e22] at e; rw [e, Int.toNat_natCast, SK_idem]; omega))
          ·
            have hf1994_ : jfr jW_X12_rates a0 a1960_ := jfr_tr hf hf1960_ rfl
            have hf1995_ : jfr jW_X12_rates a0 a1969_ := jfr_tr hf1994_ hf1969_ rfl
            have h1996_ := iv_get hv1969_ (k := 146) (j := 68) (l := 0) (u := 10) rfl
            have h1997_ : a1969_ 146 68 = a1960_ 146 68 := hf1969_ 146 68 rfl
            have h1998_ := iv_get hv1960_ (k := 146) (j := 68) (l := 0) (u := 10) rfl
            have h1999_ : a1960_ 146 68 = a 146 68 := hf1960_ 146 68 rfl
            have h2000_ := iv_get hv1969_ (k := 146) (j := 22) (l := 0) (u := 200) rfl
            have h2001_ : a1969_ 146 22 = a1960_ 146 22 := hf1969_ 146 22 rfl
            have h2002_ : jxw (y2 + 1) = y2 + 1 := jxw_id (by omega) (by omega)
            exact hc65 y1 (jxw (y2 + 1)) r1960_ a1969_ (show ((((a1969_ 146 22) - (a1969_ 146 23)) + (2 * r1960_)) + 2).toNat ≤ n from by omega) hv1969_ hf1995_ (show 0 ≤ y1 from by omega) (show y1 ≤ 1999 from by omega) (show 1 ≤ r1960_ from by omega) (show r1960_ ≤ 1 from by omega) (show a1969_ 146 68 ≤ 9 from by omega) (show a1969_ 146 23 ≤ a1969_ 146 22 from by omega) (show 0 ≤ jxw (y2 + 1) from by omega) (show jxw (y2 + 1) ≤ 13 from by omega) (show (r1960_ = 1 → jxw (y2 + 1) ≤ 12) from by omega) (show 0 ≤ r1960_ from by omega) (show r1960_ ≤ 1 from by omega) (show a1969_ 146 23 < a1969_ 146 22 from by omega) (show ¬ a1969_ 164 ((a1969_ 146 23).toNat) = 32 from by omega) (show a1969_ 146 22 = a0 146 22 from by omega) (show (0 ≤ x1 ∧ x1 ≤ 1999) from by omega) (show 1 ≤ a0 146 22 from by omega) (show a1969_ 146 68 = a0 146 68 from by omega) (show a1969_ 146 68 ≤ 9 from by omega) (show a1969_ 146 68 = a0 146 68 from by omega) (by first | rfl | assumption) (fun j => (((hf1969_ 192 j rfl).trans (hf1960_ 192 j rfl))).trans (hs192 j)) (fun j => (((hf1969_ 193 j rfl).trans (hf1960_ 193 j rfl))).trans (hs193 j)) (fun j => (((hf1969_ 194 j rfl).trans (hf1960_ 194 j rfl))).trans (hs194 j)) (by rw [show (jxw (y2 + 1) - 1).toNat = y2.toNat from by omega]; exact (RFM_fr (RF_good (a1 := a1960_) (c := y2) (by omega) (hA (by assumption) (by assumption)) h4 (by omega) (hq1960_7 (by omega)) (hq1960_5 (by omega))) (hf1969_ 146 24 rfl) (by have e := hq1969_4; have e4 : a1960_ 164 = a0 164 := (funext fun j => (hf1960_ 164 j rfl).trans (congrFun h4 j)); have e22 : a1960_ 146 22 = a0 146 22 := (hf1960_ 146 22 rfl).trans (by omega); rw [e4, e22] at e; rw [e, Int.toNat_natCast, SK_idem]) (fun j => hf1969_ 195 j rfl))) (show 1 ≤ jxw (y2 + 1) from by omega) (show 1 ≤ r1960_ from by omega)
  exact ⟨hc96, hc70, hc65, hc69, hc35⟩
theorem cp_X12_rates_30 (E : jxE) (d : Nat) (hd : Nat.ble 4 (d + 1) = true) (x1 : Int) (a0 b0 : Nat → Nat → Int) (hv0 : iv a0) : ∀ (y1 y2 : Int) (a : Nat → Nat → Int), iv a → jfr jW_X12_rates a0 a → 0 ≤ y1 → y1 ≤ 1999 → 0 ≤ y2 → y2 ≤ 0 → a 146 68 ≤ 9 → a 146 23 ≤ a 146 22 → a 146 22 = a0 146 22 → a 146 24 = 0 → (0 ≤ x1 ∧ x1 ≤ 1999) → a 146 68 = a0 146 68 → a 146 68 ≤ 9 → a 146 68 = a0 146 68 → (y1 = x1) → (∀ j, a 192 j = a0 192 j) → (∀ j, a 193 j = a0 193 j) → (∀ j, a 194 j = a0 194 j) → a 146 23 = 0 → jt (jxX E d 282 30 [some (.inr (.inr (.inl 146))), some (.inl y1), some (.inl y2), none, none, none] [] (jxSH, a, b0)) (jQ_X12_rates x1 a0 b0) := by
  intro y1 y2 a hv hf hi0 hi1 hi2 hi3 hi4 hi5 hi6 hi7 hi8 hi9 hi10 hi11 hy1 hs192 hs193 hs194 hi16
  refine jt_eq (bq_X12_rates_30 E d y1 y2 a b0) ?_
  have h2003_ := iv_get hv (k := 146) (j := 68) (l := 0) (u := 10) rfl
  have h2004_ := iv_get hv (k := 146) (j := 23) (l := 0) (u := 200) rfl
  have h2005_ := iv_get hv (k := 146) (j := 22) (l := 0) (u := 200) rfl
  have h2006_ := iv_get hv0 (k := 146) (j := 22) (l := 0) (u := 200) rfl
  have h2007_ := iv_get hv0 (k := 146) (j := 68) (l := 0) (u := 10) rfl
  have h4 : a 164 = a0 164 := funext fun j => hf 164 j rfl
  exact (cp_X12_rates_35 E d hd x1 a0 b0 hv0 _).2.2.2.2 y1 y2 1 1 a (Nat.le_refl _) hv hf (show 0 ≤ y1 from by omega) (show y1 ≤ 1999 from by omega) (show 0 ≤ 1 from by omega) (show 1 ≤ 1 from by omega) (show 0 ≤ 1 from by omega) (show 1 ≤ 1 from by omega) (show a 146 68 ≤ 9 from by omega) (show a 146 23 ≤ a 146 22 from by omega) (show 0 ≤ y2 from by omega) (show y2 ≤ 13 from by omega) (show (1 = 1 → y2 ≤ 12) from by omega) (show 0 ≤ 1 from by omega) (show 0 ≤ 1 from by omega) (show 1 ≤ 1 from by omega) (show 1 ≤ 1 from by omega) (show a 146 22 = a0 146 22 from by omega) (show (0 ≤ x1 ∧ x1 ≤ 1999) from by omega) (show (a0 146 22 = 0 → (((a 146 24 = 0 ∧ ¬ 1 = 0) ∧ ¬ 1 = 0) ∨ (1 = 0 ∧ a 146 24 = 1))) from by omega) (show a 146 68 = a0 146 68 from by omega) (show a 146 68 ≤ 9 from by omega) (show a 146 68 = a0 146 68 from by omega) (by first | rfl | assumption) (fun j => (rfl).trans (hs192 j)) (fun j => (rfl).trans (hs193 j)) (fun j => (rfl).trans (hs194 j)) (by first | exact (fun _ _ => ⟨by omega, by rw [show (a 146 23).toNat = 0 from by omega]; rfl, fun k hk => absurd hk (by omega), fun k hk => absurd hk (by omega)⟩) | exact (fun h1 h2 => absurd (by omega : False) id) | exact (fun h1 h2 => hN h1 h2)) (by first | exact hB | exact (fun h => absurd h (by omega))) (by first | exact (fun _ h => absurd h (by omega)) | exact (fun h _ => hC h (by assumption)) | exact (fun h1 h2 => absurd h2 (by assumption)))
theorem sp_X12_rates (E : jxE) (d : Nat) (hd : Nat.ble 4 d = true) (x1 : Int) (a0 b0 : Nat → Nat → Int) (hv0 : iv a0) : jt (jxC E d 282 [.inr (.inr (.inl 146)), .inl x1] (jxSH, a0, b0)) (jQ_X12_rates x1 a0 b0) := by
  obtain ⟨d, rfl⟩ := jd_succ hd
  refine jt_eq (bq_X12_rates E d x1 a0 b0) ?_
  have h2008_ := iv_get hv0 (k := 146) (j := 68) (l := 0) (u := 10) rfl
  refine jt_ite (fun c2009_ => ?_) (fun c2009_ => ?_)
  ·
    have h2010_ := iv_get hv0 (k := 146) (j := 22) (l := 0) (u := 200) rfl
    exact jt_rI ⟨hv0, (jfr_rf _ _), rfl, (show ((a0 146 22 = 0 ∧ a0 146 68 = 0) → (((0 ≤ x1 ∧ x1 ≤ 1999) ∧ (-1) = 0 - 3) ∨ ((x1 < 0 ∨ 1999 < x1) ∧ (-1) = 0 - 1))) from by omega), (fun h => absurd h (by omega)), (fun h => absurd h (by decide)), (fun _ j => ⟨rfl, rfl, rfl⟩), (show (((x1 < 0 ∨ 1999 < x1) ∨ 9 < a0 146 68) → (((-1) = 0 - 1 ∧ a0 146 68 = a0 146 68) ∧ a0 146 22 = a0 146 22)) from by omega), (show (((0 ≤ x1 ∧ x1 ≤ 1999) ∧ a0 146 68 ≤ 9) → a0 146 22 = 0) from by omega)⟩
  ·
    refine jt_eI (eq_X12_isDay E d (jd_le hd rfl) x1 a0 b0) ?_
    have h2011_ := f_X12_isDay_eq a0 b0 x1
    have h2012_ := f_X12_in_eq a0 b0 x1 0 1999
    refine jt_ite (fun c2013_ => ?_) (fun c2013_ => ?_)
    ·
      have h2014_ := iv_get hv0 (k := 146) (j := 22) (l := 0) (u := 200) rfl
      exact jt_rI ⟨hv0, (jfr_rf _ _), rfl, (show ((a0 146 22 = 0 ∧ a0 146 68 = 0) → (((0 ≤ x1 ∧ x1 ≤ 1999) ∧ (-1) = 0 - 3) ∨ ((x1 < 0 ∨ 1999 < x1) ∧ (-1) = 0 - 1))) from by omega), (fun h => absurd h (by omega)), (fun h => absurd h (by decide)), (fun _ j => ⟨rfl, rfl, rfl⟩), (show (((x1 < 0 ∨ 1999 < x1) ∨ 9 < a0 146 68) → (((-1) = 0 - 1 ∧ a0 146 68 = a0 146 68) ∧ a0 146 22 = a0 146 22)) from by omega), (show (((0 ≤ x1 ∧ x1 ≤ 1999) ∧ a0 146 68 ≤ 9) → a0 146 22 = 0) from by omega)⟩
    ·
      have hv2015_ : iv (jxu a0 146 23 0) := iv_put hv0 (l := 0) (u := 200) rfl (by omega) (by omega)
      have hv2016_ : iv (jxu (jxu a0 146 23 0) 146 24 0) := iv_putf hv2015_ rfl
      have hf2017_ : jfr jW_X12_rates a0 (jxu a0 146 23 0) := jfr_put (jfr_rf _ _) rfl
      have hf2018_ : jfr jW_X12_rates a0 (jxu (jxu a0 146 23 0) 146 24 0) := jfr_put hf2017_ rfl
      have h2019_ := iv_get hv0 (k := 146) (j := 22) (l := 0) (u := 200) rfl
      exact cp_X12_rates_30 E d hd x1 a0 b0 hv0 x1 0 (jxu (jxu a0 146 23 0) 146 24 0) hv2016_ hf2018_ (show 0 ≤ x1 from by omega) (show x1 ≤ 1999 from by omega) (show 0 ≤ 0 from by omega) (show 0 ≤ 0 from by omega) (show a0 146 68 ≤ 9 from by omega) (show 0 ≤ a0 146 22 from by omega) (show a0 146 22 = a0 146 22 from by omega) (show 0 = 0 from by omega) (show (0 ≤ x1 ∧ x1 ≤ 1999) from by omega) (show a0 146 68 = a0 146 68 from by omega) (show a0 146 68 ≤ 9 from by omega) (show a0 146 68 = a0 146 68 from by omega) (by first | rfl | assumption) (fun j => rfl) (fun j => rfl) (fun j => rfl) (show 0 = 0 from by omega)
