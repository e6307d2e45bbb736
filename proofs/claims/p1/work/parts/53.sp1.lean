def jW_X8_noteFault : List (Nat × Nat) := [(2, 3)]
abbrev jQ_X8_noteFault (x1 x2 : Int) (a0 b0 : Nat → Nat → Int) : List jxV → (Nat → Nat → Int) → (Nat → Nat → Int) → Prop := rV (fun a b => (iv a) ∧ (jfr jW_X8_noteFault a0 a) ∧ (b0 = b) ∧ ((((((a0 2 3 = 0 ∧ 0 ≤ x1) ∧ x1 ≤ 200) ∧ 0 ≤ x2) ∧ x2 ≤ 7) → a 2 3 = (1 + (8 * x1)) + x2)) ∧ ((¬ a0 2 3 = 0 → a 2 3 = a0 2 3)))
theorem sp_X8_noteFault (E : jxE) (d : Nat) (hd : Nat.ble 1 d = true) (x1 x2 : Int) (a0 b0 : Nat → Nat → Int) (hv0 : iv a0) : jt (jxC E d 124 [.inr (.inr (.inl 2)), .inl x1, .inl x2] (jxSH, a0, b0)) (jQ_X8_noteFault x1 x2 a0 b0) := by
  obtain ⟨d, rfl⟩ := jd_succ hd
  refine jt_eq (bq_X8_noteFault E d x1 x2 a0 b0) ?_
  refine jt_ite (fun c1_ => ?_) (fun c1_ => ?_)
  ·
    have hv2_ : iv (jxu a0 2 3 (jxw ((jxw (1 + (jxw (8 * x1)))) + x2))) := iv_putf hv0 rfl
    have hf3_ : jfr jW_X8_noteFault a0 (jxu a0 2 3 (jxw ((jxw (1 + (jxw (8 * x1)))) + x2))) := jfr_put (jfr_rf _ _) rfl
    have h4_ := jxw_im (8 * x1)
    have h5_ := jxw_rg (8 * x1)
    have h6_ := jxw_im (1 + (jxw (8 * x1)))
    have h7_ := jxw_rg (1 + (jxw (8 * x1)))
    have h8_ := jxw_im ((jxw (1 + (jxw (8 * x1)))) + x2)
    have h9_ := jxw_rg ((jxw (1 + (jxw (8 * x1)))) + x2)
    exact jt_rV ⟨hv2_, hf3_, rfl, (show (((((a0 2 3 = 0 ∧ 0 ≤ x1) ∧ x1 ≤ 200) ∧ 0 ≤ x2) ∧ x2 ≤ 7) → jxw ((jxw (1 + (jxw (8 * x1)))) + x2) = (1 + (8 * x1)) + x2) from by omega), (show (¬ a0 2 3 = 0 → jxw ((jxw (1 + (jxw (8 * x1)))) + x2) = a0 2 3) from by omega)⟩
  ·
    exact jt_rV ⟨hv0, (jfr_rf _ _), rfl, (show (((((a0 2 3 = 0 ∧ 0 ≤ x1) ∧ x1 ≤ 200) ∧ 0 ≤ x2) ∧ x2 ≤ 7) → a0 2 3 = (1 + (8 * x1)) + x2) from by omega), (show (¬ a0 2 3 = 0 → a0 2 3 = a0 2 3) from by omega)⟩
def jW_X8_noteCannotStand : List (Nat × Nat) := [(2, 3)]
abbrev jQ_X8_noteCannotStand (a0 b0 : Nat → Nat → Int) : List jxV → (Nat → Nat → Int) → (Nat → Nat → Int) → Prop := rV (fun a b => (iv a) ∧ (jfr jW_X8_noteCannotStand a0 a) ∧ (b0 = b) ∧ ((a0 2 3 = 0 → a 2 3 = 1 + (8 * (a0 2 2)))) ∧ ((¬ a0 2 3 = 0 → a 2 3 = a0 2 3)))
theorem sp_X8_noteCannotStand (E : jxE) (d : Nat) (hd : Nat.ble 2 d = true) (a0 b0 : Nat → Nat → Int) (hv0 : iv a0) : jt (jxC E d 125 [.inr (.inr (.inl 2))] (jxSH, a0, b0)) (jQ_X8_noteCannotStand a0 b0) := by
  obtain ⟨d, rfl⟩ := jd_succ hd
  refine jt_eq (bq_X8_noteCannotStand E d a0 b0) ?_
  refine jt_bV (sp_X8_noteFault E d (jd_le hd rfl) (a0 2 2) 0 a0 b0 hv0) (fun a10_ b10_ h10_ => ?_)
  obtain ⟨hv10_, hf10_, rfl, hq10_0, hq10_1⟩ := h10_
  have h11_ := iv_get hv0 (k := 2) (j := 2) (l := 0) (u := 200) rfl
  have hf12_ : jfr jW_X8_noteCannotStand a0 a10_ := jfr_tr (jfr_rf _ _) hf10_ rfl
  exact jt_rV ⟨hv10_, hf12_, rfl, (show (a0 2 3 = 0 → a10_ 2 3 = 1 + (8 * (a0 2 2))) from by omega), (show (¬ a0 2 3 = 0 → a10_ 2 3 = a0 2 3) from by omega)⟩
def jW_X8_skipBlanks : List (Nat × Nat) := [(2, 2)]
abbrev jQ_X8_skipBlanks (a0 b0 : Nat → Nat → Int) : List jxV → (Nat → Nat → Int) → (Nat → Nat → Int) → Prop := rV (fun a b => (iv a) ∧ (jfr jW_X8_skipBlanks a0 a) ∧ (b0 = b) ∧ ((a0 2 1 ≤ a0 2 2 → a 2 2 = a0 2 2)))
theorem cp_X8_skipBlanks_0 (E : jxE) (d : Nat) (hd : Nat.ble 1 (d + 1) = true) (a0 b0 : Nat → Nat → Int) (hv0 : iv a0) : ∀ n : Nat, (∀ (a : Nat → Nat → Int), ((((a 2 1) - (a 2 2)) * 2) + 1).toNat ≤ n → iv a → jfr jW_X8_skipBlanks a0 a → 1 ≤ a 2 1 → 1 ≤ a 2 2 → a 2 2 ≤ a 2 1 → a0 2 2 < a0 2 1 → jt (jxX E d 131 35 [some (.inr (.inr (.inl 2)))] [] (jxSH, a, b0)) (jQ_X8_skipBlanks a0 b0)) ∧ (∀ (a : Nat → Nat → Int), ((((a 2 1) - (a 2 2)) * 2) + 0).toNat ≤ n → iv a → jfr jW_X8_skipBlanks a0 a → 1 ≤ a 2 1 → 1 ≤ a 2 2 → a0 2 2 < a0 2 1 → jt (jxX E d 131 0 [some (.inr (.inr (.inl 2)))] [] (jxSH, a, b0)) (jQ_X8_skipBlanks a0 b0)) := by
  refine jx_ind fun n ih => ?_
  have ih35 : ∀ (a : Nat → Nat → Int), ((((a 2 1) - (a 2 2)) * 2) + 1).toNat < n → iv a → jfr jW_X8_skipBlanks a0 a → 1 ≤ a 2 1 → 1 ≤ a 2 2 → a 2 2 ≤ a 2 1 → a0 2 2 < a0 2 1 → jt (jxX E d 131 35 [some (.inr (.inr (.inl 2)))] [] (jxSH, a, b0)) (jQ_X8_skipBlanks a0 b0) := fun a hlt i0 i1 i2 i3 i4 i5 => (ih _ hlt).1 a (Nat.le_refl _) i0 i1 i2 i3 i4 i5
  have ih0 : ∀ (a : Nat → Nat → Int), ((((a 2 1) - (a 2 2)) * 2) + 0).toNat < n → iv a → jfr jW_X8_skipBlanks a0 a → 1 ≤ a 2 1 → 1 ≤ a 2 2 → a0 2 2 < a0 2 1 → jt (jxX E d 131 0 [some (.inr (.inr (.inl 2)))] [] (jxSH, a, b0)) (jQ_X8_skipBlanks a0 b0) := fun a hlt i0 i1 i2 i3 i4 => (ih _ hlt).2 a (Nat.le_refl _) i0 i1 i2 i3 i4
  have hc35 : ∀ (a : Nat → Nat → Int), ((((a 2 1) - (a 2 2)) * 2) + 1).toNat ≤ n → iv a → jfr jW_X8_skipBlanks a0 a → 1 ≤ a 2 1 → 1 ≤ a 2 2 → a 2 2 ≤ a 2 1 → a0 2 2 < a0 2 1 → jt (jxX E d 131 35 [some (.inr (.inr (.inl 2)))] [] (jxSH, a, b0)) (jQ_X8_skipBlanks a0 b0) := by
    intro a hm hv hf hi0 hi1 hi2 hi3
    refine jt_eq (bq_X8_skipBlanks_35 E d a b0) ?_
    have h13_ := iv_get hv (k := 2) (j := 1) (l := 0) (u := 200) rfl
    have h14_ : a 2 1 = a0 2 1 := hf 2 1 rfl
    have h15_ := iv_get hv0 (k := 2) (j := 1) (l := 0) (u := 200) rfl
    have h16_ := iv_get hv (k := 2) (j := 2) (l := 0) (u := 200) rfl
    have h17_ := iv_get hv0 (k := 2) (j := 2) (l := 0) (u := 200) rfl
    exact ih0 a (show ((((a 2 1) - (a 2 2)) * 2) + 0).toNat < n from by omega) hv hf (show 1 ≤ a 2 1 from by omega) (show 1 ≤ a 2 2 from by omega) (show a0 2 2 < a0 2 1 from by omega)
  have hc0 : ∀ (a : Nat → Nat → Int), ((((a 2 1) - (a 2 2)) * 2) + 0).toNat ≤ n → iv a → jfr jW_X8_skipBlanks a0 a → 1 ≤ a 2 1 → 1 ≤ a 2 2 → a0 2 2 < a0 2 1 → jt (jxX E d 131 0 [some (.inr (.inr (.inl 2)))] [] (jxSH, a, b0)) (jQ_X8_skipBlanks a0 b0) := by
    intro a hm hv hf hi0 hi1 hi2
    refine jt_eq (bq_X8_skipBlanks_0 E d a b0) ?_
    have h18_ := iv_get hv (k := 2) (j := 1) (l := 0) (u := 200) rfl
    have h19_ : a 2 1 = a0 2 1 := hf 2 1 rfl
    have h20_ := iv_get hv0 (k := 2) (j := 1) (l := 0) (u := 200) rfl
    have h21_ := iv_get hv (k := 2) (j := 2) (l := 0) (u := 200) rfl
    have h22_ := iv_get hv0 (k := 2) (j := 2) (l := 0) (u := 200) rfl
    refine jt_ite (fun c23_ => ?_) (fun c23_ => ?_)
    ·
      refine jt_grd (by omega) ?_
      have h24_ := iv_get hv (k := 3) (j := (a 2 2).toNat) (l := 0) (u := 255) rfl
      have h25_ : a 3 ((a 2 2).toNat) = a0 3 ((a 2 2).toNat) := hf 3 ((a 2 2).toNat) rfl
      have h26_ := iv_get hv0 (k := 3) (j := (a 2 2).toNat) (l := 0) (u := 255) rfl
      refine jt_ite (fun c27_ => ?_) (fun c27_ => ?_)
      ·
        have h29_ : jxw ((a 2 2) + 1) = (a 2 2) + 1 := jxw_id (by omega) (by omega)
        have hv28_ : iv (jxu a 2 2 (jxw ((a 2 2) + 1))) := iv_put hv (l := 0) (u := 200) rfl (by omega) (by omega)
        have hf30_ : jfr jW_X8_skipBlanks a0 (jxu a 2 2 (jxw ((a 2 2) + 1))) := jfr_put hf rfl
        exact hc35 (jxu a 2 2 (jxw ((a 2 2) + 1))) (show ((((a 2 1) - (jxw ((a 2 2) + 1))) * 2) + 1).toNat ≤ n from by omega) hv28_ hf30_ (show 1 ≤ a 2 1 from by omega) (show 1 ≤ jxw ((a 2 2) + 1) from by omega) (show jxw ((a 2 2) + 1) ≤ a 2 1 from by omega) (show a0 2 2 < a0 2 1 from by omega)
      ·
        exact jt_rV ⟨hv, hf, rfl, (show (a0 2 1 ≤ a0 2 2 → a 2 2 = a0 2 2) from by omega)⟩
    ·
      exact jt_rV ⟨hv, hf, rfl, (show (a0 2 1 ≤ a0 2 2 → a 2 2 = a0 2 2) from by omega)⟩
  exact ⟨hc35, hc0⟩
theorem sp_X8_skipBlanks (E : jxE) (d : Nat) (hd : Nat.ble 1 d = true) (a0 b0 : Nat → Nat → Int) (hv0 : iv a0) : jt (jxC E d 131 [.inr (.inr (.inl 2))] (jxSH, a0, b0)) (jQ_X8_skipBlanks a0 b0) := by
  obtain ⟨d, rfl⟩ := jd_succ hd
  refine jt_eq (bq_X8_skipBlanks E d a0 b0) ?_
  have h31_ := iv_get hv0 (k := 2) (j := 2) (l := 0) (u := 200) rfl
  have h32_ := iv_get hv0 (k := 2) (j := 1) (l := 0) (u := 200) rfl
  refine jt_ite (fun c33_ => ?_) (fun c33_ => ?_)
  ·
    refine jt_grd (by omega) ?_
    have h34_ := iv_get hv0 (k := 3) (j := (a0 2 2).toNat) (l := 0) (u := 255) rfl
    refine jt_ite (fun c35_ => ?_) (fun c35_ => ?_)
    ·
      have h37_ : jxw ((a0 2 2) + 1) = (a0 2 2) + 1 := jxw_id (by omega) (by omega)
      have hv36_ : iv (jxu a0 2 2 (jxw ((a0 2 2) + 1))) := iv_put hv0 (l := 0) (u := 200) rfl (by omega) (by omega)
      have hf38_ : jfr jW_X8_skipBlanks a0 (jxu a0 2 2 (jxw ((a0 2 2) + 1))) := jfr_put (jfr_rf _ _) rfl
      exact (cp_X8_skipBlanks_0 E d hd a0 b0 hv0 _).1 (jxu a0 2 2 (jxw ((a0 2 2) + 1))) (Nat.le_refl _) hv36_ hf38_ (show 1 ≤ a0 2 1 from by omega) (show 1 ≤ jxw ((a0 2 2) + 1) from by omega) (show jxw ((a0 2 2) + 1) ≤ a0 2 1 from by omega) (show a0 2 2 < a0 2 1 from by omega)
    ·
      exact jt_rV ⟨hv0, (jfr_rf _ _), rfl, (show (a0 2 1 ≤ a0 2 2 → a0 2 2 = a0 2 2) from by omega)⟩
  ·
    exact jt_rV ⟨hv0, (jfr_rf _ _), rfl, (show (a0 2 1 ≤ a0 2 2 → a0 2 2 = a0 2 2) from by omega)⟩
def jW_X8_takeNumber : List (Nat × Nat) := [(2, 2), (2, 3)]
abbrev jQ_X8_takeNumber (x1 x2 : Int) (a0 b0 : Nat → Nat → Int) : List jxV → (Nat → Nat → Int) → (Nat → Nat → Int) → Prop := rI (fun r a b => (iv a) ∧ (jfr jW_X8_takeNumber a0 a) ∧ (b0 = b))
theorem cp_X8_takeNumber_133 (E : jxE) (d : Nat) (hd : Nat.ble 2 (d + 1) = true) (x1 x2 : Int) (a0 b0 : Nat → Nat → Int) (hv0 : iv a0) : ∀ (y4 : Int) (a : Nat → Nat → Int), iv a → jfr jW_X8_takeNumber a0 a → jt (jxX E d 130 133 [some (.inr (.inr (.inl 2))), none, none, none, some (.inl y4)] [] (jxSH, a, b0)) (jQ_X8_takeNumber x1 x2 a0 b0) := by
  intro y4 a hv hf
  refine jt_eq (bq_X8_takeNumber_133 E d y4 a b0) ?_
  refine jt_bV (sp_X8_skipBlanks E d (jd_le hd rfl) a b0 hv) (fun a39_ b39_ h39_ => ?_)
  obtain ⟨hv39_, hf39_, rfl, hq39_0⟩ := h39_
  have h40_ := iv_get hv (k := 2) (j := 1) (l := 0) (u := 200) rfl
  have h41_ : a 2 1 = a0 2 1 := hf 2 1 rfl
  have h42_ := iv_get hv0 (k := 2) (j := 1) (l := 0) (u := 200) rfl
  have h43_ := iv_get hv (k := 2) (j := 2) (l := 0) (u := 200) rfl
  have h44_ := iv_get hv39_ (k := 2) (j := 2) (l := 0) (u := 200) rfl
  have hf45_ : jfr jW_X8_takeNumber a0 a39_ := jfr_tr hf hf39_ rfl
  exact jt_rI ⟨hv39_, hf45_, rfl⟩
theorem cp_X8_takeNumber_127 (E : jxE) (d : Nat) (hd : Nat.ble 2 (d + 1) = true) (x1 x2 : Int) (a0 b0 : Nat → Nat → Int) (hv0 : iv a0) : ∀ (y3 y4 : Int) (a : Nat → Nat → Int), iv a → jfr jW_X8_takeNumber a0 a → 0 ≤ y3 → y3 ≤ 200 → jt (jxX E d 130 127 [some (.inr (.inr (.inl 2))), none, none, some (.inl y3), some (.inl y4)] [] (jxSH, a, b0)) (jQ_X8_takeNumber x1 x2 a0 b0) := by
  intro y3 y4 a hv hf hi0 hi1
  refine jt_eq (bq_X8_takeNumber_127 E d y3 y4 a b0) ?_
  refine jt_bV (sp_X8_noteFault E d (jd_le hd rfl) y3 1 a b0 hv) (fun a46_ b46_ h46_ => ?_)
  obtain ⟨hv46_, hf46_, rfl, hq46_0, hq46_1⟩ := h46_
  have hf47_ : jfr jW_X8_takeNumber a0 a46_ := jfr_tr hf hf46_ rfl
  exact cp_X8_takeNumber_133 E d hd x1 x2 a0 b0 hv0 y4 a46_ hv46_ hf47_
theorem cp_X8_takeNumber_90 (E : jxE) (d : Nat) (hd : Nat.ble 2 (d + 1) = true) (x1 x2 : Int) (a0 b0 : Nat → Nat → Int) (hv0 : iv a0) : ∀ (y1 y2 y3 y4 : Int) (a : Nat → Nat → Int), iv a → jfr jW_X8_takeNumber a0 a → 0 ≤ y3 → y3 ≤ 200 → jt (jxX E d 130 90 [some (.inr (.inr (.inl 2))), some (.inl y1), some (.inl y2), some (.inl y3), some (.inl y4)] [] (jxSH, a, b0)) (jQ_X8_takeNumber x1 x2 a0 b0) := by
  intro y1 y2 y3 y4 a hv hf hi0 hi1
  refine jt_eq (bq_X8_takeNumber_90 E d y1 y2 y3 y4 a b0) ?_
  have h48_ := iv_get hv (k := 2) (j := 2) (l := 0) (u := 200) rfl
  refine jt_ite (fun c49_ => ?_) (fun c49_ => ?_)
  ·
    refine jt_bV (sp_X8_noteFault E d (jd_le hd rfl) y3 0 a b0 hv) (fun a50_ b50_ h50_ => ?_)
    obtain ⟨hv50_, hf50_, rfl, hq50_0, hq50_1⟩ := h50_
    have hf51_ : jfr jW_X8_takeNumber a0 a50_ := jfr_tr hf hf50_ rfl
    exact cp_X8_takeNumber_133 E d hd x1 x2 a0 b0 hv0 y4 a50_ hv50_ hf51_
  ·
    have h52_ : jxw ((a 2 2) - y3) = (a 2 2) - y3 := jxw_id (by omega) (by omega)
    refine jt_ite (fun c53_ => ?_) (fun c53_ => ?_)
    ·
      exact cp_X8_takeNumber_127 E d hd x1 x2 a0 b0 hv0 y3 y4 a hv hf (show 0 ≤ y3 from by omega) (show y3 ≤ 200 from by omega)
    ·
      refine jt_eI (eq_X11_within E d (jd_le hd rfl) y4 y1 y2 a b0) ?_
      have h54_ := f_X11_within_eq a b0 y4 y1 y2
      refine jt_ite (fun c55_ => ?_) (fun c55_ => ?_)
      ·
        exact cp_X8_takeNumber_127 E d hd x1 x2 a0 b0 hv0 y3 y4 a hv hf (show 0 ≤ y3 from by omega) (show y3 ≤ 200 from by omega)
      ·
        exact cp_X8_takeNumber_133 E d hd x1 x2 a0 b0 hv0 y4 a hv hf
theorem cp_X8_takeNumber_8 (E : jxE) (d : Nat) (hd : Nat.ble 2 (d + 1) = true) (x1 x2 : Int) (a0 b0 : Nat → Nat → Int) (hv0 : iv a0) : ∀ n : Nat, (∀ (y1 y2 y3 y4 : Int) (a : Nat → Nat → Int), ((((a 2 1) - (a 2 2)) * 1) + 0).toNat ≤ n → iv a → jfr jW_X8_takeNumber a0 a → 0 ≤ y3 → y3 ≤ 200 → 1 ≤ a 2 1 → a 2 2 ≤ 199 → a 2 2 < a 2 1 → jt (jxX E d 130 77 [some (.inr (.inr (.inl 2))), some (.inl y1), some (.inl y2), some (.inl y3), some (.inl y4)] [] (jxSH, a, b0)) (jQ_X8_takeNumber x1 x2 a0 b0)) ∧ (∀ (y1 y2 y3 y4 : Int) (a : Nat → Nat → Int), ((((a 2 1) - (a 2 2)) * 1) + 0).toNat ≤ n → iv a → jfr jW_X8_takeNumber a0 a → 0 ≤ y3 → y3 ≤ 200 → 1 ≤ a 2 1 → a 2 2 ≤ 199 → a 2 2 < a 2 1 → jt (jxX E d 130 47 [some (.inr (.inr (.inl 2))), some (.inl y1), some (.inl y2), some (.inl y3), some (.inl y4)] [] (jxSH, a, b0)) (jQ_X8_takeNumber x1 x2 a0 b0)) ∧ (∀ (y1 y2 y3 y4 : Int) (a : Nat → Nat → Int), ((((a 2 1) - (a 2 2)) * 1) + 0).toNat ≤ n → iv a → jfr jW_X8_takeNumber a0 a → 0 ≤ y3 → y3 ≤ 200 → jt (jxX E d 130 8 [some (.inr (.inr (.inl 2))), some (.inl y1), some (.inl y2), some (.inl y3), some (.inl y4)] [] (jxSH, a, b0)) (jQ_X8_takeNumber x1 x2 a0 b0)) := by
  refine jx_ind fun n ih => ?_
  have ih77 : ∀ (y1 y2 y3 y4 : Int) (a : Nat → Nat → Int), ((((a 2 1) - (a 2 2)) * 1) + 0).toNat < n → iv a → jfr jW_X8_takeNumber a0 a → 0 ≤ y3 → y3 ≤ 200 → 1 ≤ a 2 1 → a 2 2 ≤ 199 → a 2 2 < a 2 1 → jt (jxX E d 130 77 [some (.inr (.inr (.inl 2))), some (.inl y1), some (.inl y2), some (.inl y3), some (.inl y4)] [] (jxSH, a, b0)) (jQ_X8_takeNumber x1 x2 a0 b0) := fun y1 y2 y3 y4 a hlt i0 i1 i2 i3 i4 i5 i6 => (ih _ hlt).1 y1 y2 y3 y4 a (Nat.le_refl _) i0 i1 i2 i3 i4 i5 i6
  have ih47 : ∀ (y1 y2 y3 y4 : Int) (a : Nat → Nat → Int), ((((a 2 1) - (a 2 2)) * 1) + 0).toNat < n → iv a → jfr jW_X8_takeNumber a0 a → 0 ≤ y3 → y3 ≤ 200 → 1 ≤ a 2 1 → a 2 2 ≤ 199 → a 2 2 < a 2 1 → jt (jxX E d 130 47 [some (.inr (.inr (.inl 2))), some (.inl y1), some (.inl y2), some (.inl y3), some (.inl y4)] [] (jxSH, a, b0)) (jQ_X8_takeNumber x1 x2 a0 b0) := fun y1 y2 y3 y4 a hlt i0 i1 i2 i3 i4 i5 i6 => (ih _ hlt).2.1 y1 y2 y3 y4 a (Nat.le_refl _) i0 i1 i2 i3 i4 i5 i6
  have ih8 : ∀ (y1 y2 y3 y4 : Int) (a : Nat → Nat → Int), ((((a 2 1) - (a 2 2)) * 1) + 0).toNat < n → iv a → jfr jW_X8_takeNumber a0 a → 0 ≤ y3 → y3 ≤ 200 → jt (jxX E d 130 8 [some (.inr (.inr (.inl 2))), some (.inl y1), some (.inl y2), some (.inl y3), some (.inl y4)] [] (jxSH, a, b0)) (jQ_X8_takeNumber x1 x2 a0 b0) := fun y1 y2 y3 y4 a hlt i0 i1 i2 i3 => (ih _ hlt).2.2 y1 y2 y3 y4 a (Nat.le_refl _) i0 i1 i2 i3
  have hc77 : ∀ (y1 y2 y3 y4 : Int) (a : Nat → Nat → Int), ((((a 2 1) - (a 2 2)) * 1) + 0).toNat ≤ n → iv a → jfr jW_X8_takeNumber a0 a → 0 ≤ y3 → y3 ≤ 200 → 1 ≤ a 2 1 → a 2 2 ≤ 199 → a 2 2 < a 2 1 → jt (jxX E d 130 77 [some (.inr (.inr (.inl 2))), some (.inl y1), some (.inl y2), some (.inl y3), some (.inl y4)] [] (jxSH, a, b0)) (jQ_X8_takeNumber x1 x2 a0 b0) := by
    intro y1 y2 y3 y4 a hm hv hf hi0 hi1 hi2 hi3 hi4
    refine jt_eq (bq_X8_takeNumber_77 E d y1 y2 y3 y4 a b0) ?_
    have h56_ := iv_get hv (k := 2) (j := 1) (l := 0) (u := 200) rfl
    have h57_ : a 2 1 = a0 2 1 := hf 2 1 rfl
    have h58_ := iv_get hv0 (k := 2) (j := 1) (l := 0) (u := 200) rfl
    have h59_ := iv_get hv (k := 2) (j := 2) (l := 0) (u := 200) rfl
    have h61_ : jxw ((a 2 2) + 1) = (a 2 2) + 1 := jxw_id (by omega) (by omega)
    have hv60_ : iv (jxu a 2 2 (jxw ((a 2 2) + 1))) := iv_put hv (l := 0) (u := 200) rfl (by omega) (by omega)
    have hf62_ : jfr jW_X8_takeNumber a0 (jxu a 2 2 (jxw ((a 2 2) + 1))) := jfr_put hf rfl
    exact ih8 y1 y2 y3 y4 (jxu a 2 2 (jxw ((a 2 2) + 1))) (show ((((a 2 1) - (jxw ((a 2 2) + 1))) * 1) + 0).toNat < n from by omega) hv60_ hf62_ (show 0 ≤ y3 from by omega) (show y3 ≤ 200 from by omega)
  have hc47 : ∀ (y1 y2 y3 y4 : Int) (a : Nat → Nat → Int), ((((a 2 1) - (a 2 2)) * 1) + 0).toNat ≤ n → iv a → jfr jW_X8_takeNumber a0 a → 0 ≤ y3 → y3 ≤ 200 → 1 ≤ a 2 1 → a 2 2 ≤ 199 → a 2 2 < a 2 1 → jt (jxX E d 130 47 [some (.inr (.inr (.inl 2))), some (.inl y1), some (.inl y2), some (.inl y3), some (.inl y4)] [] (jxSH, a, b0)) (jQ_X8_takeNumber x1 x2 a0 b0) := by
    intro y1 y2 y3 y4 a hm hv hf hi0 hi1 hi2 hi3 hi4
    refine jt_eq (bq_X8_takeNumber_47 E d y1 y2 y3 y4 a b0) ?_
    have h63_ := iv_get hv (k := 2) (j := 1) (l := 0) (u := 200) rfl
    have h64_ : a 2 1 = a0 2 1 := hf 2 1 rfl
    have h65_ := iv_get hv0 (k := 2) (j := 1) (l := 0) (u := 200) rfl
    have h66_ := iv_get hv (k := 2) (j := 2) (l := 0) (u := 200) rfl
    have h67_ : jxw ((a 2 2) - y3) = (a 2 2) - y3 := jxw_id (by omega) (by omega)
    refine jt_ite (fun c68_ => ?_) (fun c68_ => ?_)
    ·
      refine jt_grd (by omega) ?_
      exact hc77 y1 y2 y3 (jxw ((jxw ((jxw (y4 * 10)) + (a 3 ((a 2 2).toNat)))) - 48)) a (show ((((a 2 1) - (a 2 2)) * 1) + 0).toNat ≤ n from by omega) hv hf (show 0 ≤ y3 from by omega) (show y3 ≤ 200 from by omega) (show 1 ≤ a 2 1 from by omega) (show a 2 2 ≤ 199 from by omega) (show a 2 2 < a 2 1 from by omega)
    ·
      exact hc77 y1 y2 y3 y4 a (show ((((a 2 1) - (a 2 2)) * 1) + 0).toNat ≤ n from by omega) hv hf (show 0 ≤ y3 from by omega) (show y3 ≤ 200 from by omega) (show 1 ≤ a 2 1 from by omega) (show a 2 2 ≤ 199 from by omega) (show a 2 2 < a 2 1 from by omega)
  have hc8 : ∀ (y1 y2 y3 y4 : Int) (a : Nat → Nat → Int), ((((a 2 1) - (a 2 2)) * 1) + 0).toNat ≤ n → iv a → jfr jW_X8_takeNumber a0 a → 0 ≤ y3 → y3 ≤ 200 → jt (jxX E d 130 8 [some (.inr (.inr (.inl 2))), some (.inl y1), some (.inl y2), some (.inl y3), some (.inl y4)] [] (jxSH, a, b0)) (jQ_X8_takeNumber x1 x2 a0 b0) := by
    intro y1 y2 y3 y4 a hm hv hf hi0 hi1
    refine jt_eq (bq_X8_takeNumber_8 E d y1 y2 y3 y4 a b0) ?_
    have h69_ := iv_get hv (k := 2) (j := 1) (l := 0) (u := 200) rfl
    have h70_ : a 2 1 = a0 2 1 := hf 2 1 rfl
    have h71_ := iv_get hv0 (k := 2) (j := 1) (l := 0) (u := 200) rfl
    have h72_ := iv_get hv (k := 2) (j := 2) (l := 0) (u := 200) rfl
    refine jt_ite (fun c73_ => ?_) (fun c73_ => ?_)
    ·
      refine jt_grd (by omega) ?_
      have h74_ := iv_get hv (k := 3) (j := (a 2 2).toNat) (l := 0) (u := 255) rfl
      have h75_ : a 3 ((a 2 2).toNat) = a0 3 ((a 2 2).toNat) := hf 3 ((a 2 2).toNat) rfl
      have h76_ := iv_get hv0 (k := 3) (j := (a 2 2).toNat) (l := 0) (u := 255) rfl
      refine jt_ite (fun c77_ => ?_) (fun c77_ => ?_)
      ·
        exact cp_X8_takeNumber_90 E d hd x1 x2 a0 b0 hv0 y1 y2 y3 y4 a hv hf (show 0 ≤ y3 from by omega) (show y3 ≤ 200 from by omega)
      ·
        refine jt_grd (by omega) ?_
        refine jt_ite (fun c78_ => ?_) (fun c78_ => ?_)
        ·
          exact cp_X8_takeNumber_90 E d hd x1 x2 a0 b0 hv0 y1 y2 y3 y4 a hv hf (show 0 ≤ y3 from by omega) (show y3 ≤ 200 from by omega)
        ·
          exact hc47 y1 y2 y3 y4 a (show ((((a 2 1) - (a 2 2)) * 1) + 0).toNat ≤ n from by omega) hv hf (show 0 ≤ y3 from by omega) (show y3 ≤ 200 from by omega) (show 1 ≤ a 2 1 from by omega) (show a 2 2 ≤ 199 from by omega) (show a 2 2 < a 2 1 from by omega)
    ·
      exact cp_X8_takeNumber_90 E d hd x1 x2 a0 b0 hv0 y1 y2 y3 y4 a hv hf (show 0 ≤ y3 from by omega) (show y3 ≤ 200 from by omega)
  exact ⟨hc77, hc47, hc8⟩
theorem sp_X8_takeNumber (E : jxE) (d : Nat) (hd : Nat.ble 2 d = true) (x1 x2 : Int) (a0 b0 : Nat → Nat → Int) (hv0 : iv a0) : jt (jxC E d 130 [.inr (.inr (.inl 2)), .inl x1, .inl x2] (jxSH, a0, b0)) (jQ_X8_takeNumber x1 x2 a0 b0) := by
  obtain ⟨d, rfl⟩ := jd_succ hd
  refine jt_eq (bq_X8_takeNumber E d x1 x2 a0 b0) ?_
  have h79_ := iv_get hv0 (k := 2) (j := 2) (l := 0) (u := 200) rfl
  exact (cp_X8_takeNumber_8 E d hd x1 x2 a0 b0 hv0 _).2.2 x1 x2 (a0 2 2) 0 a0 (Nat.le_refl _) hv0 (jfr_rf _ _) (show 0 ≤ a0 2 2 from by omega) (show a0 2 2 ≤ 200 from by omega)
def jW_X8_takesWord_r1000 : List (Nat × Nat) := [(2, 2)]
abbrev jQ_X8_takesWord_r1000 (a0 b0 : Nat → Nat → Int) : List jxV → (Nat → Nat → Int) → (Nat → Nat → Int) → Prop := rI (fun r a b => (iv a) ∧ (jfr jW_X8_takesWord_r1000 a0 a) ∧ (b0 = b) ∧ ((0 ≤ r ∧ r ≤ 1)) ∧ (((¬ a0 2 3 = 0 ∨ a0 2 1 ≤ a0 2 2) → r = 0)) ∧ ((r = 0 → a 2 2 = a0 2 2)))
theorem cp_X8_takesWord_r1000_56 (E : jxE) (d : Nat) (hd : Nat.ble 5 (d + 1) = true) (a0 b0 : Nat → Nat → Int) (hv0 : iv a0) : ∀ (a : Nat → Nat → Int), iv a → jfr jW_X8_takesWord_r1000 a0 a → 3 ≤ a 2 1 → a 2 2 = a0 2 2 → a0 2 3 = 0 → a0 2 2 < a0 2 1 → jt (jxX E d 128 56 [none, none, none, none] [] (jxSH, a, b0)) (jQ_X8_takesWord_r1000 a0 b0) := by
  intro a hv hf hi0 hi1 hi2 hi3
  refine jt_eq (bq_X8_takesWord_r1000_56 E d a b0) ?_
  have h80_ := iv_get hv (k := 2) (j := 1) (l := 0) (u := 200) rfl
  have h81_ : a 2 1 = a0 2 1 := hf 2 1 rfl
  have h82_ := iv_get hv0 (k := 2) (j := 1) (l := 0) (u := 200) rfl
  have h83_ := iv_get hv (k := 2) (j := 2) (l := 0) (u := 200) rfl
  have h84_ := iv_get hv0 (k := 2) (j := 2) (l := 0) (u := 200) rfl
  exact jt_rI ⟨hv, hf, rfl, (show (0 ≤ 0 ∧ 0 ≤ 1) from by omega), (show ((¬ a0 2 3 = 0 ∨ a0 2 1 ≤ a0 2 2) → 0 = 0) from by omega), (show (0 = 0 → a 2 2 = a0 2 2) from by omega)⟩
theorem cp_X8_takesWord_r1000_96 (E : jxE) (d : Nat) (hd : Nat.ble 5 (d + 1) = true) (a0 b0 : Nat → Nat → Int) (hv0 : iv a0) : ∀ (y2 : Int) (a : Nat → Nat → Int), iv a → jfr jW_X8_takesWord_r1000 a0 a → 3 ≤ y2 → y2 ≤ 200 → 3 ≤ a 2 1 → a 2 2 = a0 2 2 → y2 = (a 2 2) + 3 → y2 ≤ a 2 1 → y2 ≤ 200 → a0 2 3 = 0 → a0 2 2 < a0 2 1 → jt (jxX E d 128 96 [some (.inr (.inr (.inl 2))), none, some (.inl y2), none] [] (jxSH, a, b0)) (jQ_X8_takesWord_r1000 a0 b0) := by
  intro y2 a hv hf hi0 hi1 hi2 hi3 hi4 hi5 hi6 hi7 hi8
  refine jt_eq (bq_X8_takesWord_r1000_96 E d y2 a b0) ?_
  have h85_ := iv_get hv (k := 2) (j := 1) (l := 0) (u := 200) rfl
  have h86_ : a 2 1 = a0 2 1 := hf 2 1 rfl
  have h87_ := iv_get hv0 (k := 2) (j := 1) (l := 0) (u := 200) rfl
  have h88_ := iv_get hv (k := 2) (j := 2) (l := 0) (u := 200) rfl
  have h89_ := iv_get hv0 (k := 2) (j := 2) (l := 0) (u := 200) rfl
  have hv90_ : iv (jxu a 2 2 y2) := iv_put hv (l := 0) (u := 200) rfl (by omega) (by omega)
  refine jt_bV (sp_X8_skipBlanks E d (jd_le hd rfl) (jxu a 2 2 y2) b0 hv90_) (fun a91_ b91_ h91_ => ?_)
  obtain ⟨hv91_, hf91_, rfl, hq91_0⟩ := h91_
  have h92_ := iv_get hv91_ (k := 2) (j := 2) (l := 0) (u := 200) rfl
  have h93_ : (a 2 1 ≤ y2 → a91_ 2 2 = y2) := hq91_0
  have hf94_ : jfr jW_X8_takesWord_r1000 a0 (jxu a 2 2 y2) := jfr_put hf rfl
  have hf95_ : jfr jW_X8_takesWord_r1000 a0 a91_ := jfr_tr hf94_ hf91_ rfl
  exact jt_rI ⟨hv91_, hf95_, rfl, (show (0 ≤ 1 ∧ 1 ≤ 1) from by omega), (show ((¬ a0 2 3 = 0 ∨ a0 2 1 ≤ a0 2 2) → 1 = 0) from by omega), (show (1 = 0 → a91_ 2 2 = a0 2 2) from by omega)⟩
theorem cp_X8_takesWord_r1000_83 (E : jxE) (d : Nat) (hd : Nat.ble 5 (d + 1) = true) (a0 b0 : Nat → Nat → Int) (hv0 : iv a0) : ∀ (y2 : Int) (a : Nat → Nat → Int), iv a → jfr jW_X8_takesWord_r1000 a0 a → 3 ≤ y2 → y2 ≤ 199 → 4 ≤ a 2 1 → a 2 2 = a0 2 2 → y2 = (a 2 2) + 3 → y2 ≤ a 2 1 → y2 ≤ 200 → a0 2 3 = 0 → a0 2 2 < a0 2 1 → jt (jxX E d 128 83 [some (.inr (.inr (.inl 2))), none, some (.inl y2), none] [] (jxSH, a, b0)) (jQ_X8_takesWord_r1000 a0 b0) := by
  intro y2 a hv hf hi0 hi1 hi2 hi3 hi4 hi5 hi6 hi7 hi8
  refine jt_eq (bq_X8_takesWord_r1000_83 E d y2 a b0) ?_
  have h96_ := iv_get hv (k := 2) (j := 1) (l := 0) (u := 200) rfl
  have h97_ : a 2 1 = a0 2 1 := hf 2 1 rfl
  have h98_ := iv_get hv0 (k := 2) (j := 1) (l := 0) (u := 200) rfl
  have h99_ := iv_get hv (k := 2) (j := 2) (l := 0) (u := 200) rfl
  have h100_ := iv_get hv0 (k := 2) (j := 2) (l := 0) (u := 200) rfl
  refine jt_grd (by omega) ?_
  have h101_ := iv_get hv (k := 3) (j := y2.toNat) (l := 0) (u := 255) rfl
  have h102_ : a 3 (y2.toNat) = a0 3 (y2.toNat) := hf 3 (y2.toNat) rfl
  have h103_ := iv_get hv0 (k := 3) (j := y2.toNat) (l := 0) (u := 255) rfl
  refine jt_ite (fun c104_ => ?_) (fun c104_ => ?_)
  ·
    exact cp_X8_takesWord_r1000_96 E d hd a0 b0 hv0 y2 a hv hf (show 3 ≤ y2 from by omega) (show y2 ≤ 200 from by omega) (show 3 ≤ a 2 1 from by omega) (show a 2 2 = a0 2 2 from by omega) (show y2 = (a 2 2) + 3 from by omega) (show y2 ≤ a 2 1 from by omega) (show y2 ≤ 200 from by omega) (show a0 2 3 = 0 from by omega) (show a0 2 2 < a0 2 1 from by omega)
  ·
    exact jt_rI ⟨hv, hf, rfl, (show (0 ≤ 0 ∧ 0 ≤ 1) from by omega), (show ((¬ a0 2 3 = 0 ∨ a0 2 1 ≤ a0 2 2) → 0 = 0) from by omega), (show (0 = 0 → a 2 2 = a0 2 2) from by omega)⟩
theorem cp_X8_takesWord_r1000_29 (E : jxE) (d : Nat) (hd : Nat.ble 5 (d + 1) = true) (a0 b0 : Nat → Nat → Int) (hv0 : iv a0) : ∀ n : Nat, (∀ (y2 y3 : Int) (a : Nat → Nat → Int), (((3 - y3) * 1) + 0).toNat ≤ n → iv a → jfr jW_X8_takesWord_r1000 a0 a → 3 ≤ y2 → y2 ≤ 200 → 0 ≤ y3 → y3 ≤ 2 → 3 ≤ a 2 1 → y3 < 3 → 0 ≤ y3 → a 2 2 = a0 2 2 → y2 = (a 2 2) + 3 → y2 ≤ a 2 1 → y2 ≤ 200 → a0 2 3 = 0 → a0 2 2 < a0 2 1 → jt (jxX E d 128 58 [some (.inr (.inr (.inl 2))), some (.inr (.inr (.inl 1000))), some (.inl y2), some (.inl y3)] [] (jxSH, a, b0)) (jQ_X8_takesWord_r1000 a0 b0)) ∧ (∀ (y2 y3 : Int) (a : Nat → Nat → Int), (((3 - y3) * 1) + 0).toNat ≤ n → iv a → jfr jW_X8_takesWord_r1000 a0 a → 3 ≤ y2 → y2 ≤ 200 → 0 ≤ y3 → y3 ≤ 3 → 3 ≤ a 2 1 → 0 ≤ y3 → a 2 2 = a0 2 2 → y2 = (a 2 2) + 3 → y2 ≤ a 2 1 → y2 ≤ 200 → a0 2 3 = 0 → a0 2 2 < a0 2 1 → jt (jxX E d 128 29 [some (.inr (.inr (.inl 2))), some (.inr (.inr (.inl 1000))), some (.inl y2), some (.inl y3)] [] (jxSH, a, b0)) (jQ_X8_takesWord_r1000 a0 b0)) := by
  refine jx_ind fun n ih => ?_
  have ih58 : ∀ (y2 y3 : Int) (a : Nat → Nat → Int), (((3 - y3) * 1) + 0).toNat < n → iv a → jfr jW_X8_takesWord_r1000 a0 a → 3 ≤ y2 → y2 ≤ 200 → 0 ≤ y3 → y3 ≤ 2 → 3 ≤ a 2 1 → y3 < 3 → 0 ≤ y3 → a 2 2 = a0 2 2 → y2 = (a 2 2) + 3 → y2 ≤ a 2 1 → y2 ≤ 200 → a0 2 3 = 0 → a0 2 2 < a0 2 1 → jt (jxX E d 128 58 [some (.inr (.inr (.inl 2))), some (.inr (.inr (.inl 1000))), some (.inl y2), some (.inl y3)] [] (jxSH, a, b0)) (jQ_X8_takesWord_r1000 a0 b0) := fun y2 y3 a hlt i0 i1 i2 i3 i4 i5 i6 i7 i8 i9 i10 i11 i12 i13 i14 => (ih _ hlt).1 y2 y3 a (Nat.le_refl _) i0 i1 i2 i3 i4 i5 i6 i7 i8 i9 i10 i11 i12 i13 i14
  have ih29 : ∀ (y2 y3 : Int) (a : Nat → Nat → Int), (((3 - y3) * 1) + 0).toNat < n → iv a → jfr jW_X8_takesWord_r1000 a0 a → 3 ≤ y2 → y2 ≤ 200 → 0 ≤ y3 → y3 ≤ 3 → 3 ≤ a 2 1 → 0 ≤ y3 → a 2 2 = a0 2 2 → y2 = (a 2 2) + 3 → y2 ≤ a 2 1 → y2 ≤ 200 → a0 2 3 = 0 → a0 2 2 < a0 2 1 → jt (jxX E d 128 29 [some (.inr (.inr (.inl 2))), some (.inr (.inr (.inl 1000))), some (.inl y2), some (.inl y3)] [] (jxSH, a, b0)) (jQ_X8_takesWord_r1000 a0 b0) := fun y2 y3 a hlt i0 i1 i2 i3 i4 i5 i6 i7 i8 i9 i10 i11 i12 i13 => (ih _ hlt).2 y2 y3 a (Nat.le_refl _) i0 i1 i2 i3 i4 i5 i6 i7 i8 i9 i10 i11 i12 i13
  have hc58 : ∀ (y2 y3 : Int) (a : Nat → Nat → Int), (((3 - y3) * 1) + 0).toNat ≤ n → iv a → jfr jW_X8_takesWord_r1000 a0 a → 3 ≤ y2 → y2 ≤ 200 → 0 ≤ y3 → y3 ≤ 2 → 3 ≤ a 2 1 → y3 < 3 → 0 ≤ y3 → a 2 2 = a0 2 2 → y2 = (a 2 2) + 3 → y2 ≤ a 2 1 → y2 ≤ 200 → a0 2 3 = 0 → a0 2 2 < a0 2 1 → jt (jxX E d 128 58 [some (.inr (.inr (.inl 2))), some (.inr (.inr (.inl 1000))), some (.inl y2), some (.inl y3)] [] (jxSH, a, b0)) (jQ_X8_takesWord_r1000 a0 b0) := by
    intro y2 y3 a hm hv hf hi0 hi1 hi2 hi3 hi4 hi5 hi6 hi7 hi8 hi9 hi10 hi11 hi12
    refine jt_eq (bq_X8_takesWord_r1000_58 E d y2 y3 a b0) ?_
    have h105_ := iv_get hv (k := 2) (j := 1) (l := 0) (u := 200) rfl
    have h106_ : a 2 1 = a0 2 1 := hf 2 1 rfl
    have h107_ := iv_get hv0 (k := 2) (j := 1) (l := 0) (u := 200) rfl
    have h108_ := iv_get hv (k := 2) (j := 2) (l := 0) (u := 200) rfl
    have h109_ := iv_get hv0 (k := 2) (j := 2) (l := 0) (u := 200) rfl
    have h110_ : jxw (y3 + 1) = y3 + 1 := jxw_id (by omega) (by omega)
    exact ih29 y2 (jxw (y3 + 1)) a (show (((3 - (jxw (y3 + 1))) * 1) + 0).toNat < n from by omega) hv hf (show 3 ≤ y2 from by omega) (show y2 ≤ 200 from by omega) (show 0 ≤ jxw (y3 + 1) from by omega) (show jxw (y3 + 1) ≤ 3 from by omega) (show 3 ≤ a 2 1 from by omega) (show 0 ≤ jxw (y3 + 1) from by omega) (show a 2 2 = a0 2 2 from by omega) (show y2 = (a 2 2) + 3 from by omega) (show y2 ≤ a 2 1 from by omega) (show y2 ≤ 200 from by omega) (show a0 2 3 = 0 from by omega) (show a0 2 2 < a0 2 1 from by omega)
  have hc29 : ∀ (y2 y3 : Int) (a : Nat → Nat → Int), (((3 - y3) * 1) + 0).toNat ≤ n → iv a → jfr jW_X8_takesWord_r1000 a0 a → 3 ≤ y2 → y2 ≤ 200 → 0 ≤ y3 → y3 ≤ 3 → 3 ≤ a 2 1 → 0 ≤ y3 → a 2 2 = a0 2 2 → y2 = (a 2 2) + 3 → y2 ≤ a 2 1 → y2 ≤ 200 → a0 2 3 = 0 → a0 2 2 < a0 2 1 → jt (jxX E d 128 29 [some (.inr (.inr (.inl 2))), some (.inr (.inr (.inl 1000))), some (.inl y2), some (.inl y3)] [] (jxSH, a, b0)) (jQ_X8_takesWord_r1000 a0 b0) := by
    intro y2 y3 a hm hv hf hi0 hi1 hi2 hi3 hi4 hi5 hi6 hi7 hi8 hi9 hi10 hi11
    refine jt_eq (bq_X8_takesWord_r1000_29 E d y2 y3 a b0) ?_
    have h111_ := iv_get hv (k := 2) (j := 1) (l := 0) (u := 200) rfl
    have h112_ : a 2 1 = a0 2 1 := hf 2 1 rfl
    have h113_ := iv_get hv0 (k := 2) (j := 1) (l := 0) (u := 200) rfl
    have h114_ := iv_get hv (k := 2) (j := 2) (l := 0) (u := 200) rfl
    have h115_ := iv_get hv0 (k := 2) (j := 2) (l := 0) (u := 200) rfl
    refine jt_eI (eq_J0_length_8abf5_r1000 E d (jd_le hd rfl) a b0) ?_
    have h116_ := ff_J0_length_8abf5_r1000 a b0
    refine jt_ite (fun c117_ => ?_) (fun c117_ => ?_)
    ·
      have h118_ : jxw ((a 2 2) + y3) = (a 2 2) + y3 := jxw_id (by omega) (by omega)
      refine jt_grd (by omega) ?_
      refine jt_eI (eq_J0_charAt_5068e_r1000 E d (jd_le hd rfl) y3 a b0 (show (0 ≤ y3 ∧ y3 < 3) from by omega)) ?_
      have h119_ := iv_get hv (k := 3) (j := (jxw ((a 2 2) + y3)).toNat) (l := 0) (u := 255) rfl
      have h120_ : a 3 ((jxw ((a 2 2) + y3)).toNat) = a0 3 ((jxw ((a 2 2) + y3)).toNat) := hf 3 ((jxw ((a 2 2) + y3)).toNat) rfl
      have h121_ := iv_get hv0 (k := 3) (j := (jxw ((a 2 2) + y3)).toNat) (l := 0) (u := 255) rfl
      have h122_ := f_J0_charAt_5068e_r1000_eq a b0 y3
      have h123_ := f_J0_isLatin1_aae02_r1000_eq a b0
      have h124_ := f_J1_charAt_3b067_r2000_eq a b0 y3
      have h125_ := jxand_r (([110, 111, 116] : List Int).getD (y3.toNat) 0) 255 (by decide) (by decide)
      have h126_ := jxi2c_b (jxand (([110, 111, 116] : List Int).getD (y3.toNat) 0) 255)
      refine jt_ite (fun c127_ => ?_) (fun c127_ => ?_)
      ·
        exact hc58 y2 y3 a (show (((3 - y3) * 1) + 0).toNat ≤ n from by omega) hv hf (show 3 ≤ y2 from by omega) (show y2 ≤ 200 from by omega) (show 0 ≤ y3 from by omega) (show y3 ≤ 2 from by omega) (show 3 ≤ a 2 1 from by omega) (show y3 < 3 from by omega) (show 0 ≤ y3 from by omega) (show a 2 2 = a0 2 2 from by omega) (show y2 = (a 2 2) + 3 from by omega) (show y2 ≤ a 2 1 from by omega) (show y2 ≤ 200 from by omega) (show a0 2 3 = 0 from by omega) (show a0 2 2 < a0 2 1 from by omega)
      ·
        exact cp_X8_takesWord_r1000_56 E d hd a0 b0 hv0 a hv hf (show 3 ≤ a 2 1 from by omega) (show a 2 2 = a0 2 2 from by omega) (show a0 2 3 = 0 from by omega) (show a0 2 2 < a0 2 1 from by omega)
    ·
      refine jt_ite (fun c128_ => ?_) (fun c128_ => ?_)
      ·
        refine jt_grd (by omega) ?_
        have h129_ := iv_get hv (k := 3) (j := y2.toNat) (l := 0) (u := 255) rfl
        have h130_ : a 3 (y2.toNat) = a0 3 (y2.toNat) := hf 3 (y2.toNat) rfl
        have h131_ := iv_get hv0 (k := 3) (j := y2.toNat) (l := 0) (u := 255) rfl
        refine jt_ite (fun c132_ => ?_) (fun c132_ => ?_)
        ·
          exact cp_X8_takesWord_r1000_96 E d hd a0 b0 hv0 y2 a hv hf (show 3 ≤ y2 from by omega) (show y2 ≤ 200 from by omega) (show 3 ≤ a 2 1 from by omega) (show a 2 2 = a0 2 2 from by omega) (show y2 = (a 2 2) + 3 from by omega) (show y2 ≤ a 2 1 from by omega) (show y2 ≤ 200 from by omega) (show a0 2 3 = 0 from by omega) (show a0 2 2 < a0 2 1 from by omega)
        ·
          exact cp_X8_takesWord_r1000_83 E d hd a0 b0 hv0 y2 a hv hf (show 3 ≤ y2 from by omega) (show y2 ≤ 199 from by omega) (show 4 ≤ a 2 1 from by omega) (show a 2 2 = a0 2 2 from by omega) (show y2 = (a 2 2) + 3 from by omega) (show y2 ≤ a 2 1 from by omega) (show y2 ≤ 200 from by omega) (show a0 2 3 = 0 from by omega) (show a0 2 2 < a0 2 1 from by omega)
      ·
        exact cp_X8_takesWord_r1000_96 E d hd a0 b0 hv0 y2 a hv hf (show 3 ≤ y2 from by omega) (show y2 ≤ 200 from by omega) (show 3 ≤ a 2 1 from by omega) (show a 2 2 = a0 2 2 from by omega) (show y2 = (a 2 2) + 3 from by omega) (show y2 ≤ a 2 1 from by omega) (show y2 ≤ 200 from by omega) (show a0 2 3 = 0 from by omega) (show a0 2 2 < a0 2 1 from by omega)
  exact ⟨hc58, hc29⟩
theorem sp_X8_takesWord_r1000 (E : jxE) (d : Nat) (hd : Nat.ble 5 d = true) (a0 b0 : Nat → Nat → Int) (hv0 : iv a0) : jt (jxC E d 128 [.inr (.inr (.inl 2)), .inr (.inr (.inl 1000))] (jxSH, a0, b0)) (jQ_X8_takesWord_r1000 a0 b0) := by
  obtain ⟨d, rfl⟩ := jd_succ hd
  refine jt_eq (bq_X8_takesWord_r1000 E d a0 b0) ?_
  refine jt_eI (eq_J0_length_8abf5_r1000 E d (jd_le hd rfl) a0 b0) ?_
  refine jt_eI (eq_X8_isFaulty E d (jd_le hd rfl) a0 b0) ?_
  have h133_ := f_X8_isFaulty_eq a0 b0
  refine jt_ite (fun c134_ => ?_) (fun c134_ => ?_)
  ·
    have h135_ := iv_get hv0 (k := 2) (j := 1) (l := 0) (u := 200) rfl
    have h136_ := iv_get hv0 (k := 2) (j := 2) (l := 0) (u := 200) rfl
    have h137_ := ff_J0_length_8abf5_r1000 a0 b0
    have h138_ : jxw ((a0 2 2) + (f_J0_length_8abf5_r1000 a0 b0)) = (a0 2 2) + (f_J0_length_8abf5_r1000 a0 b0) := jxw_id (by omega) (by omega)
    refine jt_ite (fun c139_ => ?_) (fun c139_ => ?_)
    ·
      exact jt_rI ⟨hv0, (jfr_rf _ _), rfl, (show (0 ≤ 0 ∧ 0 ≤ 1) from by omega), (show ((¬ a0 2 3 = 0 ∨ a0 2 1 ≤ a0 2 2) → 0 = 0) from by omega), (show (0 = 0 → a0 2 2 = a0 2 2) from by omega)⟩
    ·
      exact (cp_X8_takesWord_r1000_29 E d hd a0 b0 hv0 _).2 (jxw ((a0 2 2) + (f_J0_length_8abf5_r1000 a0 b0))) 0 a0 (Nat.le_refl _) hv0 (jfr_rf _ _) (show 3 ≤ jxw ((a0 2 2) + (f_J0_length_8abf5_r1000 a0 b0)) from by omega) (show jxw ((a0 2 2) + (f_J0_length_8abf5_r1000 a0 b0)) ≤ 200 from by omega) (show 0 ≤ 0 from by omega) (show 0 ≤ 3 from by omega) (show 3 ≤ a0 2 1 from by omega) (show 0 ≤ 0 from by omega) (show a0 2 2 = a0 2 2 from by omega) (show jxw ((a0 2 2) + (f_J0_length_8abf5_r1000 a0 b0)) = (a0 2 2) + 3 from by omega) (show jxw ((a0 2 2) + (f_J0_length_8abf5_r1000 a0 b0)) ≤ a0 2 1 from by omega) (show jxw ((a0 2 2) + (f_J0_length_8abf5_r1000 a0 b0)) ≤ 200 from by omega) (show a0 2 3 = 0 from by omega) (show a0 2 2 < a0 2 1 from by omega)
  ·
    have h140_ := iv_get hv0 (k := 2) (j := 1) (l := 0) (u := 200) rfl
    have h141_ := iv_get hv0 (k := 2) (j := 2) (l := 0) (u := 200) rfl
    exact jt_rI ⟨hv0, (jfr_rf _ _), rfl, (show (0 ≤ 0 ∧ 0 ≤ 1) from by omega), (show ((¬ a0 2 3 = 0 ∨ a0 2 1 ≤ a0 2 2) → 0 = 0) from by omega), (show (0 = 0 → a0 2 2 = a0 2 2) from by omega)⟩
def jW_X8_takesWord_r1001 : List (Nat × Nat) := [(2, 2)]
abbrev jQ_X8_takesWord_r1001 (a0 b0 : Nat → Nat → Int) : List jxV → (Nat → Nat → Int) → (Nat → Nat → Int) → Prop := rI (fun r a b => (iv a) ∧ (jfr jW_X8_takesWord_r1001 a0 a) ∧ (b0 = b) ∧ ((0 ≤ r ∧ r ≤ 1)) ∧ (((¬ a0 2 3 = 0 ∨ a0 2 1 ≤ a0 2 2) → r = 0)) ∧ ((r = 0 → a 2 2 = a0 2 2)))
theorem cp_X8_takesWord_r1001_56 (E : jxE) (d : Nat) (hd : Nat.ble 5 (d + 1) = true) (a0 b0 : Nat → Nat → Int) (hv0 : iv a0) : ∀ (a : Nat → Nat → Int), iv a → jfr jW_X8_takesWord_r1001 a0 a → 4 ≤ a 2 1 → a 2 2 = a0 2 2 → a0 2 3 = 0 → a0 2 2 < a0 2 1 → jt (jxX E d 128 56 [none, none, none, none] [] (jxSH, a, b0)) (jQ_X8_takesWord_r1001 a0 b0) := by
  intro a hv hf hi0 hi1 hi2 hi3
  refine jt_eq (bq_X8_takesWord_r1001_56 E d a b0) ?_
  have h142_ := iv_get hv (k := 2) (j := 1) (l := 0) (u := 200) rfl
  have h143_ : a 2 1 = a0 2 1 := hf 2 1 rfl
  have h144_ := iv_get hv0 (k := 2) (j := 1) (l := 0) (u := 200) rfl
  have h145_ := iv_get hv (k := 2) (j := 2) (l := 0) (u := 200) rfl
  have h146_ := iv_get hv0 (k := 2) (j := 2) (l := 0) (u := 200) rfl
  exact jt_rI ⟨hv, hf, rfl, (show (0 ≤ 0 ∧ 0 ≤ 1) from by omega), (show ((¬ a0 2 3 = 0 ∨ a0 2 1 ≤ a0 2 2) → 0 = 0) from by omega), (show (0 = 0 → a 2 2 = a0 2 2) from by omega)⟩
theorem cp_X8_takesWord_r1001_96 (E : jxE) (d : Nat) (hd : Nat.ble 5 (d + 1) = true) (a0 b0 : Nat → Nat → Int) (hv0 : iv a0) : ∀ (y2 : Int) (a : Nat → Nat → Int), iv a → jfr jW_X8_takesWord_r1001 a0 a → 4 ≤ y2 → y2 ≤ 200 → 4 ≤ a 2 1 → a 2 2 = a0 2 2 → y2 = (a 2 2) + 4 → y2 ≤ a 2 1 → y2 ≤ 200 → a0 2 3 = 0 → a0 2 2 < a0 2 1 → jt (jxX E d 128 96 [some (.inr (.inr (.inl 2))), none, some (.inl y2), none] [] (jxSH, a, b0)) (jQ_X8_takesWord_r1001 a0 b0) := by
  intro y2 a hv hf hi0 hi1 hi2 hi3 hi4 hi5 hi6 hi7 hi8
  refine jt_eq (bq_X8_takesWord_r1001_96 E d y2 a b0) ?_
  have h147_ := iv_get hv (k := 2) (j := 1) (l := 0) (u := 200) rfl
  have h148_ : a 2 1 = a0 2 1 := hf 2 1 rfl
  have h149_ := iv_get hv0 (k := 2) (j := 1) (l := 0) (u := 200) rfl
  have h150_ := iv_get hv (k := 2) (j := 2) (l := 0) (u := 200) rfl
  have h151_ := iv_get hv0 (k := 2) (j := 2) (l := 0) (u := 200) rfl
  have hv152_ : iv (jxu a 2 2 y2) := iv_put hv (l := 0) (u := 200) rfl (by omega) (by omega)
  refine jt_bV (sp_X8_skipBlanks E d (jd_le hd rfl) (jxu a 2 2 y2) b0 hv152_) (fun a153_ b153_ h153_ => ?_)
  obtain ⟨hv153_, hf153_, rfl, hq153_0⟩ := h153_
  have h154_ := iv_get hv153_ (k := 2) (j := 2) (l := 0) (u := 200) rfl
  have h155_ : (a 2 1 ≤ y2 → a153_ 2 2 = y2) := hq153_0
  have hf156_ : jfr jW_X8_takesWord_r1001 a0 (jxu a 2 2 y2) := jfr_put hf rfl
  have hf157_ : jfr jW_X8_takesWord_r1001 a0 a153_ := jfr_tr hf156_ hf153_ rfl
  exact jt_rI ⟨hv153_, hf157_, rfl, (show (0 ≤ 1 ∧ 1 ≤ 1) from by omega), (show ((¬ a0 2 3 = 0 ∨ a0 2 1 ≤ a0 2 2) → 1 = 0) from by omega), (show (1 = 0 → a153_ 2 2 = a0 2 2) from by omega)⟩
theorem cp_X8_takesWord_r1001_83 (E : jxE) (d : Nat) (hd : Nat.ble 5 (d + 1) = true) (a0 b0 : Nat → Nat → Int) (hv0 : iv a0) : ∀ (y2 : Int) (a : Nat → Nat → Int), iv a → jfr jW_X8_takesWord_r1001 a0 a → 4 ≤ y2 → y2 ≤ 199 → 5 ≤ a 2 1 → a 2 2 = a0 2 2 → y2 = (a 2 2) + 4 → y2 ≤ a 2 1 → y2 ≤ 200 → a0 2 3 = 0 → a0 2 2 < a0 2 1 → jt (jxX E d 128 83 [some (.inr (.inr (.inl 2))), none, some (.inl y2), none] [] (jxSH, a, b0)) (jQ_X8_takesWord_r1001 a0 b0) := by
  intro y2 a hv hf hi0 hi1 hi2 hi3 hi4 hi5 hi6 hi7 hi8
  refine jt_eq (bq_X8_takesWord_r1001_83 E d y2 a b0) ?_
  have h158_ := iv_get hv (k := 2) (j := 1) (l := 0) (u := 200) rfl
  have h159_ : a 2 1 = a0 2 1 := hf 2 1 rfl
  have h160_ := iv_get hv0 (k := 2) (j := 1) (l := 0) (u := 200) rfl
  have h161_ := iv_get hv (k := 2) (j := 2) (l := 0) (u := 200) rfl
  have h162_ := iv_get hv0 (k := 2) (j := 2) (l := 0) (u := 200) rfl
  refine jt_grd (by omega) ?_
  have h163_ := iv_get hv (k := 3) (j := y2.toNat) (l := 0) (u := 255) rfl
  have h164_ : a 3 (y2.toNat) = a0 3 (y2.toNat) := hf 3 (y2.toNat) rfl
  have h165_ := iv_get hv0 (k := 3) (j := y2.toNat) (l := 0) (u := 255) rfl
  refine jt_ite (fun c166_ => ?_) (fun c166_ => ?_)
  ·
    exact cp_X8_takesWord_r1001_96 E d hd a0 b0 hv0 y2 a hv hf (show 4 ≤ y2 from by omega) (show y2 ≤ 200 from by omega) (show 4 ≤ a 2 1 from by omega) (show a 2 2 = a0 2 2 from by omega) (show y2 = (a 2 2) + 4 from by omega) (show y2 ≤ a 2 1 from by omega) (show y2 ≤ 200 from by omega) (show a0 2 3 = 0 from by omega) (show a0 2 2 < a0 2 1 from by omega)
  ·
    exact jt_rI ⟨hv, hf, rfl, (show (0 ≤ 0 ∧ 0 ≤ 1) from by omega), (show ((¬ a0 2 3 = 0 ∨ a0 2 1 ≤ a0 2 2) → 0 = 0) from by omega), (show (0 = 0 → a 2 2 = a0 2 2) from by omega)⟩
theorem cp_X8_takesWord_r1001_29 (E : jxE) (d : Nat) (hd : Nat.ble 5 (d + 1) = true) (a0 b0 : Nat → Nat → Int) (hv0 : iv a0) : ∀ n : Nat, (∀ (y2 y3 : Int) (a : Nat → Nat → Int), (((4 - y3) * 1) + 0).toNat ≤ n → iv a → jfr jW_X8_takesWord_r1001 a0 a → 4 ≤ y2 → y2 ≤ 200 → 0 ≤ y3 → y3 ≤ 3 → 4 ≤ a 2 1 → y3 < 4 → 0 ≤ y3 → a 2 2 = a0 2 2 → y2 = (a 2 2) + 4 → y2 ≤ a 2 1 → y2 ≤ 200 → a0 2 3 = 0 → a0 2 2 < a0 2 1 → jt (jxX E d 128 58 [some (.inr (.inr (.inl 2))), some (.inr (.inr (.inl 1001))), some (.inl y2), some (.inl y3)] [] (jxSH, a, b0)) (jQ_X8_takesWord_r1001 a0 b0)) ∧ (∀ (y2 y3 : Int) (a : Nat → Nat → Int), (((4 - y3) * 1) + 0).toNat ≤ n → iv a → jfr jW_X8_takesWord_r1001 a0 a → 4 ≤ y2 → y2 ≤ 200 → 0 ≤ y3 → y3 ≤ 4 → 4 ≤ a 2 1 → 0 ≤ y3 → a 2 2 = a0 2 2 → y2 = (a 2 2) + 4 → y2 ≤ a 2 1 → y2 ≤ 200 → a0 2 3 = 0 → a0 2 2 < a0 2 1 → jt (jxX E d 128 29 [some (.inr (.inr (.inl 2))), some (.inr (.inr (.inl 1001))), some (.inl y2), some (.inl y3)] [] (jxSH, a, b0)) (jQ_X8_takesWord_r1001 a0 b0)) := by
  refine jx_ind fun n ih => ?_
  have ih58 : ∀ (y2 y3 : Int) (a : Nat → Nat → Int), (((4 - y3) * 1) + 0).toNat < n → iv a → jfr jW_X8_takesWord_r1001 a0 a → 4 ≤ y2 → y2 ≤ 200 → 0 ≤ y3 → y3 ≤ 3 → 4 ≤ a 2 1 → y3 < 4 → 0 ≤ y3 → a 2 2 = a0 2 2 → y2 = (a 2 2) + 4 → y2 ≤ a 2 1 → y2 ≤ 200 → a0 2 3 = 0 → a0 2 2 < a0 2 1 → jt (jxX E d 128 58 [some (.inr (.inr (.inl 2))), some (.inr (.inr (.inl 1001))), some (.inl y2), some (.inl y3)] [] (jxSH, a, b0)) (jQ_X8_takesWord_r1001 a0 b0) := fun y2 y3 a hlt i0 i1 i2 i3 i4 i5 i6 i7 i8 i9 i10 i11 i12 i13 i14 => (ih _ hlt).1 y2 y3 a (Nat.le_refl _) i0 i1 i2 i3 i4 i5 i6 i7 i8 i9 i10 i11 i12 i13 i14
  have ih29 : ∀ (y2 y3 : Int) (a : Nat → Nat → Int), (((4 - y3) * 1) + 0).toNat < n → iv a → jfr jW_X8_takesWord_r1001 a0 a → 4 ≤ y2 → y2 ≤ 200 → 0 ≤ y3 → y3 ≤ 4 → 4 ≤ a 2 1 → 0 ≤ y3 → a 2 2 = a0 2 2 → y2 = (a 2 2) + 4 → y2 ≤ a 2 1 → y2 ≤ 200 → a0 2 3 = 0 → a0 2 2 < a0 2 1 → jt (jxX E d 128 29 [some (.inr (.inr (.inl 2))), some (.inr (.inr (.inl 1001))), some (.inl y2), some (.inl y3)] [] (jxSH, a, b0)) (jQ_X8_takesWord_r1001 a0 b0) := fun y2 y3 a hlt i0 i1 i2 i3 i4 i5 i6 i7 i8 i9 i10 i11 i12 i13 => (ih _ hlt).2 y2 y3 a (Nat.le_refl _) i0 i1 i2 i3 i4 i5 i6 i7 i8 i9 i10 i11 i12 i13
  have hc58 : ∀ (y2 y3 : Int) (a : Nat → Nat → Int), (((4 - y3) * 1) + 0).toNat ≤ n → iv a → jfr jW_X8_takesWord_r1001 a0 a → 4 ≤ y2 → y2 ≤ 200 → 0 ≤ y3 → y3 ≤ 3 → 4 ≤ a 2 1 → y3 < 4 → 0 ≤ y3 → a 2 2 = a0 2 2 → y2 = (a 2 2) + 4 → y2 ≤ a 2 1 → y2 ≤ 200 → a0 2 3 = 0 → a0 2 2 < a0 2 1 → jt (jxX E d 128 58 [some (.inr (.inr (.inl 2))), some (.inr (.inr (.inl 1001))), some (.inl y2), some (.inl y3)] [] (jxSH, a, b0)) (jQ_X8_takesWord_r1001 a0 b0) := by
    intro y2 y3 a hm hv hf hi0 hi1 hi2 hi3 hi4 hi5 hi6 hi7 hi8 hi9 hi10 hi11 hi12
    refine jt_eq (bq_X8_takesWord_r1001_58 E d y2 y3 a b0) ?_
    have h167_ := iv_get hv (k := 2) (j := 1) (l := 0) (u := 200) rfl
    have h168_ : a 2 1 = a0 2 1 := hf 2 1 rfl
    have h169_ := iv_get hv0 (k := 2) (j := 1) (l := 0) (u := 200) rfl
    have h170_ := iv_get hv (k := 2) (j := 2) (l := 0) (u := 200) rfl
    have h171_ := iv_get hv0 (k := 2) (j := 2) (l := 0) (u := 200) rfl
    have h172_ : jxw (y3 + 1) = y3 + 1 := jxw_id (by omega) (by omega)
    exact ih29 y2 (jxw (y3 + 1)) a (show (((4 - (jxw (y3 + 1))) * 1) + 0).toNat < n from by omega) hv hf (show 4 ≤ y2 from by omega) (show y2 ≤ 200 from by omega) (show 0 ≤ jxw (y3 + 1) from by omega) (show jxw (y3 + 1) ≤ 4 from by omega) (show 4 ≤ a 2 1 from by omega) (show 0 ≤ jxw (y3 + 1) from by omega) (show a 2 2 = a0 2 2 from by omega) (show y2 = (a 2 2) + 4 from by omega) (show y2 ≤ a 2 1 from by omega) (show y2 ≤ 200 from by omega) (show a0 2 3 = 0 from by omega) (show a0 2 2 < a0 2 1 from by omega)
  have hc29 : ∀ (y2 y3 : Int) (a : Nat → Nat → Int), (((4 - y3) * 1) + 0).toNat ≤ n → iv a → jfr jW_X8_takesWord_r1001 a0 a → 4 ≤ y2 → y2 ≤ 200 → 0 ≤ y3 → y3 ≤ 4 → 4 ≤ a 2 1 → 0 ≤ y3 → a 2 2 = a0 2 2 → y2 = (a 2 2) + 4 → y2 ≤ a 2 1 → y2 ≤ 200 → a0 2 3 = 0 → a0 2 2 < a0 2 1 → jt (jxX E d 128 29 [some (.inr (.inr (.inl 2))), some (.inr (.inr (.inl 1001))), some (.inl y2), some (.inl y3)] [] (jxSH, a, b0)) (jQ_X8_takesWord_r1001 a0 b0) := by
    intro y2 y3 a hm hv hf hi0 hi1 hi2 hi3 hi4 hi5 hi6 hi7 hi8 hi9 hi10 hi11
    refine jt_eq (bq_X8_takesWord_r1001_29 E d y2 y3 a b0) ?_
    have h173_ := iv_get hv (k := 2) (j := 1) (l := 0) (u := 200) rfl
    have h174_ : a 2 1 = a0 2 1 := hf 2 1 rfl
    have h175_ := iv_get hv0 (k := 2) (j := 1) (l := 0) (u := 200) rfl
    have h176_ := iv_get hv (k := 2) (j := 2) (l := 0) (u := 200) rfl
    have h177_ := iv_get hv0 (k := 2) (j := 2) (l := 0) (u := 200) rfl
    refine jt_eI (eq_J0_length_8abf5_r1001 E d (jd_le hd rfl) a b0) ?_
    have h178_ := ff_J0_length_8abf5_r1001 a b0
    refine jt_ite (fun c179_ => ?_) (fun c179_ => ?_)
    ·
      have h180_ : jxw ((a 2 2) + y3) = (a 2 2) + y3 := jxw_id (by omega) (by omega)
      refine jt_grd (by omega) ?_
      refine jt_eI (eq_J0_charAt_5068e_r1001 E d (jd_le hd rfl) y3 a b0 (show (0 ≤ y3 ∧ y3 < 4) from by omega)) ?_
      have h181_ := iv_get hv (k := 3) (j := (jxw ((a 2 2) + y3)).toNat) (l := 0) (u := 255) rfl
      have h182_ : a 3 ((jxw ((a 2 2) + y3)).toNat) = a0 3 ((jxw ((a 2 2) + y3)).toNat) := hf 3 ((jxw ((a 2 2) + y3)).toNat) rfl
      have h183_ := iv_get hv0 (k := 3) (j := (jxw ((a 2 2) + y3)).toNat) (l := 0) (u := 255) rfl
      have h184_ := f_J0_charAt_5068e_r1001_eq a b0 y3
      have h185_ := f_J0_isLatin1_aae02_r1001_eq a b0
      have h186_ := f_J1_charAt_3b067_r2001_eq a b0 y3
      have h187_ := jxand_r (([108, 97, 110, 100] : List Int).getD (y3.toNat) 0) 255 (by decide) (by decide)
      have h188_ := jxi2c_b (jxand (([108, 97, 110, 100] : List Int).getD (y3.toNat) 0) 255)
      refine jt_ite (fun c189_ => ?_) (fun c189_ => ?_)
      ·
        exact hc58 y2 y3 a (show (((4 - y3) * 1) + 0).toNat ≤ n from by omega) hv hf (show 4 ≤ y2 from by omega) (show y2 ≤ 200 from by omega) (show 0 ≤ y3 from by omega) (show y3 ≤ 3 from by omega) (show 4 ≤ a 2 1 from by omega) (show y3 < 4 from by omega) (show 0 ≤ y3 from by omega) (show a 2 2 = a0 2 2 from by omega) (show y2 = (a 2 2) + 4 from by omega) (show y2 ≤ a 2 1 from by omega) (show y2 ≤ 200 from by omega) (show a0 2 3 = 0 from by omega) (show a0 2 2 < a0 2 1 from by omega)
      ·
        exact cp_X8_takesWord_r1001_56 E d hd a0 b0 hv0 a hv hf (show 4 ≤ a 2 1 from by omega) (show a 2 2 = a0 2 2 from by omega) (show a0 2 3 = 0 from by omega) (show a0 2 2 < a0 2 1 from by omega)
    ·
      refine jt_ite (fun c190_ => ?_) (fun c190_ => ?_)
      ·
        refine jt_grd (by omega) ?_
        have h191_ := iv_get hv (k := 3) (j := y2.toNat) (l := 0) (u := 255) rfl
        have h192_ : a 3 (y2.toNat) = a0 3 (y2.toNat) := hf 3 (y2.toNat) rfl
        have h193_ := iv_get hv0 (k := 3) (j := y2.toNat) (l := 0) (u := 255) rfl
        refine jt_ite (fun c194_ => ?_) (fun c194_ => ?_)
        ·
          exact cp_X8_takesWord_r1001_96 E d hd a0 b0 hv0 y2 a hv hf (show 4 ≤ y2 from by omega) (show y2 ≤ 200 from by omega) (show 4 ≤ a 2 1 from by omega) (show a 2 2 = a0 2 2 from by omega) (show y2 = (a 2 2) + 4 from by omega) (show y2 ≤ a 2 1 from by omega) (show y2 ≤ 200 from by omega) (show a0 2 3 = 0 from by omega) (show a0 2 2 < a0 2 1 from by omega)
        ·
          exact cp_X8_takesWord_r1001_83 E d hd a0 b0 hv0 y2 a hv hf (show 4 ≤ y2 from by omega) (show y2 ≤ 199 from by omega) (show 5 ≤ a 2 1 from by omega) (show a 2 2 = a0 2 2 from by omega) (show y2 = (a 2 2) + 4 from by omega) (show y2 ≤ a 2 1 from by omega) (show y2 ≤ 200 from by omega) (show a0 2 3 = 0 from by omega) (show a0 2 2 < a0 2 1 from by omega)
      ·
        exact cp_X8_takesWord_r1001_96 E d hd a0 b0 hv0 y2 a hv hf (show 4 ≤ y2 from by omega) (show y2 ≤ 200 from by omega) (show 4 ≤ a 2 1 from by omega) (show a 2 2 = a0 2 2 from by omega) (show y2 = (a 2 2) + 4 from by omega) (show y2 ≤ a 2 1 from by omega) (show y2 ≤ 200 from by omega) (show a0 2 3 = 0 from by omega) (show a0 2 2 < a0 2 1 from by omega)
  exact ⟨hc58, hc29⟩
theorem sp_X8_takesWord_r1001 (E : jxE) (d : Nat) (hd : Nat.ble 5 d = true) (a0 b0 : Nat → Nat → Int) (hv0 : iv a0) : jt (jxC E d 128 [.inr (.inr (.inl 2)), .inr (.inr (.inl 1001))] (jxSH, a0, b0)) (jQ_X8_takesWord_r1001 a0 b0) := by
  obtain ⟨d, rfl⟩ := jd_succ hd
  refine jt_eq (bq_X8_takesWord_r1001 E d a0 b0) ?_
  refine jt_eI (eq_J0_length_8abf5_r1001 E d (jd_le hd rfl) a0 b0) ?_
  refine jt_eI (eq_X8_isFaulty E d (jd_le hd rfl) a0 b0) ?_
  have h195_ := f_X8_isFaulty_eq a0 b0
  refine jt_ite (fun c196_ => ?_) (fun c196_ => ?_)
  ·
    have h197_ := iv_get hv0 (k := 2) (j := 1) (l := 0) (u := 200) rfl
    have h198_ := iv_get hv0 (k := 2) (j := 2) (l := 0) (u := 200) rfl
    have h199_ := ff_J0_length_8abf5_r1001 a0 b0
    have h200_ : jxw ((a0 2 2) + (f_J0_length_8abf5_r1001 a0 b0)) = (a0 2 2) + (f_J0_length_8abf5_r1001 a0 b0) := jxw_id (by omega) (by omega)
    refine jt_ite (fun c201_ => ?_) (fun c201_ => ?_)
    ·
      exact jt_rI ⟨hv0, (jfr_rf _ _), rfl, (show (0 ≤ 0 ∧ 0 ≤ 1) from by omega), (show ((¬ a0 2 3 = 0 ∨ a0 2 1 ≤ a0 2 2) → 0 = 0) from by omega), (show (0 = 0 → a0 2 2 = a0 2 2) from by omega)⟩
    ·
      exact (cp_X8_takesWord_r1001_29 E d hd a0 b0 hv0 _).2 (jxw ((a0 2 2) + (f_J0_length_8abf5_r1001 a0 b0))) 0 a0 (Nat.le_refl _) hv0 (jfr_rf _ _) (show 4 ≤ jxw ((a0 2 2) + (f_J0_length_8abf5_r1001 a0 b0)) from by omega) (show jxw ((a0 2 2) + (f_J0_length_8abf5_r1001 a0 b0)) ≤ 200 from by omega) (show 0 ≤ 0 from by omega) (show 0 ≤ 4 from by omega) (show 4 ≤ a0 2 1 from by omega) (show 0 ≤ 0 from by omega) (show a0 2 2 = a0 2 2 from by omega) (show jxw ((a0 2 2) + (f_J0_length_8abf5_r1001 a0 b0)) = (a0 2 2) + 4 from by omega) (show jxw ((a0 2 2) + (f_J0_length_8abf5_r1001 a0 b0)) ≤ a0 2 1 from by omega) (show jxw ((a0 2 2) + (f_J0_length_8abf5_r1001 a0 b0)) ≤ 200 from by omega) (show a0 2 3 = 0 from by omega) (show a0 2 2 < a0 2 1 from by omega)
  ·
    have h202_ := iv_get hv0 (k := 2) (j := 1) (l := 0) (u := 200) rfl
    have h203_ := iv_get hv0 (k := 2) (j := 2) (l := 0) (u := 200) rfl
    exact jt_rI ⟨hv0, (jfr_rf _ _), rfl, (show (0 ≤ 0 ∧ 0 ≤ 1) from by omega), (show ((¬ a0 2 3 = 0 ∨ a0 2 1 ≤ a0 2 2) → 0 = 0) from by omega), (show (0 = 0 → a0 2 2 = a0 2 2) from by omega)⟩
def jW_X8_takesWord_r1002 : List (Nat × Nat) := [(2, 2)]
abbrev jQ_X8_takesWord_r1002 (a0 b0 : Nat → Nat → Int) : List jxV → (Nat → Nat → Int) → (Nat → Nat → Int) → Prop := rI (fun r a b => (iv a) ∧ (jfr jW_X8_takesWord_r1002 a0 a) ∧ (b0 = b) ∧ ((0 ≤ r ∧ r ≤ 1)) ∧ (((¬ a0 2 3 = 0 ∨ a0 2 1 ≤ a0 2 2) → r = 0)) ∧ ((r = 0 → a 2 2 = a0 2 2)))
theorem cp_X8_takesWord_r1002_56 (E : jxE) (d : Nat) (hd : Nat.ble 5 (d + 1) = true) (a0 b0 : Nat → Nat → Int) (hv0 : iv a0) : ∀ (a : Nat → Nat → Int), iv a → jfr jW_X8_takesWord_r1002 a0 a → 6 ≤ a 2 1 → a 2 2 = a0 2 2 → a0 2 3 = 0 → a0 2 2 < a0 2 1 → jt (jxX E d 128 56 [none, none, none, none] [] (jxSH, a, b0)) (jQ_X8_takesWord_r1002 a0 b0) := by
  intro a hv hf hi0 hi1 hi2 hi3
  refine jt_eq (bq_X8_takesWord_r1002_56 E d a b0) ?_
  have h204_ := iv_get hv (k := 2) (j := 1) (l := 0) (u := 200) rfl
  have h205_ : a 2 1 = a0 2 1 := hf 2 1 rfl
  have h206_ := iv_get hv0 (k := 2) (j := 1) (l := 0) (u := 200) rfl
  have h207_ := iv_get hv (k := 2) (j := 2) (l := 0) (u := 200) rfl
  have h208_ := iv_get hv0 (k := 2) (j := 2) (l := 0) (u := 200) rfl
  exact jt_rI ⟨hv, hf, rfl, (show (0 ≤ 0 ∧ 0 ≤ 1) from by omega), (show ((¬ a0 2 3 = 0 ∨ a0 2 1 ≤ a0 2 2) → 0 = 0) from by omega), (show (0 = 0 → a 2 2 = a0 2 2) from by omega)⟩
theorem cp_X8_takesWord_r1002_96 (E : jxE) (d : Nat) (hd : Nat.ble 5 (d + 1) = true) (a0 b0 : Nat → Nat → Int) (hv0 : iv a0) : ∀ (y2 : Int) (a : Nat → Nat → Int), iv a → jfr jW_X8_takesWord_r1002 a0 a → 6 ≤ y2 → y2 ≤ 200 → 6 ≤ a 2 1 → a 2 2 = a0 2 2 → y2 = (a 2 2) + 6 → y2 ≤ a 2 1 → y2 ≤ 200 → a0 2 3 = 0 → a0 2 2 < a0 2 1 → jt (jxX E d 128 96 [some (.inr (.inr (.inl 2))), none, some (.inl y2), none] [] (jxSH, a, b0)) (jQ_X8_takesWord_r1002 a0 b0) := by
  intro y2 a hv hf hi0 hi1 hi2 hi3 hi4 hi5 hi6 hi7 hi8
  refine jt_eq (bq_X8_takesWord_r1002_96 E d y2 a b0) ?_
  have h209_ := iv_get hv (k := 2) (j := 1) (l := 0) (u := 200) rfl
  have h210_ : a 2 1 = a0 2 1 := hf 2 1 rfl
  have h211_ := iv_get hv0 (k := 2) (j := 1) (l := 0) (u := 200) rfl
  have h212_ := iv_get hv (k := 2) (j := 2) (l := 0) (u := 200) rfl
  have h213_ := iv_get hv0 (k := 2) (j := 2) (l := 0) (u := 200) rfl
  have hv214_ : iv (jxu a 2 2 y2) := iv_put hv (l := 0) (u := 200) rfl (by omega) (by omega)
  refine jt_bV (sp_X8_skipBlanks E d (jd_le hd rfl) (jxu a 2 2 y2) b0 hv214_) (fun a215_ b215_ h215_ => ?_)
  obtain ⟨hv215_, hf215_, rfl, hq215_0⟩ := h215_
  have h216_ := iv_get hv215_ (k := 2) (j := 2) (l := 0) (u := 200) rfl
  have h217_ : (a 2 1 ≤ y2 → a215_ 2 2 = y2) := hq215_0
  have hf218_ : jfr jW_X8_takesWord_r1002 a0 (jxu a 2 2 y2) := jfr_put hf rfl
  have hf219_ : jfr jW_X8_takesWord_r1002 a0 a215_ := jfr_tr hf218_ hf215_ rfl
  exact jt_rI ⟨hv215_, hf219_, rfl, (show (0 ≤ 1 ∧ 1 ≤ 1) from by omega), (show ((¬ a0 2 3 = 0 ∨ a0 2 1 ≤ a0 2 2) → 1 = 0) from by omega), (show (1 = 0 → a215_ 2 2 = a0 2 2) from by omega)⟩
theorem cp_X8_takesWord_r1002_83 (E : jxE) (d : Nat) (hd : Nat.ble 5 (d + 1) = true) (a0 b0 : Nat → Nat → Int) (hv0 : iv a0) : ∀ (y2 : Int) (a : Nat → Nat → Int), iv a → jfr jW_X8_takesWord_r1002 a0 a → 6 ≤ y2 → y2 ≤ 199 → 7 ≤ a 2 1 → a 2 2 = a0 2 2 → y2 = (a 2 2) + 6 → y2 ≤ a 2 1 → y2 ≤ 200 → a0 2 3 = 0 → a0 2 2 < a0 2 1 → jt (jxX E d 128 83 [some (.inr (.inr (.inl 2))), none, some (.inl y2), none] [] (jxSH, a, b0)) (jQ_X8_takesWord_r1002 a0 b0) := by
  intro y2 a hv hf hi0 hi1 hi2 hi3 hi4 hi5 hi6 hi7 hi8
  refine jt_eq (bq_X8_takesWord_r1002_83 E d y2 a b0) ?_
  have h220_ := iv_get hv (k := 2) (j := 1) (l := 0) (u := 200) rfl
  have h221_ : a 2 1 = a0 2 1 := hf 2 1 rfl
  have h222_ := iv_get hv0 (k := 2) (j := 1) (l := 0) (u := 200) rfl
  have h223_ := iv_get hv (k := 2) (j := 2) (l := 0) (u := 200) rfl
  have h224_ := iv_get hv0 (k := 2) (j := 2) (l := 0) (u := 200) rfl
  refine jt_grd (by omega) ?_
  have h225_ := iv_get hv (k := 3) (j := y2.toNat) (l := 0) (u := 255) rfl
  have h226_ : a 3 (y2.toNat) = a0 3 (y2.toNat) := hf 3 (y2.toNat) rfl
  have h227_ := iv_get hv0 (k := 3) (j := y2.toNat) (l := 0) (u := 255) rfl
  refine jt_ite (fun c228_ => ?_) (fun c228_ => ?_)
  ·
    exact cp_X8_takesWord_r1002_96 E d hd a0 b0 hv0 y2 a hv hf (show 6 ≤ y2 from by omega) (show y2 ≤ 200 from by omega) (show 6 ≤ a 2 1 from by omega) (show a 2 2 = a0 2 2 from by omega) (show y2 = (a 2 2) + 6 from by omega) (show y2 ≤ a 2 1 from by omega) (show y2 ≤ 200 from by omega) (show a0 2 3 = 0 from by omega) (show a0 2 2 < a0 2 1 from by omega)
  ·
    exact jt_rI ⟨hv, hf, rfl, (show (0 ≤ 0 ∧ 0 ≤ 1) from by omega), (show ((¬ a0 2 3 = 0 ∨ a0 2 1 ≤ a0 2 2) → 0 = 0) from by omega), (show (0 = 0 → a 2 2 = a0 2 2) from by omega)⟩
theorem cp_X8_takesWord_r1002_29 (E : jxE) (d : Nat) (hd : Nat.ble 5 (d + 1) = true) (a0 b0 : Nat → Nat → Int) (hv0 : iv a0) : ∀ n : Nat, (∀ (y2 y3 : Int) (a : Nat → Nat → Int), (((6 - y3) * 1) + 0).toNat ≤ n → iv a → jfr jW_X8_takesWord_r1002 a0 a → 6 ≤ y2 → y2 ≤ 200 → 0 ≤ y3 → y3 ≤ 5 → 6 ≤ a 2 1 → y3 < 6 → 0 ≤ y3 → a 2 2 = a0 2 2 → y2 = (a 2 2) + 6 → y2 ≤ a 2 1 → y2 ≤ 200 → a0 2 3 = 0 → a0 2 2 < a0 2 1 → jt (jxX E d 128 58 [some (.inr (.inr (.inl 2))), some (.inr (.inr (.inl 1002))), some (.inl y2), some (.inl y3)] [] (jxSH, a, b0)) (jQ_X8_takesWord_r1002 a0 b0)) ∧ (∀ (y2 y3 : Int) (a : Nat → Nat → Int), (((6 - y3) * 1) + 0).toNat ≤ n → iv a → jfr jW_X8_takesWord_r1002 a0 a → 6 ≤ y2 → y2 ≤ 200 → 0 ≤ y3 → y3 ≤ 6 → 6 ≤ a 2 1 → 0 ≤ y3 → a 2 2 = a0 2 2 → y2 = (a 2 2) + 6 → y2 ≤ a 2 1 → y2 ≤ 200 → a0 2 3 = 0 → a0 2 2 < a0 2 1 → jt (jxX E d 128 29 [some (.inr (.inr (.inl 2))), some (.inr (.inr (.inl 1002))), some (.inl y2), some (.inl y3)] [] (jxSH, a, b0)) (jQ_X8_takesWord_r1002 a0 b0)) := by
  refine jx_ind fun n ih => ?_
  have ih58 : ∀ (y2 y3 : Int) (a : Nat → Nat → Int), (((6 - y3) * 1) + 0).toNat < n → iv a → jfr jW_X8_takesWord_r1002 a0 a → 6 ≤ y2 → y2 ≤ 200 → 0 ≤ y3 → y3 ≤ 5 → 6 ≤ a 2 1 → y3 < 6 → 0 ≤ y3 → a 2 2 = a0 2 2 → y2 = (a 2 2) + 6 → y2 ≤ a 2 1 → y2 ≤ 200 → a0 2 3 = 0 → a0 2 2 < a0 2 1 → jt (jxX E d 128 58 [some (.inr (.inr (.inl 2))), some (.inr (.inr (.inl 1002))), some (.inl y2), some (.inl y3)] [] (jxSH, a, b0)) (jQ_X8_takesWord_r1002 a0 b0) := fun y2 y3 a hlt i0 i1 i2 i3 i4 i5 i6 i7 i8 i9 i10 i11 i12 i13 i14 => (ih _ hlt).1 y2 y3 a (Nat.le_refl _) i0 i1 i2 i3 i4 i5 i6 i7 i8 i9 i10 i11 i12 i13 i14
  have ih29 : ∀ (y2 y3 : Int) (a : Nat → Nat → Int), (((6 - y3) * 1) + 0).toNat < n → iv a → jfr jW_X8_takesWord_r1002 a0 a → 6 ≤ y2 → y2 ≤ 200 → 0 ≤ y3 → y3 ≤ 6 → 6 ≤ a 2 1 → 0 ≤ y3 → a 2 2 = a0 2 2 → y2 = (a 2 2) + 6 → y2 ≤ a 2 1 → y2 ≤ 200 → a0 2 3 = 0 → a0 2 2 < a0 2 1 → jt (jxX E d 128 29 [some (.inr (.inr (.inl 2))), some (.inr (.inr (.inl 1002))), some (.inl y2), some (.inl y3)] [] (jxSH, a, b0)) (jQ_X8_takesWord_r1002 a0 b0) := fun y2 y3 a hlt i0 i1 i2 i3 i4 i5 i6 i7 i8 i9 i10 i11 i12 i13 => (ih _ hlt).2 y2 y3 a (Nat.le_refl _) i0 i1 i2 i3 i4 i5 i6 i7 i8 i9 i10 i11 i12 i13
  have hc58 : ∀ (y2 y3 : Int) (a : Nat → Nat → Int), (((6 - y3) * 1) + 0).toNat ≤ n → iv a → jfr jW_X8_takesWord_r1002 a0 a → 6 ≤ y2 → y2 ≤ 200 → 0 ≤ y3 → y3 ≤ 5 → 6 ≤ a 2 1 → y3 < 6 → 0 ≤ y3 → a 2 2 = a0 2 2 → y2 = (a 2 2) + 6 → y2 ≤ a 2 1 → y2 ≤ 200 → a0 2 3 = 0 → a0 2 2 < a0 2 1 → jt (jxX E d 128 58 [some (.inr (.inr (.inl 2))), some (.inr (.inr (.inl 1002))), some (.inl y2), some (.inl y3)] [] (jxSH, a, b0)) (jQ_X8_takesWord_r1002 a0 b0) := by
    intro y2 y3 a hm hv hf hi0 hi1 hi2 hi3 hi4 hi5 hi6 hi7 hi8 hi9 hi10 hi11 hi12
    refine jt_eq (bq_X8_takesWord_r1002_58 E d y2 y3 a b0) ?_
    have h229_ := iv_get hv (k := 2) (j := 1) (l := 0) (u := 200) rfl
    have h230_ : a 2 1 = a0 2 1 := hf 2 1 rfl
    have h231_ := iv_get hv0 (k := 2) (j := 1) (l := 0) (u := 200) rfl
    have h232_ := iv_get hv (k := 2) (j := 2) (l := 0) (u := 200) rfl
    have h233_ := iv_get hv0 (k := 2) (j := 2) (l := 0) (u := 200) rfl
    have h234_ : jxw (y3 + 1) = y3 + 1 := jxw_id (by omega) (by omega)
    exact ih29 y2 (jxw (y3 + 1)) a (show (((6 - (jxw (y3 + 1))) * 1) + 0).toNat < n from by omega) hv hf (show 6 ≤ y2 from by omega) (show y2 ≤ 200 from by omega) (show 0 ≤ jxw (y3 + 1) from by omega) (show jxw (y3 + 1) ≤ 6 from by omega) (show 6 ≤ a 2 1 from by omega) (show 0 ≤ jxw (y3 + 1) from by omega) (show a 2 2 = a0 2 2 from by omega) (show y2 = (a 2 2) + 6 from by omega) (show y2 ≤ a 2 1 from by omega) (show y2 ≤ 200 from by omega) (show a0 2 3 = 0 from by omega) (show a0 2 2 < a0 2 1 from by omega)
  have hc29 : ∀ (y2 y3 : Int) (a : Nat → Nat → Int), (((6 - y3) * 1) + 0).toNat ≤ n → iv a → jfr jW_X8_takesWord_r1002 a0 a → 6 ≤ y2 → y2 ≤ 200 → 0 ≤ y3 → y3 ≤ 6 → 6 ≤ a 2 1 → 0 ≤ y3 → a 2 2 = a0 2 2 → y2 = (a 2 2) + 6 → y2 ≤ a 2 1 → y2 ≤ 200 → a0 2 3 = 0 → a0 2 2 < a0 2 1 → jt (jxX E d 128 29 [some (.inr (.inr (.inl 2))), some (.inr (.inr (.inl 1002))), some (.inl y2), some (.inl y3)] [] (jxSH, a, b0)) (jQ_X8_takesWord_r1002 a0 b0) := by
    intro y2 y3 a hm hv hf hi0 hi1 hi2 hi3 hi4 hi5 hi6 hi7 hi8 hi9 hi10 hi11
    refine jt_eq (bq_X8_takesWord_r1002_29 E d y2 y3 a b0) ?_
    have h235_ := iv_get hv (k := 2) (j := 1) (l := 0) (u := 200) rfl
    have h236_ : a 2 1 = a0 2 1 := hf 2 1 rfl
    have h237_ := iv_get hv0 (k := 2) (j := 1) (l := 0) (u := 200) rfl
    have h238_ := iv_get hv (k := 2) (j := 2) (l := 0) (u := 200) rfl
    have h239_ := iv_get hv0 (k := 2) (j := 2) (l := 0) (u := 200) rfl
    refine jt_eI (eq_J0_length_8abf5_r1002 E d (jd_le hd rfl) a b0) ?_
    have h240_ := ff_J0_length_8abf5_r1002 a b0
    refine jt_ite (fun c241_ => ?_) (fun c241_ => ?_)
    ·
      have h242_ : jxw ((a 2 2) + y3) = (a 2 2) + y3 := jxw_id (by omega) (by omega)
      refine jt_grd (by omega) ?_
      refine jt_eI (eq_J0_charAt_5068e_r1002 E d (jd_le hd rfl) y3 a b0 (show (0 ≤ y3 ∧ y3 < 6) from by omega)) ?_
      have h243_ := iv_get hv (k := 3) (j := (jxw ((a 2 2) + y3)).toNat) (l := 0) (u := 255) rfl
      have h244_ : a 3 ((jxw ((a 2 2) + y3)).toNat) = a0 3 ((jxw ((a 2 2) + y3)).toNat) := hf 3 ((jxw ((a 2 2) + y3)).toNat) rfl
      have h245_ := iv_get hv0 (k := 3) (j := (jxw ((a 2 2) + y3)).toNat) (l := 0) (u := 255) rfl
      have h246_ := f_J0_charAt_5068e_r1002_eq a b0 y3
      have h247_ := f_J0_isLatin1_aae02_r1002_eq a b0
      have h248_ := f_J1_charAt_3b067_r2002_eq a b0 y3
      have h249_ := jxand_r (([116, 111, 110, 103, 117, 101] : List Int).getD (y3.toNat) 0) 255 (by decide) (by decide)
      have h250_ := jxi2c_b (jxand (([116, 111, 110, 103, 117, 101] : List Int).getD (y3.toNat) 0) 255)
      refine jt_ite (fun c251_ => ?_) (fun c251_ => ?_)
      ·
        exact hc58 y2 y3 a (show (((6 - y3) * 1) + 0).toNat ≤ n from by omega) hv hf (show 6 ≤ y2 from by omega) (show y2 ≤ 200 from by omega) (show 0 ≤ y3 from by omega) (show y3 ≤ 5 from by omega) (show 6 ≤ a 2 1 from by omega) (show y3 < 6 from by omega) (show 0 ≤ y3 from by omega) (show a 2 2 = a0 2 2 from by omega) (show y2 = (a 2 2) + 6 from by omega) (show y2 ≤ a 2 1 from by omega) (show y2 ≤ 200 from by omega) (show a0 2 3 = 0 from by omega) (show a0 2 2 < a0 2 1 from by omega)
      ·
        exact cp_X8_takesWord_r1002_56 E d hd a0 b0 hv0 a hv hf (show 6 ≤ a 2 1 from by omega) (show a 2 2 = a0 2 2 from by omega) (show a0 2 3 = 0 from by omega) (show a0 2 2 < a0 2 1 from by omega)
    ·
      refine jt_ite (fun c252_ => ?_) (fun c252_ => ?_)
      ·
        refine jt_grd (by omega) ?_
        have h253_ := iv_get hv (k := 3) (j := y2.toNat) (l := 0) (u := 255) rfl
        have h254_ : a 3 (y2.toNat) = a0 3 (y2.toNat) := hf 3 (y2.toNat) rfl
        have h255_ := iv_get hv0 (k := 3) (j := y2.toNat) (l := 0) (u := 255) rfl
        refine jt_ite (fun c256_ => ?_) (fun c256_ => ?_)
        ·
          exact cp_X8_takesWord_r1002_96 E d hd a0 b0 hv0 y2 a hv hf (show 6 ≤ y2 from by omega) (show y2 ≤ 200 from by omega) (show 6 ≤ a 2 1 from by omega) (show a 2 2 = a0 2 2 from by omega) (show y2 = (a 2 2) + 6 from by omega) (show y2 ≤ a 2 1 from by omega) (show y2 ≤ 200 from by omega) (show a0 2 3 = 0 from by omega) (show a0 2 2 < a0 2 1 from by omega)
        ·
          exact cp_X8_takesWord_r1002_83 E d hd a0 b0 hv0 y2 a hv hf (show 6 ≤ y2 from by omega) (show y2 ≤ 199 from by omega) (show 7 ≤ a 2 1 from by omega) (show a 2 2 = a0 2 2 from by omega) (show y2 = (a 2 2) + 6 from by omega) (show y2 ≤ a 2 1 from by omega) (show y2 ≤ 200 from by omega) (show a0 2 3 = 0 from by omega) (show a0 2 2 < a0 2 1 from by omega)
      ·
        exact cp_X8_takesWord_r1002_96 E d hd a0 b0 hv0 y2 a hv hf (show 6 ≤ y2 from by omega) (show y2 ≤ 200 from by omega) (show 6 ≤ a 2 1 from by omega) (show a 2 2 = a0 2 2 from by omega) (show y2 = (a 2 2) + 6 from by omega) (show y2 ≤ a 2 1 from by omega) (show y2 ≤ 200 from by omega) (show a0 2 3 = 0 from by omega) (show a0 2 2 < a0 2 1 from by omega)
  exact ⟨hc58, hc29⟩
theorem sp_X8_takesWord_r1002 (E : jxE) (d : Nat) (hd : Nat.ble 5 d = true) (a0 b0 : Nat → Nat → Int) (hv0 : iv a0) : jt (jxC E d 128 [.inr (.inr (.inl 2)), .inr (.inr (.inl 1002))] (jxSH, a0, b0)) (jQ_X8_takesWord_r1002 a0 b0) := by
  obtain ⟨d, rfl⟩ := jd_succ hd
  refine jt_eq (bq_X8_takesWord_r1002 E d a0 b0) ?_
  refine jt_eI (eq_J0_length_8abf5_r1002 E d (jd_le hd rfl) a0 b0) ?_
  refine jt_eI (eq_X8_isFaulty E d (jd_le hd rfl) a0 b0) ?_
  have h257_ := f_X8_isFaulty_eq a0 b0
  refine jt_ite (fun c258_ => ?_) (fun c258_ => ?_)
  ·
    have h259_ := iv_get hv0 (k := 2) (j := 1) (l := 0) (u := 200) rfl
    have h260_ := iv_get hv0 (k := 2) (j := 2) (l := 0) (u := 200) rfl
    have h261_ := ff_J0_length_8abf5_r1002 a0 b0
    have h262_ : jxw ((a0 2 2) + (f_J0_length_8abf5_r1002 a0 b0)) = (a0 2 2) + (f_J0_length_8abf5_r1002 a0 b0) := jxw_id (by omega) (by omega)
    refine jt_ite (fun c263_ => ?_) (fun c263_ => ?_)
    ·
      exact jt_rI ⟨hv0, (jfr_rf _ _), rfl, (show (0 ≤ 0 ∧ 0 ≤ 1) from by omega), (show ((¬ a0 2 3 = 0 ∨ a0 2 1 ≤ a0 2 2) → 0 = 0) from by omega), (show (0 = 0 → a0 2 2 = a0 2 2) from by omega)⟩
    ·
      exact (cp_X8_takesWord_r1002_29 E d hd a0 b0 hv0 _).2 (jxw ((a0 2 2) + (f_J0_length_8abf5_r1002 a0 b0))) 0 a0 (Nat.le_refl _) hv0 (jfr_rf _ _) (show 6 ≤ jxw ((a0 2 2) + (f_J0_length_8abf5_r1002 a0 b0)) from by omega) (show jxw ((a0 2 2) + (f_J0_length_8abf5_r1002 a0 b0)) ≤ 200 from by omega) (show 0 ≤ 0 from by omega) (show 0 ≤ 6 from by omega) (show 6 ≤ a0 2 1 from by omega) (show 0 ≤ 0 from by omega) (show a0 2 2 = a0 2 2 from by omega) (show jxw ((a0 2 2) + (f_J0_length_8abf5_r1002 a0 b0)) = (a0 2 2) + 6 from by omega) (show jxw ((a0 2 2) + (f_J0_length_8abf5_r1002 a0 b0)) ≤ a0 2 1 from by omega) (show jxw ((a0 2 2) + (f_J0_length_8abf5_r1002 a0 b0)) ≤ 200 from by omega) (show a0 2 3 = 0 from by omega) (show a0 2 2 < a0 2 1 from by omega)
  ·
    have h264_ := iv_get hv0 (k := 2) (j := 1) (l := 0) (u := 200) rfl
    have h265_ := iv_get hv0 (k := 2) (j := 2) (l := 0) (u := 200) rfl
    exact jt_rI ⟨hv0, (jfr_rf _ _), rfl, (show (0 ≤ 0 ∧ 0 ≤ 1) from by omega), (show ((¬ a0 2 3 = 0 ∨ a0 2 1 ≤ a0 2 2) → 0 = 0) from by omega), (show (0 = 0 → a0 2 2 = a0 2 2) from by omega)⟩
def jW_X8_takesWord_r1003 : List (Nat × Nat) := [(2, 2)]
abbrev jQ_X8_takesWord_r1003 (a0 b0 : Nat → Nat → Int) : List jxV → (Nat → Nat → Int) → (Nat → Nat → Int) → Prop := rI (fun r a b => (iv a) ∧ (jfr jW_X8_takesWord_r1003 a0 a) ∧ (b0 = b) ∧ ((0 ≤ r ∧ r ≤ 1)) ∧ (((¬ a0 2 3 = 0 ∨ a0 2 1 ≤ a0 2 2) → r = 0)) ∧ ((r = 0 → a 2 2 = a0 2 2)))
theorem cp_X8_takesWord_r1003_56 (E : jxE) (d : Nat) (hd : Nat.ble 5 (d + 1) = true) (a0 b0 : Nat → Nat → Int) (hv0 : iv a0) : ∀ (a : Nat → Nat → Int), iv a → jfr jW_X8_takesWord_r1003 a0 a → 6 ≤ a 2 1 → a 2 2 = a0 2 2 → a0 2 3 = 0 → a0 2 2 < a0 2 1 → jt (jxX E d 128 56 [none, none, none, none] [] (jxSH, a, b0)) (jQ_X8_takesWord_r1003 a0 b0) := by
  intro a hv hf hi0 hi1 hi2 hi3
  refine jt_eq (bq_X8_takesWord_r1003_56 E d a b0) ?_
  have h266_ := iv_get hv (k := 2) (j := 1) (l := 0) (u := 200) rfl
  have h267_ : a 2 1 = a0 2 1 := hf 2 1 rfl
  have h268_ := iv_get hv0 (k := 2) (j := 1) (l := 0) (u := 200) rfl
  have h269_ := iv_get hv (k := 2) (j := 2) (l := 0) (u := 200) rfl
  have h270_ := iv_get hv0 (k := 2) (j := 2) (l := 0) (u := 200) rfl
  exact jt_rI ⟨hv, hf, rfl, (show (0 ≤ 0 ∧ 0 ≤ 1) from by omega), (show ((¬ a0 2 3 = 0 ∨ a0 2 1 ≤ a0 2 2) → 0 = 0) from by omega), (show (0 = 0 → a 2 2 = a0 2 2) from by omega)⟩
theorem cp_X8_takesWord_r1003_96 (E : jxE) (d : Nat) (hd : Nat.ble 5 (d + 1) = true) (a0 b0 : Nat → Nat → Int) (hv0 : iv a0) : ∀ (y2 : Int) (a : Nat → Nat → Int), iv a → jfr jW_X8_takesWord_r1003 a0 a → 6 ≤ y2 → y2 ≤ 200 → 6 ≤ a 2 1 → a 2 2 = a0 2 2 → y2 = (a 2 2) + 6 → y2 ≤ a 2 1 → y2 ≤ 200 → a0 2 3 = 0 → a0 2 2 < a0 2 1 → jt (jxX E d 128 96 [some (.inr (.inr (.inl 2))), none, some (.inl y2), none] [] (jxSH, a, b0)) (jQ_X8_takesWord_r1003 a0 b0) := by
  intro y2 a hv hf hi0 hi1 hi2 hi3 hi4 hi5 hi6 hi7 hi8
  refine jt_eq (bq_X8_takesWord_r1003_96 E d y2 a b0) ?_
  have h271_ := iv_get hv (k := 2) (j := 1) (l := 0) (u := 200) rfl
  have h272_ : a 2 1 = a0 2 1 := hf 2 1 rfl
  have h273_ := iv_get hv0 (k := 2) (j := 1) (l := 0) (u := 200) rfl
  have h274_ := iv_get hv (k := 2) (j := 2) (l := 0) (u := 200) rfl
  have h275_ := iv_get hv0 (k := 2) (j := 2) (l := 0) (u := 200) rfl
  have hv276_ : iv (jxu a 2 2 y2) := iv_put hv (l := 0) (u := 200) rfl (by omega) (by omega)
  refine jt_bV (sp_X8_skipBlanks E d (jd_le hd rfl) (jxu a 2 2 y2) b0 hv276_) (fun a277_ b277_ h277_ => ?_)
  obtain ⟨hv277_, hf277_, rfl, hq277_0⟩ := h277_
  have h278_ := iv_get hv277_ (k := 2) (j := 2) (l := 0) (u := 200) rfl
  have h279_ : (a 2 1 ≤ y2 → a277_ 2 2 = y2) := hq277_0
  have hf280_ : jfr jW_X8_takesWord_r1003 a0 (jxu a 2 2 y2) := jfr_put hf rfl
  have hf281_ : jfr jW_X8_takesWord_r1003 a0 a277_ := jfr_tr hf280_ hf277_ rfl
  exact jt_rI ⟨hv277_, hf281_, rfl, (show (0 ≤ 1 ∧ 1 ≤ 1) from by omega), (show ((¬ a0 2 3 = 0 ∨ a0 2 1 ≤ a0 2 2) → 1 = 0) from by omega), (show (1 = 0 → a277_ 2 2 = a0 2 2) from by omega)⟩
theorem cp_X8_takesWord_r1003_83 (E : jxE) (d : Nat) (hd : Nat.ble 5 (d + 1) = true) (a0 b0 : Nat → Nat → Int) (hv0 : iv a0) : ∀ (y2 : Int) (a : Nat → Nat → Int), iv a → jfr jW_X8_takesWord_r1003 a0 a → 6 ≤ y2 → y2 ≤ 199 → 7 ≤ a 2 1 → a 2 2 = a0 2 2 → y2 = (a 2 2) + 6 → y2 ≤ a 2 1 → y2 ≤ 200 → a0 2 3 = 0 → a0 2 2 < a0 2 1 → jt (jxX E d 128 83 [some (.inr (.inr (.inl 2))), none, some (.inl y2), none] [] (jxSH, a, b0)) (jQ_X8_takesWord_r1003 a0 b0) := by
  intro y2 a hv hf hi0 hi1 hi2 hi3 hi4 hi5 hi6 hi7 hi8
  refine jt_eq (bq_X8_takesWord_r1003_83 E d y2 a b0) ?_
  have h282_ := iv_get hv (k := 2) (j := 1) (l := 0) (u := 200) rfl
  have h283_ : a 2 1 = a0 2 1 := hf 2 1 rfl
  have h284_ := iv_get hv0 (k := 2) (j := 1) (l := 0) (u := 200) rfl
  have h285_ := iv_get hv (k := 2) (j := 2) (l := 0) (u := 200) rfl
  have h286_ := iv_get hv0 (k := 2) (j := 2) (l := 0) (u := 200) rfl
  refine jt_grd (by omega) ?_
  have h287_ := iv_get hv (k := 3) (j := y2.toNat) (l := 0) (u := 255) rfl
  have h288_ : a 3 (y2.toNat) = a0 3 (y2.toNat) := hf 3 (y2.toNat) rfl
  have h289_ := iv_get hv0 (k := 3) (j := y2.toNat) (l := 0) (u := 255) rfl
  refine jt_ite (fun c290_ => ?_) (fun c290_ => ?_)
  ·
    exact cp_X8_takesWord_r1003_96 E d hd a0 b0 hv0 y2 a hv hf (show 6 ≤ y2 from by omega) (show y2 ≤ 200 from by omega) (show 6 ≤ a 2 1 from by omega) (show a 2 2 = a0 2 2 from by omega) (show y2 = (a 2 2) + 6 from by omega) (show y2 ≤ a 2 1 from by omega) (show y2 ≤ 200 from by omega) (show a0 2 3 = 0 from by omega) (show a0 2 2 < a0 2 1 from by omega)
  ·
    exact jt_rI ⟨hv, hf, rfl, (show (0 ≤ 0 ∧ 0 ≤ 1) from by omega), (show ((¬ a0 2 3 = 0 ∨ a0 2 1 ≤ a0 2 2) → 0 = 0) from by omega), (show (0 = 0 → a 2 2 = a0 2 2) from by omega)⟩
theorem cp_X8_takesWord_r1003_29 (E : jxE) (d : Nat) (hd : Nat.ble 5 (d + 1) = true) (a0 b0 : Nat → Nat → Int) (hv0 : iv a0) : ∀ n : Nat, (∀ (y2 y3 : Int) (a : Nat → Nat → Int), (((6 - y3) * 1) + 0).toNat ≤ n → iv a → jfr jW_X8_takesWord_r1003 a0 a → 6 ≤ y2 → y2 ≤ 200 → 0 ≤ y3 → y3 ≤ 5 → 6 ≤ a 2 1 → y3 < 6 → 0 ≤ y3 → a 2 2 = a0 2 2 → y2 = (a 2 2) + 6 → y2 ≤ a 2 1 → y2 ≤ 200 → a0 2 3 = 0 → a0 2 2 < a0 2 1 → jt (jxX E d 128 58 [some (.inr (.inr (.inl 2))), some (.inr (.inr (.inl 1003))), some (.inl y2), some (.inl y3)] [] (jxSH, a, b0)) (jQ_X8_takesWord_r1003 a0 b0)) ∧ (∀ (y2 y3 : Int) (a : Nat → Nat → Int), (((6 - y3) * 1) + 0).toNat ≤ n → iv a → jfr jW_X8_takesWord_r1003 a0 a → 6 ≤ y2 → y2 ≤ 200 → 0 ≤ y3 → y3 ≤ 6 → 6 ≤ a 2 1 → 0 ≤ y3 → a 2 2 = a0 2 2 → y2 = (a 2 2) + 6 → y2 ≤ a 2 1 → y2 ≤ 200 → a0 2 3 = 0 → a0 2 2 < a0 2 1 → jt (jxX E d 128 29 [some (.inr (.inr (.inl 2))), some (.inr (.inr (.inl 1003))), some (.inl y2), some (.inl y3)] [] (jxSH, a, b0)) (jQ_X8_takesWord_r1003 a0 b0)) := by
  refine jx_ind fun n ih => ?_
  have ih58 : ∀ (y2 y3 : Int) (a : Nat → Nat → Int), (((6 - y3) * 1) + 0).toNat < n → iv a → jfr jW_X8_takesWord_r1003 a0 a → 6 ≤ y2 → y2 ≤ 200 → 0 ≤ y3 → y3 ≤ 5 → 6 ≤ a 2 1 → y3 < 6 → 0 ≤ y3 → a 2 2 = a0 2 2 → y2 = (a 2 2) + 6 → y2 ≤ a 2 1 → y2 ≤ 200 → a0 2 3 = 0 → a0 2 2 < a0 2 1 → jt (jxX E d 128 58 [some (.inr (.inr (.inl 2))), some (.inr (.inr (.inl 1003))), some (.inl y2), some (.inl y3)] [] (jxSH, a, b0)) (jQ_X8_takesWord_r1003 a0 b0) := fun y2 y3 a hlt i0 i1 i2 i3 i4 i5 i6 i7 i8 i9 i10 i11 i12 i13 i14 => (ih _ hlt).1 y2 y3 a (Nat.le_refl _) i0 i1 i2 i3 i4 i5 i6 i7 i8 i9 i10 i11 i12 i13 i14
  have ih29 : ∀ (y2 y3 : Int) (a : Nat → Nat → Int), (((6 - y3) * 1) + 0).toNat < n → iv a → jfr jW_X8_takesWord_r1003 a0 a → 6 ≤ y2 → y2 ≤ 200 → 0 ≤ y3 → y3 ≤ 6 → 6 ≤ a 2 1 → 0 ≤ y3 → a 2 2 = a0 2 2 → y2 = (a 2 2) + 6 → y2 ≤ a 2 1 → y2 ≤ 200 → a0 2 3 = 0 → a0 2 2 < a0 2 1 → jt (jxX E d 128 29 [some (.inr (.inr (.inl 2))), some (.inr (.inr (.inl 1003))), some (.inl y2), some (.inl y3)] [] (jxSH, a, b0)) (jQ_X8_takesWord_r1003 a0 b0) := fun y2 y3 a hlt i0 i1 i2 i3 i4 i5 i6 i7 i8 i9 i10 i11 i12 i13 => (ih _ hlt).2 y2 y3 a (Nat.le_refl _) i0 i1 i2 i3 i4 i5 i6 i7 i8 i9 i10 i11 i12 i13
  have hc58 : ∀ (y2 y3 : Int) (a : Nat → Nat → Int), (((6 - y3) * 1) + 0).toNat ≤ n → iv a → jfr jW_X8_takesWord_r1003 a0 a → 6 ≤ y2 → y2 ≤ 200 → 0 ≤ y3 → y3 ≤ 5 → 6 ≤ a 2 1 → y3 < 6 → 0 ≤ y3 → a 2 2 = a0 2 2 → y2 = (a 2 2) + 6 → y2 ≤ a 2 1 → y2 ≤ 200 → a0 2 3 = 0 → a0 2 2 < a0 2 1 → jt (jxX E d 128 58 [some (.inr (.inr (.inl 2))), some (.inr (.inr (.inl 1003))), some (.inl y2), some (.inl y3)] [] (jxSH, a, b0)) (jQ_X8_takesWord_r1003 a0 b0) := by
    intro y2 y3 a hm hv hf hi0 hi1 hi2 hi3 hi4 hi5 hi6 hi7 hi8 hi9 hi10 hi11 hi12
    refine jt_eq (bq_X8_takesWord_r1003_58 E d y2 y3 a b0) ?_
    have h291_ := iv_get hv (k := 2) (j := 1) (l := 0) (u := 200) rfl
    have h292_ : a 2 1 = a0 2 1 := hf 2 1 rfl
    have h293_ := iv_get hv0 (k := 2) (j := 1) (l := 0) (u := 200) rfl
    have h294_ := iv_get hv (k := 2) (j := 2) (l := 0) (u := 200) rfl
    have h295_ := iv_get hv0 (k := 2) (j := 2) (l := 0) (u := 200) rfl
    have h296_ : jxw (y3 + 1) = y3 + 1 := jxw_id (by omega) (by omega)
    exact ih29 y2 (jxw (y3 + 1)) a (show (((6 - (jxw (y3 + 1))) * 1) + 0).toNat < n from by omega) hv hf (show 6 ≤ y2 from by omega) (show y2 ≤ 200 from by omega) (show 0 ≤ jxw (y3 + 1) from by omega) (show jxw (y3 + 1) ≤ 6 from by omega) (show 6 ≤ a 2 1 from by omega) (show 0 ≤ jxw (y3 + 1) from by omega) (show a 2 2 = a0 2 2 from by omega) (show y2 = (a 2 2) + 6 from by omega) (show y2 ≤ a 2 1 from by omega) (show y2 ≤ 200 from by omega) (show a0 2 3 = 0 from by omega) (show a0 2 2 < a0 2 1 from by omega)
  have hc29 : ∀ (y2 y3 : Int) (a : Nat → Nat → Int), (((6 - y3) * 1) + 0).toNat ≤ n → iv a → jfr jW_X8_takesWord_r1003 a0 a → 6 ≤ y2 → y2 ≤ 200 → 0 ≤ y3 → y3 ≤ 6 → 6 ≤ a 2 1 → 0 ≤ y3 → a 2 2 = a0 2 2 → y2 = (a 2 2) + 6 → y2 ≤ a 2 1 → y2 ≤ 200 → a0 2 3 = 0 → a0 2 2 < a0 2 1 → jt (jxX E d 128 29 [some (.inr (.inr (.inl 2))), some (.inr (.inr (.inl 1003))), some (.inl y2), some (.inl y3)] [] (jxSH, a, b0)) (jQ_X8_takesWord_r1003 a0 b0) := by
    intro y2 y3 a hm hv hf hi0 hi1 hi2 hi3 hi4 hi5 hi6 hi7 hi8 hi9 hi10 hi11
    refine jt_eq (bq_X8_takesWord_r1003_29 E d y2 y3 a b0) ?_
    have h297_ := iv_get hv (k := 2) (j := 1) (l := 0) (u := 200) rfl
    have h298_ : a 2 1 = a0 2 1 := hf 2 1 rfl
    have h299_ := iv_get hv0 (k := 2) (j := 1) (l := 0) (u := 200) rfl
    have h300_ := iv_get hv (k := 2) (j := 2) (l := 0) (u := 200) rfl
    have h301_ := iv_get hv0 (k := 2) (j := 2) (l := 0) (u := 200) rfl
    refine jt_eI (eq_J0_length_8abf5_r1003 E d (jd_le hd rfl) a b0) ?_
    have h302_ := ff_J0_length_8abf5_r1003 a b0
    refine jt_ite (fun c303_ => ?_) (fun c303_ => ?_)
    ·
      have h304_ : jxw ((a 2 2) + y3) = (a 2 2) + y3 := jxw_id (by omega) (by omega)
      refine jt_grd (by omega) ?_
      refine jt_eI (eq_J0_charAt_5068e_r1003 E d (jd_le hd rfl) y3 a b0 (show (0 ≤ y3 ∧ y3 < 6) from by omega)) ?_
      have h305_ := iv_get hv (k := 3) (j := (jxw ((a 2 2) + y3)).toNat) (l := 0) (u := 255) rfl
      have h306_ : a 3 ((jxw ((a 2 2) + y3)).toNat) = a0 3 ((jxw ((a 2 2) + y3)).toNat) := hf 3 ((jxw ((a 2 2) + y3)).toNat) rfl
      have h307_ := iv_get hv0 (k := 3) (j := (jxw ((a 2 2) + y3)).toNat) (l := 0) (u := 255) rfl
      have h308_ := f_J0_charAt_5068e_r1003_eq a b0 y3
      have h309_ := f_J0_isLatin1_aae02_r1003_eq a b0
      have h310_ := f_J1_charAt_3b067_r2003_eq a b0 y3
      have h311_ := jxand_r (([115, 104, 97, 114, 101, 100] : List Int).getD (y3.toNat) 0) 255 (by decide) (by decide)
      have h312_ := jxi2c_b (jxand (([115, 104, 97, 114, 101, 100] : List Int).getD (y3.toNat) 0) 255)
      refine jt_ite (fun c313_ => ?_) (fun c313_ => ?_)
      ·
        exact hc58 y2 y3 a (show (((6 - y3) * 1) + 0).toNat ≤ n from by omega) hv hf (show 6 ≤ y2 from by omega) (show y2 ≤ 200 from by omega) (show 0 ≤ y3 from by omega) (show y3 ≤ 5 from by omega) (show 6 ≤ a 2 1 from by omega) (show y3 < 6 from by omega) (show 0 ≤ y3 from by omega) (show a 2 2 = a0 2 2 from by omega) (show y2 = (a 2 2) + 6 from by omega) (show y2 ≤ a 2 1 from by omega) (show y2 ≤ 200 from by omega) (show a0 2 3 = 0 from by omega) (show a0 2 2 < a0 2 1 from by omega)
      ·
        exact cp_X8_takesWord_r1003_56 E d hd a0 b0 hv0 a hv hf (show 6 ≤ a 2 1 from by omega) (show a 2 2 = a0 2 2 from by omega) (show a0 2 3 = 0 from by omega) (show a0 2 2 < a0 2 1 from by omega)
    ·
      refine jt_ite (fun c314_ => ?_) (fun c314_ => ?_)
      ·
        refine jt_grd (by omega) ?_
        have h315_ := iv_get hv (k := 3) (j := y2.toNat) (l := 0) (u := 255) rfl
        have h316_ : a 3 (y2.toNat) = a0 3 (y2.toNat) := hf 3 (y2.toNat) rfl
        have h317_ := iv_get hv0 (k := 3) (j := y2.toNat) (l := 0) (u := 255) rfl
        refine jt_ite (fun c318_ => ?_) (fun c318_ => ?_)
        ·
          exact cp_X8_takesWord_r1003_96 E d hd a0 b0 hv0 y2 a hv hf (show 6 ≤ y2 from by omega) (show y2 ≤ 200 from by omega) (show 6 ≤ a 2 1 from by omega) (show a 2 2 = a0 2 2 from by omega) (show y2 = (a 2 2) + 6 from by omega) (show y2 ≤ a 2 1 from by omega) (show y2 ≤ 200 from by omega) (show a0 2 3 = 0 from by omega) (show a0 2 2 < a0 2 1 from by omega)
        ·
          exact cp_X8_takesWord_r1003_83 E d hd a0 b0 hv0 y2 a hv hf (show 6 ≤ y2 from by omega) (show y2 ≤ 199 from by omega) (show 7 ≤ a 2 1 from by omega) (show a 2 2 = a0 2 2 from by omega) (show y2 = (a 2 2) + 6 from by omega) (show y2 ≤ a 2 1 from by omega) (show y2 ≤ 200 from by omega) (show a0 2 3 = 0 from by omega) (show a0 2 2 < a0 2 1 from by omega)
      ·
        exact cp_X8_takesWord_r1003_96 E d hd a0 b0 hv0 y2 a hv hf (show 6 ≤ y2 from by omega) (show y2 ≤ 200 from by omega) (show 6 ≤ a 2 1 from by omega) (show a 2 2 = a0 2 2 from by omega) (show y2 = (a 2 2) + 6 from by omega) (show y2 ≤ a 2 1 from by omega) (show y2 ≤ 200 from by omega) (show a0 2 3 = 0 from by omega) (show a0 2 2 < a0 2 1 from by omega)
  exact ⟨hc58, hc29⟩
theorem sp_X8_takesWord_r1003 (E : jxE) (d : Nat) (hd : Nat.ble 5 d = true) (a0 b0 : Nat → Nat → Int) (hv0 : iv a0) : jt (jxC E d 128 [.inr (.inr (.inl 2)), .inr (.inr (.inl 1003))] (jxSH, a0, b0)) (jQ_X8_takesWord_r1003 a0 b0) := by
  obtain ⟨d, rfl⟩ := jd_succ hd
  refine jt_eq (bq_X8_takesWord_r1003 E d a0 b0) ?_
  refine jt_eI (eq_J0_length_8abf5_r1003 E d (jd_le hd rfl) a0 b0) ?_
  refine jt_eI (eq_X8_isFaulty E d (jd_le hd rfl) a0 b0) ?_
  have h319_ := f_X8_isFaulty_eq a0 b0
  refine jt_ite (fun c320_ => ?_) (fun c320_ => ?_)
  ·
    have h321_ := iv_get hv0 (k := 2) (j := 1) (l := 0) (u := 200) rfl
    have h322_ := iv_get hv0 (k := 2) (j := 2) (l := 0) (u := 200) rfl
    have h323_ := ff_J0_length_8abf5_r1003 a0 b0
    have h324_ : jxw ((a0 2 2) + (f_J0_length_8abf5_r1003 a0 b0)) = (a0 2 2) + (f_J0_length_8abf5_r1003 a0 b0) := jxw_id (by omega) (by omega)
    refine jt_ite (fun c325_ => ?_) (fun c325_ => ?_)
    ·
      exact jt_rI ⟨hv0, (jfr_rf _ _), rfl, (show (0 ≤ 0 ∧ 0 ≤ 1) from by omega), (show ((¬ a0 2 3 = 0 ∨ a0 2 1 ≤ a0 2 2) → 0 = 0) from by omega), (show (0 = 0 → a0 2 2 = a0 2 2) from by omega)⟩
    ·
      exact (cp_X8_takesWord_r1003_29 E d hd a0 b0 hv0 _).2 (jxw ((a0 2 2) + (f_J0_length_8abf5_r1003 a0 b0))) 0 a0 (Nat.le_refl _) hv0 (jfr_rf _ _) (show 6 ≤ jxw ((a0 2 2) + (f_J0_length_8abf5_r1003 a0 b0)) from by omega) (show jxw ((a0 2 2) + (f_J0_length_8abf5_r1003 a0 b0)) ≤ 200 from by omega) (show 0 ≤ 0 from by omega) (show 0 ≤ 6 from by omega) (show 6 ≤ a0 2 1 from by omega) (show 0 ≤ 0 from by omega) (show a0 2 2 = a0 2 2 from by omega) (show jxw ((a0 2 2) + (f_J0_length_8abf5_r1003 a0 b0)) = (a0 2 2) + 6 from by omega) (show jxw ((a0 2 2) + (f_J0_length_8abf5_r1003 a0 b0)) ≤ a0 2 1 from by omega) (show jxw ((a0 2 2) + (f_J0_length_8abf5_r1003 a0 b0)) ≤ 200 from by omega) (show a0 2 3 = 0 from by omega) (show a0 2 2 < a0 2 1 from by omega)
  ·
    have h326_ := iv_get hv0 (k := 2) (j := 1) (l := 0) (u := 200) rfl
    have h327_ := iv_get hv0 (k := 2) (j := 2) (l := 0) (u := 200) rfl
    exact jt_rI ⟨hv0, (jfr_rf _ _), rfl, (show (0 ≤ 0 ∧ 0 ≤ 1) from by omega), (show ((¬ a0 2 3 = 0 ∨ a0 2 1 ≤ a0 2 2) → 0 = 0) from by omega), (show (0 = 0 → a0 2 2 = a0 2 2) from by omega)⟩
def jW_X8_takesWord_r1004 : List (Nat × Nat) := [(2, 2)]
abbrev jQ_X8_takesWord_r1004 (a0 b0 : Nat → Nat → Int) : List jxV → (Nat → Nat → Int) → (Nat → Nat → Int) → Prop := rI (fun r a b => (iv a) ∧ (jfr jW_X8_takesWord_r1004 a0 a) ∧ (b0 = b) ∧ ((0 ≤ r ∧ r ≤ 1)) ∧ (((¬ a0 2 3 = 0 ∨ a0 2 1 ≤ a0 2 2) → r = 0)) ∧ ((r = 0 → a 2 2 = a0 2 2)))
theorem cp_X8_takesWord_r1004_56 (E : jxE) (d : Nat) (hd : Nat.ble 5 (d + 1) = true) (a0 b0 : Nat → Nat → Int) (hv0 : iv a0) : ∀ (a : Nat → Nat → Int), iv a → jfr jW_X8_takesWord_r1004 a0 a → 3 ≤ a 2 1 → a 2 2 = a0 2 2 → a0 2 3 = 0 → a0 2 2 < a0 2 1 → jt (jxX E d 128 56 [none, none, none, none] [] (jxSH, a, b0)) (jQ_X8_takesWord_r1004 a0 b0) := by
  intro a hv hf hi0 hi1 hi2 hi3
  refine jt_eq (bq_X8_takesWord_r1004_56 E d a b0) ?_
  have h328_ := iv_get hv (k := 2) (j := 1) (l := 0) (u := 200) rfl
  have h329_ : a 2 1 = a0 2 1 := hf 2 1 rfl
  have h330_ := iv_get hv0 (k := 2) (j := 1) (l := 0) (u := 200) rfl
  have h331_ := iv_get hv (k := 2) (j := 2) (l := 0) (u := 200) rfl
  have h332_ := iv_get hv0 (k := 2) (j := 2) (l := 0) (u := 200) rfl
  exact jt_rI ⟨hv, hf, rfl, (show (0 ≤ 0 ∧ 0 ≤ 1) from by omega), (show ((¬ a0 2 3 = 0 ∨ a0 2 1 ≤ a0 2 2) → 0 = 0) from by omega), (show (0 = 0 → a 2 2 = a0 2 2) from by omega)⟩
theorem cp_X8_takesWord_r1004_96 (E : jxE) (d : Nat) (hd : Nat.ble 5 (d + 1) = true) (a0 b0 : Nat → Nat → Int) (hv0 : iv a0) : ∀ (y2 : Int) (a : Nat → Nat → Int), iv a → jfr jW_X8_takesWord_r1004 a0 a → 3 ≤ y2 → y2 ≤ 200 → 3 ≤ a 2 1 → a 2 2 = a0 2 2 → y2 = (a 2 2) + 3 → y2 ≤ a 2 1 → y2 ≤ 200 → a0 2 3 = 0 → a0 2 2 < a0 2 1 → jt (jxX E d 128 96 [some (.inr (.inr (.inl 2))), none, some (.inl y2), none] [] (jxSH, a, b0)) (jQ_X8_takesWord_r1004 a0 b0) := by
  intro y2 a hv hf hi0 hi1 hi2 hi3 hi4 hi5 hi6 hi7 hi8
  refine jt_eq (bq_X8_takesWord_r1004_96 E d y2 a b0) ?_
  have h333_ := iv_get hv (k := 2) (j := 1) (l := 0) (u := 200) rfl
  have h334_ : a 2 1 = a0 2 1 := hf 2 1 rfl
  have h335_ := iv_get hv0 (k := 2) (j := 1) (l := 0) (u := 200) rfl
  have h336_ := iv_get hv (k := 2) (j := 2) (l := 0) (u := 200) rfl
  have h337_ := iv_get hv0 (k := 2) (j := 2) (l := 0) (u := 200) rfl
  have hv338_ : iv (jxu a 2 2 y2) := iv_put hv (l := 0) (u := 200) rfl (by omega) (by omega)
  refine jt_bV (sp_X8_skipBlanks E d (jd_le hd rfl) (jxu a 2 2 y2) b0 hv338_) (fun a339_ b339_ h339_ => ?_)
  obtain ⟨hv339_, hf339_, rfl, hq339_0⟩ := h339_
  have h340_ := iv_get hv339_ (k := 2) (j := 2) (l := 0) (u := 200) rfl
  have h341_ : (a 2 1 ≤ y2 → a339_ 2 2 = y2) := hq339_0
  have hf342_ : jfr jW_X8_takesWord_r1004 a0 (jxu a 2 2 y2) := jfr_put hf rfl
  have hf343_ : jfr jW_X8_takesWord_r1004 a0 a339_ := jfr_tr hf342_ hf339_ rfl
  exact jt_rI ⟨hv339_, hf343_, rfl, (show (0 ≤ 1 ∧ 1 ≤ 1) from by omega), (show ((¬ a0 2 3 = 0 ∨ a0 2 1 ≤ a0 2 2) → 1 = 0) from by omega), (show (1 = 0 → a339_ 2 2 = a0 2 2) from by omega)⟩
theorem cp_X8_takesWord_r1004_83 (E : jxE) (d : Nat) (hd : Nat.ble 5 (d + 1) = true) (a0 b0 : Nat → Nat → Int) (hv0 : iv a0) : ∀ (y2 : Int) (a : Nat → Nat → Int), iv a → jfr jW_X8_takesWord_r1004 a0 a → 3 ≤ y2 → y2 ≤ 199 → 4 ≤ a 2 1 → a 2 2 = a0 2 2 → y2 = (a 2 2) + 3 → y2 ≤ a 2 1 → y2 ≤ 200 → a0 2 3 = 0 → a0 2 2 < a0 2 1 → jt (jxX E d 128 83 [some (.inr (.inr (.inl 2))), none, some (.inl y2), none] [] (jxSH, a, b0)) (jQ_X8_takesWord_r1004 a0 b0) := by
  intro y2 a hv hf hi0 hi1 hi2 hi3 hi4 hi5 hi6 hi7 hi8
  refine jt_eq (bq_X8_takesWord_r1004_83 E d y2 a b0) ?_
  have h344_ := iv_get hv (k := 2) (j := 1) (l := 0) (u := 200) rfl
  have h345_ : a 2 1 = a0 2 1 := hf 2 1 rfl
  have h346_ := iv_get hv0 (k := 2) (j := 1) (l := 0) (u := 200) rfl
  have h347_ := iv_get hv (k := 2) (j := 2) (l := 0) (u := 200) rfl
  have h348_ := iv_get hv0 (k := 2) (j := 2) (l := 0) (u := 200) rfl
  refine jt_grd (by omega) ?_
  have h349_ := iv_get hv (k := 3) (j := y2.toNat) (l := 0) (u := 255) rfl
  have h350_ : a 3 (y2.toNat) = a0 3 (y2.toNat) := hf 3 (y2.toNat) rfl
  have h351_ := iv_get hv0 (k := 3) (j := y2.toNat) (l := 0) (u := 255) rfl
  refine jt_ite (fun c352_ => ?_) (fun c352_ => ?_)
  ·
    exact cp_X8_takesWord_r1004_96 E d hd a0 b0 hv0 y2 a hv hf (show 3 ≤ y2 from by omega) (show y2 ≤ 200 from by omega) (show 3 ≤ a 2 1 from by omega) (show a 2 2 = a0 2 2 from by omega) (show y2 = (a 2 2) + 3 from by omega) (show y2 ≤ a 2 1 from by omega) (show y2 ≤ 200 from by omega) (show a0 2 3 = 0 from by omega) (show a0 2 2 < a0 2 1 from by omega)
  ·
    exact jt_rI ⟨hv, hf, rfl, (show (0 ≤ 0 ∧ 0 ≤ 1) from by omega), (show ((¬ a0 2 3 = 0 ∨ a0 2 1 ≤ a0 2 2) → 0 = 0) from by omega), (show (0 = 0 → a 2 2 = a0 2 2) from by omega)⟩
theorem cp_X8_takesWord_r1004_29 (E : jxE) (d : Nat) (hd : Nat.ble 5 (d + 1) = true) (a0 b0 : Nat → Nat → Int) (hv0 : iv a0) : ∀ n : Nat, (∀ (y2 y3 : Int) (a : Nat → Nat → Int), (((3 - y3) * 1) + 0).toNat ≤ n → iv a → jfr jW_X8_takesWord_r1004 a0 a → 3 ≤ y2 → y2 ≤ 200 → 0 ≤ y3 → y3 ≤ 2 → 3 ≤ a 2 1 → y3 < 3 → 0 ≤ y3 → a 2 2 = a0 2 2 → y2 = (a 2 2) + 3 → y2 ≤ a 2 1 → y2 ≤ 200 → a0 2 3 = 0 → a0 2 2 < a0 2 1 → jt (jxX E d 128 58 [some (.inr (.inr (.inl 2))), some (.inr (.inr (.inl 1004))), some (.inl y2), some (.inl y3)] [] (jxSH, a, b0)) (jQ_X8_takesWord_r1004 a0 b0)) ∧ (∀ (y2 y3 : Int) (a : Nat → Nat → Int), (((3 - y3) * 1) + 0).toNat ≤ n → iv a → jfr jW_X8_takesWord_r1004 a0 a → 3 ≤ y2 → y2 ≤ 200 → 0 ≤ y3 → y3 ≤ 3 → 3 ≤ a 2 1 → 0 ≤ y3 → a 2 2 = a0 2 2 → y2 = (a 2 2) + 3 → y2 ≤ a 2 1 → y2 ≤ 200 → a0 2 3 = 0 → a0 2 2 < a0 2 1 → jt (jxX E d 128 29 [some (.inr (.inr (.inl 2))), some (.inr (.inr (.inl 1004))), some (.inl y2), some (.inl y3)] [] (jxSH, a, b0)) (jQ_X8_takesWord_r1004 a0 b0)) := by
  refine jx_ind fun n ih => ?_
  have ih58 : ∀ (y2 y3 : Int) (a : Nat → Nat → Int), (((3 - y3) * 1) + 0).toNat < n → iv a → jfr jW_X8_takesWord_r1004 a0 a → 3 ≤ y2 → y2 ≤ 200 → 0 ≤ y3 → y3 ≤ 2 → 3 ≤ a 2 1 → y3 < 3 → 0 ≤ y3 → a 2 2 = a0 2 2 → y2 = (a 2 2) + 3 → y2 ≤ a 2 1 → y2 ≤ 200 → a0 2 3 = 0 → a0 2 2 < a0 2 1 → jt (jxX E d 128 58 [some (.inr (.inr (.inl 2))), some (.inr (.inr (.inl 1004))), some (.inl y2), some (.inl y3)] [] (jxSH, a, b0)) (jQ_X8_takesWord_r1004 a0 b0) := fun y2 y3 a hlt i0 i1 i2 i3 i4 i5 i6 i7 i8 i9 i10 i11 i12 i13 i14 => (ih _ hlt).1 y2 y3 a (Nat.le_refl _) i0 i1 i2 i3 i4 i5 i6 i7 i8 i9 i10 i11 i12 i13 i14
  have ih29 : ∀ (y2 y3 : Int) (a : Nat → Nat → Int), (((3 - y3) * 1) + 0).toNat < n → iv a → jfr jW_X8_takesWord_r1004 a0 a → 3 ≤ y2 → y2 ≤ 200 → 0 ≤ y3 → y3 ≤ 3 → 3 ≤ a 2 1 → 0 ≤ y3 → a 2 2 = a0 2 2 → y2 = (a 2 2) + 3 → y2 ≤ a 2 1 → y2 ≤ 200 → a0 2 3 = 0 → a0 2 2 < a0 2 1 → jt (jxX E d 128 29 [some (.inr (.inr (.inl 2))), some (.inr (.inr (.inl 1004))), some (.inl y2), some (.inl y3)] [] (jxSH, a, b0)) (jQ_X8_takesWord_r1004 a0 b0) := fun y2 y3 a hlt i0 i1 i2 i3 i4 i5 i6 i7 i8 i9 i10 i11 i12 i13 => (ih _ hlt).2 y2 y3 a (Nat.le_refl _) i0 i1 i2 i3 i4 i5 i6 i7 i8 i9 i10 i11 i12 i13
  have hc58 : ∀ (y2 y3 : Int) (a : Nat → Nat → Int), (((3 - y3) * 1) + 0).toNat ≤ n → iv a → jfr jW_X8_takesWord_r1004 a0 a → 3 ≤ y2 → y2 ≤ 200 → 0 ≤ y3 → y3 ≤ 2 → 3 ≤ a 2 1 → y3 < 3 → 0 ≤ y3 → a 2 2 = a0 2 2 → y2 = (a 2 2) + 3 → y2 ≤ a 2 1 → y2 ≤ 200 → a0 2 3 = 0 → a0 2 2 < a0 2 1 → jt (jxX E d 128 58 [some (.inr (.inr (.inl 2))), some (.inr (.inr (.inl 1004))), some (.inl y2), some (.inl y3)] [] (jxSH, a, b0)) (jQ_X8_takesWord_r1004 a0 b0) := by
    intro y2 y3 a hm hv hf hi0 hi1 hi2 hi3 hi4 hi5 hi6 hi7 hi8 hi9 hi10 hi11 hi12
    refine jt_eq (bq_X8_takesWord_r1004_58 E d y2 y3 a b0) ?_
    have h353_ := iv_get hv (k := 2) (j := 1) (l := 0) (u := 200) rfl
    have h354_ : a 2 1 = a0 2 1 := hf 2 1 rfl
    have h355_ := iv_get hv0 (k := 2) (j := 1) (l := 0) (u := 200) rfl
    have h356_ := iv_get hv (k := 2) (j := 2) (l := 0) (u := 200) rfl
    have h357_ := iv_get hv0 (k := 2) (j := 2) (l := 0) (u := 200) rfl
    have h358_ : jxw (y3 + 1) = y3 + 1 := jxw_id (by omega) (by omega)
    exact ih29 y2 (jxw (y3 + 1)) a (show (((3 - (jxw (y3 + 1))) * 1) + 0).toNat < n from by omega) hv hf (show 3 ≤ y2 from by omega) (show y2 ≤ 200 from by omega) (show 0 ≤ jxw (y3 + 1) from by omega) (show jxw (y3 + 1) ≤ 3 from by omega) (show 3 ≤ a 2 1 from by omega) (show 0 ≤ jxw (y3 + 1) from by omega) (show a 2 2 = a0 2 2 from by omega) (show y2 = (a 2 2) + 3 from by omega) (show y2 ≤ a 2 1 from by omega) (show y2 ≤ 200 from by omega) (show a0 2 3 = 0 from by omega) (show a0 2 2 < a0 2 1 from by omega)
  have hc29 : ∀ (y2 y3 : Int) (a : Nat → Nat → Int), (((3 - y3) * 1) + 0).toNat ≤ n → iv a → jfr jW_X8_takesWord_r1004 a0 a → 3 ≤ y2 → y2 ≤ 200 → 0 ≤ y3 → y3 ≤ 3 → 3 ≤ a 2 1 → 0 ≤ y3 → a 2 2 = a0 2 2 → y2 = (a 2 2) + 3 → y2 ≤ a 2 1 → y2 ≤ 200 → a0 2 3 = 0 → a0 2 2 < a0 2 1 → jt (jxX E d 128 29 [some (.inr (.inr (.inl 2))), some (.inr (.inr (.inl 1004))), some (.inl y2), some (.inl y3)] [] (jxSH, a, b0)) (jQ_X8_takesWord_r1004 a0 b0) := by
    intro y2 y3 a hm hv hf hi0 hi1 hi2 hi3 hi4 hi5 hi6 hi7 hi8 hi9 hi10 hi11
    refine jt_eq (bq_X8_takesWord_r1004_29 E d y2 y3 a b0) ?_
    have h359_ := iv_get hv (k := 2) (j := 1) (l := 0) (u := 200) rfl
    have h360_ : a 2 1 = a0 2 1 := hf 2 1 rfl
    have h361_ := iv_get hv0 (k := 2) (j := 1) (l := 0) (u := 200) rfl
    have h362_ := iv_get hv (k := 2) (j := 2) (l := 0) (u := 200) rfl
    have h363_ := iv_get hv0 (k := 2) (j := 2) (l := 0) (u := 200) rfl
    refine jt_eI (eq_J0_length_8abf5_r1004 E d (jd_le hd rfl) a b0) ?_
    have h364_ := ff_J0_length_8abf5_r1004 a b0
    refine jt_ite (fun c365_ => ?_) (fun c365_ => ?_)
    ·
      have h366_ : jxw ((a 2 2) + y3) = (a 2 2) + y3 := jxw_id (by omega) (by omega)
      refine jt_grd (by omega) ?_
      refine jt_eI (eq_J0_charAt_5068e_r1004 E d (jd_le hd rfl) y3 a b0 (show (0 ≤ y3 ∧ y3 < 3) from by omega)) ?_
      have h367_ := iv_get hv (k := 3) (j := (jxw ((a 2 2) + y3)).toNat) (l := 0) (u := 255) rfl
      have h368_ : a 3 ((jxw ((a 2 2) + y3)).toNat) = a0 3 ((jxw ((a 2 2) + y3)).toNat) := hf 3 ((jxw ((a 2 2) + y3)).toNat) rfl
      have h369_ := iv_get hv0 (k := 3) (j := (jxw ((a 2 2) + y3)).toNat) (l := 0) (u := 255) rfl
      have h370_ := f_J0_charAt_5068e_r1004_eq a b0 y3
      have h371_ := f_J0_isLatin1_aae02_r1004_eq a b0
      have h372_ := f_J1_charAt_3b067_r2004_eq a b0 y3
      have h373_ := jxand_r (([102, 97, 114] : List Int).getD (y3.toNat) 0) 255 (by decide) (by decide)
      have h374_ := jxi2c_b (jxand (([102, 97, 114] : List Int).getD (y3.toNat) 0) 255)
      refine jt_ite (fun c375_ => ?_) (fun c375_ => ?_)
      ·
        exact hc58 y2 y3 a (show (((3 - y3) * 1) + 0).toNat ≤ n from by omega) hv hf (show 3 ≤ y2 from by omega) (show y2 ≤ 200 from by omega) (show 0 ≤ y3 from by omega) (show y3 ≤ 2 from by omega) (show 3 ≤ a 2 1 from by omega) (show y3 < 3 from by omega) (show 0 ≤ y3 from by omega) (show a 2 2 = a0 2 2 from by omega) (show y2 = (a 2 2) + 3 from by omega) (show y2 ≤ a 2 1 from by omega) (show y2 ≤ 200 from by omega) (show a0 2 3 = 0 from by omega) (show a0 2 2 < a0 2 1 from by omega)
      ·
        exact cp_X8_takesWord_r1004_56 E d hd a0 b0 hv0 a hv hf (show 3 ≤ a 2 1 from by omega) (show a 2 2 = a0 2 2 from by omega) (show a0 2 3 = 0 from by omega) (show a0 2 2 < a0 2 1 from by omega)
    ·
      refine jt_ite (fun c376_ => ?_) (fun c376_ => ?_)
      ·
        refine jt_grd (by omega) ?_
        have h377_ := iv_get hv (k := 3) (j := y2.toNat) (l := 0) (u := 255) rfl
        have h378_ : a 3 (y2.toNat) = a0 3 (y2.toNat) := hf 3 (y2.toNat) rfl
        have h379_ := iv_get hv0 (k := 3) (j := y2.toNat) (l := 0) (u := 255) rfl
        refine jt_ite (fun c380_ => ?_) (fun c380_ => ?_)
        ·
          exact cp_X8_takesWord_r1004_96 E d hd a0 b0 hv0 y2 a hv hf (show 3 ≤ y2 from by omega) (show y2 ≤ 200 from by omega) (show 3 ≤ a 2 1 from by omega) (show a 2 2 = a0 2 2 from by omega) (show y2 = (a 2 2) + 3 from by omega) (show y2 ≤ a 2 1 from by omega) (show y2 ≤ 200 from by omega) (show a0 2 3 = 0 from by omega) (show a0 2 2 < a0 2 1 from by omega)
        ·
          exact cp_X8_takesWord_r1004_83 E d hd a0 b0 hv0 y2 a hv hf (show 3 ≤ y2 from by omega) (show y2 ≤ 199 from by omega) (show 4 ≤ a 2 1 from by omega) (show a 2 2 = a0 2 2 from by omega) (show y2 = (a 2 2) + 3 from by omega) (show y2 ≤ a 2 1 from by omega) (show y2 ≤ 200 from by omega) (show a0 2 3 = 0 from by omega) (show a0 2 2 < a0 2 1 from by omega)
      ·
        exact cp_X8_takesWord_r1004_96 E d hd a0 b0 hv0 y2 a hv hf (show 3 ≤ y2 from by omega) (show y2 ≤ 200 from by omega) (show 3 ≤ a 2 1 from by omega) (show a 2 2 = a0 2 2 from by omega) (show y2 = (a 2 2) + 3 from by omega) (show y2 ≤ a 2 1 from by omega) (show y2 ≤ 200 from by omega) (show a0 2 3 = 0 from by omega) (show a0 2 2 < a0 2 1 from by omega)
  exact ⟨hc58, hc29⟩
theorem sp_X8_takesWord_r1004 (E : jxE) (d : Nat) (hd : Nat.ble 5 d = true) (a0 b0 : Nat → Nat → Int) (hv0 : iv a0) : jt (jxC E d 128 [.inr (.inr (.inl 2)), .inr (.inr (.inl 1004))] (jxSH, a0, b0)) (jQ_X8_takesWord_r1004 a0 b0) := by
  obtain ⟨d, rfl⟩ := jd_succ hd
  refine jt_eq (bq_X8_takesWord_r1004 E d a0 b0) ?_
  refine jt_eI (eq_J0_length_8abf5_r1004 E d (jd_le hd rfl) a0 b0) ?_
  refine jt_eI (eq_X8_isFaulty E d (jd_le hd rfl) a0 b0) ?_
  have h381_ := f_X8_isFaulty_eq a0 b0
  refine jt_ite (fun c382_ => ?_) (fun c382_ => ?_)
  ·
    have h383_ := iv_get hv0 (k := 2) (j := 1) (l := 0) (u := 200) rfl
    have h384_ := iv_get hv0 (k := 2) (j := 2) (l := 0) (u := 200) rfl
    have h385_ := ff_J0_length_8abf5_r1004 a0 b0
    have h386_ : jxw ((a0 2 2) + (f_J0_length_8abf5_r1004 a0 b0)) = (a0 2 2) + (f_J0_length_8abf5_r1004 a0 b0) := jxw_id (by omega) (by omega)
    refine jt_ite (fun c387_ => ?_) (fun c387_ => ?_)
    ·
      exact jt_rI ⟨hv0, (jfr_rf _ _), rfl, (show (0 ≤ 0 ∧ 0 ≤ 1) from by omega), (show ((¬ a0 2 3 = 0 ∨ a0 2 1 ≤ a0 2 2) → 0 = 0) from by omega), (show (0 = 0 → a0 2 2 = a0 2 2) from by omega)⟩
    ·
      exact (cp_X8_takesWord_r1004_29 E d hd a0 b0 hv0 _).2 (jxw ((a0 2 2) + (f_J0_length_8abf5_r1004 a0 b0))) 0 a0 (Nat.le_refl _) hv0 (jfr_rf _ _) (show 3 ≤ jxw ((a0 2 2) + (f_J0_length_8abf5_r1004 a0 b0)) from by omega) (show jxw ((a0 2 2) + (f_J0_length_8abf5_r1004 a0 b0)) ≤ 200 from by omega) (show 0 ≤ 0 from by omega) (show 0 ≤ 3 from by omega) (show 3 ≤ a0 2 1 from by omega) (show 0 ≤ 0 from by omega) (show a0 2 2 = a0 2 2 from by omega) (show jxw ((a0 2 2) + (f_J0_length_8abf5_r1004 a0 b0)) = (a0 2 2) + 3 from by omega) (show jxw ((a0 2 2) + (f_J0_length_8abf5_r1004 a0 b0)) ≤ a0 2 1 from by omega) (show jxw ((a0 2 2) + (f_J0_length_8abf5_r1004 a0 b0)) ≤ 200 from by omega) (show a0 2 3 = 0 from by omega) (show a0 2 2 < a0 2 1 from by omega)
  ·
    have h388_ := iv_get hv0 (k := 2) (j := 1) (l := 0) (u := 200) rfl
    have h389_ := iv_get hv0 (k := 2) (j := 2) (l := 0) (u := 200) rfl
    exact jt_rI ⟨hv0, (jfr_rf _ _), rfl, (show (0 ≤ 0 ∧ 0 ≤ 1) from by omega), (show ((¬ a0 2 3 = 0 ∨ a0 2 1 ≤ a0 2 2) → 0 = 0) from by omega), (show (0 = 0 → a0 2 2 = a0 2 2) from by omega)⟩
def jW_X8_takesWord_r1005 : List (Nat × Nat) := [(2, 2)]
abbrev jQ_X8_takesWord_r1005 (a0 b0 : Nat → Nat → Int) : List jxV → (Nat → Nat → Int) → (Nat → Nat → Int) → Prop := rI (fun r a b => (iv a) ∧ (jfr jW_X8_takesWord_r1005 a0 a) ∧ (b0 = b) ∧ ((0 ≤ r ∧ r ≤ 1)) ∧ (((¬ a0 2 3 = 0 ∨ a0 2 1 ≤ a0 2 2) → r = 0)) ∧ ((r = 0 → a 2 2 = a0 2 2)))
theorem cp_X8_takesWord_r1005_56 (E : jxE) (d : Nat) (hd : Nat.ble 5 (d + 1) = true) (a0 b0 : Nat → Nat → Int) (hv0 : iv a0) : ∀ (a : Nat → Nat → Int), iv a → jfr jW_X8_takesWord_r1005 a0 a → 4 ≤ a 2 1 → a 2 2 = a0 2 2 → a0 2 3 = 0 → a0 2 2 < a0 2 1 → jt (jxX E d 128 56 [none, none, none, none] [] (jxSH, a, b0)) (jQ_X8_takesWord_r1005 a0 b0) := by
  intro a hv hf hi0 hi1 hi2 hi3
  refine jt_eq (bq_X8_takesWord_r1005_56 E d a b0) ?_
  have h390_ := iv_get hv (k := 2) (j := 1) (l := 0) (u := 200) rfl
  have h391_ : a 2 1 = a0 2 1 := hf 2 1 rfl
  have h392_ := iv_get hv0 (k := 2) (j := 1) (l := 0) (u := 200) rfl
  have h393_ := iv_get hv (k := 2) (j := 2) (l := 0) (u := 200) rfl
  have h394_ := iv_get hv0 (k := 2) (j := 2) (l := 0) (u := 200) rfl
  exact jt_rI ⟨hv, hf, rfl, (show (0 ≤ 0 ∧ 0 ≤ 1) from by omega), (show ((¬ a0 2 3 = 0 ∨ a0 2 1 ≤ a0 2 2) → 0 = 0) from by omega), (show (0 = 0 → a 2 2 = a0 2 2) from by omega)⟩
theorem cp_X8_takesWord_r1005_96 (E : jxE) (d : Nat) (hd : Nat.ble 5 (d + 1) = true) (a0 b0 : Nat → Nat → Int) (hv0 : iv a0) : ∀ (y2 : Int) (a : Nat → Nat → Int), iv a → jfr jW_X8_takesWord_r1005 a0 a → 4 ≤ y2 → y2 ≤ 200 → 4 ≤ a 2 1 → a 2 2 = a0 2 2 → y2 = (a 2 2) + 4 → y2 ≤ a 2 1 → y2 ≤ 200 → a0 2 3 = 0 → a0 2 2 < a0 2 1 → jt (jxX E d 128 96 [some (.inr (.inr (.inl 2))), none, some (.inl y2), none] [] (jxSH, a, b0)) (jQ_X8_takesWord_r1005 a0 b0) := by
  intro y2 a hv hf hi0 hi1 hi2 hi3 hi4 hi5 hi6 hi7 hi8
  refine jt_eq (bq_X8_takesWord_r1005_96 E d y2 a b0) ?_
  have h395_ := iv_get hv (k := 2) (j := 1) (l := 0) (u := 200) rfl
  have h396_ : a 2 1 = a0 2 1 := hf 2 1 rfl
  have h397_ := iv_get hv0 (k := 2) (j := 1) (l := 0) (u := 200) rfl
  have h398_ := iv_get hv (k := 2) (j := 2) (l := 0) (u := 200) rfl
  have h399_ := iv_get hv0 (k := 2) (j := 2) (l := 0) (u := 200) rfl
  have hv400_ : iv (jxu a 2 2 y2) := iv_put hv (l := 0) (u := 200) rfl (by omega) (by omega)
  refine jt_bV (sp_X8_skipBlanks E d (jd_le hd rfl) (jxu a 2 2 y2) b0 hv400_) (fun a401_ b401_ h401_ => ?_)
  obtain ⟨hv401_, hf401_, rfl, hq401_0⟩ := h401_
  have h402_ := iv_get hv401_ (k := 2) (j := 2) (l := 0) (u := 200) rfl
  have h403_ : (a 2 1 ≤ y2 → a401_ 2 2 = y2) := hq401_0
  have hf404_ : jfr jW_X8_takesWord_r1005 a0 (jxu a 2 2 y2) := jfr_put hf rfl
  have hf405_ : jfr jW_X8_takesWord_r1005 a0 a401_ := jfr_tr hf404_ hf401_ rfl
  exact jt_rI ⟨hv401_, hf405_, rfl, (show (0 ≤ 1 ∧ 1 ≤ 1) from by omega), (show ((¬ a0 2 3 = 0 ∨ a0 2 1 ≤ a0 2 2) → 1 = 0) from by omega), (show (1 = 0 → a401_ 2 2 = a0 2 2) from by omega)⟩
theorem cp_X8_takesWord_r1005_83 (E : jxE) (d : Nat) (hd : Nat.ble 5 (d + 1) = true) (a0 b0 : Nat → Nat → Int) (hv0 : iv a0) : ∀ (y2 : Int) (a : Nat → Nat → Int), iv a → jfr jW_X8_takesWord_r1005 a0 a → 4 ≤ y2 → y2 ≤ 199 → 5 ≤ a 2 1 → a 2 2 = a0 2 2 → y2 = (a 2 2) + 4 → y2 ≤ a 2 1 → y2 ≤ 200 → a0 2 3 = 0 → a0 2 2 < a0 2 1 → jt (jxX E d 128 83 [some (.inr (.inr (.inl 2))), none, some (.inl y2), none] [] (jxSH, a, b0)) (jQ_X8_takesWord_r1005 a0 b0) := by
  intro y2 a hv hf hi0 hi1 hi2 hi3 hi4 hi5 hi6 hi7 hi8
  refine jt_eq (bq_X8_takesWord_r1005_83 E d y2 a b0) ?_
  have h406_ := iv_get hv (k := 2) (j := 1) (l := 0) (u := 200) rfl
  have h407_ : a 2 1 = a0 2 1 := hf 2 1 rfl
  have h408_ := iv_get hv0 (k := 2) (j := 1) (l := 0) (u := 200) rfl
  have h409_ := iv_get hv (k := 2) (j := 2) (l := 0) (u := 200) rfl
  have h410_ := iv_get hv0 (k := 2) (j := 2) (l := 0) (u := 200) rfl
  refine jt_grd (by omega) ?_
  have h411_ := iv_get hv (k := 3) (j := y2.toNat) (l := 0) (u := 255) rfl
  have h412_ : a 3 (y2.toNat) = a0 3 (y2.toNat) := hf 3 (y2.toNat) rfl
  have h413_ := iv_get hv0 (k := 3) (j := y2.toNat) (l := 0) (u := 255) rfl
  refine jt_ite (fun c414_ => ?_) (fun c414_ => ?_)
  ·
    exact cp_X8_takesWord_r1005_96 E d hd a0 b0 hv0 y2 a hv hf (show 4 ≤ y2 from by omega) (show y2 ≤ 200 from by omega) (show 4 ≤ a 2 1 from by omega) (show a 2 2 = a0 2 2 from by omega) (show y2 = (a 2 2) + 4 from by omega) (show y2 ≤ a 2 1 from by omega) (show y2 ≤ 200 from by omega) (show a0 2 3 = 0 from by omega) (show a0 2 2 < a0 2 1 from by omega)
  ·
    exact jt_rI ⟨hv, hf, rfl, (show (0 ≤ 0 ∧ 0 ≤ 1) from by omega), (show ((¬ a0 2 3 = 0 ∨ a0 2 1 ≤ a0 2 2) → 0 = 0) from by omega), (show (0 = 0 → a 2 2 = a0 2 2) from by omega)⟩
theorem cp_X8_takesWord_r1005_29 (E : jxE) (d : Nat) (hd : Nat.ble 5 (d + 1) = true) (a0 b0 : Nat → Nat → Int) (hv0 : iv a0) : ∀ n : Nat, (∀ (y2 y3 : Int) (a : Nat → Nat → Int), (((4 - y3) * 1) + 0).toNat ≤ n → iv a → jfr jW_X8_takesWord_r1005 a0 a → 4 ≤ y2 → y2 ≤ 200 → 0 ≤ y3 → y3 ≤ 3 → 4 ≤ a 2 1 → y3 < 4 → 0 ≤ y3 → a 2 2 = a0 2 2 → y2 = (a 2 2) + 4 → y2 ≤ a 2 1 → y2 ≤ 200 → a0 2 3 = 0 → a0 2 2 < a0 2 1 → jt (jxX E d 128 58 [some (.inr (.inr (.inl 2))), some (.inr (.inr (.inl 1005))), some (.inl y2), some (.inl y3)] [] (jxSH, a, b0)) (jQ_X8_takesWord_r1005 a0 b0)) ∧ (∀ (y2 y3 : Int) (a : Nat → Nat → Int), (((4 - y3) * 1) + 0).toNat ≤ n → iv a → jfr jW_X8_takesWord_r1005 a0 a → 4 ≤ y2 → y2 ≤ 200 → 0 ≤ y3 → y3 ≤ 4 → 4 ≤ a 2 1 → 0 ≤ y3 → a 2 2 = a0 2 2 → y2 = (a 2 2) + 4 → y2 ≤ a 2 1 → y2 ≤ 200 → a0 2 3 = 0 → a0 2 2 < a0 2 1 → jt (jxX E d 128 29 [some (.inr (.inr (.inl 2))), some (.inr (.inr (.inl 1005))), some (.inl y2), some (.inl y3)] [] (jxSH, a, b0)) (jQ_X8_takesWord_r1005 a0 b0)) := by
  refine jx_ind fun n ih => ?_
  have ih58 : ∀ (y2 y3 : Int) (a : Nat → Nat → Int), (((4 - y3) * 1) + 0).toNat < n → iv a → jfr jW_X8_takesWord_r1005 a0 a → 4 ≤ y2 → y2 ≤ 200 → 0 ≤ y3 → y3 ≤ 3 → 4 ≤ a 2 1 → y3 < 4 → 0 ≤ y3 → a 2 2 = a0 2 2 → y2 = (a 2 2) + 4 → y2 ≤ a 2 1 → y2 ≤ 200 → a0 2 3 = 0 → a0 2 2 < a0 2 1 → jt (jxX E d 128 58 [some (.inr (.inr (.inl 2))), some (.inr (.inr (.inl 1005))), some (.inl y2), some (.inl y3)] [] (jxSH, a, b0)) (jQ_X8_takesWord_r1005 a0 b0) := fun y2 y3 a hlt i0 i1 i2 i3 i4 i5 i6 i7 i8 i9 i10 i11 i12 i13 i14 => (ih _ hlt).1 y2 y3 a (Nat.le_refl _) i0 i1 i2 i3 i4 i5 i6 i7 i8 i9 i10 i11 i12 i13 i14
  have ih29 : ∀ (y2 y3 : Int) (a : Nat → Nat → Int), (((4 - y3) * 1) + 0).toNat < n → iv a → jfr jW_X8_takesWord_r1005 a0 a → 4 ≤ y2 → y2 ≤ 200 → 0 ≤ y3 → y3 ≤ 4 → 4 ≤ a 2 1 → 0 ≤ y3 → a 2 2 = a0 2 2 → y2 = (a 2 2) + 4 → y2 ≤ a 2 1 → y2 ≤ 200 → a0 2 3 = 0 → a0 2 2 < a0 2 1 → jt (jxX E d 128 29 [some (.inr (.inr (.inl 2))), some (.inr (.inr (.inl 1005))), some (.inl y2), some (.inl y3)] [] (jxSH, a, b0)) (jQ_X8_takesWord_r1005 a0 b0) := fun y2 y3 a hlt i0 i1 i2 i3 i4 i5 i6 i7 i8 i9 i10 i11 i12 i13 => (ih _ hlt).2 y2 y3 a (Nat.le_refl _) i0 i1 i2 i3 i4 i5 i6 i7 i8 i9 i10 i11 i12 i13
  have hc58 : ∀ (y2 y3 : Int) (a : Nat → Nat → Int), (((4 - y3) * 1) + 0).toNat ≤ n → iv a → jfr jW_X8_takesWord_r1005 a0 a → 4 ≤ y2 → y2 ≤ 200 → 0 ≤ y3 → y3 ≤ 3 → 4 ≤ a 2 1 → y3 < 4 → 0 ≤ y3 → a 2 2 = a0 2 2 → y2 = (a 2 2) + 4 → y2 ≤ a 2 1 → y2 ≤ 200 → a0 2 3 = 0 → a0 2 2 < a0 2 1 → jt (jxX E d 128 58 [some (.inr (.inr (.inl 2))), some (.inr (.inr (.inl 1005))), some (.inl y2), some (.inl y3)] [] (jxSH, a, b0)) (jQ_X8_takesWord_r1005 a0 b0) := by
    intro y2 y3 a hm hv hf hi0 hi1 hi2 hi3 hi4 hi5 hi6 hi7 hi8 hi9 hi10 hi11 hi12
    refine jt_eq (bq_X8_takesWord_r1005_58 E d y2 y3 a b0) ?_
    have h415_ := iv_get hv (k := 2) (j := 1) (l := 0) (u := 200) rfl
    have h416_ : a 2 1 = a0 2 1 := hf 2 1 rfl
    have h417_ := iv_get hv0 (k := 2) (j := 1) (l := 0) (u := 200) rfl
    have h418_ := iv_get hv (k := 2) (j := 2) (l := 0) (u := 200) rfl
    have h419_ := iv_get hv0 (k := 2) (j := 2) (l := 0) (u := 200) rfl
    have h420_ : jxw (y3 + 1) = y3 + 1 := jxw_id (by omega) (by omega)
    exact ih29 y2 (jxw (y3 + 1)) a (show (((4 - (jxw (y3 + 1))) * 1) + 0).toNat < n from by omega) hv hf (show 4 ≤ y2 from by omega) (show y2 ≤ 200 from by omega) (show 0 ≤ jxw (y3 + 1) from by omega) (show jxw (y3 + 1) ≤ 4 from by omega) (show 4 ≤ a 2 1 from by omega) (show 0 ≤ jxw (y3 + 1) from by omega) (show a 2 2 = a0 2 2 from by omega) (show y2 = (a 2 2) + 4 from by omega) (show y2 ≤ a 2 1 from by omega) (show y2 ≤ 200 from by omega) (show a0 2 3 = 0 from by omega) (show a0 2 2 < a0 2 1 from by omega)
  have hc29 : ∀ (y2 y3 : Int) (a : Nat → Nat → Int), (((4 - y3) * 1) + 0).toNat ≤ n → iv a → jfr jW_X8_takesWord_r1005 a0 a → 4 ≤ y2 → y2 ≤ 200 → 0 ≤ y3 → y3 ≤ 4 → 4 ≤ a 2 1 → 0 ≤ y3 → a 2 2 = a0 2 2 → y2 = (a 2 2) + 4 → y2 ≤ a 2 1 → y2 ≤ 200 → a0 2 3 = 0 → a0 2 2 < a0 2 1 → jt (jxX E d 128 29 [some (.inr (.inr (.inl 2))), some (.inr (.inr (.inl 1005))), some (.inl y2), some (.inl y3)] [] (jxSH, a, b0)) (jQ_X8_takesWord_r1005 a0 b0) := by
    intro y2 y3 a hm hv hf hi0 hi1 hi2 hi3 hi4 hi5 hi6 hi7 hi8 hi9 hi10 hi11
    refine jt_eq (bq_X8_takesWord_r1005_29 E d y2 y3 a b0) ?_
    have h421_ := iv_get hv (k := 2) (j := 1) (l := 0) (u := 200) rfl
    have h422_ : a 2 1 = a0 2 1 := hf 2 1 rfl
    have h423_ := iv_get hv0 (k := 2) (j := 1) (l := 0) (u := 200) rfl
    have h424_ := iv_get hv (k := 2) (j := 2) (l := 0) (u := 200) rfl
    have h425_ := iv_get hv0 (k := 2) (j := 2) (l := 0) (u := 200) rfl
    refine jt_eI (eq_J0_length_8abf5_r1005 E d (jd_le hd rfl) a b0) ?_
    have h426_ := ff_J0_length_8abf5_r1005 a b0
    refine jt_ite (fun c427_ => ?_) (fun c427_ => ?_)
    ·
      have h428_ : jxw ((a 2 2) + y3) = (a 2 2) + y3 := jxw_id (by omega) (by omega)
      refine jt_grd (by omega) ?_
      refine jt_eI (eq_J0_charAt_5068e_r1005 E d (jd_le hd rfl) y3 a b0 (show (0 ≤ y3 ∧ y3 < 4) from by omega)) ?_
      have h429_ := iv_get hv (k := 3) (j := (jxw ((a 2 2) + y3)).toNat) (l := 0) (u := 255) rfl
      have h430_ : a 3 ((jxw ((a 2 2) + y3)).toNat) = a0 3 ((jxw ((a 2 2) + y3)).toNat) := hf 3 ((jxw ((a 2 2) + y3)).toNat) rfl
      have h431_ := iv_get hv0 (k := 3) (j := (jxw ((a 2 2) + y3)).toNat) (l := 0) (u := 255) rfl
      have h432_ := f_J0_charAt_5068e_r1005_eq a b0 y3
      have h433_ := f_J0_isLatin1_aae02_r1005_eq a b0
      have h434_ := f_J1_charAt_3b067_r2005_eq a b0 y3
      have h435_ := jxand_r (([110, 101, 97, 114] : List Int).getD (y3.toNat) 0) 255 (by decide) (by decide)
      have h436_ := jxi2c_b (jxand (([110, 101, 97, 114] : List Int).getD (y3.toNat) 0) 255)
      refine jt_ite (fun c437_ => ?_) (fun c437_ => ?_)
      ·
        exact hc58 y2 y3 a (show (((4 - y3) * 1) + 0).toNat ≤ n from by omega) hv hf (show 4 ≤ y2 from by omega) (show y2 ≤ 200 from by omega) (show 0 ≤ y3 from by omega) (show y3 ≤ 3 from by omega) (show 4 ≤ a 2 1 from by omega) (show y3 < 4 from by omega) (show 0 ≤ y3 from by omega) (show a 2 2 = a0 2 2 from by omega) (show y2 = (a 2 2) + 4 from by omega) (show y2 ≤ a 2 1 from by omega) (show y2 ≤ 200 from by omega) (show a0 2 3 = 0 from by omega) (show a0 2 2 < a0 2 1 from by omega)
      ·
        exact cp_X8_takesWord_r1005_56 E d hd a0 b0 hv0 a hv hf (show 4 ≤ a 2 1 from by omega) (show a 2 2 = a0 2 2 from by omega) (show a0 2 3 = 0 from by omega) (show a0 2 2 < a0 2 1 from by omega)
    ·
      refine jt_ite (fun c438_ => ?_) (fun c438_ => ?_)
      ·
        refine jt_grd (by omega) ?_
        have h439_ := iv_get hv (k := 3) (j := y2.toNat) (l := 0) (u := 255) rfl
        have h440_ : a 3 (y2.toNat) = a0 3 (y2.toNat) := hf 3 (y2.toNat) rfl
        have h441_ := iv_get hv0 (k := 3) (j := y2.toNat) (l := 0) (u := 255) rfl
        refine jt_ite (fun c442_ => ?_) (fun c442_ => ?_)
        ·
          exact cp_X8_takesWord_r1005_96 E d hd a0 b0 hv0 y2 a hv hf (show 4 ≤ y2 from by omega) (show y2 ≤ 200 from by omega) (show 4 ≤ a 2 1 from by omega) (show a 2 2 = a0 2 2 from by omega) (show y2 = (a 2 2) + 4 from by omega) (show y2 ≤ a 2 1 from by omega) (show y2 ≤ 200 from by omega) (show a0 2 3 = 0 from by omega) (show a0 2 2 < a0 2 1 from by omega)
        ·
          exact cp_X8_takesWord_r1005_83 E d hd a0 b0 hv0 y2 a hv hf (show 4 ≤ y2 from by omega) (show y2 ≤ 199 from by omega) (show 5 ≤ a 2 1 from by omega) (show a 2 2 = a0 2 2 from by omega) (show y2 = (a 2 2) + 4 from by omega) (show y2 ≤ a 2 1 from by omega) (show y2 ≤ 200 from by omega) (show a0 2 3 = 0 from by omega) (show a0 2 2 < a0 2 1 from by omega)
      ·
        exact cp_X8_takesWord_r1005_96 E d hd a0 b0 hv0 y2 a hv hf (show 4 ≤ y2 from by omega) (show y2 ≤ 200 from by omega) (show 4 ≤ a 2 1 from by omega) (show a 2 2 = a0 2 2 from by omega) (show y2 = (a 2 2) + 4 from by omega) (show y2 ≤ a 2 1 from by omega) (show y2 ≤ 200 from by omega) (show a0 2 3 = 0 from by omega) (show a0 2 2 < a0 2 1 from by omega)
  exact ⟨hc58, hc29⟩
theorem sp_X8_takesWord_r1005 (E : jxE) (d : Nat) (hd : Nat.ble 5 d = true) (a0 b0 : Nat → Nat → Int) (hv0 : iv a0) : jt (jxC E d 128 [.inr (.inr (.inl 2)), .inr (.inr (.inl 1005))] (jxSH, a0, b0)) (jQ_X8_takesWord_r1005 a0 b0) := by
  obtain ⟨d, rfl⟩ := jd_succ hd
  refine jt_eq (bq_X8_takesWord_r1005 E d a0 b0) ?_
  refine jt_eI (eq_J0_length_8abf5_r1005 E d (jd_le hd rfl) a0 b0) ?_
  refine jt_eI (eq_X8_isFaulty E d (jd_le hd rfl) a0 b0) ?_
  have h443_ := f_X8_isFaulty_eq a0 b0
  refine jt_ite (fun c444_ => ?_) (fun c444_ => ?_)
  ·
    have h445_ := iv_get hv0 (k := 2) (j := 1) (l := 0) (u := 200) rfl
    have h446_ := iv_get hv0 (k := 2) (j := 2) (l := 0) (u := 200) rfl
    have h447_ := ff_J0_length_8abf5_r1005 a0 b0
    have h448_ : jxw ((a0 2 2) + (f_J0_length_8abf5_r1005 a0 b0)) = (a0 2 2) + (f_J0_length_8abf5_r1005 a0 b0) := jxw_id (by omega) (by omega)
    refine jt_ite (fun c449_ => ?_) (fun c449_ => ?_)
    ·
      exact jt_rI ⟨hv0, (jfr_rf _ _), rfl, (show (0 ≤ 0 ∧ 0 ≤ 1) from by omega), (show ((¬ a0 2 3 = 0 ∨ a0 2 1 ≤ a0 2 2) → 0 = 0) from by omega), (show (0 = 0 → a0 2 2 = a0 2 2) from by omega)⟩
    ·
      exact (cp_X8_takesWord_r1005_29 E d hd a0 b0 hv0 _).2 (jxw ((a0 2 2) + (f_J0_length_8abf5_r1005 a0 b0))) 0 a0 (Nat.le_refl _) hv0 (jfr_rf _ _) (show 4 ≤ jxw ((a0 2 2) + (f_J0_length_8abf5_r1005 a0 b0)) from by omega) (show jxw ((a0 2 2) + (f_J0_length_8abf5_r1005 a0 b0)) ≤ 200 from by omega) (show 0 ≤ 0 from by omega) (show 0 ≤ 4 from by omega) (show 4 ≤ a0 2 1 from by omega) (show 0 ≤ 0 from by omega) (show a0 2 2 = a0 2 2 from by omega) (show jxw ((a0 2 2) + (f_J0_length_8abf5_r1005 a0 b0)) = (a0 2 2) + 4 from by omega) (show jxw ((a0 2 2) + (f_J0_length_8abf5_r1005 a0 b0)) ≤ a0 2 1 from by omega) (show jxw ((a0 2 2) + (f_J0_length_8abf5_r1005 a0 b0)) ≤ 200 from by omega) (show a0 2 3 = 0 from by omega) (show a0 2 2 < a0 2 1 from by omega)
  ·
    have h450_ := iv_get hv0 (k := 2) (j := 1) (l := 0) (u := 200) rfl
    have h451_ := iv_get hv0 (k := 2) (j := 2) (l := 0) (u := 200) rfl
    exact jt_rI ⟨hv0, (jfr_rf _ _), rfl, (show (0 ≤ 0 ∧ 0 ≤ 1) from by omega), (show ((¬ a0 2 3 = 0 ∨ a0 2 1 ≤ a0 2 2) → 0 = 0) from by omega), (show (0 = 0 → a0 2 2 = a0 2 2) from by omega)⟩
def jW_X8_takesWord_r1006 : List (Nat × Nat) := [(2, 2)]
abbrev jQ_X8_takesWord_r1006 (a0 b0 : Nat → Nat → Int) : List jxV → (Nat → Nat → Int) → (Nat → Nat → Int) → Prop := rI (fun r a b => (iv a) ∧ (jfr jW_X8_takesWord_r1006 a0 a) ∧ (b0 = b) ∧ ((0 ≤ r ∧ r ≤ 1)) ∧ (((¬ a0 2 3 = 0 ∨ a0 2 1 ≤ a0 2 2) → r = 0)) ∧ ((r = 0 → a 2 2 = a0 2 2)))
theorem cp_X8_takesWord_r1006_56 (E : jxE) (d : Nat) (hd : Nat.ble 5 (d + 1) = true) (a0 b0 : Nat → Nat → Int) (hv0 : iv a0) : ∀ (a : Nat → Nat → Int), iv a → jfr jW_X8_takesWord_r1006 a0 a → 3 ≤ a 2 1 → a 2 2 = a0 2 2 → a0 2 3 = 0 → a0 2 2 < a0 2 1 → jt (jxX E d 128 56 [none, none, none, none] [] (jxSH, a, b0)) (jQ_X8_takesWord_r1006 a0 b0) := by
  intro a hv hf hi0 hi1 hi2 hi3
  refine jt_eq (bq_X8_takesWord_r1006_56 E d a b0) ?_
  have h452_ := iv_get hv (k := 2) (j := 1) (l := 0) (u := 200) rfl
  have h453_ : a 2 1 = a0 2 1 := hf 2 1 rfl
  have h454_ := iv_get hv0 (k := 2) (j := 1) (l := 0) (u := 200) rfl
  have h455_ := iv_get hv (k := 2) (j := 2) (l := 0) (u := 200) rfl
  have h456_ := iv_get hv0 (k := 2) (j := 2) (l := 0) (u := 200) rfl
  exact jt_rI ⟨hv, hf, rfl, (show (0 ≤ 0 ∧ 0 ≤ 1) from by omega), (show ((¬ a0 2 3 = 0 ∨ a0 2 1 ≤ a0 2 2) → 0 = 0) from by omega), (show (0 = 0 → a 2 2 = a0 2 2) from by omega)⟩
theorem cp_X8_takesWord_r1006_96 (E : jxE) (d : Nat) (hd : Nat.ble 5 (d + 1) = true) (a0 b0 : Nat → Nat → Int) (hv0 : iv a0) : ∀ (y2 : Int) (a : Nat → Nat → Int), iv a → jfr jW_X8_takesWord_r1006 a0 a → 3 ≤ y2 → y2 ≤ 200 → 3 ≤ a 2 1 → a 2 2 = a0 2 2 → y2 = (a 2 2) + 3 → y2 ≤ a 2 1 → y2 ≤ 200 → a0 2 3 = 0 → a0 2 2 < a0 2 1 → jt (jxX E d 128 96 [some (.inr (.inr (.inl 2))), none, some (.inl y2), none] [] (jxSH, a, b0)) (jQ_X8_takesWord_r1006 a0 b0) := by
  intro y2 a hv hf hi0 hi1 hi2 hi3 hi4 hi5 hi6 hi7 hi8
  refine jt_eq (bq_X8_takesWord_r1006_96 E d y2 a b0) ?_
  have h457_ := iv_get hv (k := 2) (j := 1) (l := 0) (u := 200) rfl
  have h458_ : a 2 1 = a0 2 1 := hf 2 1 rfl
  have h459_ := iv_get hv0 (k := 2) (j := 1) (l := 0) (u := 200) rfl
  have h460_ := iv_get hv (k := 2) (j := 2) (l := 0) (u := 200) rfl
  have h461_ := iv_get hv0 (k := 2) (j := 2) (l := 0) (u := 200) rfl
  have hv462_ : iv (jxu a 2 2 y2) := iv_put hv (l := 0) (u := 200) rfl (by omega) (by omega)
  refine jt_bV (sp_X8_skipBlanks E d (jd_le hd rfl) (jxu a 2 2 y2) b0 hv462_) (fun a463_ b463_ h463_ => ?_)
  obtain ⟨hv463_, hf463_, rfl, hq463_0⟩ := h463_
  have h464_ := iv_get hv463_ (k := 2) (j := 2) (l := 0) (u := 200) rfl
  have h465_ : (a 2 1 ≤ y2 → a463_ 2 2 = y2) := hq463_0
  have hf466_ : jfr jW_X8_takesWord_r1006 a0 (jxu a 2 2 y2) := jfr_put hf rfl
  have hf467_ : jfr jW_X8_takesWord_r1006 a0 a463_ := jfr_tr hf466_ hf463_ rfl
  exact jt_rI ⟨hv463_, hf467_, rfl, (show (0 ≤ 1 ∧ 1 ≤ 1) from by omega), (show ((¬ a0 2 3 = 0 ∨ a0 2 1 ≤ a0 2 2) → 1 = 0) from by omega), (show (1 = 0 → a463_ 2 2 = a0 2 2) from by omega)⟩
theorem cp_X8_takesWord_r1006_83 (E : jxE) (d : Nat) (hd : Nat.ble 5 (d + 1) = true) (a0 b0 : Nat → Nat → Int) (hv0 : iv a0) : ∀ (y2 : Int) (a : Nat → Nat → Int), iv a → jfr jW_X8_takesWord_r1006 a0 a → 3 ≤ y2 → y2 ≤ 199 → 4 ≤ a 2 1 → a 2 2 = a0 2 2 → y2 = (a 2 2) + 3 → y2 ≤ a 2 1 → y2 ≤ 200 → a0 2 3 = 0 → a0 2 2 < a0 2 1 → jt (jxX E d 128 83 [some (.inr (.inr (.inl 2))), none, some (.inl y2), none] [] (jxSH, a, b0)) (jQ_X8_takesWord_r1006 a0 b0) := by
  intro y2 a hv hf hi0 hi1 hi2 hi3 hi4 hi5 hi6 hi7 hi8
  refine jt_eq (bq_X8_takesWord_r1006_83 E d y2 a b0) ?_
  have h468_ := iv_get hv (k := 2) (j := 1) (l := 0) (u := 200) rfl
  have h469_ : a 2 1 = a0 2 1 := hf 2 1 rfl
  have h470_ := iv_get hv0 (k := 2) (j := 1) (l := 0) (u := 200) rfl
  have h471_ := iv_get hv (k := 2) (j := 2) (l := 0) (u := 200) rfl
  have h472_ := iv_get hv0 (k := 2) (j := 2) (l := 0) (u := 200) rfl
  refine jt_grd (by omega) ?_
  have h473_ := iv_get hv (k := 3) (j := y2.toNat) (l := 0) (u := 255) rfl
  have h474_ : a 3 (y2.toNat) = a0 3 (y2.toNat) := hf 3 (y2.toNat) rfl
  have h475_ := iv_get hv0 (k := 3) (j := y2.toNat) (l := 0) (u := 255) rfl
  refine jt_ite (fun c476_ => ?_) (fun c476_ => ?_)
  ·
    exact cp_X8_takesWord_r1006_96 E d hd a0 b0 hv0 y2 a hv hf (show 3 ≤ y2 from by omega) (show y2 ≤ 200 from by omega) (show 3 ≤ a 2 1 from by omega) (show a 2 2 = a0 2 2 from by omega) (show y2 = (a 2 2) + 3 from by omega) (show y2 ≤ a 2 1 from by omega) (show y2 ≤ 200 from by omega) (show a0 2 3 = 0 from by omega) (show a0 2 2 < a0 2 1 from by omega)
  ·
    exact jt_rI ⟨hv, hf, rfl, (show (0 ≤ 0 ∧ 0 ≤ 1) from by omega), (show ((¬ a0 2 3 = 0 ∨ a0 2 1 ≤ a0 2 2) → 0 = 0) from by omega), (show (0 = 0 → a 2 2 = a0 2 2) from by omega)⟩
theorem cp_X8_takesWord_r1006_29 (E : jxE) (d : Nat) (hd : Nat.ble 5 (d + 1) = true) (a0 b0 : Nat → Nat → Int) (hv0 : iv a0) : ∀ n : Nat, (∀ (y2 y3 : Int) (a : Nat → Nat → Int), (((3 - y3) * 1) + 0).toNat ≤ n → iv a → jfr jW_X8_takesWord_r1006 a0 a → 3 ≤ y2 → y2 ≤ 200 → 0 ≤ y3 → y3 ≤ 2 → 3 ≤ a 2 1 → y3 < 3 → 0 ≤ y3 → a 2 2 = a0 2 2 → y2 = (a 2 2) + 3 → y2 ≤ a 2 1 → y2 ≤ 200 → a0 2 3 = 0 → a0 2 2 < a0 2 1 → jt (jxX E d 128 58 [some (.inr (.inr (.inl 2))), some (.inr (.inr (.inl 1006))), some (.inl y2), some (.inl y3)] [] (jxSH, a, b0)) (jQ_X8_takesWord_r1006 a0 b0)) ∧ (∀ (y2 y3 : Int) (a : Nat → Nat → Int), (((3 - y3) * 1) + 0).toNat ≤ n → iv a → jfr jW_X8_takesWord_r1006 a0 a → 3 ≤ y2 → y2 ≤ 200 → 0 ≤ y3 → y3 ≤ 3 → 3 ≤ a 2 1 → 0 ≤ y3 → a 2 2 = a0 2 2 → y2 = (a 2 2) + 3 → y2 ≤ a 2 1 → y2 ≤ 200 → a0 2 3 = 0 → a0 2 2 < a0 2 1 → jt (jxX E d 128 29 [some (.inr (.inr (.inl 2))), some (.inr (.inr (.inl 1006))), some (.inl y2), some (.inl y3)] [] (jxSH, a, b0)) (jQ_X8_takesWord_r1006 a0 b0)) := by
  refine jx_ind fun n ih => ?_
  have ih58 : ∀ (y2 y3 : Int) (a : Nat → Nat → Int), (((3 - y3) * 1) + 0).toNat < n → iv a → jfr jW_X8_takesWord_r1006 a0 a → 3 ≤ y2 → y2 ≤ 200 → 0 ≤ y3 → y3 ≤ 2 → 3 ≤ a 2 1 → y3 < 3 → 0 ≤ y3 → a 2 2 = a0 2 2 → y2 = (a 2 2) + 3 → y2 ≤ a 2 1 → y2 ≤ 200 → a0 2 3 = 0 → a0 2 2 < a0 2 1 → jt (jxX E d 128 58 [some (.inr (.inr (.inl 2))), some (.inr (.inr (.inl 1006))), some (.inl y2), some (.inl y3)] [] (jxSH, a, b0)) (jQ_X8_takesWord_r1006 a0 b0) := fun y2 y3 a hlt i0 i1 i2 i3 i4 i5 i6 i7 i8 i9 i10 i11 i12 i13 i14 => (ih _ hlt).1 y2 y3 a (Nat.le_refl _) i0 i1 i2 i3 i4 i5 i6 i7 i8 i9 i10 i11 i12 i13 i14
  have ih29 : ∀ (y2 y3 : Int) (a : Nat → Nat → Int), (((3 - y3) * 1) + 0).toNat < n → iv a → jfr jW_X8_takesWord_r1006 a0 a → 3 ≤ y2 → y2 ≤ 200 → 0 ≤ y3 → y3 ≤ 3 → 3 ≤ a 2 1 → 0 ≤ y3 → a 2 2 = a0 2 2 → y2 = (a 2 2) + 3 → y2 ≤ a 2 1 → y2 ≤ 200 → a0 2 3 = 0 → a0 2 2 < a0 2 1 → jt (jxX E d 128 29 [some (.inr (.inr (.inl 2))), some (.inr (.inr (.inl 1006))), some (.inl y2), some (.inl y3)] [] (jxSH, a, b0)) (jQ_X8_takesWord_r1006 a0 b0) := fun y2 y3 a hlt i0 i1 i2 i3 i4 i5 i6 i7 i8 i9 i10 i11 i12 i13 => (ih _ hlt).2 y2 y3 a (Nat.le_refl _) i0 i1 i2 i3 i4 i5 i6 i7 i8 i9 i10 i11 i12 i13
  have hc58 : ∀ (y2 y3 : Int) (a : Nat → Nat → Int), (((3 - y3) * 1) + 0).toNat ≤ n → iv a → jfr jW_X8_takesWord_r1006 a0 a → 3 ≤ y2 → y2 ≤ 200 → 0 ≤ y3 → y3 ≤ 2 → 3 ≤ a 2 1 → y3 < 3 → 0 ≤ y3 → a 2 2 = a0 2 2 → y2 = (a 2 2) + 3 → y2 ≤ a 2 1 → y2 ≤ 200 → a0 2 3 = 0 → a0 2 2 < a0 2 1 → jt (jxX E d 128 58 [some (.inr (.inr (.inl 2))), some (.inr (.inr (.inl 1006))), some (.inl y2), some (.inl y3)] [] (jxSH, a, b0)) (jQ_X8_takesWord_r1006 a0 b0) := by
    intro y2 y3 a hm hv hf hi0 hi1 hi2 hi3 hi4 hi5 hi6 hi7 hi8 hi9 hi10 hi11 hi12
    refine jt_eq (bq_X8_takesWord_r1006_58 E d y2 y3 a b0) ?_
    have h477_ := iv_get hv (k := 2) (j := 1) (l := 0) (u := 200) rfl
    have h478_ : a 2 1 = a0 2 1 := hf 2 1 rfl
    have h479_ := iv_get hv0 (k := 2) (j := 1) (l := 0) (u := 200) rfl
    have h480_ := iv_get hv (k := 2) (j := 2) (l := 0) (u := 200) rfl
    have h481_ := iv_get hv0 (k := 2) (j := 2) (l := 0) (u := 200) rfl
    have h482_ : jxw (y3 + 1) = y3 + 1 := jxw_id (by omega) (by omega)
    exact ih29 y2 (jxw (y3 + 1)) a (show (((3 - (jxw (y3 + 1))) * 1) + 0).toNat < n from by omega) hv hf (show 3 ≤ y2 from by omega) (show y2 ≤ 200 from by omega) (show 0 ≤ jxw (y3 + 1) from by omega) (show jxw (y3 + 1) ≤ 3 from by omega) (show 3 ≤ a 2 1 from by omega) (show 0 ≤ jxw (y3 + 1) from by omega) (show a 2 2 = a0 2 2 from by omega) (show y2 = (a 2 2) + 3 from by omega) (show y2 ≤ a 2 1 from by omega) (show y2 ≤ 200 from by omega) (show a0 2 3 = 0 from by omega) (show a0 2 2 < a0 2 1 from by omega)
  have hc29 : ∀ (y2 y3 : Int) (a : Nat → Nat → Int), (((3 - y3) * 1) + 0).toNat ≤ n → iv a → jfr jW_X8_takesWord_r1006 a0 a → 3 ≤ y2 → y2 ≤ 200 → 0 ≤ y3 → y3 ≤ 3 → 3 ≤ a 2 1 → 0 ≤ y3 → a 2 2 = a0 2 2 → y2 = (a 2 2) + 3 → y2 ≤ a 2 1 → y2 ≤ 200 → a0 2 3 = 0 → a0 2 2 < a0 2 1 → jt (jxX E d 128 29 [some (.inr (.inr (.inl 2))), some (.inr (.inr (.inl 1006))), some (.inl y2), some (.inl y3)] [] (jxSH, a, b0)) (jQ_X8_takesWord_r1006 a0 b0) := by
    intro y2 y3 a hm hv hf hi0 hi1 hi2 hi3 hi4 hi5 hi6 hi7 hi8 hi9 hi10 hi11
    refine jt_eq (bq_X8_takesWord_r1006_29 E d y2 y3 a b0) ?_
    have h483_ := iv_get hv (k := 2) (j := 1) (l := 0) (u := 200) rfl
    have h484_ : a 2 1 = a0 2 1 := hf 2 1 rfl
    have h485_ := iv_get hv0 (k := 2) (j := 1) (l := 0) (u := 200) rfl
    have h486_ := iv_get hv (k := 2) (j := 2) (l := 0) (u := 200) rfl
    have h487_ := iv_get hv0 (k := 2) (j := 2) (l := 0) (u := 200) rfl
    refine jt_eI (eq_J0_length_8abf5_r1006 E d (jd_le hd rfl) a b0) ?_
    have h488_ := ff_J0_length_8abf5_r1006 a b0
    refine jt_ite (fun c489_ => ?_) (fun c489_ => ?_)
    ·
      have h490_ : jxw ((a 2 2) + y3) = (a 2 2) + y3 := jxw_id (by omega) (by omega)
      refine jt_grd (by omega) ?_
      refine jt_eI (eq_J0_charAt_5068e_r1006 E d (jd_le hd rfl) y3 a b0 (show (0 ≤ y3 ∧ y3 < 3) from by omega)) ?_
      have h491_ := iv_get hv (k := 3) (j := (jxw ((a 2 2) + y3)).toNat) (l := 0) (u := 255) rfl
      have h492_ : a 3 ((jxw ((a 2 2) + y3)).toNat) = a0 3 ((jxw ((a 2 2) + y3)).toNat) := hf 3 ((jxw ((a 2 2) + y3)).toNat) rfl
      have h493_ := iv_get hv0 (k := 3) (j := (jxw ((a 2 2) + y3)).toNat) (l := 0) (u := 255) rfl
      have h494_ := f_J0_charAt_5068e_r1006_eq a b0 y3
      have h495_ := f_J0_isLatin1_aae02_r1006_eq a b0
      have h496_ := f_J1_charAt_3b067_r2006_eq a b0 y3
      have h497_ := jxand_r (([111, 108, 100] : List Int).getD (y3.toNat) 0) 255 (by decide) (by decide)
      have h498_ := jxi2c_b (jxand (([111, 108, 100] : List Int).getD (y3.toNat) 0) 255)
      refine jt_ite (fun c499_ => ?_) (fun c499_ => ?_)
      ·
        exact hc58 y2 y3 a (show (((3 - y3) * 1) + 0).toNat ≤ n from by omega) hv hf (show 3 ≤ y2 from by omega) (show y2 ≤ 200 from by omega) (show 0 ≤ y3 from by omega) (show y3 ≤ 2 from by omega) (show 3 ≤ a 2 1 from by omega) (show y3 < 3 from by omega) (show 0 ≤ y3 from by omega) (show a 2 2 = a0 2 2 from by omega) (show y2 = (a 2 2) + 3 from by omega) (show y2 ≤ a 2 1 from by omega) (show y2 ≤ 200 from by omega) (show a0 2 3 = 0 from by omega) (show a0 2 2 < a0 2 1 from by omega)
      ·
        exact cp_X8_takesWord_r1006_56 E d hd a0 b0 hv0 a hv hf (show 3 ≤ a 2 1 from by omega) (show a 2 2 = a0 2 2 from by omega) (show a0 2 3 = 0 from by omega) (show a0 2 2 < a0 2 1 from by omega)
    ·
      refine jt_ite (fun c500_ => ?_) (fun c500_ => ?_)
      ·
        refine jt_grd (by omega) ?_
        have h501_ := iv_get hv (k := 3) (j := y2.toNat) (l := 0) (u := 255) rfl
        have h502_ : a 3 (y2.toNat) = a0 3 (y2.toNat) := hf 3 (y2.toNat) rfl
        have h503_ := iv_get hv0 (k := 3) (j := y2.toNat) (l := 0) (u := 255) rfl
        refine jt_ite (fun c504_ => ?_) (fun c504_ => ?_)
        ·
          exact cp_X8_takesWord_r1006_96 E d hd a0 b0 hv0 y2 a hv hf (show 3 ≤ y2 from by omega) (show y2 ≤ 200 from by omega) (show 3 ≤ a 2 1 from by omega) (show a 2 2 = a0 2 2 from by omega) (show y2 = (a 2 2) + 3 from by omega) (show y2 ≤ a 2 1 from by omega) (show y2 ≤ 200 from by omega) (show a0 2 3 = 0 from by omega) (show a0 2 2 < a0 2 1 from by omega)
        ·
          exact cp_X8_takesWord_r1006_83 E d hd a0 b0 hv0 y2 a hv hf (show 3 ≤ y2 from by omega) (show y2 ≤ 199 from by omega) (show 4 ≤ a 2 1 from by omega) (show a 2 2 = a0 2 2 from by omega) (show y2 = (a 2 2) + 3 from by omega) (show y2 ≤ a 2 1 from by omega) (show y2 ≤ 200 from by omega) (show a0 2 3 = 0 from by omega) (show a0 2 2 < a0 2 1 from by omega)
      ·
        exact cp_X8_takesWord_r1006_96 E d hd a0 b0 hv0 y2 a hv hf (show 3 ≤ y2 from by omega) (show y2 ≤ 200 from by omega) (show 3 ≤ a 2 1 from by omega) (show a 2 2 = a0 2 2 from by omega) (show y2 = (a 2 2) + 3 from by omega) (show y2 ≤ a 2 1 from by omega) (show y2 ≤ 200 from by omega) (show a0 2 3 = 0 from by omega) (show a0 2 2 < a0 2 1 from by omega)
  exact ⟨hc58, hc29⟩
theorem sp_X8_takesWord_r1006 (E : jxE) (d : Nat) (hd : Nat.ble 5 d = true) (a0 b0 : Nat → Nat → Int) (hv0 : iv a0) : jt (jxC E d 128 [.inr (.inr (.inl 2)), .inr (.inr (.inl 1006))] (jxSH, a0, b0)) (jQ_X8_takesWord_r1006 a0 b0) := by
  obtain ⟨d, rfl⟩ := jd_succ hd
  refine jt_eq (bq_X8_takesWord_r1006 E d a0 b0) ?_
  refine jt_eI (eq_J0_length_8abf5_r1006 E d (jd_le hd rfl) a0 b0) ?_
  refine jt_eI (eq_X8_isFaulty E d (jd_le hd rfl) a0 b0) ?_
  have h505_ := f_X8_isFaulty_eq a0 b0
  refine jt_ite (fun c506_ => ?_) (fun c506_ => ?_)
  ·
    have h507_ := iv_get hv0 (k := 2) (j := 1) (l := 0) (u := 200) rfl
    have h508_ := iv_get hv0 (k := 2) (j := 2) (l := 0) (u := 200) rfl
    have h509_ := ff_J0_length_8abf5_r1006 a0 b0
    have h510_ : jxw ((a0 2 2) + (f_J0_length_8abf5_r1006 a0 b0)) = (a0 2 2) + (f_J0_length_8abf5_r1006 a0 b0) := jxw_id (by omega) (by omega)
    refine jt_ite (fun c511_ => ?_) (fun c511_ => ?_)
    ·
      exact jt_rI ⟨hv0, (jfr_rf _ _), rfl, (show (0 ≤ 0 ∧ 0 ≤ 1) from by omega), (show ((¬ a0 2 3 = 0 ∨ a0 2 1 ≤ a0 2 2) → 0 = 0) from by omega), (show (0 = 0 → a0 2 2 = a0 2 2) from by omega)⟩
    ·
      exact (cp_X8_takesWord_r1006_29 E d hd a0 b0 hv0 _).2 (jxw ((a0 2 2) + (f_J0_length_8abf5_r1006 a0 b0))) 0 a0 (Nat.le_refl _) hv0 (jfr_rf _ _) (show 3 ≤ jxw ((a0 2 2) + (f_J0_length_8abf5_r1006 a0 b0)) from by omega) (show jxw ((a0 2 2) + (f_J0_length_8abf5_r1006 a0 b0)) ≤ 200 from by omega) (show 0 ≤ 0 from by omega) (show 0 ≤ 3 from by omega) (show 3 ≤ a0 2 1 from by omega) (show 0 ≤ 0 from by omega) (show a0 2 2 = a0 2 2 from by omega) (show jxw ((a0 2 2) + (f_J0_length_8abf5_r1006 a0 b0)) = (a0 2 2) + 3 from by omega) (show jxw ((a0 2 2) + (f_J0_length_8abf5_r1006 a0 b0)) ≤ a0 2 1 from by omega) (show jxw ((a0 2 2) + (f_J0_length_8abf5_r1006 a0 b0)) ≤ 200 from by omega) (show a0 2 3 = 0 from by omega) (show a0 2 2 < a0 2 1 from by omega)
  ·
    have h512_ := iv_get hv0 (k := 2) (j := 1) (l := 0) (u := 200) rfl
    have h513_ := iv_get hv0 (k := 2) (j := 2) (l := 0) (u := 200) rfl
    exact jt_rI ⟨hv0, (jfr_rf _ _), rfl, (show (0 ≤ 0 ∧ 0 ≤ 1) from by omega), (show ((¬ a0 2 3 = 0 ∨ a0 2 1 ≤ a0 2 2) → 0 = 0) from by omega), (show (0 = 0 → a0 2 2 = a0 2 2) from by omega)⟩
def jW_X8_takesWord_r1007 : List (Nat × Nat) := [(2, 2)]
abbrev jQ_X8_takesWord_r1007 (a0 b0 : Nat → Nat → Int) : List jxV → (Nat → Nat → Int) → (Nat → Nat → Int) → Prop := rI (fun r a b => (iv a) ∧ (jfr jW_X8_takesWord_r1007 a0 a) ∧ (b0 = b) ∧ ((0 ≤ r ∧ r ≤ 1)) ∧ (((¬ a0 2 3 = 0 ∨ a0 2 1 ≤ a0 2 2) → r = 0)) ∧ ((r = 0 → a 2 2 = a0 2 2)))
theorem cp_X8_takesWord_r1007_56 (E : jxE) (d : Nat) (hd : Nat.ble 5 (d + 1) = true) (a0 b0 : Nat → Nat → Int) (hv0 : iv a0) : ∀ (a : Nat → Nat → Int), iv a → jfr jW_X8_takesWord_r1007 a0 a → 3 ≤ a 2 1 → a 2 2 = a0 2 2 → a0 2 3 = 0 → a0 2 2 < a0 2 1 → jt (jxX E d 128 56 [none, none, none, none] [] (jxSH, a, b0)) (jQ_X8_takesWord_r1007 a0 b0) := by
  intro a hv hf hi0 hi1 hi2 hi3
  refine jt_eq (bq_X8_takesWord_r1007_56 E d a b0) ?_
  have h514_ := iv_get hv (k := 2) (j := 1) (l := 0) (u := 200) rfl
  have h515_ : a 2 1 = a0 2 1 := hf 2 1 rfl
  have h516_ := iv_get hv0 (k := 2) (j := 1) (l := 0) (u := 200) rfl
  have h517_ := iv_get hv (k := 2) (j := 2) (l := 0) (u := 200) rfl
  have h518_ := iv_get hv0 (k := 2) (j := 2) (l := 0) (u := 200) rfl
  exact jt_rI ⟨hv, hf, rfl, (show (0 ≤ 0 ∧ 0 ≤ 1) from by omega), (show ((¬ a0 2 3 = 0 ∨ a0 2 1 ≤ a0 2 2) → 0 = 0) from by omega), (show (0 = 0 → a 2 2 = a0 2 2) from by omega)⟩
theorem cp_X8_takesWord_r1007_96 (E : jxE) (d : Nat) (hd : Nat.ble 5 (d + 1) = true) (a0 b0 : Nat → Nat → Int) (hv0 : iv a0) : ∀ (y2 : Int) (a : Nat → Nat → Int), iv a → jfr jW_X8_takesWord_r1007 a0 a → 3 ≤ y2 → y2 ≤ 200 → 3 ≤ a 2 1 → a 2 2 = a0 2 2 → y2 = (a 2 2) + 3 → y2 ≤ a 2 1 → y2 ≤ 200 → a0 2 3 = 0 → a0 2 2 < a0 2 1 → jt (jxX E d 128 96 [some (.inr (.inr (.inl 2))), none, some (.inl y2), none] [] (jxSH, a, b0)) (jQ_X8_takesWord_r1007 a0 b0) := by
  intro y2 a hv hf hi0 hi1 hi2 hi3 hi4 hi5 hi6 hi7 hi8
  refine jt_eq (bq_X8_takesWord_r1007_96 E d y2 a b0) ?_
  have h519_ := iv_get hv (k := 2) (j := 1) (l := 0) (u := 200) rfl
  have h520_ : a 2 1 = a0 2 1 := hf 2 1 rfl
  have h521_ := iv_get hv0 (k := 2) (j := 1) (l := 0) (u := 200) rfl
  have h522_ := iv_get hv (k := 2) (j := 2) (l := 0) (u := 200) rfl
  have h523_ := iv_get hv0 (k := 2) (j := 2) (l := 0) (u := 200) rfl
  have hv524_ : iv (jxu a 2 2 y2) := iv_put hv (l := 0) (u := 200) rfl (by omega) (by omega)
  refine jt_bV (sp_X8_skipBlanks E d (jd_le hd rfl) (jxu a 2 2 y2) b0 hv524_) (fun a525_ b525_ h525_ => ?_)
  obtain ⟨hv525_, hf525_, rfl, hq525_0⟩ := h525_
  have h526_ := iv_get hv525_ (k := 2) (j := 2) (l := 0) (u := 200) rfl
  have h527_ : (a 2 1 ≤ y2 → a525_ 2 2 = y2) := hq525_0
  have hf528_ : jfr jW_X8_takesWord_r1007 a0 (jxu a 2 2 y2) := jfr_put hf rfl
  have hf529_ : jfr jW_X8_takesWord_r1007 a0 a525_ := jfr_tr hf528_ hf525_ rfl
  exact jt_rI ⟨hv525_, hf529_, rfl, (show (0 ≤ 1 ∧ 1 ≤ 1) from by omega), (show ((¬ a0 2 3 = 0 ∨ a0 2 1 ≤ a0 2 2) → 1 = 0) from by omega), (show (1 = 0 → a525_ 2 2 = a0 2 2) from by omega)⟩
theorem cp_X8_takesWord_r1007_83 (E : jxE) (d : Nat) (hd : Nat.ble 5 (d + 1) = true) (a0 b0 : Nat → Nat → Int) (hv0 : iv a0) : ∀ (y2 : Int) (a : Nat → Nat → Int), iv a → jfr jW_X8_takesWord_r1007 a0 a → 3 ≤ y2 → y2 ≤ 199 → 4 ≤ a 2 1 → a 2 2 = a0 2 2 → y2 = (a 2 2) + 3 → y2 ≤ a 2 1 → y2 ≤ 200 → a0 2 3 = 0 → a0 2 2 < a0 2 1 → jt (jxX E d 128 83 [some (.inr (.inr (.inl 2))), none, some (.inl y2), none] [] (jxSH, a, b0)) (jQ_X8_takesWord_r1007 a0 b0) := by
  intro y2 a hv hf hi0 hi1 hi2 hi3 hi4 hi5 hi6 hi7 hi8
  refine jt_eq (bq_X8_takesWord_r1007_83 E d y2 a b0) ?_
  have h530_ := iv_get hv (k := 2) (j := 1) (l := 0) (u := 200) rfl
  have h531_ : a 2 1 = a0 2 1 := hf 2 1 rfl
  have h532_ := iv_get hv0 (k := 2) (j := 1) (l := 0) (u := 200) rfl
  have h533_ := iv_get hv (k := 2) (j := 2) (l := 0) (u := 200) rfl
  have h534_ := iv_get hv0 (k := 2) (j := 2) (l := 0) (u := 200) rfl
  refine jt_grd (by omega) ?_
  have h535_ := iv_get hv (k := 3) (j := y2.toNat) (l := 0) (u := 255) rfl
  have h536_ : a 3 (y2.toNat) = a0 3 (y2.toNat) := hf 3 (y2.toNat) rfl
  have h537_ := iv_get hv0 (k := 3) (j := y2.toNat) (l := 0) (u := 255) rfl
  refine jt_ite (fun c538_ => ?_) (fun c538_ => ?_)
  ·
    exact cp_X8_takesWord_r1007_96 E d hd a0 b0 hv0 y2 a hv hf (show 3 ≤ y2 from by omega) (show y2 ≤ 200 from by omega) (show 3 ≤ a 2 1 from by omega) (show a 2 2 = a0 2 2 from by omega) (show y2 = (a 2 2) + 3 from by omega) (show y2 ≤ a 2 1 from by omega) (show y2 ≤ 200 from by omega) (show a0 2 3 = 0 from by omega) (show a0 2 2 < a0 2 1 from by omega)
  ·
    exact jt_rI ⟨hv, hf, rfl, (show (0 ≤ 0 ∧ 0 ≤ 1) from by omega), (show ((¬ a0 2 3 = 0 ∨ a0 2 1 ≤ a0 2 2) → 0 = 0) from by omega), (show (0 = 0 → a 2 2 = a0 2 2) from by omega)⟩
theorem cp_X8_takesWord_r1007_29 (E : jxE) (d : Nat) (hd : Nat.ble 5 (d + 1) = true) (a0 b0 : Nat → Nat → Int) (hv0 : iv a0) : ∀ n : Nat, (∀ (y2 y3 : Int) (a : Nat → Nat → Int), (((3 - y3) * 1) + 0).toNat ≤ n → iv a → jfr jW_X8_takesWord_r1007 a0 a → 3 ≤ y2 → y2 ≤ 200 → 0 ≤ y3 → y3 ≤ 2 → 3 ≤ a 2 1 → y3 < 3 → 0 ≤ y3 → a 2 2 = a0 2 2 → y2 = (a 2 2) + 3 → y2 ≤ a 2 1 → y2 ≤ 200 → a0 2 3 = 0 → a0 2 2 < a0 2 1 → jt (jxX E d 128 58 [some (.inr (.inr (.inl 2))), some (.inr (.inr (.inl 1007))), some (.inl y2), some (.inl y3)] [] (jxSH, a, b0)) (jQ_X8_takesWord_r1007 a0 b0)) ∧ (∀ (y2 y3 : Int) (a : Nat → Nat → Int), (((3 - y3) * 1) + 0).toNat ≤ n → iv a → jfr jW_X8_takesWord_r1007 a0 a → 3 ≤ y2 → y2 ≤ 200 → 0 ≤ y3 → y3 ≤ 3 → 3 ≤ a 2 1 → 0 ≤ y3 → a 2 2 = a0 2 2 → y2 = (a 2 2) + 3 → y2 ≤ a 2 1 → y2 ≤ 200 → a0 2 3 = 0 → a0 2 2 < a0 2 1 → jt (jxX E d 128 29 [some (.inr (.inr (.inl 2))), some (.inr (.inr (.inl 1007))), some (.inl y2), some (.inl y3)] [] (jxSH, a, b0)) (jQ_X8_takesWord_r1007 a0 b0)) := by
  refine jx_ind fun n ih => ?_
  have ih58 : ∀ (y2 y3 : Int) (a : Nat → Nat → Int), (((3 - y3) * 1) + 0).toNat < n → iv a → jfr jW_X8_takesWord_r1007 a0 a → 3 ≤ y2 → y2 ≤ 200 → 0 ≤ y3 → y3 ≤ 2 → 3 ≤ a 2 1 → y3 < 3 → 0 ≤ y3 → a 2 2 = a0 2 2 → y2 = (a 2 2) + 3 → y2 ≤ a 2 1 → y2 ≤ 200 → a0 2 3 = 0 → a0 2 2 < a0 2 1 → jt (jxX E d 128 58 [some (.inr (.inr (.inl 2))), some (.inr (.inr (.inl 1007))), some (.inl y2), some (.inl y3)] [] (jxSH, a, b0)) (jQ_X8_takesWord_r1007 a0 b0) := fun y2 y3 a hlt i0 i1 i2 i3 i4 i5 i6 i7 i8 i9 i10 i11 i12 i13 i14 => (ih _ hlt).1 y2 y3 a (Nat.le_refl _) i0 i1 i2 i3 i4 i5 i6 i7 i8 i9 i10 i11 i12 i13 i14
  have ih29 : ∀ (y2 y3 : Int) (a : Nat → Nat → Int), (((3 - y3) * 1) + 0).toNat < n → iv a → jfr jW_X8_takesWord_r1007 a0 a → 3 ≤ y2 → y2 ≤ 200 → 0 ≤ y3 → y3 ≤ 3 → 3 ≤ a 2 1 → 0 ≤ y3 → a 2 2 = a0 2 2 → y2 = (a 2 2) + 3 → y2 ≤ a 2 1 → y2 ≤ 200 → a0 2 3 = 0 → a0 2 2 < a0 2 1 → jt (jxX E d 128 29 [some (.inr (.inr (.inl 2))), some (.inr (.inr (.inl 1007))), some (.inl y2), some (.inl y3)] [] (jxSH, a, b0)) (jQ_X8_takesWord_r1007 a0 b0) := fun y2 y3 a hlt i0 i1 i2 i3 i4 i5 i6 i7 i8 i9 i10 i11 i12 i13 => (ih _ hlt).2 y2 y3 a (Nat.le_refl _) i0 i1 i2 i3 i4 i5 i6 i7 i8 i9 i10 i11 i12 i13
  have hc58 : ∀ (y2 y3 : Int) (a : Nat → Nat → Int), (((3 - y3) * 1) + 0).toNat ≤ n → iv a → jfr jW_X8_takesWord_r1007 a0 a → 3 ≤ y2 → y2 ≤ 200 → 0 ≤ y3 → y3 ≤ 2 → 3 ≤ a 2 1 → y3 < 3 → 0 ≤ y3 → a 2 2 = a0 2 2 → y2 = (a 2 2) + 3 → y2 ≤ a 2 1 → y2 ≤ 200 → a0 2 3 = 0 → a0 2 2 < a0 2 1 → jt (jxX E d 128 58 [some (.inr (.inr (.inl 2))), some (.inr (.inr (.inl 1007))), some (.inl y2), some (.inl y3)] [] (jxSH, a, b0)) (jQ_X8_takesWord_r1007 a0 b0) := by
    intro y2 y3 a hm hv hf hi0 hi1 hi2 hi3 hi4 hi5 hi6 hi7 hi8 hi9 hi10 hi11 hi12
    refine jt_eq (bq_X8_takesWord_r1007_58 E d y2 y3 a b0) ?_
    have h539_ := iv_get hv (k := 2) (j := 1) (l := 0) (u := 200) rfl
    have h540_ : a 2 1 = a0 2 1 := hf 2 1 rfl
    have h541_ := iv_get hv0 (k := 2) (j := 1) (l := 0) (u := 200) rfl
    have h542_ := iv_get hv (k := 2) (j := 2) (l := 0) (u := 200) rfl
    have h543_ := iv_get hv0 (k := 2) (j := 2) (l := 0) (u := 200) rfl
    have h544_ : jxw (y3 + 1) = y3 + 1 := jxw_id (by omega) (by omega)
    exact ih29 y2 (jxw (y3 + 1)) a (show (((3 - (jxw (y3 + 1))) * 1) + 0).toNat < n from by omega) hv hf (show 3 ≤ y2 from by omega) (show y2 ≤ 200 from by omega) (show 0 ≤ jxw (y3 + 1) from by omega) (show jxw (y3 + 1) ≤ 3 from by omega) (show 3 ≤ a 2 1 from by omega) (show 0 ≤ jxw (y3 + 1) from by omega) (show a 2 2 = a0 2 2 from by omega) (show y2 = (a 2 2) + 3 from by omega) (show y2 ≤ a 2 1 from by omega) (show y2 ≤ 200 from by omega) (show a0 2 3 = 0 from by omega) (show a0 2 2 < a0 2 1 from by omega)
  have hc29 : ∀ (y2 y3 : Int) (a : Nat → Nat → Int), (((3 - y3) * 1) + 0).toNat ≤ n → iv a → jfr jW_X8_takesWord_r1007 a0 a → 3 ≤ y2 → y2 ≤ 200 → 0 ≤ y3 → y3 ≤ 3 → 3 ≤ a 2 1 → 0 ≤ y3 → a 2 2 = a0 2 2 → y2 = (a 2 2) + 3 → y2 ≤ a 2 1 → y2 ≤ 200 → a0 2 3 = 0 → a0 2 2 < a0 2 1 → jt (jxX E d 128 29 [some (.inr (.inr (.inl 2))), some (.inr (.inr (.inl 1007))), some (.inl y2), some (.inl y3)] [] (jxSH, a, b0)) (jQ_X8_takesWord_r1007 a0 b0) := by
    intro y2 y3 a hm hv hf hi0 hi1 hi2 hi3 hi4 hi5 hi6 hi7 hi8 hi9 hi10 hi11
    refine jt_eq (bq_X8_takesWord_r1007_29 E d y2 y3 a b0) ?_
    have h545_ := iv_get hv (k := 2) (j := 1) (l := 0) (u := 200) rfl
    have h546_ : a 2 1 = a0 2 1 := hf 2 1 rfl
    have h547_ := iv_get hv0 (k := 2) (j := 1) (l := 0) (u := 200) rfl
    have h548_ := iv_get hv (k := 2) (j := 2) (l := 0) (u := 200) rfl
    have h549_ := iv_get hv0 (k := 2) (j := 2) (l := 0) (u := 200) rfl
    refine jt_eI (eq_J0_length_8abf5_r1007 E d (jd_le hd rfl) a b0) ?_
    have h550_ := ff_J0_length_8abf5_r1007 a b0
    refine jt_ite (fun c551_ => ?_) (fun c551_ => ?_)
    ·
      have h552_ : jxw ((a 2 2) + y3) = (a 2 2) + y3 := jxw_id (by omega) (by omega)
      refine jt_grd (by omega) ?_
      refine jt_eI (eq_J0_charAt_5068e_r1007 E d (jd_le hd rfl) y3 a b0 (show (0 ≤ y3 ∧ y3 < 3) from by omega)) ?_
      have h553_ := iv_get hv (k := 3) (j := (jxw ((a 2 2) + y3)).toNat) (l := 0) (u := 255) rfl
      have h554_ : a 3 ((jxw ((a 2 2) + y3)).toNat) = a0 3 ((jxw ((a 2 2) + y3)).toNat) := hf 3 ((jxw ((a 2 2) + y3)).toNat) rfl
      have h555_ := iv_get hv0 (k := 3) (j := (jxw ((a 2 2) + y3)).toNat) (l := 0) (u := 255) rfl
      have h556_ := f_J0_charAt_5068e_r1007_eq a b0 y3
      have h557_ := f_J0_isLatin1_aae02_r1007_eq a b0
      have h558_ := f_J1_charAt_3b067_r2007_eq a b0 y3
      have h559_ := jxand_r (([97, 110, 121] : List Int).getD (y3.toNat) 0) 255 (by decide) (by decide)
      have h560_ := jxi2c_b (jxand (([97, 110, 121] : List Int).getD (y3.toNat) 0) 255)
      refine jt_ite (fun c561_ => ?_) (fun c561_ => ?_)
      ·
        exact hc58 y2 y3 a (show (((3 - y3) * 1) + 0).toNat ≤ n from by omega) hv hf (show 3 ≤ y2 from by omega) (show y2 ≤ 200 from by omega) (show 0 ≤ y3 from by omega) (show y3 ≤ 2 from by omega) (show 3 ≤ a 2 1 from by omega) (show y3 < 3 from by omega) (show 0 ≤ y3 from by omega) (show a 2 2 = a0 2 2 from by omega) (show y2 = (a 2 2) + 3 from by omega) (show y2 ≤ a 2 1 from by omega) (show y2 ≤ 200 from by omega) (show a0 2 3 = 0 from by omega) (show a0 2 2 < a0 2 1 from by omega)
      ·
        exact cp_X8_takesWord_r1007_56 E d hd a0 b0 hv0 a hv hf (show 3 ≤ a 2 1 from by omega) (show a 2 2 = a0 2 2 from by omega) (show a0 2 3 = 0 from by omega) (show a0 2 2 < a0 2 1 from by omega)
    ·
      refine jt_ite (fun c562_ => ?_) (fun c562_ => ?_)
      ·
        refine jt_grd (by omega) ?_
        have h563_ := iv_get hv (k := 3) (j := y2.toNat) (l := 0) (u := 255) rfl
        have h564_ : a 3 (y2.toNat) = a0 3 (y2.toNat) := hf 3 (y2.toNat) rfl
        have h565_ := iv_get hv0 (k := 3) (j := y2.toNat) (l := 0) (u := 255) rfl
        refine jt_ite (fun c566_ => ?_) (fun c566_ => ?_)
        ·
          exact cp_X8_takesWord_r1007_96 E d hd a0 b0 hv0 y2 a hv hf (show 3 ≤ y2 from by omega) (show y2 ≤ 200 from by omega) (show 3 ≤ a 2 1 from by omega) (show a 2 2 = a0 2 2 from by omega) (show y2 = (a 2 2) + 3 from by omega) (show y2 ≤ a 2 1 from by omega) (show y2 ≤ 200 from by omega) (show a0 2 3 = 0 from by omega) (show a0 2 2 < a0 2 1 from by omega)
        ·
          exact cp_X8_takesWord_r1007_83 E d hd a0 b0 hv0 y2 a hv hf (show 3 ≤ y2 from by omega) (show y2 ≤ 199 from by omega) (show 4 ≤ a 2 1 from by omega) (show a 2 2 = a0 2 2 from by omega) (show y2 = (a 2 2) + 3 from by omega) (show y2 ≤ a 2 1 from by omega) (show y2 ≤ 200 from by omega) (show a0 2 3 = 0 from by omega) (show a0 2 2 < a0 2 1 from by omega)
      ·
        exact cp_X8_takesWord_r1007_96 E d hd a0 b0 hv0 y2 a hv hf (show 3 ≤ y2 from by omega) (show y2 ≤ 200 from by omega) (show 3 ≤ a 2 1 from by omega) (show a 2 2 = a0 2 2 from by omega) (show y2 = (a 2 2) + 3 from by omega) (show y2 ≤ a 2 1 from by omega) (show y2 ≤ 200 from by omega) (show a0 2 3 = 0 from by omega) (show a0 2 2 < a0 2 1 from by omega)
  exact ⟨hc58, hc29⟩
theorem sp_X8_takesWord_r1007 (E : jxE) (d : Nat) (hd : Nat.ble 5 d = true) (a0 b0 : Nat → Nat → Int) (hv0 : iv a0) : jt (jxC E d 128 [.inr (.inr (.inl 2)), .inr (.inr (.inl 1007))] (jxSH, a0, b0)) (jQ_X8_takesWord_r1007 a0 b0) := by
  obtain ⟨d, rfl⟩ := jd_succ hd
  refine jt_eq (bq_X8_takesWord_r1007 E d a0 b0) ?_
  refine jt_eI (eq_J0_length_8abf5_r1007 E d (jd_le hd rfl) a0 b0) ?_
  refine jt_eI (eq_X8_isFaulty E d (jd_le hd rfl) a0 b0) ?_
  have h567_ := f_X8_isFaulty_eq a0 b0
  refine jt_ite (fun c568_ => ?_) (fun c568_ => ?_)
  ·
    have h569_ := iv_get hv0 (k := 2) (j := 1) (l := 0) (u := 200) rfl
    have h570_ := iv_get hv0 (k := 2) (j := 2) (l := 0) (u := 200) rfl
    have h571_ := ff_J0_length_8abf5_r1007 a0 b0
    have h572_ : jxw ((a0 2 2) + (f_J0_length_8abf5_r1007 a0 b0)) = (a0 2 2) + (f_J0_length_8abf5_r1007 a0 b0) := jxw_id (by omega) (by omega)
    refine jt_ite (fun c573_ => ?_) (fun c573_ => ?_)
    ·
      exact jt_rI ⟨hv0, (jfr_rf _ _), rfl, (show (0 ≤ 0 ∧ 0 ≤ 1) from by omega), (show ((¬ a0 2 3 = 0 ∨ a0 2 1 ≤ a0 2 2) → 0 = 0) from by omega), (show (0 = 0 → a0 2 2 = a0 2 2) from by omega)⟩
    ·
      exact (cp_X8_takesWord_r1007_29 E d hd a0 b0 hv0 _).2 (jxw ((a0 2 2) + (f_J0_length_8abf5_r1007 a0 b0))) 0 a0 (Nat.le_refl _) hv0 (jfr_rf _ _) (show 3 ≤ jxw ((a0 2 2) + (f_J0_length_8abf5_r1007 a0 b0)) from by omega) (show jxw ((a0 2 2) + (f_J0_length_8abf5_r1007 a0 b0)) ≤ 200 from by omega) (show 0 ≤ 0 from by omega) (show 0 ≤ 3 from by omega) (show 3 ≤ a0 2 1 from by omega) (show 0 ≤ 0 from by omega) (show a0 2 2 = a0 2 2 from by omega) (show jxw ((a0 2 2) + (f_J0_length_8abf5_r1007 a0 b0)) = (a0 2 2) + 3 from by omega) (show jxw ((a0 2 2) + (f_J0_length_8abf5_r1007 a0 b0)) ≤ a0 2 1 from by omega) (show jxw ((a0 2 2) + (f_J0_length_8abf5_r1007 a0 b0)) ≤ 200 from by omega) (show a0 2 3 = 0 from by omega) (show a0 2 2 < a0 2 1 from by omega)
  ·
    have h574_ := iv_get hv0 (k := 2) (j := 1) (l := 0) (u := 200) rfl
    have h575_ := iv_get hv0 (k := 2) (j := 2) (l := 0) (u := 200) rfl
    exact jt_rI ⟨hv0, (jfr_rf _ _), rfl, (show (0 ≤ 0 ∧ 0 ≤ 1) from by omega), (show ((¬ a0 2 3 = 0 ∨ a0 2 1 ≤ a0 2 2) → 0 = 0) from by omega), (show (0 = 0 → a0 2 2 = a0 2 2) from by omega)⟩
def jW_X8_takesWord_r1008 : List (Nat × Nat) := [(2, 2)]
abbrev jQ_X8_takesWord_r1008 (a0 b0 : Nat → Nat → Int) : List jxV → (Nat → Nat → Int) → (Nat → Nat → Int) → Prop := rI (fun r a b => (iv a) ∧ (jfr jW_X8_takesWord_r1008 a0 a) ∧ (b0 = b) ∧ ((0 ≤ r ∧ r ≤ 1)) ∧ (((¬ a0 2 3 = 0 ∨ a0 2 1 ≤ a0 2 2) → r = 0)) ∧ ((r = 0 → a 2 2 = a0 2 2)))
theorem cp_X8_takesWord_r1008_56 (E : jxE) (d : Nat) (hd : Nat.ble 5 (d + 1) = true) (a0 b0 : Nat → Nat → Int) (hv0 : iv a0) : ∀ (a : Nat → Nat → Int), iv a → jfr jW_X8_takesWord_r1008 a0 a → 3 ≤ a 2 1 → a 2 2 = a0 2 2 → a0 2 3 = 0 → a0 2 2 < a0 2 1 → jt (jxX E d 128 56 [none, none, none, none] [] (jxSH, a, b0)) (jQ_X8_takesWord_r1008 a0 b0) := by
  intro a hv hf hi0 hi1 hi2 hi3
  refine jt_eq (bq_X8_takesWord_r1008_56 E d a b0) ?_
  have h576_ := iv_get hv (k := 2) (j := 1) (l := 0) (u := 200) rfl
  have h577_ : a 2 1 = a0 2 1 := hf 2 1 rfl
  have h578_ := iv_get hv0 (k := 2) (j := 1) (l := 0) (u := 200) rfl
  have h579_ := iv_get hv (k := 2) (j := 2) (l := 0) (u := 200) rfl
  have h580_ := iv_get hv0 (k := 2) (j := 2) (l := 0) (u := 200) rfl
  exact jt_rI ⟨hv, hf, rfl, (show (0 ≤ 0 ∧ 0 ≤ 1) from by omega), (show ((¬ a0 2 3 = 0 ∨ a0 2 1 ≤ a0 2 2) → 0 = 0) from by omega), (show (0 = 0 → a 2 2 = a0 2 2) from by omega)⟩
theorem cp_X8_takesWord_r1008_96 (E : jxE) (d : Nat) (hd : Nat.ble 5 (d + 1) = true) (a0 b0 : Nat → Nat → Int) (hv0 : iv a0) : ∀ (y2 : Int) (a : Nat → Nat → Int), iv a → jfr jW_X8_takesWord_r1008 a0 a → 3 ≤ y2 → y2 ≤ 200 → 3 ≤ a 2 1 → a 2 2 = a0 2 2 → y2 = (a 2 2) + 3 → y2 ≤ a 2 1 → y2 ≤ 200 → a0 2 3 = 0 → a0 2 2 < a0 2 1 → jt (jxX E d 128 96 [some (.inr (.inr (.inl 2))), none, some (.inl y2), none] [] (jxSH, a, b0)) (jQ_X8_takesWord_r1008 a0 b0) := by
  intro y2 a hv hf hi0 hi1 hi2 hi3 hi4 hi5 hi6 hi7 hi8
  refine jt_eq (bq_X8_takesWord_r1008_96 E d y2 a b0) ?_
  have h581_ := iv_get hv (k := 2) (j := 1) (l := 0) (u := 200) rfl
  have h582_ : a 2 1 = a0 2 1 := hf 2 1 rfl
  have h583_ := iv_get hv0 (k := 2) (j := 1) (l := 0) (u := 200) rfl
  have h584_ := iv_get hv (k := 2) (j := 2) (l := 0) (u := 200) rfl
  have h585_ := iv_get hv0 (k := 2) (j := 2) (l := 0) (u := 200) rfl
  have hv586_ : iv (jxu a 2 2 y2) := iv_put hv (l := 0) (u := 200) rfl (by omega) (by omega)
  refine jt_bV (sp_X8_skipBlanks E d (jd_le hd rfl) (jxu a 2 2 y2) b0 hv586_) (fun a587_ b587_ h587_ => ?_)
  obtain ⟨hv587_, hf587_, rfl, hq587_0⟩ := h587_
  have h588_ := iv_get hv587_ (k := 2) (j := 2) (l := 0) (u := 200) rfl
  have h589_ : (a 2 1 ≤ y2 → a587_ 2 2 = y2) := hq587_0
  have hf590_ : jfr jW_X8_takesWord_r1008 a0 (jxu a 2 2 y2) := jfr_put hf rfl
  have hf591_ : jfr jW_X8_takesWord_r1008 a0 a587_ := jfr_tr hf590_ hf587_ rfl
  exact jt_rI ⟨hv587_, hf591_, rfl, (show (0 ≤ 1 ∧ 1 ≤ 1) from by omega), (show ((¬ a0 2 3 = 0 ∨ a0 2 1 ≤ a0 2 2) → 1 = 0) from by omega), (show (1 = 0 → a587_ 2 2 = a0 2 2) from by omega)⟩
theorem cp_X8_takesWord_r1008_83 (E : jxE) (d : Nat) (hd : Nat.ble 5 (d + 1) = true) (a0 b0 : Nat → Nat → Int) (hv0 : iv a0) : ∀ (y2 : Int) (a : Nat → Nat → Int), iv a → jfr jW_X8_takesWord_r1008 a0 a → 3 ≤ y2 → y2 ≤ 199 → 4 ≤ a 2 1 → a 2 2 = a0 2 2 → y2 = (a 2 2) + 3 → y2 ≤ a 2 1 → y2 ≤ 200 → a0 2 3 = 0 → a0 2 2 < a0 2 1 → jt (jxX E d 128 83 [some (.inr (.inr (.inl 2))), none, some (.inl y2), none] [] (jxSH, a, b0)) (jQ_X8_takesWord_r1008 a0 b0) := by
  intro y2 a hv hf hi0 hi1 hi2 hi3 hi4 hi5 hi6 hi7 hi8
  refine jt_eq (bq_X8_takesWord_r1008_83 E d y2 a b0) ?_
  have h592_ := iv_get hv (k := 2) (j := 1) (l := 0) (u := 200) rfl
  have h593_ : a 2 1 = a0 2 1 := hf 2 1 rfl
  have h594_ := iv_get hv0 (k := 2) (j := 1) (l := 0) (u := 200) rfl
  have h595_ := iv_get hv (k := 2) (j := 2) (l := 0) (u := 200) rfl
  have h596_ := iv_get hv0 (k := 2) (j := 2) (l := 0) (u := 200) rfl
  refine jt_grd (by omega) ?_
  have h597_ := iv_get hv (k := 3) (j := y2.toNat) (l := 0) (u := 255) rfl
  have h598_ : a 3 (y2.toNat) = a0 3 (y2.toNat) := hf 3 (y2.toNat) rfl
  have h599_ := iv_get hv0 (k := 3) (j := y2.toNat) (l := 0) (u := 255) rfl
  refine jt_ite (fun c600_ => ?_) (fun c600_ => ?_)
  ·
    exact cp_X8_takesWord_r1008_96 E d hd a0 b0 hv0 y2 a hv hf (show 3 ≤ y2 from by omega) (show y2 ≤ 200 from by omega) (show 3 ≤ a 2 1 from by omega) (show a 2 2 = a0 2 2 from by omega) (show y2 = (a 2 2) + 3 from by omega) (show y2 ≤ a 2 1 from by omega) (show y2 ≤ 200 from by omega) (show a0 2 3 = 0 from by omega) (show a0 2 2 < a0 2 1 from by omega)
  ·
    exact jt_rI ⟨hv, hf, rfl, (show (0 ≤ 0 ∧ 0 ≤ 1) from by omega), (show ((¬ a0 2 3 = 0 ∨ a0 2 1 ≤ a0 2 2) → 0 = 0) from by omega), (show (0 = 0 → a 2 2 = a0 2 2) from by omega)⟩
theorem cp_X8_takesWord_r1008_29 (E : jxE) (d : Nat) (hd : Nat.ble 5 (d + 1) = true) (a0 b0 : Nat → Nat → Int) (hv0 : iv a0) : ∀ n : Nat, (∀ (y2 y3 : Int) (a : Nat → Nat → Int), (((3 - y3) * 1) + 0).toNat ≤ n → iv a → jfr jW_X8_takesWord_r1008 a0 a → 3 ≤ y2 → y2 ≤ 200 → 0 ≤ y3 → y3 ≤ 2 → 3 ≤ a 2 1 → y3 < 3 → 0 ≤ y3 → a 2 2 = a0 2 2 → y2 = (a 2 2) + 3 → y2 ≤ a 2 1 → y2 ≤ 200 → a0 2 3 = 0 → a0 2 2 < a0 2 1 → jt (jxX E d 128 58 [some (.inr (.inr (.inl 2))), some (.inr (.inr (.inl 1008))), some (.inl y2), some (.inl y3)] [] (jxSH, a, b0)) (jQ_X8_takesWord_r1008 a0 b0)) ∧ (∀ (y2 y3 : Int) (a : Nat → Nat → Int), (((3 - y3) * 1) + 0).toNat ≤ n → iv a → jfr jW_X8_takesWord_r1008 a0 a → 3 ≤ y2 → y2 ≤ 200 → 0 ≤ y3 → y3 ≤ 3 → 3 ≤ a 2 1 → 0 ≤ y3 → a 2 2 = a0 2 2 → y2 = (a 2 2) + 3 → y2 ≤ a 2 1 → y2 ≤ 200 → a0 2 3 = 0 → a0 2 2 < a0 2 1 → jt (jxX E d 128 29 [some (.inr (.inr (.inl 2))), some (.inr (.inr (.inl 1008))), some (.inl y2), some (.inl y3)] [] (jxSH, a, b0)) (jQ_X8_takesWord_r1008 a0 b0)) := by
  refine jx_ind fun n ih => ?_
  have ih58 : ∀ (y2 y3 : Int) (a : Nat → Nat → Int), (((3 - y3) * 1) + 0).toNat < n → iv a → jfr jW_X8_takesWord_r1008 a0 a → 3 ≤ y2 → y2 ≤ 200 → 0 ≤ y3 → y3 ≤ 2 → 3 ≤ a 2 1 → y3 < 3 → 0 ≤ y3 → a 2 2 = a0 2 2 → y2 = (a 2 2) + 3 → y2 ≤ a 2 1 → y2 ≤ 200 → a0 2 3 = 0 → a0 2 2 < a0 2 1 → jt (jxX E d 128 58 [some (.inr (.inr (.inl 2))), some (.inr (.inr (.inl 1008))), some (.inl y2), some (.inl y3)] [] (jxSH, a, b0)) (jQ_X8_takesWord_r1008 a0 b0) := fun y2 y3 a hlt i0 i1 i2 i3 i4 i5 i6 i7 i8 i9 i10 i11 i12 i13 i14 => (ih _ hlt).1 y2 y3 a (Nat.le_refl _) i0 i1 i2 i3 i4 i5 i6 i7 i8 i9 i10 i11 i12 i13 i14
  have ih29 : ∀ (y2 y3 : Int) (a : Nat → Nat → Int), (((3 - y3) * 1) + 0).toNat < n → iv a → jfr jW_X8_takesWord_r1008 a0 a → 3 ≤ y2 → y2 ≤ 200 → 0 ≤ y3 → y3 ≤ 3 → 3 ≤ a 2 1 → 0 ≤ y3 → a 2 2 = a0 2 2 → y2 = (a 2 2) + 3 → y2 ≤ a 2 1 → y2 ≤ 200 → a0 2 3 = 0 → a0 2 2 < a0 2 1 → jt (jxX E d 128 29 [some (.inr (.inr (.inl 2))), some (.inr (.inr (.inl 1008))), some (.inl y2), some (.inl y3)] [] (jxSH, a, b0)) (jQ_X8_takesWord_r1008 a0 b0) := fun y2 y3 a hlt i0 i1 i2 i3 i4 i5 i6 i7 i8 i9 i10 i11 i12 i13 => (ih _ hlt).2 y2 y3 a (Nat.le_refl _) i0 i1 i2 i3 i4 i5 i6 i7 i8 i9 i10 i11 i12 i13
  have hc58 : ∀ (y2 y3 : Int) (a : Nat → Nat → Int), (((3 - y3) * 1) + 0).toNat ≤ n → iv a → jfr jW_X8_takesWord_r1008 a0 a → 3 ≤ y2 → y2 ≤ 200 → 0 ≤ y3 → y3 ≤ 2 → 3 ≤ a 2 1 → y3 < 3 → 0 ≤ y3 → a 2 2 = a0 2 2 → y2 = (a 2 2) + 3 → y2 ≤ a 2 1 → y2 ≤ 200 → a0 2 3 = 0 → a0 2 2 < a0 2 1 → jt (jxX E d 128 58 [some (.inr (.inr (.inl 2))), some (.inr (.inr (.inl 1008))), some (.inl y2), some (.inl y3)] [] (jxSH, a, b0)) (jQ_X8_takesWord_r1008 a0 b0) := by
    intro y2 y3 a hm hv hf hi0 hi1 hi2 hi3 hi4 hi5 hi6 hi7 hi8 hi9 hi10 hi11 hi12
    refine jt_eq (bq_X8_takesWord_r1008_58 E d y2 y3 a b0) ?_
    have h601_ := iv_get hv (k := 2) (j := 1) (l := 0) (u := 200) rfl
    have h602_ : a 2 1 = a0 2 1 := hf 2 1 rfl
    have h603_ := iv_get hv0 (k := 2) (j := 1) (l := 0) (u := 200) rfl
    have h604_ := iv_get hv (k := 2) (j := 2) (l := 0) (u := 200) rfl
    have h605_ := iv_get hv0 (k := 2) (j := 2) (l := 0) (u := 200) rfl
    have h606_ : jxw (y3 + 1) = y3 + 1 := jxw_id (by omega) (by omega)
    exact ih29 y2 (jxw (y3 + 1)) a (show (((3 - (jxw (y3 + 1))) * 1) + 0).toNat < n from by omega) hv hf (show 3 ≤ y2 from by omega) (show y2 ≤ 200 from by omega) (show 0 ≤ jxw (y3 + 1) from by omega) (show jxw (y3 + 1) ≤ 3 from by omega) (show 3 ≤ a 2 1 from by omega) (show 0 ≤ jxw (y3 + 1) from by omega) (show a 2 2 = a0 2 2 from by omega) (show y2 = (a 2 2) + 3 from by omega) (show y2 ≤ a 2 1 from by omega) (show y2 ≤ 200 from by omega) (show a0 2 3 = 0 from by omega) (show a0 2 2 < a0 2 1 from by omega)
  have hc29 : ∀ (y2 y3 : Int) (a : Nat → Nat → Int), (((3 - y3) * 1) + 0).toNat ≤ n → iv a → jfr jW_X8_takesWord_r1008 a0 a → 3 ≤ y2 → y2 ≤ 200 → 0 ≤ y3 → y3 ≤ 3 → 3 ≤ a 2 1 → 0 ≤ y3 → a 2 2 = a0 2 2 → y2 = (a 2 2) + 3 → y2 ≤ a 2 1 → y2 ≤ 200 → a0 2 3 = 0 → a0 2 2 < a0 2 1 → jt (jxX E d 128 29 [some (.inr (.inr (.inl 2))), some (.inr (.inr (.inl 1008))), some (.inl y2), some (.inl y3)] [] (jxSH, a, b0)) (jQ_X8_takesWord_r1008 a0 b0) := by
    intro y2 y3 a hm hv hf hi0 hi1 hi2 hi3 hi4 hi5 hi6 hi7 hi8 hi9 hi10 hi11
    refine jt_eq (bq_X8_takesWord_r1008_29 E d y2 y3 a b0) ?_
    have h607_ := iv_get hv (k := 2) (j := 1) (l := 0) (u := 200) rfl
    have h608_ : a 2 1 = a0 2 1 := hf 2 1 rfl
    have h609_ := iv_get hv0 (k := 2) (j := 1) (l := 0) (u := 200) rfl
    have h610_ := iv_get hv (k := 2) (j := 2) (l := 0) (u := 200) rfl
    have h611_ := iv_get hv0 (k := 2) (j := 2) (l := 0) (u := 200) rfl
    refine jt_eI (eq_J0_length_8abf5_r1008 E d (jd_le hd rfl) a b0) ?_
    have h612_ := ff_J0_length_8abf5_r1008 a b0
    refine jt_ite (fun c613_ => ?_) (fun c613_ => ?_)
    ·
      have h614_ : jxw ((a 2 2) + y3) = (a 2 2) + y3 := jxw_id (by omega) (by omega)
      refine jt_grd (by omega) ?_
      refine jt_eI (eq_J0_charAt_5068e_r1008 E d (jd_le hd rfl) y3 a b0 (show (0 ≤ y3 ∧ y3 < 3) from by omega)) ?_
      have h615_ := iv_get hv (k := 3) (j := (jxw ((a 2 2) + y3)).toNat) (l := 0) (u := 255) rfl
      have h616_ : a 3 ((jxw ((a 2 2) + y3)).toNat) = a0 3 ((jxw ((a 2 2) + y3)).toNat) := hf 3 ((jxw ((a 2 2) + y3)).toNat) rfl
      have h617_ := iv_get hv0 (k := 3) (j := (jxw ((a 2 2) + y3)).toNat) (l := 0) (u := 255) rfl
      have h618_ := f_J0_charAt_5068e_r1008_eq a b0 y3
      have h619_ := f_J0_isLatin1_aae02_r1008_eq a b0
      have h620_ := f_J1_charAt_3b067_r2008_eq a b0 y3
      have h621_ := jxand_r (([97, 110, 100] : List Int).getD (y3.toNat) 0) 255 (by decide) (by decide)
      have h622_ := jxi2c_b (jxand (([97, 110, 100] : List Int).getD (y3.toNat) 0) 255)
      refine jt_ite (fun c623_ => ?_) (fun c623_ => ?_)
      ·
        exact hc58 y2 y3 a (show (((3 - y3) * 1) + 0).toNat ≤ n from by omega) hv hf (show 3 ≤ y2 from by omega) (show y2 ≤ 200 from by omega) (show 0 ≤ y3 from by omega) (show y3 ≤ 2 from by omega) (show 3 ≤ a 2 1 from by omega) (show y3 < 3 from by omega) (show 0 ≤ y3 from by omega) (show a 2 2 = a0 2 2 from by omega) (show y2 = (a 2 2) + 3 from by omega) (show y2 ≤ a 2 1 from by omega) (show y2 ≤ 200 from by omega) (show a0 2 3 = 0 from by omega) (show a0 2 2 < a0 2 1 from by omega)
      ·
        exact cp_X8_takesWord_r1008_56 E d hd a0 b0 hv0 a hv hf (show 3 ≤ a 2 1 from by omega) (show a 2 2 = a0 2 2 from by omega) (show a0 2 3 = 0 from by omega) (show a0 2 2 < a0 2 1 from by omega)
    ·
      refine jt_ite (fun c624_ => ?_) (fun c624_ => ?_)
      ·
        refine jt_grd (by omega) ?_
        have h625_ := iv_get hv (k := 3) (j := y2.toNat) (l := 0) (u := 255) rfl
        have h626_ : a 3 (y2.toNat) = a0 3 (y2.toNat) := hf 3 (y2.toNat) rfl
        have h627_ := iv_get hv0 (k := 3) (j := y2.toNat) (l := 0) (u := 255) rfl
        refine jt_ite (fun c628_ => ?_) (fun c628_ => ?_)
        ·
          exact cp_X8_takesWord_r1008_96 E d hd a0 b0 hv0 y2 a hv hf (show 3 ≤ y2 from by omega) (show y2 ≤ 200 from by omega) (show 3 ≤ a 2 1 from by omega) (show a 2 2 = a0 2 2 from by omega) (show y2 = (a 2 2) + 3 from by omega) (show y2 ≤ a 2 1 from by omega) (show y2 ≤ 200 from by omega) (show a0 2 3 = 0 from by omega) (show a0 2 2 < a0 2 1 from by omega)
        ·
          exact cp_X8_takesWord_r1008_83 E d hd a0 b0 hv0 y2 a hv hf (show 3 ≤ y2 from by omega) (show y2 ≤ 199 from by omega) (show 4 ≤ a 2 1 from by omega) (show a 2 2 = a0 2 2 from by omega) (show y2 = (a 2 2) + 3 from by omega) (show y2 ≤ a 2 1 from by omega) (show y2 ≤ 200 from by omega) (show a0 2 3 = 0 from by omega) (show a0 2 2 < a0 2 1 from by omega)
      ·
        exact cp_X8_takesWord_r1008_96 E d hd a0 b0 hv0 y2 a hv hf (show 3 ≤ y2 from by omega) (show y2 ≤ 200 from by omega) (show 3 ≤ a 2 1 from by omega) (show a 2 2 = a0 2 2 from by omega) (show y2 = (a 2 2) + 3 from by omega) (show y2 ≤ a 2 1 from by omega) (show y2 ≤ 200 from by omega) (show a0 2 3 = 0 from by omega) (show a0 2 2 < a0 2 1 from by omega)
  exact ⟨hc58, hc29⟩
theorem sp_X8_takesWord_r1008 (E : jxE) (d : Nat) (hd : Nat.ble 5 d = true) (a0 b0 : Nat → Nat → Int) (hv0 : iv a0) : jt (jxC E d 128 [.inr (.inr (.inl 2)), .inr (.inr (.inl 1008))] (jxSH, a0, b0)) (jQ_X8_takesWord_r1008 a0 b0) := by
  obtain ⟨d, rfl⟩ := jd_succ hd
  refine jt_eq (bq_X8_takesWord_r1008 E d a0 b0) ?_
  refine jt_eI (eq_J0_length_8abf5_r1008 E d (jd_le hd rfl) a0 b0) ?_
  refine jt_eI (eq_X8_isFaulty E d (jd_le hd rfl) a0 b0) ?_
  have h629_ := f_X8_isFaulty_eq a0 b0
  refine jt_ite (fun c630_ => ?_) (fun c630_ => ?_)
  ·
    have h631_ := iv_get hv0 (k := 2) (j := 1) (l := 0) (u := 200) rfl
    have h632_ := iv_get hv0 (k := 2) (j := 2) (l := 0) (u := 200) rfl
    have h633_ := ff_J0_length_8abf5_r1008 a0 b0
    have h634_ : jxw ((a0 2 2) + (f_J0_length_8abf5_r1008 a0 b0)) = (a0 2 2) + (f_J0_length_8abf5_r1008 a0 b0) := jxw_id (by omega) (by omega)
    refine jt_ite (fun c635_ => ?_) (fun c635_ => ?_)
    ·
      exact jt_rI ⟨hv0, (jfr_rf _ _), rfl, (show (0 ≤ 0 ∧ 0 ≤ 1) from by omega), (show ((¬ a0 2 3 = 0 ∨ a0 2 1 ≤ a0 2 2) → 0 = 0) from by omega), (show (0 = 0 → a0 2 2 = a0 2 2) from by omega)⟩
    ·
      exact (cp_X8_takesWord_r1008_29 E d hd a0 b0 hv0 _).2 (jxw ((a0 2 2) + (f_J0_length_8abf5_r1008 a0 b0))) 0 a0 (Nat.le_refl _) hv0 (jfr_rf _ _) (show 3 ≤ jxw ((a0 2 2) + (f_J0_length_8abf5_r1008 a0 b0)) from by omega) (show jxw ((a0 2 2) + (f_J0_length_8abf5_r1008 a0 b0)) ≤ 200 from by omega) (show 0 ≤ 0 from by omega) (show 0 ≤ 3 from by omega) (show 3 ≤ a0 2 1 from by omega) (show 0 ≤ 0 from by omega) (show a0 2 2 = a0 2 2 from by omega) (show jxw ((a0 2 2) + (f_J0_length_8abf5_r1008 a0 b0)) = (a0 2 2) + 3 from by omega) (show jxw ((a0 2 2) + (f_J0_length_8abf5_r1008 a0 b0)) ≤ a0 2 1 from by omega) (show jxw ((a0 2 2) + (f_J0_length_8abf5_r1008 a0 b0)) ≤ 200 from by omega) (show a0 2 3 = 0 from by omega) (show a0 2 2 < a0 2 1 from by omega)
  ·
    have h636_ := iv_get hv0 (k := 2) (j := 1) (l := 0) (u := 200) rfl
    have h637_ := iv_get hv0 (k := 2) (j := 2) (l := 0) (u := 200) rfl
    exact jt_rI ⟨hv0, (jfr_rf _ _), rfl, (show (0 ≤ 0 ∧ 0 ≤ 1) from by omega), (show ((¬ a0 2 3 = 0 ∨ a0 2 1 ≤ a0 2 2) → 0 = 0) from by omega), (show (0 = 0 → a0 2 2 = a0 2 2) from by omega)⟩
def jW_X8_takesWord_r1009 : List (Nat × Nat) := [(2, 2)]
abbrev jQ_X8_takesWord_r1009 (a0 b0 : Nat → Nat → Int) : List jxV → (Nat → Nat → Int) → (Nat → Nat → Int) → Prop := rI (fun r a b => (iv a) ∧ (jfr jW_X8_takesWord_r1009 a0 a) ∧ (b0 = b) ∧ ((0 ≤ r ∧ r ≤ 1)) ∧ (((¬ a0 2 3 = 0 ∨ a0 2 1 ≤ a0 2 2) → r = 0)) ∧ ((r = 0 → a 2 2 = a0 2 2)))
theorem cp_X8_takesWord_r1009_56 (E : jxE) (d : Nat) (hd : Nat.ble 5 (d + 1) = true) (a0 b0 : Nat → Nat → Int) (hv0 : iv a0) : ∀ (a : Nat → Nat → Int), iv a → jfr jW_X8_takesWord_r1009 a0 a → 2 ≤ a 2 1 → a 2 2 = a0 2 2 → a0 2 3 = 0 → a0 2 2 < a0 2 1 → jt (jxX E d 128 56 [none, none, none, none] [] (jxSH, a, b0)) (jQ_X8_takesWord_r1009 a0 b0) := by
  intro a hv hf hi0 hi1 hi2 hi3
  refine jt_eq (bq_X8_takesWord_r1009_56 E d a b0) ?_
  have h638_ := iv_get hv (k := 2) (j := 1) (l := 0) (u := 200) rfl
  have h639_ : a 2 1 = a0 2 1 := hf 2 1 rfl
  have h640_ := iv_get hv0 (k := 2) (j := 1) (l := 0) (u := 200) rfl
  have h641_ := iv_get hv (k := 2) (j := 2) (l := 0) (u := 200) rfl
  have h642_ := iv_get hv0 (k := 2) (j := 2) (l := 0) (u := 200) rfl
  exact jt_rI ⟨hv, hf, rfl, (show (0 ≤ 0 ∧ 0 ≤ 1) from by omega), (show ((¬ a0 2 3 = 0 ∨ a0 2 1 ≤ a0 2 2) → 0 = 0) from by omega), (show (0 = 0 → a 2 2 = a0 2 2) from by omega)⟩
theorem cp_X8_takesWord_r1009_96 (E : jxE) (d : Nat) (hd : Nat.ble 5 (d + 1) = true) (a0 b0 : Nat → Nat → Int) (hv0 : iv a0) : ∀ (y2 : Int) (a : Nat → Nat → Int), iv a → jfr jW_X8_takesWord_r1009 a0 a → 2 ≤ y2 → y2 ≤ 200 → 2 ≤ a 2 1 → a 2 2 = a0 2 2 → y2 = (a 2 2) + 2 → y2 ≤ a 2 1 → y2 ≤ 200 → a0 2 3 = 0 → a0 2 2 < a0 2 1 → jt (jxX E d 128 96 [some (.inr (.inr (.inl 2))), none, some (.inl y2), none] [] (jxSH, a, b0)) (jQ_X8_takesWord_r1009 a0 b0) := by
  intro y2 a hv hf hi0 hi1 hi2 hi3 hi4 hi5 hi6 hi7 hi8
  refine jt_eq (bq_X8_takesWord_r1009_96 E d y2 a b0) ?_
  have h643_ := iv_get hv (k := 2) (j := 1) (l := 0) (u := 200) rfl
  have h644_ : a 2 1 = a0 2 1 := hf 2 1 rfl
  have h645_ := iv_get hv0 (k := 2) (j := 1) (l := 0) (u := 200) rfl
  have h646_ := iv_get hv (k := 2) (j := 2) (l := 0) (u := 200) rfl
  have h647_ := iv_get hv0 (k := 2) (j := 2) (l := 0) (u := 200) rfl
  have hv648_ : iv (jxu a 2 2 y2) := iv_put hv (l := 0) (u := 200) rfl (by omega) (by omega)
  refine jt_bV (sp_X8_skipBlanks E d (jd_le hd rfl) (jxu a 2 2 y2) b0 hv648_) (fun a649_ b649_ h649_ => ?_)
  obtain ⟨hv649_, hf649_, rfl, hq649_0⟩ := h649_
  have h650_ := iv_get hv649_ (k := 2) (j := 2) (l := 0) (u := 200) rfl
  have h651_ : (a 2 1 ≤ y2 → a649_ 2 2 = y2) := hq649_0
  have hf652_ : jfr jW_X8_takesWord_r1009 a0 (jxu a 2 2 y2) := jfr_put hf rfl
  have hf653_ : jfr jW_X8_takesWord_r1009 a0 a649_ := jfr_tr hf652_ hf649_ rfl
  exact jt_rI ⟨hv649_, hf653_, rfl, (show (0 ≤ 1 ∧ 1 ≤ 1) from by omega), (show ((¬ a0 2 3 = 0 ∨ a0 2 1 ≤ a0 2 2) → 1 = 0) from by omega), (show (1 = 0 → a649_ 2 2 = a0 2 2) from by omega)⟩
theorem cp_X8_takesWord_r1009_83 (E : jxE) (d : Nat) (hd : Nat.ble 5 (d + 1) = true) (a0 b0 : Nat → Nat → Int) (hv0 : iv a0) : ∀ (y2 : Int) (a : Nat → Nat → Int), iv a → jfr jW_X8_takesWord_r1009 a0 a → 2 ≤ y2 → y2 ≤ 199 → 3 ≤ a 2 1 → a 2 2 = a0 2 2 → y2 = (a 2 2) + 2 → y2 ≤ a 2 1 → y2 ≤ 200 → a0 2 3 = 0 → a0 2 2 < a0 2 1 → jt (jxX E d 128 83 [some (.inr (.inr (.inl 2))), none, some (.inl y2), none] [] (jxSH, a, b0)) (jQ_X8_takesWord_r1009 a0 b0) := by
  intro y2 a hv hf hi0 hi1 hi2 hi3 hi4 hi5 hi6 hi7 hi8
  refine jt_eq (bq_X8_takesWord_r1009_83 E d y2 a b0) ?_
  have h654_ := iv_get hv (k := 2) (j := 1) (l := 0) (u := 200) rfl
  have h655_ : a 2 1 = a0 2 1 := hf 2 1 rfl
  have h656_ := iv_get hv0 (k := 2) (j := 1) (l := 0) (u := 200) rfl
  have h657_ := iv_get hv (k := 2) (j := 2) (l := 0) (u := 200) rfl
  have h658_ := iv_get hv0 (k := 2) (j := 2) (l := 0) (u := 200) rfl
  refine jt_grd (by omega) ?_
  have h659_ := iv_get hv (k := 3) (j := y2.toNat) (l := 0) (u := 255) rfl
  have h660_ : a 3 (y2.toNat) = a0 3 (y2.toNat) := hf 3 (y2.toNat) rfl
  have h661_ := iv_get hv0 (k := 3) (j := y2.toNat) (l := 0) (u := 255) rfl
  refine jt_ite (fun c662_ => ?_) (fun c662_ => ?_)
  ·
    exact cp_X8_takesWord_r1009_96 E d hd a0 b0 hv0 y2 a hv hf (show 2 ≤ y2 from by omega) (show y2 ≤ 200 from by omega) (show 2 ≤ a 2 1 from by omega) (show a 2 2 = a0 2 2 from by omega) (show y2 = (a 2 2) + 2 from by omega) (show y2 ≤ a 2 1 from by omega) (show y2 ≤ 200 from by omega) (show a0 2 3 = 0 from by omega) (show a0 2 2 < a0 2 1 from by omega)
  ·
    exact jt_rI ⟨hv, hf, rfl, (show (0 ≤ 0 ∧ 0 ≤ 1) from by omega), (show ((¬ a0 2 3 = 0 ∨ a0 2 1 ≤ a0 2 2) → 0 = 0) from by omega), (show (0 = 0 → a 2 2 = a0 2 2) from by omega)⟩
theorem cp_X8_takesWord_r1009_29 (E : jxE) (d : Nat) (hd : Nat.ble 5 (d + 1) = true) (a0 b0 : Nat → Nat → Int) (hv0 : iv a0) : ∀ n : Nat, (∀ (y2 y3 : Int) (a : Nat → Nat → Int), (((2 - y3) * 1) + 0).toNat ≤ n → iv a → jfr jW_X8_takesWord_r1009 a0 a → 2 ≤ y2 → y2 ≤ 200 → 0 ≤ y3 → y3 ≤ 1 → 2 ≤ a 2 1 → y3 < 2 → 0 ≤ y3 → a 2 2 = a0 2 2 → y2 = (a 2 2) + 2 → y2 ≤ a 2 1 → y2 ≤ 200 → a0 2 3 = 0 → a0 2 2 < a0 2 1 → jt (jxX E d 128 58 [some (.inr (.inr (.inl 2))), some (.inr (.inr (.inl 1009))), some (.inl y2), some (.inl y3)] [] (jxSH, a, b0)) (jQ_X8_takesWord_r1009 a0 b0)) ∧ (∀ (y2 y3 : Int) (a : Nat → Nat → Int), (((2 - y3) * 1) + 0).toNat ≤ n → iv a → jfr jW_X8_takesWord_r1009 a0 a → 2 ≤ y2 → y2 ≤ 200 → 0 ≤ y3 → y3 ≤ 2 → 2 ≤ a 2 1 → 0 ≤ y3 → a 2 2 = a0 2 2 → y2 = (a 2 2) + 2 → y2 ≤ a 2 1 → y2 ≤ 200 → a0 2 3 = 0 → a0 2 2 < a0 2 1 → jt (jxX E d 128 29 [some (.inr (.inr (.inl 2))), some (.inr (.inr (.inl 1009))), some (.inl y2), some (.inl y3)] [] (jxSH, a, b0)) (jQ_X8_takesWord_r1009 a0 b0)) := by
  refine jx_ind fun n ih => ?_
  have ih58 : ∀ (y2 y3 : Int) (a : Nat → Nat → Int), (((2 - y3) * 1) + 0).toNat < n → iv a → jfr jW_X8_takesWord_r1009 a0 a → 2 ≤ y2 → y2 ≤ 200 → 0 ≤ y3 → y3 ≤ 1 → 2 ≤ a 2 1 → y3 < 2 → 0 ≤ y3 → a 2 2 = a0 2 2 → y2 = (a 2 2) + 2 → y2 ≤ a 2 1 → y2 ≤ 200 → a0 2 3 = 0 → a0 2 2 < a0 2 1 → jt (jxX E d 128 58 [some (.inr (.inr (.inl 2))), some (.inr (.inr (.inl 1009))), some (.inl y2), some (.inl y3)] [] (jxSH, a, b0)) (jQ_X8_takesWord_r1009 a0 b0) := fun y2 y3 a hlt i0 i1 i2 i3 i4 i5 i6 i7 i8 i9 i10 i11 i12 i13 i14 => (ih _ hlt).1 y2 y3 a (Nat.le_refl _) i0 i1 i2 i3 i4 i5 i6 i7 i8 i9 i10 i11 i12 i13 i14
  have ih29 : ∀ (y2 y3 : Int) (a : Nat → Nat → Int), (((2 - y3) * 1) + 0).toNat < n → iv a → jfr jW_X8_takesWord_r1009 a0 a → 2 ≤ y2 → y2 ≤ 200 → 0 ≤ y3 → y3 ≤ 2 → 2 ≤ a 2 1 → 0 ≤ y3 → a 2 2 = a0 2 2 → y2 = (a 2 2) + 2 → y2 ≤ a 2 1 → y2 ≤ 200 → a0 2 3 = 0 → a0 2 2 < a0 2 1 → jt (jxX E d 128 29 [some (.inr (.inr (.inl 2))), some (.inr (.inr (.inl 1009))), some (.inl y2), some (.inl y3)] [] (jxSH, a, b0)) (jQ_X8_takesWord_r1009 a0 b0) := fun y2 y3 a hlt i0 i1 i2 i3 i4 i5 i6 i7 i8 i9 i10 i11 i12 i13 => (ih _ hlt).2 y2 y3 a (Nat.le_refl _) i0 i1 i2 i3 i4 i5 i6 i7 i8 i9 i10 i11 i12 i13
  have hc58 : ∀ (y2 y3 : Int) (a : Nat → Nat → Int), (((2 - y3) * 1) + 0).toNat ≤ n → iv a → jfr jW_X8_takesWord_r1009 a0 a → 2 ≤ y2 → y2 ≤ 200 → 0 ≤ y3 → y3 ≤ 1 → 2 ≤ a 2 1 → y3 < 2 → 0 ≤ y3 → a 2 2 = a0 2 2 → y2 = (a 2 2) + 2 → y2 ≤ a 2 1 → y2 ≤ 200 → a0 2 3 = 0 → a0 2 2 < a0 2 1 → jt (jxX E d 128 58 [some (.inr (.inr (.inl 2))), some (.inr (.inr (.inl 1009))), some (.inl y2), some (.inl y3)] [] (jxSH, a, b0)) (jQ_X8_takesWord_r1009 a0 b0) := by
    intro y2 y3 a hm hv hf hi0 hi1 hi2 hi3 hi4 hi5 hi6 hi7 hi8 hi9 hi10 hi11 hi12
    refine jt_eq (bq_X8_takesWord_r1009_58 E d y2 y3 a b0) ?_
    have h663_ := iv_get hv (k := 2) (j := 1) (l := 0) (u := 200) rfl
    have h664_ : a 2 1 = a0 2 1 := hf 2 1 rfl
    have h665_ := iv_get hv0 (k := 2) (j := 1) (l := 0) (u := 200) rfl
    have h666_ := iv_get hv (k := 2) (j := 2) (l := 0) (u := 200) rfl
    have h667_ := iv_get hv0 (k := 2) (j := 2) (l := 0) (u := 200) rfl
    have h668_ : jxw (y3 + 1) = y3 + 1 := jxw_id (by omega) (by omega)
    exact ih29 y2 (jxw (y3 + 1)) a (show (((2 - (jxw (y3 + 1))) * 1) + 0).toNat < n from by omega) hv hf (show 2 ≤ y2 from by omega) (show y2 ≤ 200 from by omega) (show 0 ≤ jxw (y3 + 1) from by omega) (show jxw (y3 + 1) ≤ 2 from by omega) (show 2 ≤ a 2 1 from by omega) (show 0 ≤ jxw (y3 + 1) from by omega) (show a 2 2 = a0 2 2 from by omega) (show y2 = (a 2 2) + 2 from by omega) (show y2 ≤ a 2 1 from by omega) (show y2 ≤ 200 from by omega) (show a0 2 3 = 0 from by omega) (show a0 2 2 < a0 2 1 from by omega)
  have hc29 : ∀ (y2 y3 : Int) (a : Nat → Nat → Int), (((2 - y3) * 1) + 0).toNat ≤ n → iv a → jfr jW_X8_takesWord_r1009 a0 a → 2 ≤ y2 → y2 ≤ 200 → 0 ≤ y3 → y3 ≤ 2 → 2 ≤ a 2 1 → 0 ≤ y3 → a 2 2 = a0 2 2 → y2 = (a 2 2) + 2 → y2 ≤ a 2 1 → y2 ≤ 200 → a0 2 3 = 0 → a0 2 2 < a0 2 1 → jt (jxX E d 128 29 [some (.inr (.inr (.inl 2))), some (.inr (.inr (.inl 1009))), some (.inl y2), some (.inl y3)] [] (jxSH, a, b0)) (jQ_X8_takesWord_r1009 a0 b0) := by
    intro y2 y3 a hm hv hf hi0 hi1 hi2 hi3 hi4 hi5 hi6 hi7 hi8 hi9 hi10 hi11
    refine jt_eq (bq_X8_takesWord_r1009_29 E d y2 y3 a b0) ?_
    have h669_ := iv_get hv (k := 2) (j := 1) (l := 0) (u := 200) rfl
    have h670_ : a 2 1 = a0 2 1 := hf 2 1 rfl
    have h671_ := iv_get hv0 (k := 2) (j := 1) (l := 0) (u := 200) rfl
    have h672_ := iv_get hv (k := 2) (j := 2) (l := 0) (u := 200) rfl
    have h673_ := iv_get hv0 (k := 2) (j := 2) (l := 0) (u := 200) rfl
    refine jt_eI (eq_J0_length_8abf5_r1009 E d (jd_le hd rfl) a b0) ?_
    have h674_ := ff_J0_length_8abf5_r1009 a b0
    refine jt_ite (fun c675_ => ?_) (fun c675_ => ?_)
    ·
      have h676_ : jxw ((a 2 2) + y3) = (a 2 2) + y3 := jxw_id (by omega) (by omega)
      refine jt_grd (by omega) ?_
      refine jt_eI (eq_J0_charAt_5068e_r1009 E d (jd_le hd rfl) y3 a b0 (show (0 ≤ y3 ∧ y3 < 2) from by omega)) ?_
      have h677_ := iv_get hv (k := 3) (j := (jxw ((a 2 2) + y3)).toNat) (l := 0) (u := 255) rfl
      have h678_ : a 3 ((jxw ((a 2 2) + y3)).toNat) = a0 3 ((jxw ((a 2 2) + y3)).toNat) := hf 3 ((jxw ((a 2 2) + y3)).toNat) rfl
      have h679_ := iv_get hv0 (k := 3) (j := (jxw ((a 2 2) + y3)).toNat) (l := 0) (u := 255) rfl
      have h680_ := f_J0_charAt_5068e_r1009_eq a b0 y3
      have h681_ := f_J0_isLatin1_aae02_r1009_eq a b0
      have h682_ := f_J1_charAt_3b067_r2009_eq a b0 y3
      have h683_ := jxand_r (([111, 114] : List Int).getD (y3.toNat) 0) 255 (by decide) (by decide)
      have h684_ := jxi2c_b (jxand (([111, 114] : List Int).getD (y3.toNat) 0) 255)
      refine jt_ite (fun c685_ => ?_) (fun c685_ => ?_)
      ·
        exact hc58 y2 y3 a (show (((2 - y3) * 1) + 0).toNat ≤ n from by omega) hv hf (show 2 ≤ y2 from by omega) (show y2 ≤ 200 from by omega) (show 0 ≤ y3 from by omega) (show y3 ≤ 1 from by omega) (show 2 ≤ a 2 1 from by omega) (show y3 < 2 from by omega) (show 0 ≤ y3 from by omega) (show a 2 2 = a0 2 2 from by omega) (show y2 = (a 2 2) + 2 from by omega) (show y2 ≤ a 2 1 from by omega) (show y2 ≤ 200 from by omega) (show a0 2 3 = 0 from by omega) (show a0 2 2 < a0 2 1 from by omega)
      ·
        exact cp_X8_takesWord_r1009_56 E d hd a0 b0 hv0 a hv hf (show 2 ≤ a 2 1 from by omega) (show a 2 2 = a0 2 2 from by omega) (show a0 2 3 = 0 from by omega) (show a0 2 2 < a0 2 1 from by omega)
    ·
      refine jt_ite (fun c686_ => ?_) (fun c686_ => ?_)
      ·
        refine jt_grd (by omega) ?_
        have h687_ := iv_get hv (k := 3) (j := y2.toNat) (l := 0) (u := 255) rfl
        have h688_ : a 3 (y2.toNat) = a0 3 (y2.toNat) := hf 3 (y2.toNat) rfl
        have h689_ := iv_get hv0 (k := 3) (j := y2.toNat) (l := 0) (u := 255) rfl
        refine jt_ite (fun c690_ => ?_) (fun c690_ => ?_)
        ·
          exact cp_X8_takesWord_r1009_96 E d hd a0 b0 hv0 y2 a hv hf (show 2 ≤ y2 from by omega) (show y2 ≤ 200 from by omega) (show 2 ≤ a 2 1 from by omega) (show a 2 2 = a0 2 2 from by omega) (show y2 = (a 2 2) + 2 from by omega) (show y2 ≤ a 2 1 from by omega) (show y2 ≤ 200 from by omega) (show a0 2 3 = 0 from by omega) (show a0 2 2 < a0 2 1 from by omega)
        ·
          exact cp_X8_takesWord_r1009_83 E d hd a0 b0 hv0 y2 a hv hf (show 2 ≤ y2 from by omega) (show y2 ≤ 199 from by omega) (show 3 ≤ a 2 1 from by omega) (show a 2 2 = a0 2 2 from by omega) (show y2 = (a 2 2) + 2 from by omega) (show y2 ≤ a 2 1 from by omega) (show y2 ≤ 200 from by omega) (show a0 2 3 = 0 from by omega) (show a0 2 2 < a0 2 1 from by omega)
      ·
        exact cp_X8_takesWord_r1009_96 E d hd a0 b0 hv0 y2 a hv hf (show 2 ≤ y2 from by omega) (show y2 ≤ 200 from by omega) (show 2 ≤ a 2 1 from by omega) (show a 2 2 = a0 2 2 from by omega) (show y2 = (a 2 2) + 2 from by omega) (show y2 ≤ a 2 1 from by omega) (show y2 ≤ 200 from by omega) (show a0 2 3 = 0 from by omega) (show a0 2 2 < a0 2 1 from by omega)
  exact ⟨hc58, hc29⟩
theorem sp_X8_takesWord_r1009 (E : jxE) (d : Nat) (hd : Nat.ble 5 d = true) (a0 b0 : Nat → Nat → Int) (hv0 : iv a0) : jt (jxC E d 128 [.inr (.inr (.inl 2)), .inr (.inr (.inl 1009))] (jxSH, a0, b0)) (jQ_X8_takesWord_r1009 a0 b0) := by
  obtain ⟨d, rfl⟩ := jd_succ hd
  refine jt_eq (bq_X8_takesWord_r1009 E d a0 b0) ?_
  refine jt_eI (eq_J0_length_8abf5_r1009 E d (jd_le hd rfl) a0 b0) ?_
  refine jt_eI (eq_X8_isFaulty E d (jd_le hd rfl) a0 b0) ?_
  have h691_ := f_X8_isFaulty_eq a0 b0
  refine jt_ite (fun c692_ => ?_) (fun c692_ => ?_)
  ·
    have h693_ := iv_get hv0 (k := 2) (j := 1) (l := 0) (u := 200) rfl
    have h694_ := iv_get hv0 (k := 2) (j := 2) (l := 0) (u := 200) rfl
    have h695_ := ff_J0_length_8abf5_r1009 a0 b0
    have h696_ : jxw ((a0 2 2) + (f_J0_length_8abf5_r1009 a0 b0)) = (a0 2 2) + (f_J0_length_8abf5_r1009 a0 b0) := jxw_id (by omega) (by omega)
    refine jt_ite (fun c697_ => ?_) (fun c697_ => ?_)
    ·
      exact jt_rI ⟨hv0, (jfr_rf _ _), rfl, (show (0 ≤ 0 ∧ 0 ≤ 1) from by omega), (show ((¬ a0 2 3 = 0 ∨ a0 2 1 ≤ a0 2 2) → 0 = 0) from by omega), (show (0 = 0 → a0 2 2 = a0 2 2) from by omega)⟩
    ·
      exact (cp_X8_takesWord_r1009_29 E d hd a0 b0 hv0 _).2 (jxw ((a0 2 2) + (f_J0_length_8abf5_r1009 a0 b0))) 0 a0 (Nat.le_refl _) hv0 (jfr_rf _ _) (show 2 ≤ jxw ((a0 2 2) + (f_J0_length_8abf5_r1009 a0 b0)) from by omega) (show jxw ((a0 2 2) + (f_J0_length_8abf5_r1009 a0 b0)) ≤ 200 from by omega) (show 0 ≤ 0 from by omega) (show 0 ≤ 2 from by omega) (show 2 ≤ a0 2 1 from by omega) (show 0 ≤ 0 from by omega) (show a0 2 2 = a0 2 2 from by omega) (show jxw ((a0 2 2) + (f_J0_length_8abf5_r1009 a0 b0)) = (a0 2 2) + 2 from by omega) (show jxw ((a0 2 2) + (f_J0_length_8abf5_r1009 a0 b0)) ≤ a0 2 1 from by omega) (show jxw ((a0 2 2) + (f_J0_length_8abf5_r1009 a0 b0)) ≤ 200 from by omega) (show a0 2 3 = 0 from by omega) (show a0 2 2 < a0 2 1 from by omega)
  ·
    have h698_ := iv_get hv0 (k := 2) (j := 1) (l := 0) (u := 200) rfl
    have h699_ := iv_get hv0 (k := 2) (j := 2) (l := 0) (u := 200) rfl
    exact jt_rI ⟨hv0, (jfr_rf _ _), rfl, (show (0 ≤ 0 ∧ 0 ≤ 1) from by omega), (show ((¬ a0 2 3 = 0 ∨ a0 2 1 ≤ a0 2 2) → 0 = 0) from by omega), (show (0 = 0 → a0 2 2 = a0 2 2) from by omega)⟩
def jW_X8_takesWord_r1010 : List (Nat × Nat) := [(2, 2)]
abbrev jQ_X8_takesWord_r1010 (a0 b0 : Nat → Nat → Int) : List jxV → (Nat → Nat → Int) → (Nat → Nat → Int) → Prop := rI (fun r a b => (iv a) ∧ (jfr jW_X8_takesWord_r1010 a0 a) ∧ (b0 = b) ∧ ((0 ≤ r ∧ r ≤ 1)) ∧ (((¬ a0 2 3 = 0 ∨ a0 2 1 ≤ a0 2 2) → r = 0)) ∧ ((r = 0 → a 2 2 = a0 2 2)))
theorem cp_X8_takesWord_r1010_56 (E : jxE) (d : Nat) (hd : Nat.ble 5 (d + 1) = true) (a0 b0 : Nat → Nat → Int) (hv0 : iv a0) : ∀ (a : Nat → Nat → Int), iv a → jfr jW_X8_takesWord_r1010 a0 a → 5 ≤ a 2 1 → a 2 2 = a0 2 2 → a0 2 3 = 0 → a0 2 2 < a0 2 1 → jt (jxX E d 128 56 [none, none, none, none] [] (jxSH, a, b0)) (jQ_X8_takesWord_r1010 a0 b0) := by
  intro a hv hf hi0 hi1 hi2 hi3
  refine jt_eq (bq_X8_takesWord_r1010_56 E d a b0) ?_
  have h700_ := iv_get hv (k := 2) (j := 1) (l := 0) (u := 200) rfl
  have h701_ : a 2 1 = a0 2 1 := hf 2 1 rfl
  have h702_ := iv_get hv0 (k := 2) (j := 1) (l := 0) (u := 200) rfl
  have h703_ := iv_get hv (k := 2) (j := 2) (l := 0) (u := 200) rfl
  have h704_ := iv_get hv0 (k := 2) (j := 2) (l := 0) (u := 200) rfl
  exact jt_rI ⟨hv, hf, rfl, (show (0 ≤ 0 ∧ 0 ≤ 1) from by omega), (show ((¬ a0 2 3 = 0 ∨ a0 2 1 ≤ a0 2 2) → 0 = 0) from by omega), (show (0 = 0 → a 2 2 = a0 2 2) from by omega)⟩
theorem cp_X8_takesWord_r1010_96 (E : jxE) (d : Nat) (hd : Nat.ble 5 (d + 1) = true) (a0 b0 : Nat → Nat → Int) (hv0 : iv a0) : ∀ (y2 : Int) (a : Nat → Nat → Int), iv a → jfr jW_X8_takesWord_r1010 a0 a → 5 ≤ y2 → y2 ≤ 200 → 5 ≤ a 2 1 → a 2 2 = a0 2 2 → y2 = (a 2 2) + 5 → y2 ≤ a 2 1 → y2 ≤ 200 → a0 2 3 = 0 → a0 2 2 < a0 2 1 → jt (jxX E d 128 96 [some (.inr (.inr (.inl 2))), none, some (.inl y2), none] [] (jxSH, a, b0)) (jQ_X8_takesWord_r1010 a0 b0) := by
  intro y2 a hv hf hi0 hi1 hi2 hi3 hi4 hi5 hi6 hi7 hi8
  refine jt_eq (bq_X8_takesWord_r1010_96 E d y2 a b0) ?_
  have h705_ := iv_get hv (k := 2) (j := 1) (l := 0) (u := 200) rfl
  have h706_ : a 2 1 = a0 2 1 := hf 2 1 rfl
  have h707_ := iv_get hv0 (k := 2) (j := 1) (l := 0) (u := 200) rfl
  have h708_ := iv_get hv (k := 2) (j := 2) (l := 0) (u := 200) rfl
  have h709_ := iv_get hv0 (k := 2) (j := 2) (l := 0) (u := 200) rfl
  have hv710_ : iv (jxu a 2 2 y2) := iv_put hv (l := 0) (u := 200) rfl (by omega) (by omega)
  refine jt_bV (sp_X8_skipBlanks E d (jd_le hd rfl) (jxu a 2 2 y2) b0 hv710_) (fun a711_ b711_ h711_ => ?_)
  obtain ⟨hv711_, hf711_, rfl, hq711_0⟩ := h711_
  have h712_ := iv_get hv711_ (k := 2) (j := 2) (l := 0) (u := 200) rfl
  have h713_ : (a 2 1 ≤ y2 → a711_ 2 2 = y2) := hq711_0
  have hf714_ : jfr jW_X8_takesWord_r1010 a0 (jxu a 2 2 y2) := jfr_put hf rfl
  have hf715_ : jfr jW_X8_takesWord_r1010 a0 a711_ := jfr_tr hf714_ hf711_ rfl
  exact jt_rI ⟨hv711_, hf715_, rfl, (show (0 ≤ 1 ∧ 1 ≤ 1) from by omega), (show ((¬ a0 2 3 = 0 ∨ a0 2 1 ≤ a0 2 2) → 1 = 0) from by omega), (show (1 = 0 → a711_ 2 2 = a0 2 2) from by omega)⟩
theorem cp_X8_takesWord_r1010_83 (E : jxE) (d : Nat) (hd : Nat.ble 5 (d + 1) = true) (a0 b0 : Nat → Nat → Int) (hv0 : iv a0) : ∀ (y2 : Int) (a : Nat → Nat → Int), iv a → jfr jW_X8_takesWord_r1010 a0 a → 5 ≤ y2 → y2 ≤ 199 → 6 ≤ a 2 1 → a 2 2 = a0 2 2 → y2 = (a 2 2) + 5 → y2 ≤ a 2 1 → y2 ≤ 200 → a0 2 3 = 0 → a0 2 2 < a0 2 1 → jt (jxX E d 128 83 [some (.inr (.inr (.inl 2))), none, some (.inl y2), none] [] (jxSH, a, b0)) (jQ_X8_takesWord_r1010 a0 b0) := by
  intro y2 a hv hf hi0 hi1 hi2 hi3 hi4 hi5 hi6 hi7 hi8
  refine jt_eq (bq_X8_takesWord_r1010_83 E d y2 a b0) ?_
  have h716_ := iv_get hv (k := 2) (j := 1) (l := 0) (u := 200) rfl
  have h717_ : a 2 1 = a0 2 1 := hf 2 1 rfl
  have h718_ := iv_get hv0 (k := 2) (j := 1) (l := 0) (u := 200) rfl
  have h719_ := iv_get hv (k := 2) (j := 2) (l := 0) (u := 200) rfl
  have h720_ := iv_get hv0 (k := 2) (j := 2) (l := 0) (u := 200) rfl
  refine jt_grd (by omega) ?_
  have h721_ := iv_get hv (k := 3) (j := y2.toNat) (l := 0) (u := 255) rfl
  have h722_ : a 3 (y2.toNat) = a0 3 (y2.toNat) := hf 3 (y2.toNat) rfl
  have h723_ := iv_get hv0 (k := 3) (j := y2.toNat) (l := 0) (u := 255) rfl
  refine jt_ite (fun c724_ => ?_) (fun c724_ => ?_)
  ·
    exact cp_X8_takesWord_r1010_96 E d hd a0 b0 hv0 y2 a hv hf (show 5 ≤ y2 from by omega) (show y2 ≤ 200 from by omega) (show 5 ≤ a 2 1 from by omega) (show a 2 2 = a0 2 2 from by omega) (show y2 = (a 2 2) + 5 from by omega) (show y2 ≤ a 2 1 from by omega) (show y2 ≤ 200 from by omega) (show a0 2 3 = 0 from by omega) (show a0 2 2 < a0 2 1 from by omega)
  ·
    exact jt_rI ⟨hv, hf, rfl, (show (0 ≤ 0 ∧ 0 ≤ 1) from by omega), (show ((¬ a0 2 3 = 0 ∨ a0 2 1 ≤ a0 2 2) → 0 = 0) from by omega), (show (0 = 0 → a 2 2 = a0 2 2) from by omega)⟩
theorem cp_X8_takesWord_r1010_29 (E : jxE) (d : Nat) (hd : Nat.ble 5 (d + 1) = true) (a0 b0 : Nat → Nat → Int) (hv0 : iv a0) : ∀ n : Nat, (∀ (y2 y3 : Int) (a : Nat → Nat → Int), (((5 - y3) * 1) + 0).toNat ≤ n → iv a → jfr jW_X8_takesWord_r1010 a0 a → 5 ≤ y2 → y2 ≤ 200 → 0 ≤ y3 → y3 ≤ 4 → 5 ≤ a 2 1 → y3 < 5 → 0 ≤ y3 → a 2 2 = a0 2 2 → y2 = (a 2 2) + 5 → y2 ≤ a 2 1 → y2 ≤ 200 → a0 2 3 = 0 → a0 2 2 < a0 2 1 → jt (jxX E d 128 58 [some (.inr (.inr (.inl 2))), some (.inr (.inr (.inl 1010))), some (.inl y2), some (.inl y3)] [] (jxSH, a, b0)) (jQ_X8_takesWord_r1010 a0 b0)) ∧ (∀ (y2 y3 : Int) (a : Nat → Nat → Int), (((5 - y3) * 1) + 0).toNat ≤ n → iv a → jfr jW_X8_takesWord_r1010 a0 a → 5 ≤ y2 → y2 ≤ 200 → 0 ≤ y3 → y3 ≤ 5 → 5 ≤ a 2 1 → 0 ≤ y3 → a 2 2 = a0 2 2 → y2 = (a 2 2) + 5 → y2 ≤ a 2 1 → y2 ≤ 200 → a0 2 3 = 0 → a0 2 2 < a0 2 1 → jt (jxX E d 128 29 [some (.inr (.inr (.inl 2))), some (.inr (.inr (.inl 1010))), some (.inl y2), some (.inl y3)] [] (jxSH, a, b0)) (jQ_X8_takesWord_r1010 a0 b0)) := by
  refine jx_ind fun n ih => ?_
  have ih58 : ∀ (y2 y3 : Int) (a : Nat → Nat → Int), (((5 - y3) * 1) + 0).toNat < n → iv a → jfr jW_X8_takesWord_r1010 a0 a → 5 ≤ y2 → y2 ≤ 200 → 0 ≤ y3 → y3 ≤ 4 → 5 ≤ a 2 1 → y3 < 5 → 0 ≤ y3 → a 2 2 = a0 2 2 → y2 = (a 2 2) + 5 → y2 ≤ a 2 1 → y2 ≤ 200 → a0 2 3 = 0 → a0 2 2 < a0 2 1 → jt (jxX E d 128 58 [some (.inr (.inr (.inl 2))), some (.inr (.inr (.inl 1010))), some (.inl y2), some (.inl y3)] [] (jxSH, a, b0)) (jQ_X8_takesWord_r1010 a0 b0) := fun y2 y3 a hlt i0 i1 i2 i3 i4 i5 i6 i7 i8 i9 i10 i11 i12 i13 i14 => (ih _ hlt).1 y2 y3 a (Nat.le_refl _) i0 i1 i2 i3 i4 i5 i6 i7 i8 i9 i10 i11 i12 i13 i14
  have ih29 : ∀ (y2 y3 : Int) (a : Nat → Nat → Int), (((5 - y3) * 1) + 0).toNat < n → iv a → jfr jW_X8_takesWord_r1010 a0 a → 5 ≤ y2 → y2 ≤ 200 → 0 ≤ y3 → y3 ≤ 5 → 5 ≤ a 2 1 → 0 ≤ y3 → a 2 2 = a0 2 2 → y2 = (a 2 2) + 5 → y2 ≤ a 2 1 → y2 ≤ 200 → a0 2 3 = 0 → a0 2 2 < a0 2 1 → jt (jxX E d 128 29 [some (.inr (.inr (.inl 2))), some (.inr (.inr (.inl 1010))), some (.inl y2), some (.inl y3)] [] (jxSH, a, b0)) (jQ_X8_takesWord_r1010 a0 b0) := fun y2 y3 a hlt i0 i1 i2 i3 i4 i5 i6 i7 i8 i9 i10 i11 i12 i13 => (ih _ hlt).2 y2 y3 a (Nat.le_refl _) i0 i1 i2 i3 i4 i5 i6 i7 i8 i9 i10 i11 i12 i13
  have hc58 : ∀ (y2 y3 : Int) (a : Nat → Nat → Int), (((5 - y3) * 1) + 0).toNat ≤ n → iv a → jfr jW_X8_takesWord_r1010 a0 a → 5 ≤ y2 → y2 ≤ 200 → 0 ≤ y3 → y3 ≤ 4 → 5 ≤ a 2 1 → y3 < 5 → 0 ≤ y3 → a 2 2 = a0 2 2 → y2 = (a 2 2) + 5 → y2 ≤ a 2 1 → y2 ≤ 200 → a0 2 3 = 0 → a0 2 2 < a0 2 1 → jt (jxX E d 128 58 [some (.inr (.inr (.inl 2))), some (.inr (.inr (.inl 1010))), some (.inl y2), some (.inl y3)] [] (jxSH, a, b0)) (jQ_X8_takesWord_r1010 a0 b0) := by
    intro y2 y3 a hm hv hf hi0 hi1 hi2 hi3 hi4 hi5 hi6 hi7 hi8 hi9 hi10 hi11 hi12
    refine jt_eq (bq_X8_takesWord_r1010_58 E d y2 y3 a b0) ?_
    have h725_ := iv_get hv (k := 2) (j := 1) (l := 0) (u := 200) rfl
    have h726_ : a 2 1 = a0 2 1 := hf 2 1 rfl
    have h727_ := iv_get hv0 (k := 2) (j := 1) (l := 0) (u := 200) rfl
    have h728_ := iv_get hv (k := 2) (j := 2) (l := 0) (u := 200) rfl
    have h729_ := iv_get hv0 (k := 2) (j := 2) (l := 0) (u := 200) rfl
    have h730_ : jxw (y3 + 1) = y3 + 1 := jxw_id (by omega) (by omega)
    exact ih29 y2 (jxw (y3 + 1)) a (show (((5 - (jxw (y3 + 1))) * 1) + 0).toNat < n from by omega) hv hf (show 5 ≤ y2 from by omega) (show y2 ≤ 200 from by omega) (show 0 ≤ jxw (y3 + 1) from by omega) (show jxw (y3 + 1) ≤ 5 from by omega) (show 5 ≤ a 2 1 from by omega) (show 0 ≤ jxw (y3 + 1) from by omega) (show a 2 2 = a0 2 2 from by omega) (show y2 = (a 2 2) + 5 from by omega) (show y2 ≤ a 2 1 from by omega) (show y2 ≤ 200 from by omega) (show a0 2 3 = 0 from by omega) (show a0 2 2 < a0 2 1 from by omega)
  have hc29 : ∀ (y2 y3 : Int) (a : Nat → Nat → Int), (((5 - y3) * 1) + 0).toNat ≤ n → iv a → jfr jW_X8_takesWord_r1010 a0 a → 5 ≤ y2 → y2 ≤ 200 → 0 ≤ y3 → y3 ≤ 5 → 5 ≤ a 2 1 → 0 ≤ y3 → a 2 2 = a0 2 2 → y2 = (a 2 2) + 5 → y2 ≤ a 2 1 → y2 ≤ 200 → a0 2 3 = 0 → a0 2 2 < a0 2 1 → jt (jxX E d 128 29 [some (.inr (.inr (.inl 2))), some (.inr (.inr (.inl 1010))), some (.inl y2), some (.inl y3)] [] (jxSH, a, b0)) (jQ_X8_takesWord_r1010 a0 b0) := by
    intro y2 y3 a hm hv hf hi0 hi1 hi2 hi3 hi4 hi5 hi6 hi7 hi8 hi9 hi10 hi11
    refine jt_eq (bq_X8_takesWord_r1010_29 E d y2 y3 a b0) ?_
    have h731_ := iv_get hv (k := 2) (j := 1) (l := 0) (u := 200) rfl
    have h732_ : a 2 1 = a0 2 1 := hf 2 1 rfl
    have h733_ := iv_get hv0 (k := 2) (j := 1) (l := 0) (u := 200) rfl
    have h734_ := iv_get hv (k := 2) (j := 2) (l := 0) (u := 200) rfl
    have h735_ := iv_get hv0 (k := 2) (j := 2) (l := 0) (u := 200) rfl
    refine jt_eI (eq_J0_length_8abf5_r1010 E d (jd_le hd rfl) a b0) ?_
    have h736_ := ff_J0_length_8abf5_r1010 a b0
    refine jt_ite (fun c737_ => ?_) (fun c737_ => ?_)
    ·
      have h738_ : jxw ((a 2 2) + y3) = (a 2 2) + y3 := jxw_id (by omega) (by omega)
      refine jt_grd (by omega) ?_
      refine jt_eI (eq_J0_charAt_5068e_r1010 E d (jd_le hd rfl) y3 a b0 (show (0 ≤ y3 ∧ y3 < 5) from by omega)) ?_
      have h739_ := iv_get hv (k := 3) (j := (jxw ((a 2 2) + y3)).toNat) (l := 0) (u := 255) rfl
      have h740_ : a 3 ((jxw ((a 2 2) + y3)).toNat) = a0 3 ((jxw ((a 2 2) + y3)).toNat) := hf 3 ((jxw ((a 2 2) + y3)).toNat) rfl
      have h741_ := iv_get hv0 (k := 3) (j := (jxw ((a 2 2) + y3)).toNat) (l := 0) (u := 255) rfl
      have h742_ := f_J0_charAt_5068e_r1010_eq a b0 y3
      have h743_ := f_J0_isLatin1_aae02_r1010_eq a b0
      have h744_ := f_J1_charAt_3b067_r2010_eq a b0 y3
      have h745_ := jxand_r (([117, 110, 100, 101, 114] : List Int).getD (y3.toNat) 0) 255 (by decide) (by decide)
      have h746_ := jxi2c_b (jxand (([117, 110, 100, 101, 114] : List Int).getD (y3.toNat) 0) 255)
      refine jt_ite (fun c747_ => ?_) (fun c747_ => ?_)
      ·
        exact hc58 y2 y3 a (show (((5 - y3) * 1) + 0).toNat ≤ n from by omega) hv hf (show 5 ≤ y2 from by omega) (show y2 ≤ 200 from by omega) (show 0 ≤ y3 from by omega) (show y3 ≤ 4 from by omega) (show 5 ≤ a 2 1 from by omega) (show y3 < 5 from by omega) (show 0 ≤ y3 from by omega) (show a 2 2 = a0 2 2 from by omega) (show y2 = (a 2 2) + 5 from by omega) (show y2 ≤ a 2 1 from by omega) (show y2 ≤ 200 from by omega) (show a0 2 3 = 0 from by omega) (show a0 2 2 < a0 2 1 from by omega)
      ·
        exact cp_X8_takesWord_r1010_56 E d hd a0 b0 hv0 a hv hf (show 5 ≤ a 2 1 from by omega) (show a 2 2 = a0 2 2 from by omega) (show a0 2 3 = 0 from by omega) (show a0 2 2 < a0 2 1 from by omega)
    ·
      refine jt_ite (fun c748_ => ?_) (fun c748_ => ?_)
      ·
        refine jt_grd (by omega) ?_
        have h749_ := iv_get hv (k := 3) (j := y2.toNat) (l := 0) (u := 255) rfl
        have h750_ : a 3 (y2.toNat) = a0 3 (y2.toNat) := hf 3 (y2.toNat) rfl
        have h751_ := iv_get hv0 (k := 3) (j := y2.toNat) (l := 0) (u := 255) rfl
        refine jt_ite (fun c752_ => ?_) (fun c752_ => ?_)
        ·
          exact cp_X8_takesWord_r1010_96 E d hd a0 b0 hv0 y2 a hv hf (show 5 ≤ y2 from by omega) (show y2 ≤ 200 from by omega) (show 5 ≤ a 2 1 from by omega) (show a 2 2 = a0 2 2 from by omega) (show y2 = (a 2 2) + 5 from by omega) (show y2 ≤ a 2 1 from by omega) (show y2 ≤ 200 from by omega) (show a0 2 3 = 0 from by omega) (show a0 2 2 < a0 2 1 from by omega)
        ·
          exact cp_X8_takesWord_r1010_83 E d hd a0 b0 hv0 y2 a hv hf (show 5 ≤ y2 from by omega) (show y2 ≤ 199 from by omega) (show 6 ≤ a 2 1 from by omega) (show a 2 2 = a0 2 2 from by omega) (show y2 = (a 2 2) + 5 from by omega) (show y2 ≤ a 2 1 from by omega) (show y2 ≤ 200 from by omega) (show a0 2 3 = 0 from by omega) (show a0 2 2 < a0 2 1 from by omega)
      ·
        exact cp_X8_takesWord_r1010_96 E d hd a0 b0 hv0 y2 a hv hf (show 5 ≤ y2 from by omega) (show y2 ≤ 200 from by omega) (show 5 ≤ a 2 1 from by omega) (show a 2 2 = a0 2 2 from by omega) (show y2 = (a 2 2) + 5 from by omega) (show y2 ≤ a 2 1 from by omega) (show y2 ≤ 200 from by omega) (show a0 2 3 = 0 from by omega) (show a0 2 2 < a0 2 1 from by omega)
  exact ⟨hc58, hc29⟩
theorem sp_X8_takesWord_r1010 (E : jxE) (d : Nat) (hd : Nat.ble 5 d = true) (a0 b0 : Nat → Nat → Int) (hv0 : iv a0) : jt (jxC E d 128 [.inr (.inr (.inl 2)), .inr (.inr (.inl 1010))] (jxSH, a0, b0)) (jQ_X8_takesWord_r1010 a0 b0) := by
  obtain ⟨d, rfl⟩ := jd_succ hd
  refine jt_eq (bq_X8_takesWord_r1010 E d a0 b0) ?_
  refine jt_eI (eq_J0_length_8abf5_r1010 E d (jd_le hd rfl) a0 b0) ?_
  refine jt_eI (eq_X8_isFaulty E d (jd_le hd rfl) a0 b0) ?_
  have h753_ := f_X8_isFaulty_eq a0 b0
  refine jt_ite (fun c754_ => ?_) (fun c754_ => ?_)
  ·
    have h755_ := iv_get hv0 (k := 2) (j := 1) (l := 0) (u := 200) rfl
    have h756_ := iv_get hv0 (k := 2) (j := 2) (l := 0) (u := 200) rfl
    have h757_ := ff_J0_length_8abf5_r1010 a0 b0
    have h758_ : jxw ((a0 2 2) + (f_J0_length_8abf5_r1010 a0 b0)) = (a0 2 2) + (f_J0_length_8abf5_r1010 a0 b0) := jxw_id (by omega) (by omega)
    refine jt_ite (fun c759_ => ?_) (fun c759_ => ?_)
    ·
      exact jt_rI ⟨hv0, (jfr_rf _ _), rfl, (show (0 ≤ 0 ∧ 0 ≤ 1) from by omega), (show ((¬ a0 2 3 = 0 ∨ a0 2 1 ≤ a0 2 2) → 0 = 0) from by omega), (show (0 = 0 → a0 2 2 = a0 2 2) from by omega)⟩
    ·
      exact (cp_X8_takesWord_r1010_29 E d hd a0 b0 hv0 _).2 (jxw ((a0 2 2) + (f_J0_length_8abf5_r1010 a0 b0))) 0 a0 (Nat.le_refl _) hv0 (jfr_rf _ _) (show 5 ≤ jxw ((a0 2 2) + (f_J0_length_8abf5_r1010 a0 b0)) from by omega) (show jxw ((a0 2 2) + (f_J0_length_8abf5_r1010 a0 b0)) ≤ 200 from by omega) (show 0 ≤ 0 from by omega) (show 0 ≤ 5 from by omega) (show 5 ≤ a0 2 1 from by omega) (show 0 ≤ 0 from by omega) (show a0 2 2 = a0 2 2 from by omega) (show jxw ((a0 2 2) + (f_J0_length_8abf5_r1010 a0 b0)) = (a0 2 2) + 5 from by omega) (show jxw ((a0 2 2) + (f_J0_length_8abf5_r1010 a0 b0)) ≤ a0 2 1 from by omega) (show jxw ((a0 2 2) + (f_J0_length_8abf5_r1010 a0 b0)) ≤ 200 from by omega) (show a0 2 3 = 0 from by omega) (show a0 2 2 < a0 2 1 from by omega)
  ·
    have h760_ := iv_get hv0 (k := 2) (j := 1) (l := 0) (u := 200) rfl
    have h761_ := iv_get hv0 (k := 2) (j := 2) (l := 0) (u := 200) rfl
    exact jt_rI ⟨hv0, (jfr_rf _ _), rfl, (show (0 ≤ 0 ∧ 0 ≤ 1) from by omega), (show ((¬ a0 2 3 = 0 ∨ a0 2 1 ≤ a0 2 2) → 0 = 0) from by omega), (show (0 = 0 → a0 2 2 = a0 2 2) from by omega)⟩
def jW_X8_takesWord_r1011 : List (Nat × Nat) := [(2, 2)]
abbrev jQ_X8_takesWord_r1011 (a0 b0 : Nat → Nat → Int) : List jxV → (Nat → Nat → Int) → (Nat → Nat → Int) → Prop := rI (fun r a b => (iv a) ∧ (jfr jW_X8_takesWord_r1011 a0 a) ∧ (b0 = b) ∧ ((0 ≤ r ∧ r ≤ 1)) ∧ (((¬ a0 2 3 = 0 ∨ a0 2 1 ≤ a0 2 2) → r = 0)) ∧ ((r = 0 → a 2 2 = a0 2 2)))
theorem cp_X8_takesWord_r1011_56 (E : jxE) (d : Nat) (hd : Nat.ble 5 (d + 1) = true) (a0 b0 : Nat → Nat → Int) (hv0 : iv a0) : ∀ (a : Nat → Nat → Int), iv a → jfr jW_X8_takesWord_r1011 a0 a → 4 ≤ a 2 1 → a 2 2 = a0 2 2 → a0 2 3 = 0 → a0 2 2 < a0 2 1 → jt (jxX E d 128 56 [none, none, none, none] [] (jxSH, a, b0)) (jQ_X8_takesWord_r1011 a0 b0) := by
  intro a hv hf hi0 hi1 hi2 hi3
  refine jt_eq (bq_X8_takesWord_r1011_56 E d a b0) ?_
  have h762_ := iv_get hv (k := 2) (j := 1) (l := 0) (u := 200) rfl
  have h763_ : a 2 1 = a0 2 1 := hf 2 1 rfl
  have h764_ := iv_get hv0 (k := 2) (j := 1) (l := 0) (u := 200) rfl
  have h765_ := iv_get hv (k := 2) (j := 2) (l := 0) (u := 200) rfl
  have h766_ := iv_get hv0 (k := 2) (j := 2) (l := 0) (u := 200) rfl
  exact jt_rI ⟨hv, hf, rfl, (show (0 ≤ 0 ∧ 0 ≤ 1) from by omega), (show ((¬ a0 2 3 = 0 ∨ a0 2 1 ≤ a0 2 2) → 0 = 0) from by omega), (show (0 = 0 → a 2 2 = a0 2 2) from by omega)⟩
theorem cp_X8_takesWord_r1011_96 (E : jxE) (d : Nat) (hd : Nat.ble 5 (d + 1) = true) (a0 b0 : Nat → Nat → Int) (hv0 : iv a0) : ∀ (y2 : Int) (a : Nat → Nat → Int), iv a → jfr jW_X8_takesWord_r1011 a0 a → 4 ≤ y2 → y2 ≤ 200 → 4 ≤ a 2 1 → a 2 2 = a0 2 2 → y2 = (a 2 2) + 4 → y2 ≤ a 2 1 → y2 ≤ 200 → a0 2 3 = 0 → a0 2 2 < a0 2 1 → jt (jxX E d 128 96 [some (.inr (.inr (.inl 2))), none, some (.inl y2), none] [] (jxSH, a, b0)) (jQ_X8_takesWord_r1011 a0 b0) := by
  intro y2 a hv hf hi0 hi1 hi2 hi3 hi4 hi5 hi6 hi7 hi8
  refine jt_eq (bq_X8_takesWord_r1011_96 E d y2 a b0) ?_
  have h767_ := iv_get hv (k := 2) (j := 1) (l := 0) (u := 200) rfl
  have h768_ : a 2 1 = a0 2 1 := hf 2 1 rfl
  have h769_ := iv_get hv0 (k := 2) (j := 1) (l := 0) (u := 200) rfl
  have h770_ := iv_get hv (k := 2) (j := 2) (l := 0) (u := 200) rfl
  have h771_ := iv_get hv0 (k := 2) (j := 2) (l := 0) (u := 200) rfl
  have hv772_ : iv (jxu a 2 2 y2) := iv_put hv (l := 0) (u := 200) rfl (by omega) (by omega)
  refine jt_bV (sp_X8_skipBlanks E d (jd_le hd rfl) (jxu a 2 2 y2) b0 hv772_) (fun a773_ b773_ h773_ => ?_)
  obtain ⟨hv773_, hf773_, rfl, hq773_0⟩ := h773_
  have h774_ := iv_get hv773_ (k := 2) (j := 2) (l := 0) (u := 200) rfl
  have h775_ : (a 2 1 ≤ y2 → a773_ 2 2 = y2) := hq773_0
  have hf776_ : jfr jW_X8_takesWord_r1011 a0 (jxu a 2 2 y2) := jfr_put hf rfl
  have hf777_ : jfr jW_X8_takesWord_r1011 a0 a773_ := jfr_tr hf776_ hf773_ rfl
  exact jt_rI ⟨hv773_, hf777_, rfl, (show (0 ≤ 1 ∧ 1 ≤ 1) from by omega), (show ((¬ a0 2 3 = 0 ∨ a0 2 1 ≤ a0 2 2) → 1 = 0) from by omega), (show (1 = 0 → a773_ 2 2 = a0 2 2) from by omega)⟩
theorem cp_X8_takesWord_r1011_83 (E : jxE) (d : Nat) (hd : Nat.ble 5 (d + 1) = true) (a0 b0 : Nat → Nat → Int) (hv0 : iv a0) : ∀ (y2 : Int) (a : Nat → Nat → Int), iv a → jfr jW_X8_takesWord_r1011 a0 a → 4 ≤ y2 → y2 ≤ 199 → 5 ≤ a 2 1 → a 2 2 = a0 2 2 → y2 = (a 2 2) + 4 → y2 ≤ a 2 1 → y2 ≤ 200 → a0 2 3 = 0 → a0 2 2 < a0 2 1 → jt (jxX E d 128 83 [some (.inr (.inr (.inl 2))), none, some (.inl y2), none] [] (jxSH, a, b0)) (jQ_X8_takesWord_r1011 a0 b0) := by
  intro y2 a hv hf hi0 hi1 hi2 hi3 hi4 hi5 hi6 hi7 hi8
  refine jt_eq (bq_X8_takesWord_r1011_83 E d y2 a b0) ?_
  have h778_ := iv_get hv (k := 2) (j := 1) (l := 0) (u := 200) rfl
  have h779_ : a 2 1 = a0 2 1 := hf 2 1 rfl
  have h780_ := iv_get hv0 (k := 2) (j := 1) (l := 0) (u := 200) rfl
  have h781_ := iv_get hv (k := 2) (j := 2) (l := 0) (u := 200) rfl
  have h782_ := iv_get hv0 (k := 2) (j := 2) (l := 0) (u := 200) rfl
  refine jt_grd (by omega) ?_
  have h783_ := iv_get hv (k := 3) (j := y2.toNat) (l := 0) (u := 255) rfl
  have h784_ : a 3 (y2.toNat) = a0 3 (y2.toNat) := hf 3 (y2.toNat) rfl
  have h785_ := iv_get hv0 (k := 3) (j := y2.toNat) (l := 0) (u := 255) rfl
  refine jt_ite (fun c786_ => ?_) (fun c786_ => ?_)
  ·
    exact cp_X8_takesWord_r1011_96 E d hd a0 b0 hv0 y2 a hv hf (show 4 ≤ y2 from by omega) (show y2 ≤ 200 from by omega) (show 4 ≤ a 2 1 from by omega) (show a 2 2 = a0 2 2 from by omega) (show y2 = (a 2 2) + 4 from by omega) (show y2 ≤ a 2 1 from by omega) (show y2 ≤ 200 from by omega) (show a0 2 3 = 0 from by omega) (show a0 2 2 < a0 2 1 from by omega)
  ·
    exact jt_rI ⟨hv, hf, rfl, (show (0 ≤ 0 ∧ 0 ≤ 1) from by omega), (show ((¬ a0 2 3 = 0 ∨ a0 2 1 ≤ a0 2 2) → 0 = 0) from by omega), (show (0 = 0 → a 2 2 = a0 2 2) from by omega)⟩
theorem cp_X8_takesWord_r1011_29 (E : jxE) (d : Nat) (hd : Nat.ble 5 (d + 1) = true) (a0 b0 : Nat → Nat → Int) (hv0 : iv a0) : ∀ n : Nat, (∀ (y2 y3 : Int) (a : Nat → Nat → Int), (((4 - y3) * 1) + 0).toNat ≤ n → iv a → jfr jW_X8_takesWord_r1011 a0 a → 4 ≤ y2 → y2 ≤ 200 → 0 ≤ y3 → y3 ≤ 3 → 4 ≤ a 2 1 → y3 < 4 → 0 ≤ y3 → a 2 2 = a0 2 2 → y2 = (a 2 2) + 4 → y2 ≤ a 2 1 → y2 ≤ 200 → a0 2 3 = 0 → a0 2 2 < a0 2 1 → jt (jxX E d 128 58 [some (.inr (.inr (.inl 2))), some (.inr (.inr (.inl 1011))), some (.inl y2), some (.inl y3)] [] (jxSH, a, b0)) (jQ_X8_takesWord_r1011 a0 b0)) ∧ (∀ (y2 y3 : Int) (a : Nat → Nat → Int), (((4 - y3) * 1) + 0).toNat ≤ n → iv a → jfr jW_X8_takesWord_r1011 a0 a → 4 ≤ y2 → y2 ≤ 200 → 0 ≤ y3 → y3 ≤ 4 → 4 ≤ a 2 1 → 0 ≤ y3 → a 2 2 = a0 2 2 → y2 = (a 2 2) + 4 → y2 ≤ a 2 1 → y2 ≤ 200 → a0 2 3 = 0 → a0 2 2 < a0 2 1 → jt (jxX E d 128 29 [some (.inr (.inr (.inl 2))), some (.inr (.inr (.inl 1011))), some (.inl y2), some (.inl y3)] [] (jxSH, a, b0)) (jQ_X8_takesWord_r1011 a0 b0)) := by
  refine jx_ind fun n ih => ?_
  have ih58 : ∀ (y2 y3 : Int) (a : Nat → Nat → Int), (((4 - y3) * 1) + 0).toNat < n → iv a → jfr jW_X8_takesWord_r1011 a0 a → 4 ≤ y2 → y2 ≤ 200 → 0 ≤ y3 → y3 ≤ 3 → 4 ≤ a 2 1 → y3 < 4 → 0 ≤ y3 → a 2 2 = a0 2 2 → y2 = (a 2 2) + 4 → y2 ≤ a 2 1 → y2 ≤ 200 → a0 2 3 = 0 → a0 2 2 < a0 2 1 → jt (jxX E d 128 58 [some (.inr (.inr (.inl 2))), some (.inr (.inr (.inl 1011))), some (.inl y2), some (.inl y3)] [] (jxSH, a, b0)) (jQ_X8_takesWord_r1011 a0 b0) := fun y2 y3 a hlt i0 i1 i2 i3 i4 i5 i6 i7 i8 i9 i10 i11 i12 i13 i14 => (ih _ hlt).1 y2 y3 a (Nat.le_refl _) i0 i1 i2 i3 i4 i5 i6 i7 i8 i9 i10 i11 i12 i13 i14
  have ih29 : ∀ (y2 y3 : Int) (a : Nat → Nat → Int), (((4 - y3) * 1) + 0).toNat < n → iv a → jfr jW_X8_takesWord_r1011 a0 a → 4 ≤ y2 → y2 ≤ 200 → 0 ≤ y3 → y3 ≤ 4 → 4 ≤ a 2 1 → 0 ≤ y3 → a 2 2 = a0 2 2 → y2 = (a 2 2) + 4 → y2 ≤ a 2 1 → y2 ≤ 200 → a0 2 3 = 0 → a0 2 2 < a0 2 1 → jt (jxX E d 128 29 [some (.inr (.inr (.inl 2))), some (.inr (.inr (.inl 1011))), some (.inl y2), some (.inl y3)] [] (jxSH, a, b0)) (jQ_X8_takesWord_r1011 a0 b0) := fun y2 y3 a hlt i0 i1 i2 i3 i4 i5 i6 i7 i8 i9 i10 i11 i12 i13 => (ih _ hlt).2 y2 y3 a (Nat.le_refl _) i0 i1 i2 i3 i4 i5 i6 i7 i8 i9 i10 i11 i12 i13
  have hc58 : ∀ (y2 y3 : Int) (a : Nat → Nat → Int), (((4 - y3) * 1) + 0).toNat ≤ n → iv a → jfr jW_X8_takesWord_r1011 a0 a → 4 ≤ y2 → y2 ≤ 200 → 0 ≤ y3 → y3 ≤ 3 → 4 ≤ a 2 1 → y3 < 4 → 0 ≤ y3 → a 2 2 = a0 2 2 → y2 = (a 2 2) + 4 → y2 ≤ a 2 1 → y2 ≤ 200 → a0 2 3 = 0 → a0 2 2 < a0 2 1 → jt (jxX E d 128 58 [some (.inr (.inr (.inl 2))), some (.inr (.inr (.inl 1011))), some (.inl y2), some (.inl y3)] [] (jxSH, a, b0)) (jQ_X8_takesWord_r1011 a0 b0) := by
    intro y2 y3 a hm hv hf hi0 hi1 hi2 hi3 hi4 hi5 hi6 hi7 hi8 hi9 hi10 hi11 hi12
    refine jt_eq (bq_X8_takesWord_r1011_58 E d y2 y3 a b0) ?_
    have h787_ := iv_get hv (k := 2) (j := 1) (l := 0) (u := 200) rfl
    have h788_ : a 2 1 = a0 2 1 := hf 2 1 rfl
    have h789_ := iv_get hv0 (k := 2) (j := 1) (l := 0) (u := 200) rfl
    have h790_ := iv_get hv (k := 2) (j := 2) (l := 0) (u := 200) rfl
    have h791_ := iv_get hv0 (k := 2) (j := 2) (l := 0) (u := 200) rfl
    have h792_ : jxw (y3 + 1) = y3 + 1 := jxw_id (by omega) (by omega)
    exact ih29 y2 (jxw (y3 + 1)) a (show (((4 - (jxw (y3 + 1))) * 1) + 0).toNat < n from by omega) hv hf (show 4 ≤ y2 from by omega) (show y2 ≤ 200 from by omega) (show 0 ≤ jxw (y3 + 1) from by omega) (show jxw (y3 + 1) ≤ 4 from by omega) (show 4 ≤ a 2 1 from by omega) (show 0 ≤ jxw (y3 + 1) from by omega) (show a 2 2 = a0 2 2 from by omega) (show y2 = (a 2 2) + 4 from by omega) (show y2 ≤ a 2 1 from by omega) (show y2 ≤ 200 from by omega) (show a0 2 3 = 0 from by omega) (show a0 2 2 < a0 2 1 from by omega)
  have hc29 : ∀ (y2 y3 : Int) (a : Nat → Nat → Int), (((4 - y3) * 1) + 0).toNat ≤ n → iv a → jfr jW_X8_takesWord_r1011 a0 a → 4 ≤ y2 → y2 ≤ 200 → 0 ≤ y3 → y3 ≤ 4 → 4 ≤ a 2 1 → 0 ≤ y3 → a 2 2 = a0 2 2 → y2 = (a 2 2) + 4 → y2 ≤ a 2 1 → y2 ≤ 200 → a0 2 3 = 0 → a0 2 2 < a0 2 1 → jt (jxX E d 128 29 [some (.inr (.inr (.inl 2))), some (.inr (.inr (.inl 1011))), some (.inl y2), some (.inl y3)] [] (jxSH, a, b0)) (jQ_X8_takesWord_r1011 a0 b0) := by
    intro y2 y3 a hm hv hf hi0 hi1 hi2 hi3 hi4 hi5 hi6 hi7 hi8 hi9 hi10 hi11
    refine jt_eq (bq_X8_takesWord_r1011_29 E d y2 y3 a b0) ?_
    have h793_ := iv_get hv (k := 2) (j := 1) (l := 0) (u := 200) rfl
    have h794_ : a 2 1 = a0 2 1 := hf 2 1 rfl
    have h795_ := iv_get hv0 (k := 2) (j := 1) (l := 0) (u := 200) rfl
    have h796_ := iv_get hv (k := 2) (j := 2) (l := 0) (u := 200) rfl
    have h797_ := iv_get hv0 (k := 2) (j := 2) (l := 0) (u := 200) rfl
    refine jt_eI (eq_J0_length_8abf5_r1011 E d (jd_le hd rfl) a b0) ?_
    have h798_ := ff_J0_length_8abf5_r1011 a b0
    refine jt_ite (fun c799_ => ?_) (fun c799_ => ?_)
    ·
      have h800_ : jxw ((a 2 2) + y3) = (a 2 2) + y3 := jxw_id (by omega) (by omega)
      refine jt_grd (by omega) ?_
      refine jt_eI (eq_J0_charAt_5068e_r1011 E d (jd_le hd rfl) y3 a b0 (show (0 ≤ y3 ∧ y3 < 4) from by omega)) ?_
      have h801_ := iv_get hv (k := 3) (j := (jxw ((a 2 2) + y3)).toNat) (l := 0) (u := 255) rfl
      have h802_ : a 3 ((jxw ((a 2 2) + y3)).toNat) = a0 3 ((jxw ((a 2 2) + y3)).toNat) := hf 3 ((jxw ((a 2 2) + y3)).toNat) rfl
      have h803_ := iv_get hv0 (k := 3) (j := (jxw ((a 2 2) + y3)).toNat) (l := 0) (u := 255) rfl
      have h804_ := f_J0_charAt_5068e_r1011_eq a b0 y3
      have h805_ := f_J0_isLatin1_aae02_r1011_eq a b0
      have h806_ := f_J1_charAt_3b067_r2011_eq a b0 y3
      have h807_ := jxand_r (([109, 111, 114, 101] : List Int).getD (y3.toNat) 0) 255 (by decide) (by decide)
      have h808_ := jxi2c_b (jxand (([109, 111, 114, 101] : List Int).getD (y3.toNat) 0) 255)
      refine jt_ite (fun c809_ => ?_) (fun c809_ => ?_)
      ·
        exact hc58 y2 y3 a (show (((4 - y3) * 1) + 0).toNat ≤ n from by omega) hv hf (show 4 ≤ y2 from by omega) (show y2 ≤ 200 from by omega) (show 0 ≤ y3 from by omega) (show y3 ≤ 3 from by omega) (show 4 ≤ a 2 1 from by omega) (show y3 < 4 from by omega) (show 0 ≤ y3 from by omega) (show a 2 2 = a0 2 2 from by omega) (show y2 = (a 2 2) + 4 from by omega) (show y2 ≤ a 2 1 from by omega) (show y2 ≤ 200 from by omega) (show a0 2 3 = 0 from by omega) (show a0 2 2 < a0 2 1 from by omega)
      ·
        exact cp_X8_takesWord_r1011_56 E d hd a0 b0 hv0 a hv hf (show 4 ≤ a 2 1 from by omega) (show a 2 2 = a0 2 2 from by omega) (show a0 2 3 = 0 from by omega) (show a0 2 2 < a0 2 1 from by omega)
    ·
      refine jt_ite (fun c810_ => ?_) (fun c810_ => ?_)
      ·
        refine jt_grd (by omega) ?_
        have h811_ := iv_get hv (k := 3) (j := y2.toNat) (l := 0) (u := 255) rfl
        have h812_ : a 3 (y2.toNat) = a0 3 (y2.toNat) := hf 3 (y2.toNat) rfl
        have h813_ := iv_get hv0 (k := 3) (j := y2.toNat) (l := 0) (u := 255) rfl
        refine jt_ite (fun c814_ => ?_) (fun c814_ => ?_)
        ·
          exact cp_X8_takesWord_r1011_96 E d hd a0 b0 hv0 y2 a hv hf (show 4 ≤ y2 from by omega) (show y2 ≤ 200 from by omega) (show 4 ≤ a 2 1 from by omega) (show a 2 2 = a0 2 2 from by omega) (show y2 = (a 2 2) + 4 from by omega) (show y2 ≤ a 2 1 from by omega) (show y2 ≤ 200 from by omega) (show a0 2 3 = 0 from by omega) (show a0 2 2 < a0 2 1 from by omega)
        ·
          exact cp_X8_takesWord_r1011_83 E d hd a0 b0 hv0 y2 a hv hf (show 4 ≤ y2 from by omega) (show y2 ≤ 199 from by omega) (show 5 ≤ a 2 1 from by omega) (show a 2 2 = a0 2 2 from by omega) (show y2 = (a 2 2) + 4 from by omega) (show y2 ≤ a 2 1 from by omega) (show y2 ≤ 200 from by omega) (show a0 2 3 = 0 from by omega) (show a0 2 2 < a0 2 1 from by omega)
      ·
        exact cp_X8_takesWord_r1011_96 E d hd a0 b0 hv0 y2 a hv hf (show 4 ≤ y2 from by omega) (show y2 ≤ 200 from by omega) (show 4 ≤ a 2 1 from by omega) (show a 2 2 = a0 2 2 from by omega) (show y2 = (a 2 2) + 4 from by omega) (show y2 ≤ a 2 1 from by omega) (show y2 ≤ 200 from by omega) (show a0 2 3 = 0 from by omega) (show a0 2 2 < a0 2 1 from by omega)
  exact ⟨hc58, hc29⟩
theorem sp_X8_takesWord_r1011 (E : jxE) (d : Nat) (hd : Nat.ble 5 d = true) (a0 b0 : Nat → Nat → Int) (hv0 : iv a0) : jt (jxC E d 128 [.inr (.inr (.inl 2)), .inr (.inr (.inl 1011))] (jxSH, a0, b0)) (jQ_X8_takesWord_r1011 a0 b0) := by
  obtain ⟨d, rfl⟩ := jd_succ hd
  refine jt_eq (bq_X8_takesWord_r1011 E d a0 b0) ?_
  refine jt_eI (eq_J0_length_8abf5_r1011 E d (jd_le hd rfl) a0 b0) ?_
  refine jt_eI (eq_X8_isFaulty E d (jd_le hd rfl) a0 b0) ?_
  have h815_ := f_X8_isFaulty_eq a0 b0
  refine jt_ite (fun c816_ => ?_) (fun c816_ => ?_)
  ·
    have h817_ := iv_get hv0 (k := 2) (j := 1) (l := 0) (u := 200) rfl
    have h818_ := iv_get hv0 (k := 2) (j := 2) (l := 0) (u := 200) rfl
    have h819_ := ff_J0_length_8abf5_r1011 a0 b0
    have h820_ : jxw ((a0 2 2) + (f_J0_length_8abf5_r1011 a0 b0)) = (a0 2 2) + (f_J0_length_8abf5_r1011 a0 b0) := jxw_id (by omega) (by omega)
    refine jt_ite (fun c821_ => ?_) (fun c821_ => ?_)
    ·
      exact jt_rI ⟨hv0, (jfr_rf _ _), rfl, (show (0 ≤ 0 ∧ 0 ≤ 1) from by omega), (show ((¬ a0 2 3 = 0 ∨ a0 2 1 ≤ a0 2 2) → 0 = 0) from by omega), (show (0 = 0 → a0 2 2 = a0 2 2) from by omega)⟩
    ·
      exact (cp_X8_takesWord_r1011_29 E d hd a0 b0 hv0 _).2 (jxw ((a0 2 2) + (f_J0_length_8abf5_r1011 a0 b0))) 0 a0 (Nat.le_refl _) hv0 (jfr_rf _ _) (show 4 ≤ jxw ((a0 2 2) + (f_J0_length_8abf5_r1011 a0 b0)) from by omega) (show jxw ((a0 2 2) + (f_J0_length_8abf5_r1011 a0 b0)) ≤ 200 from by omega) (show 0 ≤ 0 from by omega) (show 0 ≤ 4 from by omega) (show 4 ≤ a0 2 1 from by omega) (show 0 ≤ 0 from by omega) (show a0 2 2 = a0 2 2 from by omega) (show jxw ((a0 2 2) + (f_J0_length_8abf5_r1011 a0 b0)) = (a0 2 2) + 4 from by omega) (show jxw ((a0 2 2) + (f_J0_length_8abf5_r1011 a0 b0)) ≤ a0 2 1 from by omega) (show jxw ((a0 2 2) + (f_J0_length_8abf5_r1011 a0 b0)) ≤ 200 from by omega) (show a0 2 3 = 0 from by omega) (show a0 2 2 < a0 2 1 from by omega)
  ·
    have h822_ := iv_get hv0 (k := 2) (j := 1) (l := 0) (u := 200) rfl
    have h823_ := iv_get hv0 (k := 2) (j := 2) (l := 0) (u := 200) rfl
    exact jt_rI ⟨hv0, (jfr_rf _ _), rfl, (show (0 ≤ 0 ∧ 0 ≤ 1) from by omega), (show ((¬ a0 2 3 = 0 ∨ a0 2 1 ≤ a0 2 2) → 0 = 0) from by omega), (show (0 = 0 → a0 2 2 = a0 2 2) from by omega)⟩
def jW_X8_takesWord_r1012 : List (Nat × Nat) := [(2, 2)]
abbrev jQ_X8_takesWord_r1012 (a0 b0 : Nat → Nat → Int) : List jxV → (Nat → Nat → Int) → (Nat → Nat → Int) → Prop := rI (fun r a b => (iv a) ∧ (jfr jW_X8_takesWord_r1012 a0 a) ∧ (b0 = b) ∧ ((0 ≤ r ∧ r ≤ 1)) ∧ (((¬ a0 2 3 = 0 ∨ a0 2 1 ≤ a0 2 2) → r = 0)) ∧ ((r = 0 → a 2 2 = a0 2 2)))
theorem cp_X8_takesWord_r1012_56 (E : jxE) (d : Nat) (hd : Nat.ble 5 (d + 1) = true) (a0 b0 : Nat → Nat → Int) (hv0 : iv a0) : ∀ (a : Nat → Nat → Int), iv a → jfr jW_X8_takesWord_r1012 a0 a → 5 ≤ a 2 1 → a 2 2 = a0 2 2 → a0 2 3 = 0 → a0 2 2 < a0 2 1 → jt (jxX E d 128 56 [none, none, none, none] [] (jxSH, a, b0)) (jQ_X8_takesWord_r1012 a0 b0) := by
  intro a hv hf hi0 hi1 hi2 hi3
  refine jt_eq (bq_X8_takesWord_r1012_56 E d a b0) ?_
  have h824_ := iv_get hv (k := 2) (j := 1) (l := 0) (u := 200) rfl
  have h825_ : a 2 1 = a0 2 1 := hf 2 1 rfl
  have h826_ := iv_get hv0 (k := 2) (j := 1) (l := 0) (u := 200) rfl
  have h827_ := iv_get hv (k := 2) (j := 2) (l := 0) (u := 200) rfl
  have h828_ := iv_get hv0 (k := 2) (j := 2) (l := 0) (u := 200) rfl
  exact jt_rI ⟨hv, hf, rfl, (show (0 ≤ 0 ∧ 0 ≤ 1) from by omega), (show ((¬ a0 2 3 = 0 ∨ a0 2 1 ≤ a0 2 2) → 0 = 0) from by omega), (show (0 = 0 → a 2 2 = a0 2 2) from by omega)⟩
theorem cp_X8_takesWord_r1012_96 (E : jxE) (d : Nat) (hd : Nat.ble 5 (d + 1) = true) (a0 b0 : Nat → Nat → Int) (hv0 : iv a0) : ∀ (y2 : Int) (a : Nat → Nat → Int), iv a → jfr jW_X8_takesWord_r1012 a0 a → 5 ≤ y2 → y2 ≤ 200 → 5 ≤ a 2 1 → a 2 2 = a0 2 2 → y2 = (a 2 2) + 5 → y2 ≤ a 2 1 → y2 ≤ 200 → a0 2 3 = 0 → a0 2 2 < a0 2 1 → jt (jxX E d 128 96 [some (.inr (.inr (.inl 2))), none, some (.inl y2), none] [] (jxSH, a, b0)) (jQ_X8_takesWord_r1012 a0 b0) := by
  intro y2 a hv hf hi0 hi1 hi2 hi3 hi4 hi5 hi6 hi7 hi8
  refine jt_eq (bq_X8_takesWord_r1012_96 E d y2 a b0) ?_
  have h829_ := iv_get hv (k := 2) (j := 1) (l := 0) (u := 200) rfl
  have h830_ : a 2 1 = a0 2 1 := hf 2 1 rfl
  have h831_ := iv_get hv0 (k := 2) (j := 1) (l := 0) (u := 200) rfl
  have h832_ := iv_get hv (k := 2) (j := 2) (l := 0) (u := 200) rfl
  have h833_ := iv_get hv0 (k := 2) (j := 2) (l := 0) (u := 200) rfl
  have hv834_ : iv (jxu a 2 2 y2) := iv_put hv (l := 0) (u := 200) rfl (by omega) (by omega)
  refine jt_bV (sp_X8_skipBlanks E d (jd_le hd rfl) (jxu a 2 2 y2) b0 hv834_) (fun a835_ b835_ h835_ => ?_)
  obtain ⟨hv835_, hf835_, rfl, hq835_0⟩ := h835_
  have h836_ := iv_get hv835_ (k := 2) (j := 2) (l := 0) (u := 200) rfl
  have h837_ : (a 2 1 ≤ y2 → a835_ 2 2 = y2) := hq835_0
  have hf838_ : jfr jW_X8_takesWord_r1012 a0 (jxu a 2 2 y2) := jfr_put hf rfl
  have hf839_ : jfr jW_X8_takesWord_r1012 a0 a835_ := jfr_tr hf838_ hf835_ rfl
  exact jt_rI ⟨hv835_, hf839_, rfl, (show (0 ≤ 1 ∧ 1 ≤ 1) from by omega), (show ((¬ a0 2 3 = 0 ∨ a0 2 1 ≤ a0 2 2) → 1 = 0) from by omega), (show (1 = 0 → a835_ 2 2 = a0 2 2) from by omega)⟩
theorem cp_X8_takesWord_r1012_83 (E : jxE) (d : Nat) (hd : Nat.ble 5 (d + 1) = true) (a0 b0 : Nat → Nat → Int) (hv0 : iv a0) : ∀ (y2 : Int) (a : Nat → Nat → Int), iv a → jfr jW_X8_takesWord_r1012 a0 a → 5 ≤ y2 → y2 ≤ 199 → 6 ≤ a 2 1 → a 2 2 = a0 2 2 → y2 = (a 2 2) + 5 → y2 ≤ a 2 1 → y2 ≤ 200 → a0 2 3 = 0 → a0 2 2 < a0 2 1 → jt (jxX E d 128 83 [some (.inr (.inr (.inl 2))), none, some (.inl y2), none] [] (jxSH, a, b0)) (jQ_X8_takesWord_r1012 a0 b0) := by
  intro y2 a hv hf hi0 hi1 hi2 hi3 hi4 hi5 hi6 hi7 hi8
  refine jt_eq (bq_X8_takesWord_r1012_83 E d y2 a b0) ?_
  have h840_ := iv_get hv (k := 2) (j := 1) (l := 0) (u := 200) rfl
  have h841_ : a 2 1 = a0 2 1 := hf 2 1 rfl
  have h842_ := iv_get hv0 (k := 2) (j := 1) (l := 0) (u := 200) rfl
  have h843_ := iv_get hv (k := 2) (j := 2) (l := 0) (u := 200) rfl
  have h844_ := iv_get hv0 (k := 2) (j := 2) (l := 0) (u := 200) rfl
  refine jt_grd (by omega) ?_
  have h845_ := iv_get hv (k := 3) (j := y2.toNat) (l := 0) (u := 255) rfl
  have h846_ : a 3 (y2.toNat) = a0 3 (y2.toNat) := hf 3 (y2.toNat) rfl
  have h847_ := iv_get hv0 (k := 3) (j := y2.toNat) (l := 0) (u := 255) rfl
  refine jt_ite (fun c848_ => ?_) (fun c848_ => ?_)
  ·
    exact cp_X8_takesWord_r1012_96 E d hd a0 b0 hv0 y2 a hv hf (show 5 ≤ y2 from by omega) (show y2 ≤ 200 from by omega) (show 5 ≤ a 2 1 from by omega) (show a 2 2 = a0 2 2 from by omega) (show y2 = (a 2 2) + 5 from by omega) (show y2 ≤ a 2 1 from by omega) (show y2 ≤ 200 from by omega) (show a0 2 3 = 0 from by omega) (show a0 2 2 < a0 2 1 from by omega)
  ·
    exact jt_rI ⟨hv, hf, rfl, (show (0 ≤ 0 ∧ 0 ≤ 1) from by omega), (show ((¬ a0 2 3 = 0 ∨ a0 2 1 ≤ a0 2 2) → 0 = 0) from by omega), (show (0 = 0 → a 2 2 = a0 2 2) from by omega)⟩
theorem cp_X8_takesWord_r1012_29 (E : jxE) (d : Nat) (hd : Nat.ble 5 (d + 1) = true) (a0 b0 : Nat → Nat → Int) (hv0 : iv a0) : ∀ n : Nat, (∀ (y2 y3 : Int) (a : Nat → Nat → Int), (((5 - y3) * 1) + 0).toNat ≤ n → iv a → jfr jW_X8_takesWord_r1012 a0 a → 5 ≤ y2 → y2 ≤ 200 → 0 ≤ y3 → y3 ≤ 4 → 5 ≤ a 2 1 → y3 < 5 → 0 ≤ y3 → a 2 2 = a0 2 2 → y2 = (a 2 2) + 5 → y2 ≤ a 2 1 → y2 ≤ 200 → a0 2 3 = 0 → a0 2 2 < a0 2 1 → jt (jxX E d 128 58 [some (.inr (.inr (.inl 2))), some (.inr (.inr (.inl 1012))), some (.inl y2), some (.inl y3)] [] (jxSH, a, b0)) (jQ_X8_takesWord_r1012 a0 b0)) ∧ (∀ (y2 y3 : Int) (a : Nat → Nat → Int), (((5 - y3) * 1) + 0).toNat ≤ n → iv a → jfr jW_X8_takesWord_r1012 a0 a → 5 ≤ y2 → y2 ≤ 200 → 0 ≤ y3 → y3 ≤ 5 → 5 ≤ a 2 1 → 0 ≤ y3 → a 2 2 = a0 2 2 → y2 = (a 2 2) + 5 → y2 ≤ a 2 1 → y2 ≤ 200 → a0 2 3 = 0 → a0 2 2 < a0 2 1 → jt (jxX E d 128 29 [some (.inr (.inr (.inl 2))), some (.inr (.inr (.inl 1012))), some (.inl y2), some (.inl y3)] [] (jxSH, a, b0)) (jQ_X8_takesWord_r1012 a0 b0)) := by
  refine jx_ind fun n ih => ?_
  have ih58 : ∀ (y2 y3 : Int) (a : Nat → Nat → Int), (((5 - y3) * 1) + 0).toNat < n → iv a → jfr jW_X8_takesWord_r1012 a0 a → 5 ≤ y2 → y2 ≤ 200 → 0 ≤ y3 → y3 ≤ 4 → 5 ≤ a 2 1 → y3 < 5 → 0 ≤ y3 → a 2 2 = a0 2 2 → y2 = (a 2 2) + 5 → y2 ≤ a 2 1 → y2 ≤ 200 → a0 2 3 = 0 → a0 2 2 < a0 2 1 → jt (jxX E d 128 58 [some (.inr (.inr (.inl 2))), some (.inr (.inr (.inl 1012))), some (.inl y2), some (.inl y3)] [] (jxSH, a, b0)) (jQ_X8_takesWord_r1012 a0 b0) := fun y2 y3 a hlt i0 i1 i2 i3 i4 i5 i6 i7 i8 i9 i10 i11 i12 i13 i14 => (ih _ hlt).1 y2 y3 a (Nat.le_refl _) i0 i1 i2 i3 i4 i5 i6 i7 i8 i9 i10 i11 i12 i13 i14
  have ih29 : ∀ (y2 y3 : Int) (a : Nat → Nat → Int), (((5 - y3) * 1) + 0).toNat < n → iv a → jfr jW_X8_takesWord_r1012 a0 a → 5 ≤ y2 → y2 ≤ 200 → 0 ≤ y3 → y3 ≤ 5 → 5 ≤ a 2 1 → 0 ≤ y3 → a 2 2 = a0 2 2 → y2 = (a 2 2) + 5 → y2 ≤ a 2 1 → y2 ≤ 200 → a0 2 3 = 0 → a0 2 2 < a0 2 1 → jt (jxX E d 128 29 [some (.inr (.inr (.inl 2))), some (.inr (.inr (.inl 1012))), some (.inl y2), some (.inl y3)] [] (jxSH, a, b0)) (jQ_X8_takesWord_r1012 a0 b0) := fun y2 y3 a hlt i0 i1 i2 i3 i4 i5 i6 i7 i8 i9 i10 i11 i12 i13 => (ih _ hlt).2 y2 y3 a (Nat.le_refl _) i0 i1 i2 i3 i4 i5 i6 i7 i8 i9 i10 i11 i12 i13
  have hc58 : ∀ (y2 y3 : Int) (a : Nat → Nat → Int), (((5 - y3) * 1) + 0).toNat ≤ n → iv a → jfr jW_X8_takesWord_r1012 a0 a → 5 ≤ y2 → y2 ≤ 200 → 0 ≤ y3 → y3 ≤ 4 → 5 ≤ a 2 1 → y3 < 5 → 0 ≤ y3 → a 2 2 = a0 2 2 → y2 = (a 2 2) + 5 → y2 ≤ a 2 1 → y2 ≤ 200 → a0 2 3 = 0 → a0 2 2 < a0 2 1 → jt (jxX E d 128 58 [some (.inr (.inr (.inl 2))), some (.inr (.inr (.inl 1012))), some (.inl y2), some (.inl y3)] [] (jxSH, a, b0)) (jQ_X8_takesWord_r1012 a0 b0) := by
    intro y2 y3 a hm hv hf hi0 hi1 hi2 hi3 hi4 hi5 hi6 hi7 hi8 hi9 hi10 hi11 hi12
    refine jt_eq (bq_X8_takesWord_r1012_58 E d y2 y3 a b0) ?_
    have h849_ := iv_get hv (k := 2) (j := 1) (l := 0) (u := 200) rfl
    have h850_ : a 2 1 = a0 2 1 := hf 2 1 rfl
    have h851_ := iv_get hv0 (k := 2) (j := 1) (l := 0) (u := 200) rfl
    have h852_ := iv_get hv (k := 2) (j := 2) (l := 0) (u := 200) rfl
    have h853_ := iv_get hv0 (k := 2) (j := 2) (l := 0) (u := 200) rfl
    have h854_ : jxw (y3 + 1) = y3 + 1 := jxw_id (by omega) (by omega)
    exact ih29 y2 (jxw (y3 + 1)) a (show (((5 - (jxw (y3 + 1))) * 1) + 0).toNat < n from by omega) hv hf (show 5 ≤ y2 from by omega) (show y2 ≤ 200 from by omega) (show 0 ≤ jxw (y3 + 1) from by omega) (show jxw (y3 + 1) ≤ 5 from by omega) (show 5 ≤ a 2 1 from by omega) (show 0 ≤ jxw (y3 + 1) from by omega) (show a 2 2 = a0 2 2 from by omega) (show y2 = (a 2 2) + 5 from by omega) (show y2 ≤ a 2 1 from by omega) (show y2 ≤ 200 from by omega) (show a0 2 3 = 0 from by omega) (show a0 2 2 < a0 2 1 from by omega)
  have hc29 : ∀ (y2 y3 : Int) (a : Nat → Nat → Int), (((5 - y3) * 1) + 0).toNat ≤ n → iv a → jfr jW_X8_takesWord_r1012 a0 a → 5 ≤ y2 → y2 ≤ 200 → 0 ≤ y3 → y3 ≤ 5 → 5 ≤ a 2 1 → 0 ≤ y3 → a 2 2 = a0 2 2 → y2 = (a 2 2) + 5 → y2 ≤ a 2 1 → y2 ≤ 200 → a0 2 3 = 0 → a0 2 2 < a0 2 1 → jt (jxX E d 128 29 [some (.inr (.inr (.inl 2))), some (.inr (.inr (.inl 1012))), some (.inl y2), some (.inl y3)] [] (jxSH, a, b0)) (jQ_X8_takesWord_r1012 a0 b0) := by
    intro y2 y3 a hm hv hf hi0 hi1 hi2 hi3 hi4 hi5 hi6 hi7 hi8 hi9 hi10 hi11
    refine jt_eq (bq_X8_takesWord_r1012_29 E d y2 y3 a b0) ?_
    have h855_ := iv_get hv (k := 2) (j := 1) (l := 0) (u := 200) rfl
    have h856_ : a 2 1 = a0 2 1 := hf 2 1 rfl
    have h857_ := iv_get hv0 (k := 2) (j := 1) (l := 0) (u := 200) rfl
    have h858_ := iv_get hv (k := 2) (j := 2) (l := 0) (u := 200) rfl
    have h859_ := iv_get hv0 (k := 2) (j := 2) (l := 0) (u := 200) rfl
    refine jt_eI (eq_J0_length_8abf5_r1012 E d (jd_le hd rfl) a b0) ?_
    have h860_ := ff_J0_length_8abf5_r1012 a b0
    refine jt_ite (fun c861_ => ?_) (fun c861_ => ?_)
    ·
      have h862_ : jxw ((a 2 2) + y3) = (a 2 2) + y3 := jxw_id (by omega) (by omega)
      refine jt_grd (by omega) ?_
      refine jt_eI (eq_J0_charAt_5068e_r1012 E d (jd_le hd rfl) y3 a b0 (show (0 ≤ y3 ∧ y3 < 5) from by omega)) ?_
      have h863_ := iv_get hv (k := 3) (j := (jxw ((a 2 2) + y3)).toNat) (l := 0) (u := 255) rfl
      have h864_ : a 3 ((jxw ((a 2 2) + y3)).toNat) = a0 3 ((jxw ((a 2 2) + y3)).toNat) := hf 3 ((jxw ((a 2 2) + y3)).toNat) rfl
      have h865_ := iv_get hv0 (k := 3) (j := (jxw ((a 2 2) + y3)).toNat) (l := 0) (u := 255) rfl
      have h866_ := f_J0_charAt_5068e_r1012_eq a b0 y3
      have h867_ := f_J0_isLatin1_aae02_r1012_eq a b0
      have h868_ := f_J1_charAt_3b067_r2012_eq a b0 y3
      have h869_ := jxand_r (([115, 108, 97, 99, 107] : List Int).getD (y3.toNat) 0) 255 (by decide) (by decide)
      have h870_ := jxi2c_b (jxand (([115, 108, 97, 99, 107] : List Int).getD (y3.toNat) 0) 255)
      refine jt_ite (fun c871_ => ?_) (fun c871_ => ?_)
      ·
        exact hc58 y2 y3 a (show (((5 - y3) * 1) + 0).toNat ≤ n from by omega) hv hf (show 5 ≤ y2 from by omega) (show y2 ≤ 200 from by omega) (show 0 ≤ y3 from by omega) (show y3 ≤ 4 from by omega) (show 5 ≤ a 2 1 from by omega) (show y3 < 5 from by omega) (show 0 ≤ y3 from by omega) (show a 2 2 = a0 2 2 from by omega) (show y2 = (a 2 2) + 5 from by omega) (show y2 ≤ a 2 1 from by omega) (show y2 ≤ 200 from by omega) (show a0 2 3 = 0 from by omega) (show a0 2 2 < a0 2 1 from by omega)
      ·
        exact cp_X8_takesWord_r1012_56 E d hd a0 b0 hv0 a hv hf (show 5 ≤ a 2 1 from by omega) (show a 2 2 = a0 2 2 from by omega) (show a0 2 3 = 0 from by omega) (show a0 2 2 < a0 2 1 from by omega)
    ·
      refine jt_ite (fun c872_ => ?_) (fun c872_ => ?_)
      ·
        refine jt_grd (by omega) ?_
        have h873_ := iv_get hv (k := 3) (j := y2.toNat) (l := 0) (u := 255) rfl
        have h874_ : a 3 (y2.toNat) = a0 3 (y2.toNat) := hf 3 (y2.toNat) rfl
        have h875_ := iv_get hv0 (k := 3) (j := y2.toNat) (l := 0) (u := 255) rfl
        refine jt_ite (fun c876_ => ?_) (fun c876_ => ?_)
        ·
          exact cp_X8_takesWord_r1012_96 E d hd a0 b0 hv0 y2 a hv hf (show 5 ≤ y2 from by omega) (show y2 ≤ 200 from by omega) (show 5 ≤ a 2 1 from by omega) (show a 2 2 = a0 2 2 from by omega) (show y2 = (a 2 2) + 5 from by omega) (show y2 ≤ a 2 1 from by omega) (show y2 ≤ 200 from by omega) (show a0 2 3 = 0 from by omega) (show a0 2 2 < a0 2 1 from by omega)
        ·
          exact cp_X8_takesWord_r1012_83 E d hd a0 b0 hv0 y2 a hv hf (show 5 ≤ y2 from by omega) (show y2 ≤ 199 from by omega) (show 6 ≤ a 2 1 from by omega) (show a 2 2 = a0 2 2 from by omega) (show y2 = (a 2 2) + 5 from by omega) (show y2 ≤ a 2 1 from by omega) (show y2 ≤ 200 from by omega) (show a0 2 3 = 0 from by omega) (show a0 2 2 < a0 2 1 from by omega)
      ·
        exact cp_X8_takesWord_r1012_96 E d hd a0 b0 hv0 y2 a hv hf (show 5 ≤ y2 from by omega) (show y2 ≤ 200 from by omega) (show 5 ≤ a 2 1 from by omega) (show a 2 2 = a0 2 2 from by omega) (show y2 = (a 2 2) + 5 from by omega) (show y2 ≤ a 2 1 from by omega) (show y2 ≤ 200 from by omega) (show a0 2 3 = 0 from by omega) (show a0 2 2 < a0 2 1 from by omega)
  exact ⟨hc58, hc29⟩
theorem sp_X8_takesWord_r1012 (E : jxE) (d : Nat) (hd : Nat.ble 5 d = true) (a0 b0 : Nat → Nat → Int) (hv0 : iv a0) : jt (jxC E d 128 [.inr (.inr (.inl 2)), .inr (.inr (.inl 1012))] (jxSH, a0, b0)) (jQ_X8_takesWord_r1012 a0 b0) := by
  obtain ⟨d, rfl⟩ := jd_succ hd
  refine jt_eq (bq_X8_takesWord_r1012 E d a0 b0) ?_
  refine jt_eI (eq_J0_length_8abf5_r1012 E d (jd_le hd rfl) a0 b0) ?_
  refine jt_eI (eq_X8_isFaulty E d (jd_le hd rfl) a0 b0) ?_
  have h877_ := f_X8_isFaulty_eq a0 b0
  refine jt_ite (fun c878_ => ?_) (fun c878_ => ?_)
  ·
    have h879_ := iv_get hv0 (k := 2) (j := 1) (l := 0) (u := 200) rfl
    have h880_ := iv_get hv0 (k := 2) (j := 2) (l := 0) (u := 200) rfl
    have h881_ := ff_J0_length_8abf5_r1012 a0 b0
    have h882_ : jxw ((a0 2 2) + (f_J0_length_8abf5_r1012 a0 b0)) = (a0 2 2) + (f_J0_length_8abf5_r1012 a0 b0) := jxw_id (by omega) (by omega)
    refine jt_ite (fun c883_ => ?_) (fun c883_ => ?_)
    ·
      exact jt_rI ⟨hv0, (jfr_rf _ _), rfl, (show (0 ≤ 0 ∧ 0 ≤ 1) from by omega), (show ((¬ a0 2 3 = 0 ∨ a0 2 1 ≤ a0 2 2) → 0 = 0) from by omega), (show (0 = 0 → a0 2 2 = a0 2 2) from by omega)⟩
    ·
      exact (cp_X8_takesWord_r1012_29 E d hd a0 b0 hv0 _).2 (jxw ((a0 2 2) + (f_J0_length_8abf5_r1012 a0 b0))) 0 a0 (Nat.le_refl _) hv0 (jfr_rf _ _) (show 5 ≤ jxw ((a0 2 2) + (f_J0_length_8abf5_r1012 a0 b0)) from by omega) (show jxw ((a0 2 2) + (f_J0_length_8abf5_r1012 a0 b0)) ≤ 200 from by omega) (show 0 ≤ 0 from by omega) (show 0 ≤ 5 from by omega) (show 5 ≤ a0 2 1 from by omega) (show 0 ≤ 0 from by omega) (show a0 2 2 = a0 2 2 from by omega) (show jxw ((a0 2 2) + (f_J0_length_8abf5_r1012 a0 b0)) = (a0 2 2) + 5 from by omega) (show jxw ((a0 2 2) + (f_J0_length_8abf5_r1012 a0 b0)) ≤ a0 2 1 from by omega) (show jxw ((a0 2 2) + (f_J0_length_8abf5_r1012 a0 b0)) ≤ 200 from by omega) (show a0 2 3 = 0 from by omega) (show a0 2 2 < a0 2 1 from by omega)
  ·
    have h884_ := iv_get hv0 (k := 2) (j := 1) (l := 0) (u := 200) rfl
    have h885_ := iv_get hv0 (k := 2) (j := 2) (l := 0) (u := 200) rfl
    exact jt_rI ⟨hv0, (jfr_rf _ _), rfl, (show (0 ≤ 0 ∧ 0 ≤ 1) from by omega), (show ((¬ a0 2 3 = 0 ∨ a0 2 1 ≤ a0 2 2) → 0 = 0) from by omega), (show (0 = 0 → a0 2 2 = a0 2 2) from by omega)⟩
def jW_X8_takesWord_r1013 : List (Nat × Nat) := [(2, 2)]
abbrev jQ_X8_takesWord_r1013 (a0 b0 : Nat → Nat → Int) : List jxV → (Nat → Nat → Int) → (Nat → Nat → Int) → Prop := rI (fun r a b => (iv a) ∧ (jfr jW_X8_takesWord_r1013 a0 a) ∧ (b0 = b) ∧ ((0 ≤ r ∧ r ≤ 1)) ∧ (((¬ a0 2 3 = 0 ∨ a0 2 1 ≤ a0 2 2) → r = 0)) ∧ ((r = 0 → a 2 2 = a0 2 2)))
theorem cp_X8_takesWord_r1013_56 (E : jxE) (d : Nat) (hd : Nat.ble 5 (d + 1) = true) (a0 b0 : Nat → Nat → Int) (hv0 : iv a0) : ∀ (a : Nat → Nat → Int), iv a → jfr jW_X8_takesWord_r1013 a0 a → 4 ≤ a 2 1 → a 2 2 = a0 2 2 → a0 2 3 = 0 → a0 2 2 < a0 2 1 → jt (jxX E d 128 56 [none, none, none, none] [] (jxSH, a, b0)) (jQ_X8_takesWord_r1013 a0 b0) := by
  intro a hv hf hi0 hi1 hi2 hi3
  refine jt_eq (bq_X8_takesWord_r1013_56 E d a b0) ?_
  have h886_ := iv_get hv (k := 2) (j := 1) (l := 0) (u := 200) rfl
  have h887_ : a 2 1 = a0 2 1 := hf 2 1 rfl
  have h888_ := iv_get hv0 (k := 2) (j := 1) (l := 0) (u := 200) rfl
  have h889_ := iv_get hv (k := 2) (j := 2) (l := 0) (u := 200) rfl
  have h890_ := iv_get hv0 (k := 2) (j := 2) (l := 0) (u := 200) rfl
  exact jt_rI ⟨hv, hf, rfl, (show (0 ≤ 0 ∧ 0 ≤ 1) from by omega), (show ((¬ a0 2 3 = 0 ∨ a0 2 1 ≤ a0 2 2) → 0 = 0) from by omega), (show (0 = 0 → a 2 2 = a0 2 2) from by omega)⟩
theorem cp_X8_takesWord_r1013_96 (E : jxE) (d : Nat) (hd : Nat.ble 5 (d + 1) = true) (a0 b0 : Nat → Nat → Int) (hv0 : iv a0) : ∀ (y2 : Int) (a : Nat → Nat → Int), iv a → jfr jW_X8_takesWord_r1013 a0 a → 4 ≤ y2 → y2 ≤ 200 → 4 ≤ a 2 1 → a 2 2 = a0 2 2 → y2 = (a 2 2) + 4 → y2 ≤ a 2 1 → y2 ≤ 200 → a0 2 3 = 0 → a0 2 2 < a0 2 1 → jt (jxX E d 128 96 [some (.inr (.inr (.inl 2))), none, some (.inl y2), none] [] (jxSH, a, b0)) (jQ_X8_takesWord_r1013 a0 b0) := by
  intro y2 a hv hf hi0 hi1 hi2 hi3 hi4 hi5 hi6 hi7 hi8
  refine jt_eq (bq_X8_takesWord_r1013_96 E d y2 a b0) ?_
  have h891_ := iv_get hv (k := 2) (j := 1) (l := 0) (u := 200) rfl
  have h892_ : a 2 1 = a0 2 1 := hf 2 1 rfl
  have h893_ := iv_get hv0 (k := 2) (j := 1) (l := 0) (u := 200) rfl
  have h894_ := iv_get hv (k := 2) (j := 2) (l := 0) (u := 200) rfl
  have h895_ := iv_get hv0 (k := 2) (j := 2) (l := 0) (u := 200) rfl
  have hv896_ : iv (jxu a 2 2 y2) := iv_put hv (l := 0) (u := 200) rfl (by omega) (by omega)
  refine jt_bV (sp_X8_skipBlanks E d (jd_le hd rfl) (jxu a 2 2 y2) b0 hv896_) (fun a897_ b897_ h897_ => ?_)
  obtain ⟨hv897_, hf897_, rfl, hq897_0⟩ := h897_
  have h898_ := iv_get hv897_ (k := 2) (j := 2) (l := 0) (u := 200) rfl
  have h899_ : (a 2 1 ≤ y2 → a897_ 2 2 = y2) := hq897_0
  have hf900_ : jfr jW_X8_takesWord_r1013 a0 (jxu a 2 2 y2) := jfr_put hf rfl
  have hf901_ : jfr jW_X8_takesWord_r1013 a0 a897_ := jfr_tr hf900_ hf897_ rfl
  exact jt_rI ⟨hv897_, hf901_, rfl, (show (0 ≤ 1 ∧ 1 ≤ 1) from by omega), (show ((¬ a0 2 3 = 0 ∨ a0 2 1 ≤ a0 2 2) → 1 = 0) from by omega), (show (1 = 0 → a897_ 2 2 = a0 2 2) from by omega)⟩
theorem cp_X8_takesWord_r1013_83 (E : jxE) (d : Nat) (hd : Nat.ble 5 (d + 1) = true) (a0 b0 : Nat → Nat → Int) (hv0 : iv a0) : ∀ (y2 : Int) (a : Nat → Nat → Int), iv a → jfr jW_X8_takesWord_r1013 a0 a → 4 ≤ y2 → y2 ≤ 199 → 5 ≤ a 2 1 → a 2 2 = a0 2 2 → y2 = (a 2 2) + 4 → y2 ≤ a 2 1 → y2 ≤ 200 → a0 2 3 = 0 → a0 2 2 < a0 2 1 → jt (jxX E d 128 83 [some (.inr (.inr (.inl 2))), none, some (.inl y2), none] [] (jxSH, a, b0)) (jQ_X8_takesWord_r1013 a0 b0) := by
  intro y2 a hv hf hi0 hi1 hi2 hi3 hi4 hi5 hi6 hi7 hi8
  refine jt_eq (bq_X8_takesWord_r1013_83 E d y2 a b0) ?_
  have h902_ := iv_get hv (k := 2) (j := 1) (l := 0) (u := 200) rfl
  have h903_ : a 2 1 = a0 2 1 := hf 2 1 rfl
  have h904_ := iv_get hv0 (k := 2) (j := 1) (l := 0) (u := 200) rfl
  have h905_ := iv_get hv (k := 2) (j := 2) (l := 0) (u := 200) rfl
  have h906_ := iv_get hv0 (k := 2) (j := 2) (l := 0) (u := 200) rfl
  refine jt_grd (by omega) ?_
  have h907_ := iv_get hv (k := 3) (j := y2.toNat) (l := 0) (u := 255) rfl
  have h908_ : a 3 (y2.toNat) = a0 3 (y2.toNat) := hf 3 (y2.toNat) rfl
  have h909_ := iv_get hv0 (k := 3) (j := y2.toNat) (l := 0) (u := 255) rfl
  refine jt_ite (fun c910_ => ?_) (fun c910_ => ?_)
  ·
    exact cp_X8_takesWord_r1013_96 E d hd a0 b0 hv0 y2 a hv hf (show 4 ≤ y2 from by omega) (show y2 ≤ 200 from by omega) (show 4 ≤ a 2 1 from by omega) (show a 2 2 = a0 2 2 from by omega) (show y2 = (a 2 2) + 4 from by omega) (show y2 ≤ a 2 1 from by omega) (show y2 ≤ 200 from by omega) (show a0 2 3 = 0 from by omega) (show a0 2 2 < a0 2 1 from by omega)
  ·
    exact jt_rI ⟨hv, hf, rfl, (show (0 ≤ 0 ∧ 0 ≤ 1) from by omega), (show ((¬ a0 2 3 = 0 ∨ a0 2 1 ≤ a0 2 2) → 0 = 0) from by omega), (show (0 = 0 → a 2 2 = a0 2 2) from by omega)⟩
theorem cp_X8_takesWord_r1013_29 (E : jxE) (d : Nat) (hd : Nat.ble 5 (d + 1) = true) (a0 b0 : Nat → Nat → Int) (hv0 : iv a0) : ∀ n : Nat, (∀ (y2 y3 : Int) (a : Nat → Nat → Int), (((4 - y3) * 1) + 0).toNat ≤ n → iv a → jfr jW_X8_takesWord_r1013 a0 a → 4 ≤ y2 → y2 ≤ 200 → 0 ≤ y3 → y3 ≤ 3 → 4 ≤ a 2 1 → y3 < 4 → 0 ≤ y3 → a 2 2 = a0 2 2 → y2 = (a 2 2) + 4 → y2 ≤ a 2 1 → y2 ≤ 200 → a0 2 3 = 0 → a0 2 2 < a0 2 1 → jt (jxX E d 128 58 [some (.inr (.inr (.inl 2))), some (.inr (.inr (.inl 1013))), some (.inl y2), some (.inl y3)] [] (jxSH, a, b0)) (jQ_X8_takesWord_r1013 a0 b0)) ∧ (∀ (y2 y3 : Int) (a : Nat → Nat → Int), (((4 - y3) * 1) + 0).toNat ≤ n → iv a → jfr jW_X8_takesWord_r1013 a0 a → 4 ≤ y2 → y2 ≤ 200 → 0 ≤ y3 → y3 ≤ 4 → 4 ≤ a 2 1 → 0 ≤ y3 → a 2 2 = a0 2 2 → y2 = (a 2 2) + 4 → y2 ≤ a 2 1 → y2 ≤ 200 → a0 2 3 = 0 → a0 2 2 < a0 2 1 → jt (jxX E d 128 29 [some (.inr (.inr (.inl 2))), some (.inr (.inr (.inl 1013))), some (.inl y2), some (.inl y3)] [] (jxSH, a, b0)) (jQ_X8_takesWord_r1013 a0 b0)) := by
  refine jx_ind fun n ih => ?_
  have ih58 : ∀ (y2 y3 : Int) (a : Nat → Nat → Int), (((4 - y3) * 1) + 0).toNat < n → iv a → jfr jW_X8_takesWord_r1013 a0 a → 4 ≤ y2 → y2 ≤ 200 → 0 ≤ y3 → y3 ≤ 3 → 4 ≤ a 2 1 → y3 < 4 → 0 ≤ y3 → a 2 2 = a0 2 2 → y2 = (a 2 2) + 4 → y2 ≤ a 2 1 → y2 ≤ 200 → a0 2 3 = 0 → a0 2 2 < a0 2 1 → jt (jxX E d 128 58 [some (.inr (.inr (.inl 2))), some (.inr (.inr (.inl 1013))), some (.inl y2), some (.inl y3)] [] (jxSH, a, b0)) (jQ_X8_takesWord_r1013 a0 b0) := fun y2 y3 a hlt i0 i1 i2 i3 i4 i5 i6 i7 i8 i9 i10 i11 i12 i13 i14 => (ih _ hlt).1 y2 y3 a (Nat.le_refl _) i0 i1 i2 i3 i4 i5 i6 i7 i8 i9 i10 i11 i12 i13 i14
  have ih29 : ∀ (y2 y3 : Int) (a : Nat → Nat → Int), (((4 - y3) * 1) + 0).toNat < n → iv a → jfr jW_X8_takesWord_r1013 a0 a → 4 ≤ y2 → y2 ≤ 200 → 0 ≤ y3 → y3 ≤ 4 → 4 ≤ a 2 1 → 0 ≤ y3 → a 2 2 = a0 2 2 → y2 = (a 2 2) + 4 → y2 ≤ a 2 1 → y2 ≤ 200 → a0 2 3 = 0 → a0 2 2 < a0 2 1 → jt (jxX E d 128 29 [some (.inr (.inr (.inl 2))), some (.inr (.inr (.inl 1013))), some (.inl y2), some (.inl y3)] [] (jxSH, a, b0)) (jQ_X8_takesWord_r1013 a0 b0) := fun y2 y3 a hlt i0 i1 i2 i3 i4 i5 i6 i7 i8 i9 i10 i11 i12 i13 => (ih _ hlt).2 y2 y3 a (Nat.le_refl _) i0 i1 i2 i3 i4 i5 i6 i7 i8 i9 i10 i11 i12 i13
  have hc58 : ∀ (y2 y3 : Int) (a : Nat → Nat → Int), (((4 - y3) * 1) + 0).toNat ≤ n → iv a → jfr jW_X8_takesWord_r1013 a0 a → 4 ≤ y2 → y2 ≤ 200 → 0 ≤ y3 → y3 ≤ 3 → 4 ≤ a 2 1 → y3 < 4 → 0 ≤ y3 → a 2 2 = a0 2 2 → y2 = (a 2 2) + 4 → y2 ≤ a 2 1 → y2 ≤ 200 → a0 2 3 = 0 → a0 2 2 < a0 2 1 → jt (jxX E d 128 58 [some (.inr (.inr (.inl 2))), some (.inr (.inr (.inl 1013))), some (.inl y2), some (.inl y3)] [] (jxSH, a, b0)) (jQ_X8_takesWord_r1013 a0 b0) := by
    intro y2 y3 a hm hv hf hi0 hi1 hi2 hi3 hi4 hi5 hi6 hi7 hi8 hi9 hi10 hi11 hi12
    refine jt_eq (bq_X8_takesWord_r1013_58 E d y2 y3 a b0) ?_
    have h911_ := iv_get hv (k := 2) (j := 1) (l := 0) (u := 200) rfl
    have h912_ : a 2 1 = a0 2 1 := hf 2 1 rfl
    have h913_ := iv_get hv0 (k := 2) (j := 1) (l := 0) (u := 200) rfl
    have h914_ := iv_get hv (k := 2) (j := 2) (l := 0) (u := 200) rfl
    have h915_ := iv_get hv0 (k := 2) (j := 2) (l := 0) (u := 200) rfl
    have h916_ : jxw (y3 + 1) = y3 + 1 := jxw_id (by omega) (by omega)
    exact ih29 y2 (jxw (y3 + 1)) a (show (((4 - (jxw (y3 + 1))) * 1) + 0).toNat < n from by omega) hv hf (show 4 ≤ y2 from by omega) (show y2 ≤ 200 from by omega) (show 0 ≤ jxw (y3 + 1) from by omega) (show jxw (y3 + 1) ≤ 4 from by omega) (show 4 ≤ a 2 1 from by omega) (show 0 ≤ jxw (y3 + 1) from by omega) (show a 2 2 = a0 2 2 from by omega) (show y2 = (a 2 2) + 4 from by omega) (show y2 ≤ a 2 1 from by omega) (show y2 ≤ 200 from by omega) (show a0 2 3 = 0 from by omega) (show a0 2 2 < a0 2 1 from by omega)
  have hc29 : ∀ (y2 y3 : Int) (a : Nat → Nat → Int), (((4 - y3) * 1) + 0).toNat ≤ n → iv a → jfr jW_X8_takesWord_r1013 a0 a → 4 ≤ y2 → y2 ≤ 200 → 0 ≤ y3 → y3 ≤ 4 → 4 ≤ a 2 1 → 0 ≤ y3 → a 2 2 = a0 2 2 → y2 = (a 2 2) + 4 → y2 ≤ a 2 1 → y2 ≤ 200 → a0 2 3 = 0 → a0 2 2 < a0 2 1 → jt (jxX E d 128 29 [some (.inr (.inr (.inl 2))), some (.inr (.inr (.inl 1013))), some (.inl y2), some (.inl y3)] [] (jxSH, a, b0)) (jQ_X8_takesWord_r1013 a0 b0) := by
    intro y2 y3 a hm hv hf hi0 hi1 hi2 hi3 hi4 hi5 hi6 hi7 hi8 hi9 hi10 hi11
    refine jt_eq (bq_X8_takesWord_r1013_29 E d y2 y3 a b0) ?_
    have h917_ := iv_get hv (k := 2) (j := 1) (l := 0) (u := 200) rfl
    have h918_ : a 2 1 = a0 2 1 := hf 2 1 rfl
    have h919_ := iv_get hv0 (k := 2) (j := 1) (l := 0) (u := 200) rfl
    have h920_ := iv_get hv (k := 2) (j := 2) (l := 0) (u := 200) rfl
    have h921_ := iv_get hv0 (k := 2) (j := 2) (l := 0) (u := 200) rfl
    refine jt_eI (eq_J0_length_8abf5_r1013 E d (jd_le hd rfl) a b0) ?_
    have h922_ := ff_J0_length_8abf5_r1013 a b0
    refine jt_ite (fun c923_ => ?_) (fun c923_ => ?_)
    ·
      have h924_ : jxw ((a 2 2) + y3) = (a 2 2) + y3 := jxw_id (by omega) (by omega)
      refine jt_grd (by omega) ?_
      refine jt_eI (eq_J0_charAt_5068e_r1013 E d (jd_le hd rfl) y3 a b0 (show (0 ≤ y3 ∧ y3 < 4) from by omega)) ?_
      have h925_ := iv_get hv (k := 3) (j := (jxw ((a 2 2) + y3)).toNat) (l := 0) (u := 255) rfl
      have h926_ : a 3 ((jxw ((a 2 2) + y3)).toNat) = a0 3 ((jxw ((a 2 2) + y3)).toNat) := hf 3 ((jxw ((a 2 2) + y3)).toNat) rfl
      have h927_ := iv_get hv0 (k := 3) (j := (jxw ((a 2 2) + y3)).toNat) (l := 0) (u := 255) rfl
      have h928_ := f_J0_charAt_5068e_r1013_eq a b0 y3
      have h929_ := f_J0_isLatin1_aae02_r1013_eq a b0
      have h930_ := f_J1_charAt_3b067_r2013_eq a b0 y3
      have h931_ := jxand_r (([108, 111, 115, 116] : List Int).getD (y3.toNat) 0) 255 (by decide) (by decide)
      have h932_ := jxi2c_b (jxand (([108, 111, 115, 116] : List Int).getD (y3.toNat) 0) 255)
      refine jt_ite (fun c933_ => ?_) (fun c933_ => ?_)
      ·
        exact hc58 y2 y3 a (show (((4 - y3) * 1) + 0).toNat ≤ n from by omega) hv hf (show 4 ≤ y2 from by omega) (show y2 ≤ 200 from by omega) (show 0 ≤ y3 from by omega) (show y3 ≤ 3 from by omega) (show 4 ≤ a 2 1 from by omega) (show y3 < 4 from by omega) (show 0 ≤ y3 from by omega) (show a 2 2 = a0 2 2 from by omega) (show y2 = (a 2 2) + 4 from by omega) (show y2 ≤ a 2 1 from by omega) (show y2 ≤ 200 from by omega) (show a0 2 3 = 0 from by omega) (show a0 2 2 < a0 2 1 from by omega)
      ·
        exact cp_X8_takesWord_r1013_56 E d hd a0 b0 hv0 a hv hf (show 4 ≤ a 2 1 from by omega) (show a 2 2 = a0 2 2 from by omega) (show a0 2 3 = 0 from by omega) (show a0 2 2 < a0 2 1 from by omega)
    ·
      refine jt_ite (fun c934_ => ?_) (fun c934_ => ?_)
      ·
        refine jt_grd (by omega) ?_
        have h935_ := iv_get hv (k := 3) (j := y2.toNat) (l := 0) (u := 255) rfl
        have h936_ : a 3 (y2.toNat) = a0 3 (y2.toNat) := hf 3 (y2.toNat) rfl
        have h937_ := iv_get hv0 (k := 3) (j := y2.toNat) (l := 0) (u := 255) rfl
        refine jt_ite (fun c938_ => ?_) (fun c938_ => ?_)
        ·
          exact cp_X8_takesWord_r1013_96 E d hd a0 b0 hv0 y2 a hv hf (show 4 ≤ y2 from by omega) (show y2 ≤ 200 from by omega) (show 4 ≤ a 2 1 from by omega) (show a 2 2 = a0 2 2 from by omega) (show y2 = (a 2 2) + 4 from by omega) (show y2 ≤ a 2 1 from by omega) (show y2 ≤ 200 from by omega) (show a0 2 3 = 0 from by omega) (show a0 2 2 < a0 2 1 from by omega)
        ·
          exact cp_X8_takesWord_r1013_83 E d hd a0 b0 hv0 y2 a hv hf (show 4 ≤ y2 from by omega) (show y2 ≤ 199 from by omega) (show 5 ≤ a 2 1 from by omega) (show a 2 2 = a0 2 2 from by omega) (show y2 = (a 2 2) + 4 from by omega) (show y2 ≤ a 2 1 from by omega) (show y2 ≤ 200 from by omega) (show a0 2 3 = 0 from by omega) (show a0 2 2 < a0 2 1 from by omega)
      ·
        exact cp_X8_takesWord_r1013_96 E d hd a0 b0 hv0 y2 a hv hf (show 4 ≤ y2 from by omega) (show y2 ≤ 200 from by omega) (show 4 ≤ a 2 1 from by omega) (show a 2 2 = a0 2 2 from by omega) (show y2 = (a 2 2) + 4 from by omega) (show y2 ≤ a 2 1 from by omega) (show y2 ≤ 200 from by omega) (show a0 2 3 = 0 from by omega) (show a0 2 2 < a0 2 1 from by omega)
  exact ⟨hc58, hc29⟩
theorem sp_X8_takesWord_r1013 (E : jxE) (d : Nat) (hd : Nat.ble 5 d = true) (a0 b0 : Nat → Nat → Int) (hv0 : iv a0) : jt (jxC E d 128 [.inr (.inr (.inl 2)), .inr (.inr (.inl 1013))] (jxSH, a0, b0)) (jQ_X8_takesWord_r1013 a0 b0) := by
  obtain ⟨d, rfl⟩ := jd_succ hd
  refine jt_eq (bq_X8_takesWord_r1013 E d a0 b0) ?_
  refine jt_eI (eq_J0_length_8abf5_r1013 E d (jd_le hd rfl) a0 b0) ?_
  refine jt_eI (eq_X8_isFaulty E d (jd_le hd rfl) a0 b0) ?_
  have h939_ := f_X8_isFaulty_eq a0 b0
  refine jt_ite (fun c940_ => ?_) (fun c940_ => ?_)
  ·
    have h941_ := iv_get hv0 (k := 2) (j := 1) (l := 0) (u := 200) rfl
    have h942_ := iv_get hv0 (k := 2) (j := 2) (l := 0) (u := 200) rfl
    have h943_ := ff_J0_length_8abf5_r1013 a0 b0
    have h944_ : jxw ((a0 2 2) + (f_J0_length_8abf5_r1013 a0 b0)) = (a0 2 2) + (f_J0_length_8abf5_r1013 a0 b0) := jxw_id (by omega) (by omega)
    refine jt_ite (fun c945_ => ?_) (fun c945_ => ?_)
    ·
      exact jt_rI ⟨hv0, (jfr_rf _ _), rfl, (show (0 ≤ 0 ∧ 0 ≤ 1) from by omega), (show ((¬ a0 2 3 = 0 ∨ a0 2 1 ≤ a0 2 2) → 0 = 0) from by omega), (show (0 = 0 → a0 2 2 = a0 2 2) from by omega)⟩
    ·
      exact (cp_X8_takesWord_r1013_29 E d hd a0 b0 hv0 _).2 (jxw ((a0 2 2) + (f_J0_length_8abf5_r1013 a0 b0))) 0 a0 (Nat.le_refl _) hv0 (jfr_rf _ _) (show 4 ≤ jxw ((a0 2 2) + (f_J0_length_8abf5_r1013 a0 b0)) from by omega) (show jxw ((a0 2 2) + (f_J0_length_8abf5_r1013 a0 b0)) ≤ 200 from by omega) (show 0 ≤ 0 from by omega) (show 0 ≤ 4 from by omega) (show 4 ≤ a0 2 1 from by omega) (show 0 ≤ 0 from by omega) (show a0 2 2 = a0 2 2 from by omega) (show jxw ((a0 2 2) + (f_J0_length_8abf5_r1013 a0 b0)) = (a0 2 2) + 4 from by omega) (show jxw ((a0 2 2) + (f_J0_length_8abf5_r1013 a0 b0)) ≤ a0 2 1 from by omega) (show jxw ((a0 2 2) + (f_J0_length_8abf5_r1013 a0 b0)) ≤ 200 from by omega) (show a0 2 3 = 0 from by omega) (show a0 2 2 < a0 2 1 from by omega)
  ·
    have h946_ := iv_get hv0 (k := 2) (j := 1) (l := 0) (u := 200) rfl
    have h947_ := iv_get hv0 (k := 2) (j := 2) (l := 0) (u := 200) rfl
    exact jt_rI ⟨hv0, (jfr_rf _ _), rfl, (show (0 ≤ 0 ∧ 0 ≤ 1) from by omega), (show ((¬ a0 2 3 = 0 ∨ a0 2 1 ≤ a0 2 2) → 0 = 0) from by omega), (show (0 = 0 → a0 2 2 = a0 2 2) from by omega)⟩
def jW_X8_takesWord_r1014 : List (Nat × Nat) := [(2, 2)]
abbrev jQ_X8_takesWord_r1014 (a0 b0 : Nat → Nat → Int) : List jxV → (Nat → Nat → Int) → (Nat → Nat → Int) → Prop := rI (fun r a b => (iv a) ∧ (jfr jW_X8_takesWord_r1014 a0 a) ∧ (b0 = b) ∧ ((0 ≤ r ∧ r ≤ 1)) ∧ (((¬ a0 2 3 = 0 ∨ a0 2 1 ≤ a0 2 2) → r = 0)) ∧ ((r = 0 → a 2 2 = a0 2 2)))
theorem cp_X8_takesWord_r1014_56 (E : jxE) (d : Nat) (hd : Nat.ble 5 (d + 1) = true) (a0 b0 : Nat → Nat → Int) (hv0 : iv a0) : ∀ (a : Nat → Nat → Int), iv a → jfr jW_X8_takesWord_r1014 a0 a → 6 ≤ a 2 1 → a 2 2 = a0 2 2 → a0 2 3 = 0 → a0 2 2 < a0 2 1 → jt (jxX E d 128 56 [none, none, none, none] [] (jxSH, a, b0)) (jQ_X8_takesWord_r1014 a0 b0) := by
  intro a hv hf hi0 hi1 hi2 hi3
  refine jt_eq (bq_X8_takesWord_r1014_56 E d a b0) ?_
  have h948_ := iv_get hv (k := 2) (j := 1) (l := 0) (u := 200) rfl
  have h949_ : a 2 1 = a0 2 1 := hf 2 1 rfl
  have h950_ := iv_get hv0 (k := 2) (j := 1) (l := 0) (u := 200) rfl
  have h951_ := iv_get hv (k := 2) (j := 2) (l := 0) (u := 200) rfl
  have h952_ := iv_get hv0 (k := 2) (j := 2) (l := 0) (u := 200) rfl
  exact jt_rI ⟨hv, hf, rfl, (show (0 ≤ 0 ∧ 0 ≤ 1) from by omega), (show ((¬ a0 2 3 = 0 ∨ a0 2 1 ≤ a0 2 2) → 0 = 0) from by omega), (show (0 = 0 → a 2 2 = a0 2 2) from by omega)⟩
theorem cp_X8_takesWord_r1014_96 (E : jxE) (d : Nat) (hd : Nat.ble 5 (d + 1) = true) (a0 b0 : Nat → Nat → Int) (hv0 : iv a0) : ∀ (y2 : Int) (a : Nat → Nat → Int), iv a → jfr jW_X8_takesWord_r1014 a0 a → 6 ≤ y2 → y2 ≤ 200 → 6 ≤ a 2 1 → a 2 2 = a0 2 2 → y2 = (a 2 2) + 6 → y2 ≤ a 2 1 → y2 ≤ 200 → a0 2 3 = 0 → a0 2 2 < a0 2 1 → jt (jxX E d 128 96 [some (.inr (.inr (.inl 2))), none, some (.inl y2), none] [] (jxSH, a, b0)) (jQ_X8_takesWord_r1014 a0 b0) := by
  intro y2 a hv hf hi0 hi1 hi2 hi3 hi4 hi5 hi6 hi7 hi8
  refine jt_eq (bq_X8_takesWord_r1014_96 E d y2 a b0) ?_
  have h953_ := iv_get hv (k := 2) (j := 1) (l := 0) (u := 200) rfl
  have h954_ : a 2 1 = a0 2 1 := hf 2 1 rfl
  have h955_ := iv_get hv0 (k := 2) (j := 1) (l := 0) (u := 200) rfl
  have h956_ := iv_get hv (k := 2) (j := 2) (l := 0) (u := 200) rfl
  have h957_ := iv_get hv0 (k := 2) (j := 2) (l := 0) (u := 200) rfl
  have hv958_ : iv (jxu a 2 2 y2) := iv_put hv (l := 0) (u := 200) rfl (by omega) (by omega)
  refine jt_bV (sp_X8_skipBlanks E d (jd_le hd rfl) (jxu a 2 2 y2) b0 hv958_) (fun a959_ b959_ h959_ => ?_)
  obtain ⟨hv959_, hf959_, rfl, hq959_0⟩ := h959_
  have h960_ := iv_get hv959_ (k := 2) (j := 2) (l := 0) (u := 200) rfl
  have h961_ : (a 2 1 ≤ y2 → a959_ 2 2 = y2) := hq959_0
  have hf962_ : jfr jW_X8_takesWord_r1014 a0 (jxu a 2 2 y2) := jfr_put hf rfl
  have hf963_ : jfr jW_X8_takesWord_r1014 a0 a959_ := jfr_tr hf962_ hf959_ rfl
  exact jt_rI ⟨hv959_, hf963_, rfl, (show (0 ≤ 1 ∧ 1 ≤ 1) from by omega), (show ((¬ a0 2 3 = 0 ∨ a0 2 1 ≤ a0 2 2) → 1 = 0) from by omega), (show (1 = 0 → a959_ 2 2 = a0 2 2) from by omega)⟩
theorem cp_X8_takesWord_r1014_83 (E : jxE) (d : Nat) (hd : Nat.ble 5 (d + 1) = true) (a0 b0 : Nat → Nat → Int) (hv0 : iv a0) : ∀ (y2 : Int) (a : Nat → Nat → Int), iv a → jfr jW_X8_takesWord_r1014 a0 a → 6 ≤ y2 → y2 ≤ 199 → 7 ≤ a 2 1 → a 2 2 = a0 2 2 → y2 = (a 2 2) + 6 → y2 ≤ a 2 1 → y2 ≤ 200 → a0 2 3 = 0 → a0 2 2 < a0 2 1 → jt (jxX E d 128 83 [some (.inr (.inr (.inl 2))), none, some (.inl y2), none] [] (jxSH, a, b0)) (jQ_X8_takesWord_r1014 a0 b0) := by
  intro y2 a hv hf hi0 hi1 hi2 hi3 hi4 hi5 hi6 hi7 hi8
  refine jt_eq (bq_X8_takesWord_r1014_83 E d y2 a b0) ?_
  have h964_ := iv_get hv (k := 2) (j := 1) (l := 0) (u := 200) rfl
  have h965_ : a 2 1 = a0 2 1 := hf 2 1 rfl
  have h966_ := iv_get hv0 (k := 2) (j := 1) (l := 0) (u := 200) rfl
  have h967_ := iv_get hv (k := 2) (j := 2) (l := 0) (u := 200) rfl
  have h968_ := iv_get hv0 (k := 2) (j := 2) (l := 0) (u := 200) rfl
  refine jt_grd (by omega) ?_
  have h969_ := iv_get hv (k := 3) (j := y2.toNat) (l := 0) (u := 255) rfl
  have h970_ : a 3 (y2.toNat) = a0 3 (y2.toNat) := hf 3 (y2.toNat) rfl
  have h971_ := iv_get hv0 (k := 3) (j := y2.toNat) (l := 0) (u := 255) rfl
  refine jt_ite (fun c972_ => ?_) (fun c972_ => ?_)
  ·
    exact cp_X8_takesWord_r1014_96 E d hd a0 b0 hv0 y2 a hv hf (show 6 ≤ y2 from by omega) (show y2 ≤ 200 from by omega) (show 6 ≤ a 2 1 from by omega) (show a 2 2 = a0 2 2 from by omega) (show y2 = (a 2 2) + 6 from by omega) (show y2 ≤ a 2 1 from by omega) (show y2 ≤ 200 from by omega) (show a0 2 3 = 0 from by omega) (show a0 2 2 < a0 2 1 from by omega)
  ·
    exact jt_rI ⟨hv, hf, rfl, (show (0 ≤ 0 ∧ 0 ≤ 1) from by omega), (show ((¬ a0 2 3 = 0 ∨ a0 2 1 ≤ a0 2 2) → 0 = 0) from by omega), (show (0 = 0 → a 2 2 = a0 2 2) from by omega)⟩
theorem cp_X8_takesWord_r1014_29 (E : jxE) (d : Nat) (hd : Nat.ble 5 (d + 1) = true) (a0 b0 : Nat → Nat → Int) (hv0 : iv a0) : ∀ n : Nat, (∀ (y2 y3 : Int) (a : Nat → Nat → Int), (((6 - y3) * 1) + 0).toNat ≤ n → iv a → jfr jW_X8_takesWord_r1014 a0 a → 6 ≤ y2 → y2 ≤ 200 → 0 ≤ y3 → y3 ≤ 5 → 6 ≤ a 2 1 → y3 < 6 → 0 ≤ y3 → a 2 2 = a0 2 2 → y2 = (a 2 2) + 6 → y2 ≤ a 2 1 → y2 ≤ 200 → a0 2 3 = 0 → a0 2 2 < a0 2 1 → jt (jxX E d 128 58 [some (.inr (.inr (.inl 2))), some (.inr (.inr (.inl 1014))), some (.inl y2), some (.inl y3)] [] (jxSH, a, b0)) (jQ_X8_takesWord_r1014 a0 b0)) ∧ (∀ (y2 y3 : Int) (a : Nat → Nat → Int), (((6 - y3) * 1) + 0).toNat ≤ n → iv a → jfr jW_X8_takesWord_r1014 a0 a → 6 ≤ y2 → y2 ≤ 200 → 0 ≤ y3 → y3 ≤ 6 → 6 ≤ a 2 1 → 0 ≤ y3 → a 2 2 = a0 2 2 → y2 = (a 2 2) + 6 → y2 ≤ a 2 1 → y2 ≤ 200 → a0 2 3 = 0 → a0 2 2 < a0 2 1 → jt (jxX E d 128 29 [some (.inr (.inr (.inl 2))), some (.inr (.inr (.inl 1014))), some (.inl y2), some (.inl y3)] [] (jxSH, a, b0)) (jQ_X8_takesWord_r1014 a0 b0)) := by
  refine jx_ind fun n ih => ?_
  have ih58 : ∀ (y2 y3 : Int) (a : Nat → Nat → Int), (((6 - y3) * 1) + 0).toNat < n → iv a → jfr jW_X8_takesWord_r1014 a0 a → 6 ≤ y2 → y2 ≤ 200 → 0 ≤ y3 → y3 ≤ 5 → 6 ≤ a 2 1 → y3 < 6 → 0 ≤ y3 → a 2 2 = a0 2 2 → y2 = (a 2 2) + 6 → y2 ≤ a 2 1 → y2 ≤ 200 → a0 2 3 = 0 → a0 2 2 < a0 2 1 → jt (jxX E d 128 58 [some (.inr (.inr (.inl 2))), some (.inr (.inr (.inl 1014))), some (.inl y2), some (.inl y3)] [] (jxSH, a, b0)) (jQ_X8_takesWord_r1014 a0 b0) := fun y2 y3 a hlt i0 i1 i2 i3 i4 i5 i6 i7 i8 i9 i10 i11 i12 i13 i14 => (ih _ hlt).1 y2 y3 a (Nat.le_refl _) i0 i1 i2 i3 i4 i5 i6 i7 i8 i9 i10 i11 i12 i13 i14
  have ih29 : ∀ (y2 y3 : Int) (a : Nat → Nat → Int), (((6 - y3) * 1) + 0).toNat < n → iv a → jfr jW_X8_takesWord_r1014 a0 a → 6 ≤ y2 → y2 ≤ 200 → 0 ≤ y3 → y3 ≤ 6 → 6 ≤ a 2 1 → 0 ≤ y3 → a 2 2 = a0 2 2 → y2 = (a 2 2) + 6 → y2 ≤ a 2 1 → y2 ≤ 200 → a0 2 3 = 0 → a0 2 2 < a0 2 1 → jt (jxX E d 128 29 [some (.inr (.inr (.inl 2))), some (.inr (.inr (.inl 1014))), some (.inl y2), some (.inl y3)] [] (jxSH, a, b0)) (jQ_X8_takesWord_r1014 a0 b0) := fun y2 y3 a hlt i0 i1 i2 i3 i4 i5 i6 i7 i8 i9 i10 i11 i12 i13 => (ih _ hlt).2 y2 y3 a (Nat.le_refl _) i0 i1 i2 i3 i4 i5 i6 i7 i8 i9 i10 i11 i12 i13
  have hc58 : ∀ (y2 y3 : Int) (a : Nat → Nat → Int), (((6 - y3) * 1) + 0).toNat ≤ n → iv a → jfr jW_X8_takesWord_r1014 a0 a → 6 ≤ y2 → y2 ≤ 200 → 0 ≤ y3 → y3 ≤ 5 → 6 ≤ a 2 1 → y3 < 6 → 0 ≤ y3 → a 2 2 = a0 2 2 → y2 = (a 2 2) + 6 → y2 ≤ a 2 1 → y2 ≤ 200 → a0 2 3 = 0 → a0 2 2 < a0 2 1 → jt (jxX E d 128 58 [some (.inr (.inr (.inl 2))), some (.inr (.inr (.inl 1014))), some (.inl y2), some (.inl y3)] [] (jxSH, a, b0)) (jQ_X8_takesWord_r1014 a0 b0) := by
    intro y2 y3 a hm hv hf hi0 hi1 hi2 hi3 hi4 hi5 hi6 hi7 hi8 hi9 hi10 hi11 hi12
    refine jt_eq (bq_X8_takesWord_r1014_58 E d y2 y3 a b0) ?_
    have h973_ := iv_get hv (k := 2) (j := 1) (l := 0) (u := 200) rfl
    have h974_ : a 2 1 = a0 2 1 := hf 2 1 rfl
    have h975_ := iv_get hv0 (k := 2) (j := 1) (l := 0) (u := 200) rfl
    have h976_ := iv_get hv (k := 2) (j := 2) (l := 0) (u := 200) rfl
    have h977_ := iv_get hv0 (k := 2) (j := 2) (l := 0) (u := 200) rfl
    have h978_ : jxw (y3 + 1) = y3 + 1 := jxw_id (by omega) (by omega)
    exact ih29 y2 (jxw (y3 + 1)) a (show (((6 - (jxw (y3 + 1))) * 1) + 0).toNat < n from by omega) hv hf (show 6 ≤ y2 from by omega) (show y2 ≤ 200 from by omega) (show 0 ≤ jxw (y3 + 1) from by omega) (show jxw (y3 + 1) ≤ 6 from by omega) (show 6 ≤ a 2 1 from by omega) (show 0 ≤ jxw (y3 + 1) from by omega) (show a 2 2 = a0 2 2 from by omega) (show y2 = (a 2 2) + 6 from by omega) (show y2 ≤ a 2 1 from by omega) (show y2 ≤ 200 from by omega) (show a0 2 3 = 0 from by omega) (show a0 2 2 < a0 2 1 from by omega)
  have hc29 : ∀ (y2 y3 : Int) (a : Nat → Nat → Int), (((6 - y3) * 1) + 0).toNat ≤ n → iv a → jfr jW_X8_takesWord_r1014 a0 a → 6 ≤ y2 → y2 ≤ 200 → 0 ≤ y3 → y3 ≤ 6 → 6 ≤ a 2 1 → 0 ≤ y3 → a 2 2 = a0 2 2 → y2 = (a 2 2) + 6 → y2 ≤ a 2 1 → y2 ≤ 200 → a0 2 3 = 0 → a0 2 2 < a0 2 1 → jt (jxX E d 128 29 [some (.inr (.inr (.inl 2))), some (.inr (.inr (.inl 1014))), some (.inl y2), some (.inl y3)] [] (jxSH, a, b0)) (jQ_X8_takesWord_r1014 a0 b0) := by
    intro y2 y3 a hm hv hf hi0 hi1 hi2 hi3 hi4 hi5 hi6 hi7 hi8 hi9 hi10 hi11
    refine jt_eq (bq_X8_takesWord_r1014_29 E d y2 y3 a b0) ?_
    have h979_ := iv_get hv (k := 2) (j := 1) (l := 0) (u := 200) rfl
    have h980_ : a 2 1 = a0 2 1 := hf 2 1 rfl
    have h981_ := iv_get hv0 (k := 2) (j := 1) (l := 0) (u := 200) rfl
    have h982_ := iv_get hv (k := 2) (j := 2) (l := 0) (u := 200) rfl
    have h983_ := iv_get hv0 (k := 2) (j := 2) (l := 0) (u := 200) rfl
    refine jt_eI (eq_J0_length_8abf5_r1014 E d (jd_le hd rfl) a b0) ?_
    have h984_ := ff_J0_length_8abf5_r1014 a b0
    refine jt_ite (fun c985_ => ?_) (fun c985_ => ?_)
    ·
      have h986_ : jxw ((a 2 2) + y3) = (a 2 2) + y3 := jxw_id (by omega) (by omega)
      refine jt_grd (by omega) ?_
      refine jt_eI (eq_J0_charAt_5068e_r1014 E d (jd_le hd rfl) y3 a b0 (show (0 ≤ y3 ∧ y3 < 6) from by omega)) ?_
      have h987_ := iv_get hv (k := 3) (j := (jxw ((a 2 2) + y3)).toNat) (l := 0) (u := 255) rfl
      have h988_ : a 3 ((jxw ((a 2 2) + y3)).toNat) = a0 3 ((jxw ((a 2 2) + y3)).toNat) := hf 3 ((jxw ((a 2 2) + y3)).toNat) rfl
      have h989_ := iv_get hv0 (k := 3) (j := (jxw ((a 2 2) + y3)).toNat) (l := 0) (u := 255) rfl
      have h990_ := f_J0_charAt_5068e_r1014_eq a b0 y3
      have h991_ := f_J0_isLatin1_aae02_r1014_eq a b0
      have h992_ := f_J1_charAt_3b067_r2014_eq a b0 y3
      have h993_ := jxand_r (([115, 116, 114, 105, 99, 116] : List Int).getD (y3.toNat) 0) 255 (by decide) (by decide)
      have h994_ := jxi2c_b (jxand (([115, 116, 114, 105, 99, 116] : List Int).getD (y3.toNat) 0) 255)
      refine jt_ite (fun c995_ => ?_) (fun c995_ => ?_)
      ·
        exact hc58 y2 y3 a (show (((6 - y3) * 1) + 0).toNat ≤ n from by omega) hv hf (show 6 ≤ y2 from by omega) (show y2 ≤ 200 from by omega) (show 0 ≤ y3 from by omega) (show y3 ≤ 5 from by omega) (show 6 ≤ a 2 1 from by omega) (show y3 < 6 from by omega) (show 0 ≤ y3 from by omega) (show a 2 2 = a0 2 2 from by omega) (show y2 = (a 2 2) + 6 from by omega) (show y2 ≤ a 2 1 from by omega) (show y2 ≤ 200 from by omega) (show a0 2 3 = 0 from by omega) (show a0 2 2 < a0 2 1 from by omega)
      ·
        exact cp_X8_takesWord_r1014_56 E d hd a0 b0 hv0 a hv hf (show 6 ≤ a 2 1 from by omega) (show a 2 2 = a0 2 2 from by omega) (show a0 2 3 = 0 from by omega) (show a0 2 2 < a0 2 1 from by omega)
    ·
      refine jt_ite (fun c996_ => ?_) (fun c996_ => ?_)
      ·
        refine jt_grd (by omega) ?_
        have h997_ := iv_get hv (k := 3) (j := y2.toNat) (l := 0) (u := 255) rfl
        have h998_ : a 3 (y2.toNat) = a0 3 (y2.toNat) := hf 3 (y2.toNat) rfl
        have h999_ := iv_get hv0 (k := 3) (j := y2.toNat) (l := 0) (u := 255) rfl
        refine jt_ite (fun c1000_ => ?_) (fun c1000_ => ?_)
        ·
          exact cp_X8_takesWord_r1014_96 E d hd a0 b0 hv0 y2 a hv hf (show 6 ≤ y2 from by omega) (show y2 ≤ 200 from by omega) (show 6 ≤ a 2 1 from by omega) (show a 2 2 = a0 2 2 from by omega) (show y2 = (a 2 2) + 6 from by omega) (show y2 ≤ a 2 1 from by omega) (show y2 ≤ 200 from by omega) (show a0 2 3 = 0 from by omega) (show a0 2 2 < a0 2 1 from by omega)
        ·
          exact cp_X8_takesWord_r1014_83 E d hd a0 b0 hv0 y2 a hv hf (show 6 ≤ y2 from by omega) (show y2 ≤ 199 from by omega) (show 7 ≤ a 2 1 from by omega) (show a 2 2 = a0 2 2 from by omega) (show y2 = (a 2 2) + 6 from by omega) (show y2 ≤ a 2 1 from by omega) (show y2 ≤ 200 from by omega) (show a0 2 3 = 0 from by omega) (show a0 2 2 < a0 2 1 from by omega)
      ·
        exact cp_X8_takesWord_r1014_96 E d hd a0 b0 hv0 y2 a hv hf (show 6 ≤ y2 from by omega) (show y2 ≤ 200 from by omega) (show 6 ≤ a 2 1 from by omega) (show a 2 2 = a0 2 2 from by omega) (show y2 = (a 2 2) + 6 from by omega) (show y2 ≤ a 2 1 from by omega) (show y2 ≤ 200 from by omega) (show a0 2 3 = 0 from by omega) (show a0 2 2 < a0 2 1 from by omega)
  exact ⟨hc58, hc29⟩
theorem sp_X8_takesWord_r1014 (E : jxE) (d : Nat) (hd : Nat.ble 5 d = true) (a0 b0 : Nat → Nat → Int) (hv0 : iv a0) : jt (jxC E d 128 [.inr (.inr (.inl 2)), .inr (.inr (.inl 1014))] (jxSH, a0, b0)) (jQ_X8_takesWord_r1014 a0 b0) := by
  obtain ⟨d, rfl⟩ := jd_succ hd
  refine jt_eq (bq_X8_takesWord_r1014 E d a0 b0) ?_
  refine jt_eI (eq_J0_length_8abf5_r1014 E d (jd_le hd rfl) a0 b0) ?_
  refine jt_eI (eq_X8_isFaulty E d (jd_le hd rfl) a0 b0) ?_
  have h1001_ := f_X8_isFaulty_eq a0 b0
  refine jt_ite (fun c1002_ => ?_) (fun c1002_ => ?_)
  ·
    have h1003_ := iv_get hv0 (k := 2) (j := 1) (l := 0) (u := 200) rfl
    have h1004_ := iv_get hv0 (k := 2) (j := 2) (l := 0) (u := 200) rfl
    have h1005_ := ff_J0_length_8abf5_r1014 a0 b0
    have h1006_ : jxw ((a0 2 2) + (f_J0_length_8abf5_r1014 a0 b0)) = (a0 2 2) + (f_J0_length_8abf5_r1014 a0 b0) := jxw_id (by omega) (by omega)
    refine jt_ite (fun c1007_ => ?_) (fun c1007_ => ?_)
    ·
      exact jt_rI ⟨hv0, (jfr_rf _ _), rfl, (show (0 ≤ 0 ∧ 0 ≤ 1) from by omega), (show ((¬ a0 2 3 = 0 ∨ a0 2 1 ≤ a0 2 2) → 0 = 0) from by omega), (show (0 = 0 → a0 2 2 = a0 2 2) from by omega)⟩
    ·
      exact (cp_X8_takesWord_r1014_29 E d hd a0 b0 hv0 _).2 (jxw ((a0 2 2) + (f_J0_length_8abf5_r1014 a0 b0))) 0 a0 (Nat.le_refl _) hv0 (jfr_rf _ _) (show 6 ≤ jxw ((a0 2 2) + (f_J0_length_8abf5_r1014 a0 b0)) from by omega) (show jxw ((a0 2 2) + (f_J0_length_8abf5_r1014 a0 b0)) ≤ 200 from by omega) (show 0 ≤ 0 from by omega) (show 0 ≤ 6 from by omega) (show 6 ≤ a0 2 1 from by omega) (show 0 ≤ 0 from by omega) (show a0 2 2 = a0 2 2 from by omega) (show jxw ((a0 2 2) + (f_J0_length_8abf5_r1014 a0 b0)) = (a0 2 2) + 6 from by omega) (show jxw ((a0 2 2) + (f_J0_length_8abf5_r1014 a0 b0)) ≤ a0 2 1 from by omega) (show jxw ((a0 2 2) + (f_J0_length_8abf5_r1014 a0 b0)) ≤ 200 from by omega) (show a0 2 3 = 0 from by omega) (show a0 2 2 < a0 2 1 from by omega)
  ·
    have h1008_ := iv_get hv0 (k := 2) (j := 1) (l := 0) (u := 200) rfl
    have h1009_ := iv_get hv0 (k := 2) (j := 2) (l := 0) (u := 200) rfl
    exact jt_rI ⟨hv0, (jfr_rf _ _), rfl, (show (0 ≤ 0 ∧ 0 ≤ 1) from by omega), (show ((¬ a0 2 3 = 0 ∨ a0 2 1 ≤ a0 2 2) → 0 = 0) from by omega), (show (0 = 0 → a0 2 2 = a0 2 2) from by omega)⟩
def jW_X8_takesWord_r1015 : List (Nat × Nat) := [(2, 2)]
abbrev jQ_X8_takesWord_r1015 (a0 b0 : Nat → Nat → Int) : List jxV → (Nat → Nat → Int) → (Nat → Nat → Int) → Prop := rI (fun r a b => (iv a) ∧ (jfr jW_X8_takesWord_r1015 a0 a) ∧ (b0 = b) ∧ ((0 ≤ r ∧ r ≤ 1)) ∧ (((¬ a0 2 3 = 0 ∨ a0 2 1 ≤ a0 2 2) → r = 0)) ∧ ((r = 0 → a 2 2 = a0 2 2)))
theorem cp_X8_takesWord_r1015_56 (E : jxE) (d : Nat) (hd : Nat.ble 5 (d + 1) = true) (a0 b0 : Nat → Nat → Int) (hv0 : iv a0) : ∀ (a : Nat → Nat → Int), iv a → jfr jW_X8_takesWord_r1015 a0 a → 4 ≤ a 2 1 → a 2 2 = a0 2 2 → a0 2 3 = 0 → a0 2 2 < a0 2 1 → jt (jxX E d 128 56 [none, none, none, none] [] (jxSH, a, b0)) (jQ_X8_takesWord_r1015 a0 b0) := by
  intro a hv hf hi0 hi1 hi2 hi3
  refine jt_eq (bq_X8_takesWord_r1015_56 E d a b0) ?_
  have h1010_ := iv_get hv (k := 2) (j := 1) (l := 0) (u := 200) rfl
  have h1011_ : a 2 1 = a0 2 1 := hf 2 1 rfl
  have h1012_ := iv_get hv0 (k := 2) (j := 1) (l := 0) (u := 200) rfl
  have h1013_ := iv_get hv (k := 2) (j := 2) (l := 0) (u := 200) rfl
  have h1014_ := iv_get hv0 (k := 2) (j := 2) (l := 0) (u := 200) rfl
  exact jt_rI ⟨hv, hf, rfl, (show (0 ≤ 0 ∧ 0 ≤ 1) from by omega), (show ((¬ a0 2 3 = 0 ∨ a0 2 1 ≤ a0 2 2) → 0 = 0) from by omega), (show (0 = 0 → a 2 2 = a0 2 2) from by omega)⟩
theorem cp_X8_takesWord_r1015_96 (E : jxE) (d : Nat) (hd : Nat.ble 5 (d + 1) = true) (a0 b0 : Nat → Nat → Int) (hv0 : iv a0) : ∀ (y2 : Int) (a : Nat → Nat → Int), iv a → jfr jW_X8_takesWord_r1015 a0 a → 4 ≤ y2 → y2 ≤ 200 → 4 ≤ a 2 1 → a 2 2 = a0 2 2 → y2 = (a 2 2) + 4 → y2 ≤ a 2 1 → y2 ≤ 200 → a0 2 3 = 0 → a0 2 2 < a0 2 1 → jt (jxX E d 128 96 [some (.inr (.inr (.inl 2))), none, some (.inl y2), none] [] (jxSH, a, b0)) (jQ_X8_takesWord_r1015 a0 b0) := by
  intro y2 a hv hf hi0 hi1 hi2 hi3 hi4 hi5 hi6 hi7 hi8
  refine jt_eq (bq_X8_takesWord_r1015_96 E d y2 a b0) ?_
  have h1015_ := iv_get hv (k := 2) (j := 1) (l := 0) (u := 200) rfl
  have h1016_ : a 2 1 = a0 2 1 := hf 2 1 rfl
  have h1017_ := iv_get hv0 (k := 2) (j := 1) (l := 0) (u := 200) rfl
  have h1018_ := iv_get hv (k := 2) (j := 2) (l := 0) (u := 200) rfl
  have h1019_ := iv_get hv0 (k := 2) (j := 2) (l := 0) (u := 200) rfl
  have hv1020_ : iv (jxu a 2 2 y2) := iv_put hv (l := 0) (u := 200) rfl (by omega) (by omega)
  refine jt_bV (sp_X8_skipBlanks E d (jd_le hd rfl) (jxu a 2 2 y2) b0 hv1020_) (fun a1021_ b1021_ h1021_ => ?_)
  obtain ⟨hv1021_, hf1021_, rfl, hq1021_0⟩ := h1021_
  have h1022_ := iv_get hv1021_ (k := 2) (j := 2) (l := 0) (u := 200) rfl
  have h1023_ : (a 2 1 ≤ y2 → a1021_ 2 2 = y2) := hq1021_0
  have hf1024_ : jfr jW_X8_takesWord_r1015 a0 (jxu a 2 2 y2) := jfr_put hf rfl
  have hf1025_ : jfr jW_X8_takesWord_r1015 a0 a1021_ := jfr_tr hf1024_ hf1021_ rfl
  exact jt_rI ⟨hv1021_, hf1025_, rfl, (show (0 ≤ 1 ∧ 1 ≤ 1) from by omega), (show ((¬ a0 2 3 = 0 ∨ a0 2 1 ≤ a0 2 2) → 1 = 0) from by omega), (show (1 = 0 → a1021_ 2 2 = a0 2 2) from by omega)⟩
theorem cp_X8_takesWord_r1015_83 (E : jxE) (d : Nat) (hd : Nat.ble 5 (d + 1) = true) (a0 b0 : Nat → Nat → Int) (hv0 : iv a0) : ∀ (y2 : Int) (a : Nat → Nat → Int), iv a → jfr jW_X8_takesWord_r1015 a0 a → 4 ≤ y2 → y2 ≤ 199 → 5 ≤ a 2 1 → a 2 2 = a0 2 2 → y2 = (a 2 2) + 4 → y2 ≤ a 2 1 → y2 ≤ 200 → a0 2 3 = 0 → a0 2 2 < a0 2 1 → jt (jxX E d 128 83 [some (.inr (.inr (.inl 2))), none, some (.inl y2), none] [] (jxSH, a, b0)) (jQ_X8_takesWord_r1015 a0 b0) := by
  intro y2 a hv hf hi0 hi1 hi2 hi3 hi4 hi5 hi6 hi7 hi8
  refine jt_eq (bq_X8_takesWord_r1015_83 E d y2 a b0) ?_
  have h1026_ := iv_get hv (k := 2) (j := 1) (l := 0) (u := 200) rfl
  have h1027_ : a 2 1 = a0 2 1 := hf 2 1 rfl
  have h1028_ := iv_get hv0 (k := 2) (j := 1) (l := 0) (u := 200) rfl
  have h1029_ := iv_get hv (k := 2) (j := 2) (l := 0) (u := 200) rfl
  have h1030_ := iv_get hv0 (k := 2) (j := 2) (l := 0) (u := 200) rfl
  refine jt_grd (by omega) ?_
  have h1031_ := iv_get hv (k := 3) (j := y2.toNat) (l := 0) (u := 255) rfl
  have h1032_ : a 3 (y2.toNat) = a0 3 (y2.toNat) := hf 3 (y2.toNat) rfl
  have h1033_ := iv_get hv0 (k := 3) (j := y2.toNat) (l := 0) (u := 255) rfl
  refine jt_ite (fun c1034_ => ?_) (fun c1034_ => ?_)
  ·
    exact cp_X8_takesWord_r1015_96 E d hd a0 b0 hv0 y2 a hv hf (show 4 ≤ y2 from by omega) (show y2 ≤ 200 from by omega) (show 4 ≤ a 2 1 from by omega) (show a 2 2 = a0 2 2 from by omega) (show y2 = (a 2 2) + 4 from by omega) (show y2 ≤ a 2 1 from by omega) (show y2 ≤ 200 from by omega) (show a0 2 3 = 0 from by omega) (show a0 2 2 < a0 2 1 from by omega)
  ·
    exact jt_rI ⟨hv, hf, rfl, (show (0 ≤ 0 ∧ 0 ≤ 1) from by omega), (show ((¬ a0 2 3 = 0 ∨ a0 2 1 ≤ a0 2 2) → 0 = 0) from by omega), (show (0 = 0 → a 2 2 = a0 2 2) from by omega)⟩
theorem cp_X8_takesWord_r1015_29 (E : jxE) (d : Nat) (hd : Nat.ble 5 (d + 1) = true) (a0 b0 : Nat → Nat → Int) (hv0 : iv a0) : ∀ n : Nat, (∀ (y2 y3 : Int) (a : Nat → Nat → Int), (((4 - y3) * 1) + 0).toNat ≤ n → iv a → jfr jW_X8_takesWord_r1015 a0 a → 4 ≤ y2 → y2 ≤ 200 → 0 ≤ y3 → y3 ≤ 3 → 4 ≤ a 2 1 → y3 < 4 → 0 ≤ y3 → a 2 2 = a0 2 2 → y2 = (a 2 2) + 4 → y2 ≤ a 2 1 → y2 ≤ 200 → a0 2 3 = 0 → a0 2 2 < a0 2 1 → jt (jxX E d 128 58 [some (.inr (.inr (.inl 2))), some (.inr (.inr (.inl 1015))), some (.inl y2), some (.inl y3)] [] (jxSH, a, b0)) (jQ_X8_takesWord_r1015 a0 b0)) ∧ (∀ (y2 y3 : Int) (a : Nat → Nat → Int), (((4 - y3) * 1) + 0).toNat ≤ n → iv a → jfr jW_X8_takesWord_r1015 a0 a → 4 ≤ y2 → y2 ≤ 200 → 0 ≤ y3 → y3 ≤ 4 → 4 ≤ a 2 1 → 0 ≤ y3 → a 2 2 = a0 2 2 → y2 = (a 2 2) + 4 → y2 ≤ a 2 1 → y2 ≤ 200 → a0 2 3 = 0 → a0 2 2 < a0 2 1 → jt (jxX E d 128 29 [some (.inr (.inr (.inl 2))), some (.inr (.inr (.inl 1015))), some (.inl y2), some (.inl y3)] [] (jxSH, a, b0)) (jQ_X8_takesWord_r1015 a0 b0)) := by
  refine jx_ind fun n ih => ?_
  have ih58 : ∀ (y2 y3 : Int) (a : Nat → Nat → Int), (((4 - y3) * 1) + 0).toNat < n → iv a → jfr jW_X8_takesWord_r1015 a0 a → 4 ≤ y2 → y2 ≤ 200 → 0 ≤ y3 → y3 ≤ 3 → 4 ≤ a 2 1 → y3 < 4 → 0 ≤ y3 → a 2 2 = a0 2 2 → y2 = (a 2 2) + 4 → y2 ≤ a 2 1 → y2 ≤ 200 → a0 2 3 = 0 → a0 2 2 < a0 2 1 → jt (jxX E d 128 58 [some (.inr (.inr (.inl 2))), some (.inr (.inr (.inl 1015))), some (.inl y2), some (.inl y3)] [] (jxSH, a, b0)) (jQ_X8_takesWord_r1015 a0 b0) := fun y2 y3 a hlt i0 i1 i2 i3 i4 i5 i6 i7 i8 i9 i10 i11 i12 i13 i14 => (ih _ hlt).1 y2 y3 a (Nat.le_refl _) i0 i1 i2 i3 i4 i5 i6 i7 i8 i9 i10 i11 i12 i13 i14
  have ih29 : ∀ (y2 y3 : Int) (a : Nat → Nat → Int), (((4 - y3) * 1) + 0).toNat < n → iv a → jfr jW_X8_takesWord_r1015 a0 a → 4 ≤ y2 → y2 ≤ 200 → 0 ≤ y3 → y3 ≤ 4 → 4 ≤ a 2 1 → 0 ≤ y3 → a 2 2 = a0 2 2 → y2 = (a 2 2) + 4 → y2 ≤ a 2 1 → y2 ≤ 200 → a0 2 3 = 0 → a0 2 2 < a0 2 1 → jt (jxX E d 128 29 [some (.inr (.inr (.inl 2))), some (.inr (.inr (.inl 1015))), some (.inl y2), some (.inl y3)] [] (jxSH, a, b0)) (jQ_X8_takesWord_r1015 a0 b0) := fun y2 y3 a hlt i0 i1 i2 i3 i4 i5 i6 i7 i8 i9 i10 i11 i12 i13 => (ih _ hlt).2 y2 y3 a (Nat.le_refl _) i0 i1 i2 i3 i4 i5 i6 i7 i8 i9 i10 i11 i12 i13
  have hc58 : ∀ (y2 y3 : Int) (a : Nat → Nat → Int), (((4 - y3) * 1) + 0).toNat ≤ n → iv a → jfr jW_X8_takesWord_r1015 a0 a → 4 ≤ y2 → y2 ≤ 200 → 0 ≤ y3 → y3 ≤ 3 → 4 ≤ a 2 1 → y3 < 4 → 0 ≤ y3 → a 2 2 = a0 2 2 → y2 = (a 2 2) + 4 → y2 ≤ a 2 1 → y2 ≤ 200 → a0 2 3 = 0 → a0 2 2 < a0 2 1 → jt (jxX E d 128 58 [some (.inr (.inr (.inl 2))), some (.inr (.inr (.inl 1015))), some (.inl y2), some (.inl y3)] [] (jxSH, a, b0)) (jQ_X8_takesWord_r1015 a0 b0) := by
    intro y2 y3 a hm hv hf hi0 hi1 hi2 hi3 hi4 hi5 hi6 hi7 hi8 hi9 hi10 hi11 hi12
    refine jt_eq (bq_X8_takesWord_r1015_58 E d y2 y3 a b0) ?_
    have h1035_ := iv_get hv (k := 2) (j := 1) (l := 0) (u := 200) rfl
    have h1036_ : a 2 1 = a0 2 1 := hf 2 1 rfl
    have h1037_ := iv_get hv0 (k := 2) (j := 1) (l := 0) (u := 200) rfl
    have h1038_ := iv_get hv (k := 2) (j := 2) (l := 0) (u := 200) rfl
    have h1039_ := iv_get hv0 (k := 2) (j := 2) (l := 0) (u := 200) rfl
    have h1040_ : jxw (y3 + 1) = y3 + 1 := jxw_id (by omega) (by omega)
    exact ih29 y2 (jxw (y3 + 1)) a (show (((4 - (jxw (y3 + 1))) * 1) + 0).toNat < n from by omega) hv hf (show 4 ≤ y2 from by omega) (show y2 ≤ 200 from by omega) (show 0 ≤ jxw (y3 + 1) from by omega) (show jxw (y3 + 1) ≤ 4 from by omega) (show 4 ≤ a 2 1 from by omega) (show 0 ≤ jxw (y3 + 1) from by omega) (show a 2 2 = a0 2 2 from by omega) (show y2 = (a 2 2) + 4 from by omega) (show y2 ≤ a 2 1 from by omega) (show y2 ≤ 200 from by omega) (show a0 2 3 = 0 from by omega) (show a0 2 2 < a0 2 1 from by omega)
  have hc29 : ∀ (y2 y3 : Int) (a : Nat → Nat → Int), (((4 - y3) * 1) + 0).toNat ≤ n → iv a → jfr jW_X8_takesWord_r1015 a0 a → 4 ≤ y2 → y2 ≤ 200 → 0 ≤ y3 → y3 ≤ 4 → 4 ≤ a 2 1 → 0 ≤ y3 → a 2 2 = a0 2 2 → y2 = (a 2 2) + 4 → y2 ≤ a 2 1 → y2 ≤ 200 → a0 2 3 = 0 → a0 2 2 < a0 2 1 → jt (jxX E d 128 29 [some (.inr (.inr (.inl 2))), some (.inr (.inr (.inl 1015))), some (.inl y2), some (.inl y3)] [] (jxSH, a, b0)) (jQ_X8_takesWord_r1015 a0 b0) := by
    intro y2 y3 a hm hv hf hi0 hi1 hi2 hi3 hi4 hi5 hi6 hi7 hi8 hi9 hi10 hi11
    refine jt_eq (bq_X8_takesWord_r1015_29 E d y2 y3 a b0) ?_
    have h1041_ := iv_get hv (k := 2) (j := 1) (l := 0) (u := 200) rfl
    have h1042_ : a 2 1 = a0 2 1 := hf 2 1 rfl
    have h1043_ := iv_get hv0 (k := 2) (j := 1) (l := 0) (u := 200) rfl
    have h1044_ := iv_get hv (k := 2) (j := 2) (l := 0) (u := 200) rfl
    have h1045_ := iv_get hv0 (k := 2) (j := 2) (l := 0) (u := 200) rfl
    refine jt_eI (eq_J0_length_8abf5_r1015 E d (jd_le hd rfl) a b0) ?_
    have h1046_ := ff_J0_length_8abf5_r1015 a b0
    refine jt_ite (fun c1047_ => ?_) (fun c1047_ => ?_)
    ·
      have h1048_ : jxw ((a 2 2) + y3) = (a 2 2) + y3 := jxw_id (by omega) (by omega)
      refine jt_grd (by omega) ?_
      refine jt_eI (eq_J0_charAt_5068e_r1015 E d (jd_le hd rfl) y3 a b0 (show (0 ≤ y3 ∧ y3 < 4) from by omega)) ?_
      have h1049_ := iv_get hv (k := 3) (j := (jxw ((a 2 2) + y3)).toNat) (l := 0) (u := 255) rfl
      have h1050_ : a 3 ((jxw ((a 2 2) + y3)).toNat) = a0 3 ((jxw ((a 2 2) + y3)).toNat) := hf 3 ((jxw ((a 2 2) + y3)).toNat) rfl
      have h1051_ := iv_get hv0 (k := 3) (j := (jxw ((a 2 2) + y3)).toNat) (l := 0) (u := 255) rfl
      have h1052_ := f_J0_charAt_5068e_r1015_eq a b0 y3
      have h1053_ := f_J0_isLatin1_aae02_r1015_eq a b0
      have h1054_ := f_J1_charAt_3b067_r2015_eq a b0 y3
      have h1055_ := jxand_r (([122, 111, 110, 101] : List Int).getD (y3.toNat) 0) 255 (by decide) (by decide)
      have h1056_ := jxi2c_b (jxand (([122, 111, 110, 101] : List Int).getD (y3.toNat) 0) 255)
      refine jt_ite (fun c1057_ => ?_) (fun c1057_ => ?_)
      ·
        exact hc58 y2 y3 a (show (((4 - y3) * 1) + 0).toNat ≤ n from by omega) hv hf (show 4 ≤ y2 from by omega) (show y2 ≤ 200 from by omega) (show 0 ≤ y3 from by omega) (show y3 ≤ 3 from by omega) (show 4 ≤ a 2 1 from by omega) (show y3 < 4 from by omega) (show 0 ≤ y3 from by omega) (show a 2 2 = a0 2 2 from by omega) (show y2 = (a 2 2) + 4 from by omega) (show y2 ≤ a 2 1 from by omega) (show y2 ≤ 200 from by omega) (show a0 2 3 = 0 from by omega) (show a0 2 2 < a0 2 1 from by omega)
      ·
        exact cp_X8_takesWord_r1015_56 E d hd a0 b0 hv0 a hv hf (show 4 ≤ a 2 1 from by omega) (show a 2 2 = a0 2 2 from by omega) (show a0 2 3 = 0 from by omega) (show a0 2 2 < a0 2 1 from by omega)
    ·
      refine jt_ite (fun c1058_ => ?_) (fun c1058_ => ?_)
      ·
        refine jt_grd (by omega) ?_
        have h1059_ := iv_get hv (k := 3) (j := y2.toNat) (l := 0) (u := 255) rfl
        have h1060_ : a 3 (y2.toNat) = a0 3 (y2.toNat) := hf 3 (y2.toNat) rfl
        have h1061_ := iv_get hv0 (k := 3) (j := y2.toNat) (l := 0) (u := 255) rfl
        refine jt_ite (fun c1062_ => ?_) (fun c1062_ => ?_)
        ·
          exact cp_X8_takesWord_r1015_96 E d hd a0 b0 hv0 y2 a hv hf (show 4 ≤ y2 from by omega) (show y2 ≤ 200 from by omega) (show 4 ≤ a 2 1 from by omega) (show a 2 2 = a0 2 2 from by omega) (show y2 = (a 2 2) + 4 from by omega) (show y2 ≤ a 2 1 from by omega) (show y2 ≤ 200 from by omega) (show a0 2 3 = 0 from by omega) (show a0 2 2 < a0 2 1 from by omega)
        ·
          exact cp_X8_takesWord_r1015_83 E d hd a0 b0 hv0 y2 a hv hf (show 4 ≤ y2 from by omega) (show y2 ≤ 199 from by omega) (show 5 ≤ a 2 1 from by omega) (show a 2 2 = a0 2 2 from by omega) (show y2 = (a 2 2) + 4 from by omega) (show y2 ≤ a 2 1 from by omega) (show y2 ≤ 200 from by omega) (show a0 2 3 = 0 from by omega) (show a0 2 2 < a0 2 1 from by omega)
      ·
        exact cp_X8_takesWord_r1015_96 E d hd a0 b0 hv0 y2 a hv hf (show 4 ≤ y2 from by omega) (show y2 ≤ 200 from by omega) (show 4 ≤ a 2 1 from by omega) (show a 2 2 = a0 2 2 from by omega) (show y2 = (a 2 2) + 4 from by omega) (show y2 ≤ a 2 1 from by omega) (show y2 ≤ 200 from by omega) (show a0 2 3 = 0 from by omega) (show a0 2 2 < a0 2 1 from by omega)
  exact ⟨hc58, hc29⟩
theorem sp_X8_takesWord_r1015 (E : jxE) (d : Nat) (hd : Nat.ble 5 d = true) (a0 b0 : Nat → Nat → Int) (hv0 : iv a0) : jt (jxC E d 128 [.inr (.inr (.inl 2)), .inr (.inr (.inl 1015))] (jxSH, a0, b0)) (jQ_X8_takesWord_r1015 a0 b0) := by
  obtain ⟨d, rfl⟩ := jd_succ hd
  refine jt_eq (bq_X8_takesWord_r1015 E d a0 b0) ?_
  refine jt_eI (eq_J0_length_8abf5_r1015 E d (jd_le hd rfl) a0 b0) ?_
  refine jt_eI (eq_X8_isFaulty E d (jd_le hd rfl) a0 b0) ?_
  have h1063_ := f_X8_isFaulty_eq a0 b0
  refine jt_ite (fun c1064_ => ?_) (fun c1064_ => ?_)
  ·
    have h1065_ := iv_get hv0 (k := 2) (j := 1) (l := 0) (u := 200) rfl
    have h1066_ := iv_get hv0 (k := 2) (j := 2) (l := 0) (u := 200) rfl
    have h1067_ := ff_J0_length_8abf5_r1015 a0 b0
    have h1068_ : jxw ((a0 2 2) + (f_J0_length_8abf5_r1015 a0 b0)) = (a0 2 2) + (f_J0_length_8abf5_r1015 a0 b0) := jxw_id (by omega) (by omega)
    refine jt_ite (fun c1069_ => ?_) (fun c1069_ => ?_)
    ·
      exact jt_rI ⟨hv0, (jfr_rf _ _), rfl, (show (0 ≤ 0 ∧ 0 ≤ 1) from by omega), (show ((¬ a0 2 3 = 0 ∨ a0 2 1 ≤ a0 2 2) → 0 = 0) from by omega), (show (0 = 0 → a0 2 2 = a0 2 2) from by omega)⟩
    ·
      exact (cp_X8_takesWord_r1015_29 E d hd a0 b0 hv0 _).2 (jxw ((a0 2 2) + (f_J0_length_8abf5_r1015 a0 b0))) 0 a0 (Nat.le_refl _) hv0 (jfr_rf _ _) (show 4 ≤ jxw ((a0 2 2) + (f_J0_length_8abf5_r1015 a0 b0)) from by omega) (show jxw ((a0 2 2) + (f_J0_length_8abf5_r1015 a0 b0)) ≤ 200 from by omega) (show 0 ≤ 0 from by omega) (show 0 ≤ 4 from by omega) (show 4 ≤ a0 2 1 from by omega) (show 0 ≤ 0 from by omega) (show a0 2 2 = a0 2 2 from by omega) (show jxw ((a0 2 2) + (f_J0_length_8abf5_r1015 a0 b0)) = (a0 2 2) + 4 from by omega) (show jxw ((a0 2 2) + (f_J0_length_8abf5_r1015 a0 b0)) ≤ a0 2 1 from by omega) (show jxw ((a0 2 2) + (f_J0_length_8abf5_r1015 a0 b0)) ≤ 200 from by omega) (show a0 2 3 = 0 from by omega) (show a0 2 2 < a0 2 1 from by omega)
  ·
    have h1070_ := iv_get hv0 (k := 2) (j := 1) (l := 0) (u := 200) rfl
    have h1071_ := iv_get hv0 (k := 2) (j := 2) (l := 0) (u := 200) rfl
    exact jt_rI ⟨hv0, (jfr_rf _ _), rfl, (show (0 ≤ 0 ∧ 0 ≤ 1) from by omega), (show ((¬ a0 2 3 = 0 ∨ a0 2 1 ≤ a0 2 2) → 0 = 0) from by omega), (show (0 = 0 → a0 2 2 = a0 2 2) from by omega)⟩
def jW_X12_see : List (Nat × Nat) := [(146, 23)]
abbrev jQ_X12_see (a0 b0 : Nat → Nat → Int) : List jxV → (Nat → Nat → Int) → (Nat → Nat → Int) → Prop := rI (fun r a b => (iv a) ∧ (jfr jW_X12_see a0 a) ∧ (b0 = b) ∧ (a0 146 23 ≤ a 146 23) ∧ (a 146 23 ≤ a0 146 22) ∧ (((r = 0 - 1 ∧ a 146 23 = a0 146 22) ∨ (((0 ≤ r ∧ r ≤ 255) ∧ a 146 23 < a0 146 22) ∧ ¬ a 164 ((a 146 23).toNat) = 32))) ∧ (((a0 146 23 < a0 146 22 ∧ ¬ a0 164 ((a0 146 23).toNat) = 32) → a 146 23 = a0 146 23)))
theorem cp_X12_see_38 (E : jxE) (d : Nat) (hd : Nat.ble 1 (d + 1) = true) (a0 b0 : Nat → Nat → Int) (hv0 : iv a0) (hp0 : a0 146 23 ≤ a0 146 22) : ∀ (a : Nat → Nat → Int), iv a → jfr jW_X12_see a0 a → a 146 23 ≤ a 146 22 → a0 146 23 ≤ a 146 23 → ((a0 146 23 < a0 146 22 ∧ ¬ a0 164 ((a0 146 23).toNat) = 32) → a 146 23 = a0 146 23) → (a 146 23 < a 146 22 → ¬ a 164 ((a 146 23).toNat) = 32) → jt (jxX E d 215 38 [some (.inr (.inr (.inl 146)))] [] (jxSH, a, b0)) (jQ_X12_see a0 b0) := by
  intro a hv hf hi0 hi1 hi2 hi3
  refine jt_eq (bq_X12_see_38 E d a b0) ?_
  have h1072_ := iv_get hv (k := 146) (j := 23) (l := 0) (u := 200) rfl
  have h1073_ := iv_get hv (k := 146) (j := 22) (l := 0) (u := 200) rfl
  have h1074_ : a 146 22 = a0 146 22 := hf 146 22 rfl
  have h1075_ := iv_get hv0 (k := 146) (j := 22) (l := 0) (u := 200) rfl
  have h1076_ := iv_get hv0 (k := 146) (j := 23) (l := 0) (u := 200) rfl
  have h1077_ := iv_get hv0 (k := 164) (j := (a0 146 23).toNat) (l := (-128)) (u := 127) rfl
  have h1078_ := iv_get hv (k := 164) (j := (a 146 23).toNat) (l := (-128)) (u := 127) rfl
  have h1079_ : a 164 ((a 146 23).toNat) = a0 164 ((a 146 23).toNat) := hf 164 ((a 146 23).toNat) rfl
  have h1080_ := iv_get hv0 (k := 164) (j := (a 146 23).toNat) (l := (-128)) (u := 127) rfl
  refine jt_ite (fun c1081_ => ?_) (fun c1081_ => ?_)
  ·
    refine jt_grd (by omega) ?_
    have h1082_ := jxand_r (a 164 ((a 146 23).toNat)) 255 (by decide) (by decide)
    exact jt_rI ⟨hv, hf, rfl, (show a0 146 23 ≤ a 146 23 from by omega), (show a 146 23 ≤ a0 146 22 from by omega), (show ((jxand (a 164 ((a 146 23).toNat)) 255 = 0 - 1 ∧ a 146 23 = a0 146 22) ∨ (((0 ≤ jxand (a 164 ((a 146 23).toNat)) 255 ∧ jxand (a 164 ((a 146 23).toNat)) 255 ≤ 255) ∧ a 146 23 < a0 146 22) ∧ ¬ a 164 ((a 146 23).toNat) = 32)) from by omega), (show ((a0 146 23 < a0 146 22 ∧ ¬ a0 164 ((a0 146 23).toNat) = 32) → a 146 23 = a0 146 23) from by omega)⟩
  ·
    exact jt_rI ⟨hv, hf, rfl, (show a0 146 23 ≤ a 146 23 from by omega), (show a 146 23 ≤ a0 146 22 from by omega), (show (((-1) = 0 - 1 ∧ a 146 23 = a0 146 22) ∨ (((0 ≤ (-1) ∧ (-1) ≤ 255) ∧ a 146 23 < a0 146 22) ∧ ¬ a 164 ((a 146 23).toNat) = 32)) from by omega), (show ((a0 146 23 < a0 146 22 ∧ ¬ a0 164 ((a0 146 23).toNat) = 32) → a 146 23 = a0 146 23) from by omega)⟩
theorem cp_X12_see_0 (E : jxE) (d : Nat) (hd : Nat.ble 1 (d + 1) = true) (a0 b0 : Nat → Nat → Int) (hv0 : iv a0) (hp0 : a0 146 23 ≤ a0 146 22) : ∀ n : Nat, (∀ (a : Nat → Nat → Int), ((((a 146 22) - (a 146 23)) * 2) + 1).toNat ≤ n → iv a → jfr jW_X12_see a0 a → 1 ≤ a 146 22 → 1 ≤ a 146 23 → a 146 23 ≤ a 146 22 → a0 146 23 ≤ a 146 23 → ((a0 146 23 < a0 146 22 ∧ ¬ a0 164 ((a0 146 23).toNat) = 32) → a 146 23 = a0 146 23) → jt (jxX E d 215 35 [some (.inr (.inr (.inl 146)))] [] (jxSH, a, b0)) (jQ_X12_see a0 b0)) ∧ (∀ (a : Nat → Nat → Int), ((((a 146 22) - (a 146 23)) * 2) + 0).toNat ≤ n → iv a → jfr jW_X12_see a0 a → 1 ≤ a 146 22 → 1 ≤ a 146 23 → a 146 23 ≤ a 146 22 → a0 146 23 ≤ a 146 23 → ((a0 146 23 < a0 146 22 ∧ ¬ a0 164 ((a0 146 23).toNat) = 32) → a 146 23 = a0 146 23) → jt (jxX E d 215 0 [some (.inr (.inr (.inl 146)))] [] (jxSH, a, b0)) (jQ_X12_see a0 b0)) := by
  refine jx_ind fun n ih => ?_
  have ih35 : ∀ (a : Nat → Nat → Int), ((((a 146 22) - (a 146 23)) * 2) + 1).toNat < n → iv a → jfr jW_X12_see a0 a → 1 ≤ a 146 22 → 1 ≤ a 146 23 → a 146 23 ≤ a 146 22 → a0 146 23 ≤ a 146 23 → ((a0 146 23 < a0 146 22 ∧ ¬ a0 164 ((a0 146 23).toNat) = 32) → a 146 23 = a0 146 23) → jt (jxX E d 215 35 [some (.inr (.inr (.inl 146)))] [] (jxSH, a, b0)) (jQ_X12_see a0 b0) := fun a hlt i0 i1 i2 i3 i4 i5 i6 => (ih _ hlt).1 a (Nat.le_refl _) i0 i1 i2 i3 i4 i5 i6
  have ih0 : ∀ (a : Nat → Nat → Int), ((((a 146 22) - (a 146 23)) * 2) + 0).toNat < n → iv a → jfr jW_X12_see a0 a → 1 ≤ a 146 22 → 1 ≤ a 146 23 → a 146 23 ≤ a 146 22 → a0 146 23 ≤ a 146 23 → ((a0 146 23 < a0 146 22 ∧ ¬ a0 164 ((a0 146 23).toNat) = 32) → a 146 23 = a0 146 23) → jt (jxX E d 215 0 [some (.inr (.inr (.inl 146)))] [] (jxSH, a, b0)) (jQ_X12_see a0 b0) := fun a hlt i0 i1 i2 i3 i4 i5 i6 => (ih _ hlt).2 a (Nat.le_refl _) i0 i1 i2 i3 i4 i5 i6
  have hc35 : ∀ (a : Nat → Nat → Int), ((((a 146 22) - (a 146 23)) * 2) + 1).toNat ≤ n → iv a → jfr jW_X12_see a0 a → 1 ≤ a 146 22 → 1 ≤ a 146 23 → a 146 23 ≤ a 146 22 → a0 146 23 ≤ a 146 23 → ((a0 146 23 < a0 146 22 ∧ ¬ a0 164 ((a0 146 23).toNat) = 32) → a 146 23 = a0 146 23) → jt (jxX E d 215 35 [some (.inr (.inr (.inl 146)))] [] (jxSH, a, b0)) (jQ_X12_see a0 b0) := by
    intro a hm hv hf hi0 hi1 hi2 hi3 hi4
    refine jt_eq (bq_X12_see_35 E d a b0) ?_
    have h1083_ := iv_get hv (k := 146) (j := 22) (l := 0) (u := 200) rfl
    have h1084_ : a 146 22 = a0 146 22 := hf 146 22 rfl
    have h1085_ := iv_get hv0 (k := 146) (j := 22) (l := 0) (u := 200) rfl
    have h1086_ := iv_get hv (k := 146) (j := 23) (l := 0) (u := 200) rfl
    have h1087_ := iv_get hv0 (k := 146) (j := 23) (l := 0) (u := 200) rfl
    have h1088_ := iv_get hv0 (k := 164) (j := (a0 146 23).toNat) (l := (-128)) (u := 127) rfl
    exact ih0 a (show ((((a 146 22) - (a 146 23)) * 2) + 0).toNat < n from by omega) hv hf (show 1 ≤ a 146 22 from by omega) (show 1 ≤ a 146 23 from by omega) (show a 146 23 ≤ a 146 22 from by omega) (show a0 146 23 ≤ a 146 23 from by omega) (show ((a0 146 23 < a0 146 22 ∧ ¬ a0 164 ((a0 146 23).toNat) = 32) → a 146 23 = a0 146 23) from by omega)
  have hc0 : ∀ (a : Nat → Nat → Int), ((((a 146 22) - (a 146 23)) * 2) + 0).toNat ≤ n → iv a → jfr jW_X12_see a0 a → 1 ≤ a 146 22 → 1 ≤ a 146 23 → a 146 23 ≤ a 146 22 → a0 146 23 ≤ a 146 23 → ((a0 146 23 < a0 146 22 ∧ ¬ a0 164 ((a0 146 23).toNat) = 32) → a 146 23 = a0 146 23) → jt (jxX E d 215 0 [some (.inr (.inr (.inl 146)))] [] (jxSH, a, b0)) (jQ_X12_see a0 b0) := by
    intro a hm hv hf hi0 hi1 hi2 hi3 hi4
    refine jt_eq (bq_X12_see_0 E d a b0) ?_
    have h1089_ := iv_get hv (k := 146) (j := 22) (l := 0) (u := 200) rfl
    have h1090_ : a 146 22 = a0 146 22 := hf 146 22 rfl
    have h1091_ := iv_get hv0 (k := 146) (j := 22) (l := 0) (u := 200) rfl
    have h1092_ := iv_get hv (k := 146) (j := 23) (l := 0) (u := 200) rfl
    have h1093_ := iv_get hv0 (k := 146) (j := 23) (l := 0) (u := 200) rfl
    have h1094_ := iv_get hv0 (k := 164) (j := (a0 146 23).toNat) (l := (-128)) (u := 127) rfl
    have hcg : a 146 23 = a0 146 23 → a 164 ((a 146 23).toNat) = a0 164 ((a0 146 23).toNat) := fun h => by rw [h]; exact hf 164 _ rfl
    refine jt_ite (fun c1095_ => ?_) (fun c1095_ => ?_)
    ·
      refine jt_grd (by omega) ?_
      have h1096_ := iv_get hv (k := 164) (j := (a 146 23).toNat) (l := (-128)) (u := 127) rfl
      have h1097_ : a 164 ((a 146 23).toNat) = a0 164 ((a 146 23).toNat) := hf 164 ((a 146 23).toNat) rfl
      have h1098_ := iv_get hv0 (k := 164) (j := (a 146 23).toNat) (l := (-128)) (u := 127) rfl
      refine jt_ite (fun c1099_ => ?_) (fun c1099_ => ?_)
      ·
        have h1101_ : jxw ((a 146 23) + 1) = (a 146 23) + 1 := jxw_id (by omega) (by omega)
        have hv1100_ : iv (jxu a 146 23 (jxw ((a 146 23) + 1))) := iv_put hv (l := 0) (u := 200) rfl (by omega) (by omega)
        have hf1102_ : jfr jW_X12_see a0 (jxu a 146 23 (jxw ((a 146 23) + 1))) := jfr_put hf rfl
        exact hc35 (jxu a 146 23 (jxw ((a 146 23) + 1))) (show ((((a 146 22) - (jxw ((a 146 23) + 1))) * 2) + 1).toNat ≤ n from by omega) hv1100_ hf1102_ (show 1 ≤ a 146 22 from by omega) (show 1 ≤ jxw ((a 146 23) + 1) from by omega) (show jxw ((a 146 23) + 1) ≤ a 146 22 from by omega) (show a0 146 23 ≤ jxw ((a 146 23) + 1) from by omega) (show ((a0 146 23 < a0 146 22 ∧ ¬ a0 164 ((a0 146 23).toNat) = 32) → jxw ((a 146 23) + 1) = a0 146 23) from by omega)
      ·
        exact cp_X12_see_38 E d hd a0 b0 hv0 hp0 a hv hf (show a 146 23 ≤ a 146 22 from by omega) (show a0 146 23 ≤ a 146 23 from by omega) (show ((a0 146 23 < a0 146 22 ∧ ¬ a0 164 ((a0 146 23).toNat) = 32) → a 146 23 = a0 146 23) from by omega) (show (a 146 23 < a 146 22 → ¬ a 164 ((a 146 23).toNat) = 32) from by omega)
    ·
      have h1103_ := iv_get hv (k := 164) (j := (a 146 23).toNat) (l := (-128)) (u := 127) rfl
      have h1104_ : a 164 ((a 146 23).toNat) = a0 164 ((a 146 23).toNat) := hf 164 ((a 146 23).toNat) rfl
      have h1105_ := iv_get hv0 (k := 164) (j := (a 146 23).toNat) (l := (-128)) (u := 127) rfl
      exact cp_X12_see_38 E d hd a0 b0 hv0 hp0 a hv hf (show a 146 23 ≤ a 146 22 from by omega) (show a0 146 23 ≤ a 146 23 from by omega) (show ((a0 146 23 < a0 146 22 ∧ ¬ a0 164 ((a0 146 23).toNat) = 32) → a 146 23 = a0 146 23) from by omega) (show (a 146 23 < a 146 22 → ¬ a 164 ((a 146 23).toNat) = 32) from by omega)
  exact ⟨hc35, hc0⟩
theorem sp_X12_see (E : jxE) (d : Nat) (hd : Nat.ble 1 d = true) (a0 b0 : Nat → Nat → Int) (hv0 : iv a0) (hp0 : a0 146 23 ≤ a0 146 22) : jt (jxC E d 215 [.inr (.inr (.inl 146))] (jxSH, a0, b0)) (jQ_X12_see a0 b0) := by
  obtain ⟨d, rfl⟩ := jd_succ hd
  refine jt_eq (bq_X12_see E d a0 b0) ?_
  have h1106_ := iv_get hv0 (k := 146) (j := 23) (l := 0) (u := 200) rfl
  have h1107_ := iv_get hv0 (k := 146) (j := 22) (l := 0) (u := 200) rfl
  refine jt_ite (fun c1108_ => ?_) (fun c1108_ => ?_)
  ·
    refine jt_grd (by omega) ?_
    have h1109_ := iv_get hv0 (k := 164) (j := (a0 146 23).toNat) (l := (-128)) (u := 127) rfl
    refine jt_ite (fun c1110_ => ?_) (fun c1110_ => ?_)
    ·
      have h1112_ : jxw ((a0 146 23) + 1) = (a0 146 23) + 1 := jxw_id (by omega) (by omega)
      have hv1111_ : iv (jxu a0 146 23 (jxw ((a0 146 23) + 1))) := iv_put hv0 (l := 0) (u := 200) rfl (by omega) (by omega)
      have hf1113_ : jfr jW_X12_see a0 (jxu a0 146 23 (jxw ((a0 146 23) + 1))) := jfr_put (jfr_rf _ _) rfl
      exact (cp_X12_see_0 E d hd a0 b0 hv0 hp0 _).1 (jxu a0 146 23 (jxw ((a0 146 23) + 1))) (Nat.le_refl _) hv1111_ hf1113_ (show 1 ≤ a0 146 22 from by omega) (show 1 ≤ jxw ((a0 146 23) + 1) from by omega) (show jxw ((a0 146 23) + 1) ≤ a0 146 22 from by omega) (show a0 146 23 ≤ jxw ((a0 146 23) + 1) from by omega) (show ((a0 146 23 < a0 146 22 ∧ ¬ a0 164 ((a0 146 23).toNat) = 32) → jxw ((a0 146 23) + 1) = a0 146 23) from by omega)
    ·
      exact cp_X12_see_38 E d hd a0 b0 hv0 hp0 a0 hv0 (jfr_rf _ _) (show a0 146 23 ≤ a0 146 22 from by omega) (show a0 146 23 ≤ a0 146 23 from by omega) (show ((a0 146 23 < a0 146 22 ∧ ¬ a0 164 ((a0 146 23).toNat) = 32) → a0 146 23 = a0 146 23) from by omega) (show (a0 146 23 < a0 146 22 → ¬ a0 164 ((a0 146 23).toNat) = 32) from by omega)
  ·
    have h1114_ := iv_get hv0 (k := 164) (j := (a0 146 23).toNat) (l := (-128)) (u := 127) rfl
    exact cp_X12_see_38 E d hd a0 b0 hv0 hp0 a0 hv0 (jfr_rf _ _) (show a0 146 23 ≤ a0 146 22 from by omega) (show a0 146 23 ≤ a0 146 23 from by omega) (show ((a0 146 23 < a0 146 22 ∧ ¬ a0 164 ((a0 146 23).toNat) = 32) → a0 146 23 = a0 146 23) from by omega) (show (a0 146 23 < a0 146 22 → ¬ a0 164 ((a0 146 23).toNat) = 32) from by omega)
def jW_X12_fails : List (Nat × Nat) := [(146, 24)]
abbrev jQ_X12_fails (x1 x2 : Int) (a0 b0 : Nat → Nat → Int) : List jxV → (Nat → Nat → Int) → (Nat → Nat → Int) → Prop := rI (fun r a b => (iv a) ∧ (jfr jW_X12_fails a0 a) ∧ (b0 = b) ∧ ((0 ≤ r ∧ r ≤ 1)) ∧ (r = 0) ∧ ((((((a0 146 24 = 0 ∧ 0 ≤ x2) ∧ x2 ≤ 200) ∧ 0 ≤ x1) ∧ x1 ≤ 7) → a 146 24 = (1 + (8 * x2)) + x1)) ∧ ((¬ a0 146 24 = 0 → a 146 24 = a0 146 24)))
theorem sp_X12_fails (E : jxE) (d : Nat) (hd : Nat.ble 1 d = true) (x1 x2 : Int) (a0 b0 : Nat → Nat → Int) (hv0 : iv a0) : jt (jxC E d 214 [.inr (.inr (.inl 146)), .inl x1, .inl x2] (jxSH, a0, b0)) (jQ_X12_fails x1 x2 a0 b0) := by
  obtain ⟨d, rfl⟩ := jd_succ hd
  refine jt_eq (bq_X12_fails E d x1 x2 a0 b0) ?_
  refine jt_ite (fun c1115_ => ?_) (fun c1115_ => ?_)
  ·
    have hv1116_ : iv (jxu a0 146 24 (jxw ((jxw (1 + (jxw (8 * x2)))) + x1))) := iv_putf hv0 rfl
    have hf1117_ : jfr jW_X12_fails a0 (jxu a0 146 24 (jxw ((jxw (1 + (jxw (8 * x2)))) + x1))) := jfr_put (jfr_rf _ _) rfl
    have h1118_ := jxw_im (8 * x2)
    have h1119_ := jxw_rg (8 * x2)
    have h1120_ := jxw_im (1 + (jxw (8 * x2)))
    have h1121_ := jxw_rg (1 + (jxw (8 * x2)))
    have h1122_ := jxw_im ((jxw (1 + (jxw (8 * x2)))) + x1)
    have h1123_ := jxw_rg ((jxw (1 + (jxw (8 * x2)))) + x1)
    exact jt_rI ⟨hv1116_, hf1117_, rfl, (show (0 ≤ 0 ∧ 0 ≤ 1) from by omega), (show 0 = 0 from by omega), (show (((((a0 146 24 = 0 ∧ 0 ≤ x2) ∧ x2 ≤ 200) ∧ 0 ≤ x1) ∧ x1 ≤ 7) → jxw ((jxw (1 + (jxw (8 * x2)))) + x1) = (1 + (8 * x2)) + x1) from by omega), (show (¬ a0 146 24 = 0 → jxw ((jxw (1 + (jxw (8 * x2)))) + x1) = a0 146 24) from by omega)⟩
  ·
    exact jt_rI ⟨hv0, (jfr_rf _ _), rfl, (show (0 ≤ 0 ∧ 0 ≤ 1) from by omega), (show 0 = 0 from by omega), (show (((((a0 146 24 = 0 ∧ 0 ≤ x2) ∧ x2 ≤ 200) ∧ 0 ≤ x1) ∧ x1 ≤ 7) → a0 146 24 = (1 + (8 * x2)) + x1) from by omega), (show (¬ a0 146 24 = 0 → a0 146 24 = a0 146 24) from by omega)⟩
def jW_X12_number : List (Nat × Nat) := [(146, 23), (146, 24), (146, 26), (146, 27)]
abbrev jQ_X12_number (x1 x2 : Int) (a0 b0 : Nat → Nat → Int) : List jxV → (Nat → Nat → Int) → (Nat → Nat → Int) → Prop := rI (fun r a b => (iv a) ∧ (jfr jW_X12_number a0 a) ∧ (b0 = b) ∧ ((0 ≤ r ∧ r ≤ 1)) ∧ (a0 146 23 ≤ a 146 23) ∧ (a 146 23 ≤ a0 146 22) ∧ ((r = 1 → (x1 ≤ a 146 26 ∧ a 146 26 ≤ x2))))
theorem cp_X12_number_144 (E : jxE) (d : Nat) (hd : Nat.ble 2 (d + 1) = true) (x1 x2 : Int) (a0 b0 : Nat → Nat → Int) (hv0 : iv a0) (hp0 : a0 146 23 ≤ a0 146 22) : ∀ (a : Nat → Nat → Int), iv a → jfr jW_X12_number a0 a → a 146 23 ≤ a 146 22 → a0 146 23 ≤ a 146 23 → jt (jxX E d 217 144 [some (.inr (.inr (.inl 146))), none, none, none, none, none] [] (jxSH, a, b0)) (jQ_X12_number x1 x2 a0 b0) := by
  intro a hv hf hi0 hi1
  refine jt_eq (bq_X12_number_144 E d a b0) ?_
  have h1124_ := iv_get hv (k := 146) (j := 23) (l := 0) (u := 200) rfl
  have h1125_ := iv_get hv (k := 146) (j := 22) (l := 0) (u := 200) rfl
  have h1126_ : a 146 22 = a0 146 22 := hf 146 22 rfl
  have h1127_ := iv_get hv0 (k := 146) (j := 22) (l := 0) (u := 200) rfl
  have h1128_ := iv_get hv0 (k := 146) (j := 23) (l := 0) (u := 200) rfl
  refine jt_bI (sp_X12_fails E d (jd_le hd rfl) 1 (a 146 27) a b0 hv) (fun r1129_ a1129_ b1129_ h1129_ => ?_)
  obtain ⟨hv1129_, hf1129_, rfl, hq1129_0, hq1129_1, hq1129_2, hq1129_3⟩ := h1129_
  refine jt_ite (fun c1130_ => ?_) (fun c1130_ => ?_)
  ·
    have hf1131_ : jfr jW_X12_number a0 a1129_ := jfr_tr hf hf1129_ rfl
    have h1132_ := iv_get hv1129_ (k := 146) (j := 23) (l := 0) (u := 200) rfl
    have h1133_ : a1129_ 146 23 = a 146 23 := hf1129_ 146 23 rfl
    have h1134_ := iv_get hv1129_ (k := 146) (j := 26) (l := 0) (u := 999) rfl
    have h1135_ : a1129_ 146 26 = a 146 26 := hf1129_ 146 26 rfl
    have h1136_ := iv_get hv (k := 146) (j := 26) (l := 0) (u := 999) rfl
    exact jt_rI ⟨hv1129_, hf1131_, rfl, (show (0 ≤ 0 ∧ 0 ≤ 1) from by omega), (show a0 146 23 ≤ a1129_ 146 23 from by omega), (show a1129_ 146 23 ≤ a0 146 22 from by omega), (show (0 = 1 → (x1 ≤ a1129_ 146 26 ∧ a1129_ 146 26 ≤ x2)) from by omega)⟩
  ·
    have hf1137_ : jfr jW_X12_number a0 a1129_ := jfr_tr hf hf1129_ rfl
    have h1138_ := iv_get hv1129_ (k := 146) (j := 23) (l := 0) (u := 200) rfl
    have h1139_ : a1129_ 146 23 = a 146 23 := hf1129_ 146 23 rfl
    have h1140_ := iv_get hv1129_ (k := 146) (j := 26) (l := 0) (u := 999) rfl
    have h1141_ : a1129_ 146 26 = a 146 26 := hf1129_ 146 26 rfl
    have h1142_ := iv_get hv (k := 146) (j := 26) (l := 0) (u := 999) rfl
    exact jt_rI ⟨hv1129_, hf1137_, rfl, (show (0 ≤ 1 ∧ 1 ≤ 1) from by omega), (show a0 146 23 ≤ a1129_ 146 23 from by omega), (show a1129_ 146 23 ≤ a0 146 22 from by omega), (show (1 = 1 → (x1 ≤ a1129_ 146 26 ∧ a1129_ 146 26 ≤ x2)) from by omega)⟩
theorem cp_X12_number_122 (E : jxE) (d : Nat) (hd : Nat.ble 2 (d + 1) = true) (x1 x2 : Int) (a0 b0 : Nat → Nat → Int) (hv0 : iv a0) (hp0 : a0 146 23 ≤ a0 146 22) : ∀ (y1 y2 y4 y5 : Int) (a : Nat → Nat → Int), iv a → jfr jW_X12_number a0 a → a 146 23 ≤ a 146 22 → a0 146 23 ≤ a 146 23 → y1 = x1 → y2 = x2 → 0 ≤ y5 → y5 ≤ 999 → jt (jxX E d 217 122 [some (.inr (.inr (.inl 146))), some (.inl y1), some (.inl y2), none, some (.inl y4), some (.inl y5)] [] (jxSH, a, b0)) (jQ_X12_number x1 x2 a0 b0) := by
  intro y1 y2 y4 y5 a hv hf hi0 hi1 hi2 hi3 hi4 hi5
  refine jt_eq (bq_X12_number_122 E d y1 y2 y4 y5 a b0) ?_
  have h1143_ := iv_get hv (k := 146) (j := 23) (l := 0) (u := 200) rfl
  have h1144_ := iv_get hv (k := 146) (j := 22) (l := 0) (u := 200) rfl
  have h1145_ : a 146 22 = a0 146 22 := hf 146 22 rfl
  have h1146_ := iv_get hv0 (k := 146) (j := 22) (l := 0) (u := 200) rfl
  have h1147_ := iv_get hv0 (k := 146) (j := 23) (l := 0) (u := 200) rfl
  refine jt_ite (fun c1148_ => ?_) (fun c1148_ => ?_)
  ·
    have hv1149_ : iv (jxu a 146 26 y5) := iv_put hv (l := 0) (u := 999) rfl (by omega) (by omega)
    have hf1150_ : jfr jW_X12_number a0 (jxu a 146 26 y5) := jfr_put hf rfl
    exact cp_X12_number_144 E d hd x1 x2 a0 b0 hv0 hp0 (jxu a 146 26 y5) hv1149_ hf1150_ (show a 146 23 ≤ a 146 22 from by omega) (show a0 146 23 ≤ a 146 23 from by omega)
  ·
    refine jt_eI (eq_X12_in E d (jd_le hd rfl) y5 y1 y2 (jxu a 146 26 y5) b0) ?_
    have h1151_ : f_X12_in (jxu a 146 26 y5) b0 y5 y1 y2 = (if y5 < y1 then 0 else (if y2 < y5 then 0 else 1)) := f_X12_in_eq (jxu a 146 26 y5) b0 y5 y1 y2
    refine jt_ite (fun c1152_ => ?_) (fun c1152_ => ?_)
    ·
      have hv1153_ : iv (jxu a 146 26 y5) := iv_put hv (l := 0) (u := 999) rfl (by omega) (by omega)
      have hf1154_ : jfr jW_X12_number a0 (jxu a 146 26 y5) := jfr_put hf rfl
      exact cp_X12_number_144 E d hd x1 x2 a0 b0 hv0 hp0 (jxu a 146 26 y5) hv1153_ hf1154_ (show a 146 23 ≤ a 146 22 from by omega) (show a0 146 23 ≤ a 146 23 from by omega)
    ·
      have hv1155_ : iv (jxu a 146 26 y5) := iv_put hv (l := 0) (u := 999) rfl (by omega) (by omega)
      have hf1156_ : jfr jW_X12_number a0 (jxu a 146 26 y5) := jfr_put hf rfl
      exact jt_rI ⟨hv1155_, hf1156_, rfl, (show (0 ≤ 1 ∧ 1 ≤ 1) from by omega), (show a0 146 23 ≤ a 146 23 from by omega), (show a 146 23 ≤ a0 146 22 from by omega), (show (1 = 1 → (x1 ≤ y5 ∧ y5 ≤ x2)) from by omega)⟩
theorem cp_X12_number_41 (E : jxE) (d : Nat) (hd : Nat.ble 2 (d + 1) = true) (x1 x2 : Int) (a0 b0 : Nat → Nat → Int) (hv0 : iv a0) (hp0 : a0 146 23 ≤ a0 146 22) : ∀ n : Nat, (∀ (y1 y2 y4 y5 : Int) (a : Nat → Nat → Int), ((((a 146 22) - (a 146 23)) * 1) + 0).toNat ≤ n → iv a → jfr jW_X12_number a0 a → 1 ≤ a 146 22 → a 146 23 ≤ 199 → a 146 23 ≤ a 146 22 → a0 146 23 ≤ a 146 23 → y1 = x1 → y2 = x2 → 0 ≤ y4 → y4 ≤ a 146 23 → 0 ≤ y5 → y5 ≤ 999 → (y4 ≤ 1 → y5 ≤ 99) → (y4 ≤ 0 → y5 ≤ 9) → a 146 23 < a 146 22 → jt (jxX E d 217 106 [some (.inr (.inr (.inl 146))), some (.inl y1), some (.inl y2), none, some (.inl y4), some (.inl y5)] [] (jxSH, a, b0)) (jQ_X12_number x1 x2 a0 b0)) ∧ (∀ (y1 y2 y4 y5 : Int) (a : Nat → Nat → Int), ((((a 146 22) - (a 146 23)) * 1) + 0).toNat ≤ n → iv a → jfr jW_X12_number a0 a → 1 ≤ a 146 22 → a 146 23 ≤ 199 → a 146 23 ≤ a 146 22 → a0 146 23 ≤ a 146 23 → y1 = x1 → y2 = x2 → 0 ≤ y4 → y4 ≤ a 146 23 → 0 ≤ y5 → y5 ≤ 999 → (y4 ≤ 2 → y5 ≤ 99) → (y4 ≤ 1 → y5 ≤ 9) → (y4 ≤ 0 → y5 ≤ 0) → a 146 23 < a 146 22 → 48 ≤ a 164 ((a 146 23).toNat) → a 164 ((a 146 23).toNat) ≤ 57 → jt (jxX E d 217 80 [some (.inr (.inr (.inl 146))), some (.inl y1), some (.inl y2), none, some (.inl y4), some (.inl y5)] [] (jxSH, a, b0)) (jQ_X12_number x1 x2 a0 b0)) ∧ (∀ (y1 y2 y4 y5 : Int) (a : Nat → Nat → Int), ((((a 146 22) - (a 146 23)) * 1) + 0).toNat ≤ n → iv a → jfr jW_X12_number a0 a → a 146 23 ≤ a 146 22 → a0 146 23 ≤ a 146 23 → y1 = x1 → y2 = x2 → 0 ≤ y4 → y4 ≤ a 146 23 → 0 ≤ y5 → y5 ≤ 999 → (y4 ≤ 2 → y5 ≤ 99) → (y4 ≤ 1 → y5 ≤ 9) → (y4 ≤ 0 → y5 ≤ 0) → jt (jxX E d 217 41 [some (.inr (.inr (.inl 146))), some (.inl y1), some (.inl y2), none, some (.inl y4), some (.inl y5)] [] (jxSH, a, b0)) (jQ_X12_number x1 x2 a0 b0)) := by
  refine jx_ind fun n ih => ?_
  have ih106 : ∀ (y1 y2 y4 y5 : Int) (a : Nat → Nat → Int), ((((a 146 22) - (a 146 23)) * 1) + 0).toNat < n → iv a → jfr jW_X12_number a0 a → 1 ≤ a 146 22 → a 146 23 ≤ 199 → a 146 23 ≤ a 146 22 → a0 146 23 ≤ a 146 23 → y1 = x1 → y2 = x2 → 0 ≤ y4 → y4 ≤ a 146 23 → 0 ≤ y5 → y5 ≤ 999 → (y4 ≤ 1 → y5 ≤ 99) → (y4 ≤ 0 → y5 ≤ 9) → a 146 23 < a 146 22 → jt (jxX E d 217 106 [some (.inr (.inr (.inl 146))), some (.inl y1), some (.inl y2), none, some (.inl y4), some (.inl y5)] [] (jxSH, a, b0)) (jQ_X12_number x1 x2 a0 b0) := fun y1 y2 y4 y5 a hlt i0 i1 i2 i3 i4 i5 i6 i7 i8 i9 i10 i11 i12 i13 i14 => (ih _ hlt).1 y1 y2 y4 y5 a (Nat.le_refl _) i0 i1 i2 i3 i4 i5 i6 i7 i8 i9 i10 i11 i12 i13 i14
  have ih80 : ∀ (y1 y2 y4 y5 : Int) (a : Nat → Nat → Int), ((((a 146 22) - (a 146 23)) * 1) + 0).toNat < n → iv a → jfr jW_X12_number a0 a → 1 ≤ a 146 22 → a 146 23 ≤ 199 → a 146 23 ≤ a 146 22 → a0 146 23 ≤ a 146 23 → y1 = x1 → y2 = x2 → 0 ≤ y4 → y4 ≤ a 146 23 → 0 ≤ y5 → y5 ≤ 999 → (y4 ≤ 2 → y5 ≤ 99) → (y4 ≤ 1 → y5 ≤ 9) → (y4 ≤ 0 → y5 ≤ 0) → a 146 23 < a 146 22 → 48 ≤ a 164 ((a 146 23).toNat) → a 164 ((a 146 23).toNat) ≤ 57 → jt (jxX E d 217 80 [some (.inr (.inr (.inl 146))), some (.inl y1), some (.inl y2), none, some (.inl y4), some (.inl y5)] [] (jxSH, a, b0)) (jQ_X12_number x1 x2 a0 b0) := fun y1 y2 y4 y5 a hlt i0 i1 i2 i3 i4 i5 i6 i7 i8 i9 i10 i11 i12 i13 i14 i15 i16 i17 => (ih _ hlt).2.1 y1 y2 y4 y5 a (Nat.le_refl _) i0 i1 i2 i3 i4 i5 i6 i7 i8 i9 i10 i11 i12 i13 i14 i15 i16 i17
  have ih41 : ∀ (y1 y2 y4 y5 : Int) (a : Nat → Nat → Int), ((((a 146 22) - (a 146 23)) * 1) + 0).toNat < n → iv a → jfr jW_X12_number a0 a → a 146 23 ≤ a 146 22 → a0 146 23 ≤ a 146 23 → y1 = x1 → y2 = x2 → 0 ≤ y4 → y4 ≤ a 146 23 → 0 ≤ y5 → y5 ≤ 999 → (y4 ≤ 2 → y5 ≤ 99) → (y4 ≤ 1 → y5 ≤ 9) → (y4 ≤ 0 → y5 ≤ 0) → jt (jxX E d 217 41 [some (.inr (.inr (.inl 146))), some (.inl y1), some (.inl y2), none, some (.inl y4), some (.inl y5)] [] (jxSH, a, b0)) (jQ_X12_number x1 x2 a0 b0) := fun y1 y2 y4 y5 a hlt i0 i1 i2 i3 i4 i5 i6 i7 i8 i9 i10 i11 i12 => (ih _ hlt).2.2 y1 y2 y4 y5 a (Nat.le_refl _) i0 i1 i2 i3 i4 i5 i6 i7 i8 i9 i10 i11 i12
  have hc106 : ∀ (y1 y2 y4 y5 : Int) (a : Nat → Nat → Int), ((((a 146 22) - (a 146 23)) * 1) + 0).toNat ≤ n → iv a → jfr jW_X12_number a0 a → 1 ≤ a 146 22 → a 146 23 ≤ 199 → a 146 23 ≤ a 146 22 → a0 146 23 ≤ a 146 23 → y1 = x1 → y2 = x2 → 0 ≤ y4 → y4 ≤ a 146 23 → 0 ≤ y5 → y5 ≤ 999 → (y4 ≤ 1 → y5 ≤ 99) → (y4 ≤ 0 → y5 ≤ 9) → a 146 23 < a 146 22 → jt (jxX E d 217 106 [some (.inr (.inr (.inl 146))), some (.inl y1), some (.inl y2), none, some (.inl y4), some (.inl y5)] [] (jxSH, a, b0)) (jQ_X12_number x1 x2 a0 b0) := by
    intro y1 y2 y4 y5 a hm hv hf hi0 hi1 hi2 hi3 hi4 hi5 hi6 hi7 hi8 hi9 hi10 hi11 hi12
    refine jt_eq (bq_X12_number_106 E d y1 y2 y4 y5 a b0) ?_
    have h1157_ := iv_get hv (k := 146) (j := 22) (l := 0) (u := 200) rfl
    have h1158_ : a 146 22 = a0 146 22 := hf 146 22 rfl
    have h1159_ := iv_get hv0 (k := 146) (j := 22) (l := 0) (u := 200) rfl
    have h1160_ := iv_get hv (k := 146) (j := 23) (l := 0) (u := 200) rfl
    have h1161_ := iv_get hv0 (k := 146) (j := 23) (l := 0) (u := 200) rfl
    have h1163_ : jxw ((a 146 23) + 1) = (a 146 23) + 1 := jxw_id (by omega) (by omega)
    have hv1162_ : iv (jxu a 146 23 (jxw ((a 146 23) + 1))) := iv_put hv (l := 0) (u := 200) rfl (by omega) (by omega)
    have hf1164_ : jfr jW_X12_number a0 (jxu a 146 23 (jxw ((a 146 23) + 1))) := jfr_put hf rfl
    have h1165_ := jxw_im (y4 + 1)
    have h1166_ := jxw_rg (y4 + 1)
    exact ih41 y1 y2 (jxw (y4 + 1)) y5 (jxu a 146 23 (jxw ((a 146 23) + 1))) (show ((((a 146 22) - (jxw ((a 146 23) + 1))) * 1) + 0).toNat < n from by omega) hv1162_ hf1164_ (show jxw ((a 146 23) + 1) ≤ a 146 22 from by omega) (show a0 146 23 ≤ jxw ((a 146 23) + 1) from by omega) (show y1 = x1 from by omega) (show y2 = x2 from by omega) (show 0 ≤ jxw (y4 + 1) from by omega) (show jxw (y4 + 1) ≤ jxw ((a 146 23) + 1) from by omega) (show 0 ≤ y5 from by omega) (show y5 ≤ 999 from by omega) (show (jxw (y4 + 1) ≤ 2 → y5 ≤ 99) from by omega) (show (jxw (y4 + 1) ≤ 1 → y5 ≤ 9) from by omega) (show (jxw (y4 + 1) ≤ 0 → y5 ≤ 0) from by omega)
  have hc80 : ∀ (y1 y2 y4 y5 : Int) (a : Nat → Nat → Int), ((((a 146 22) - (a 146 23)) * 1) + 0).toNat ≤ n → iv a → jfr jW_X12_number a0 a → 1 ≤ a 146 22 → a 146 23 ≤ 199 → a 146 23 ≤ a 146 22 → a0 146 23 ≤ a 146 23 → y1 = x1 → y2 = x2 → 0 ≤ y4 → y4 ≤ a 146 23 → 0 ≤ y5 → y5 ≤ 999 → (y4 ≤ 2 → y5 ≤ 99) → (y4 ≤ 1 → y5 ≤ 9) → (y4 ≤ 0 → y5 ≤ 0) → a 146 23 < a 146 22 → 48 ≤ a 164 ((a 146 23).toNat) → a 164 ((a 146 23).toNat) ≤ 57 → jt (jxX E d 217 80 [some (.inr (.inr (.inl 146))), some (.inl y1), some (.inl y2), none, some (.inl y4), some (.inl y5)] [] (jxSH, a, b0)) (jQ_X12_number x1 x2 a0 b0) := by
    intro y1 y2 y4 y5 a hm hv hf hi0 hi1 hi2 hi3 hi4 hi5 hi6 hi7 hi8 hi9 hi10 hi11 hi12 hi13 hi14 hi15
    refine jt_eq (bq_X12_number_80 E d y1 y2 y4 y5 a b0) ?_
    have h1167_ := iv_get hv (k := 146) (j := 22) (l := 0) (u := 200) rfl
    have h1168_ : a 146 22 = a0 146 22 := hf 146 22 rfl
    have h1169_ := iv_get hv0 (k := 146) (j := 22) (l := 0) (u := 200) rfl
    have h1170_ := iv_get hv (k := 146) (j := 23) (l := 0) (u := 200) rfl
    have h1171_ := iv_get hv0 (k := 146) (j := 23) (l := 0) (u := 200) rfl
    have h1172_ := iv_get hv (k := 164) (j := (a 146 23).toNat) (l := (-128)) (u := 127) rfl
    have h1173_ : a 164 ((a 146 23).toNat) = a0 164 ((a 146 23).toNat) := hf 164 ((a 146 23).toNat) rfl
    have h1174_ := iv_get hv0 (k := 164) (j := (a 146 23).toNat) (l := (-128)) (u := 127) rfl
    refine jt_ite (fun c1175_ => ?_) (fun c1175_ => ?_)
    ·
      refine jt_grd (by omega) ?_
      have h1176_ : jxw (10 * y5) = 10 * y5 := jxw_id (by omega) (by omega)
      have h1177_ : jxw ((jxw (10 * y5)) + (a 164 ((a 146 23).toNat))) = (jxw (10 * y5)) + (a 164 ((a 146 23).toNat)) := jxw_id (by omega) (by omega)
      have h1178_ : jxw ((jxw ((jxw (10 * y5)) + (a 164 ((a 146 23).toNat)))) - 48) = (jxw ((jxw (10 * y5)) + (a 164 ((a 146 23).toNat)))) - 48 := jxw_id (by omega) (by omega)
      exact hc106 y1 y2 y4 (jxw ((jxw ((jxw (10 * y5)) + (a 164 ((a 146 23).toNat)))) - 48)) a (show ((((a 146 22) - (a 146 23)) * 1) + 0).toNat ≤ n from by omega) hv hf (show 1 ≤ a 146 22 from by omega) (show a 146 23 ≤ 199 from by omega) (show a 146 23 ≤ a 146 22 from by omega) (show a0 146 23 ≤ a 146 23 from by omega) (show y1 = x1 from by omega) (show y2 = x2 from by omega) (show 0 ≤ y4 from by omega) (show y4 ≤ a 146 23 from by omega) (show 0 ≤ jxw ((jxw ((jxw (10 * y5)) + (a 164 ((a 146 23).toNat)))) - 48) from by omega) (show jxw ((jxw ((jxw (10 * y5)) + (a 164 ((a 146 23).toNat)))) - 48) ≤ 999 from by omega) (show (y4 ≤ 1 → jxw ((jxw ((jxw (10 * y5)) + (a 164 ((a 146 23).toNat)))) - 48) ≤ 99) from by omega) (show (y4 ≤ 0 → jxw ((jxw ((jxw (10 * y5)) + (a 164 ((a 146 23).toNat)))) - 48) ≤ 9) from by omega) (show a 146 23 < a 146 22 from by omega)
    ·
      exact hc106 y1 y2 y4 y5 a (show ((((a 146 22) - (a 146 23)) * 1) + 0).toNat ≤ n from by omega) hv hf (show 1 ≤ a 146 22 from by omega) (show a 146 23 ≤ 199 from by omega) (show a 146 23 ≤ a 146 22 from by omega) (show a0 146 23 ≤ a 146 23 from by omega) (show y1 = x1 from by omega) (show y2 = x2 from by omega) (show 0 ≤ y4 from by omega) (show y4 ≤ a 146 23 from by omega) (show 0 ≤ y5 from by omega) (show y5 ≤ 999 from by omega) (show (y4 ≤ 1 → y5 ≤ 99) from by omega) (show (y4 ≤ 0 → y5 ≤ 9) from by omega) (show a 146 23 < a 146 22 from by omega)
  have hc41 : ∀ (y1 y2 y4 y5 : Int) (a : Nat → Nat → Int), ((((a 146 22) - (a 146 23)) * 1) + 0).toNat ≤ n → iv a → jfr jW_X12_number a0 a → a 146 23 ≤ a 146 22 → a0 146 23 ≤ a 146 23 → y1 = x1 → y2 = x2 → 0 ≤ y4 → y4 ≤ a 146 23 → 0 ≤ y5 → y5 ≤ 999 → (y4 ≤ 2 → y5 ≤ 99) → (y4 ≤ 1 → y5 ≤ 9) → (y4 ≤ 0 → y5 ≤ 0) → jt (jxX E d 217 41 [some (.inr (.inr (.inl 146))), some (.inl y1), some (.inl y2), none, some (.inl y4), some (.inl y5)] [] (jxSH, a, b0)) (jQ_X12_number x1 x2 a0 b0) := by
    intro y1 y2 y4 y5 a hm hv hf hi0 hi1 hi2 hi3 hi4 hi5 hi6 hi7 hi8 hi9 hi10
    refine jt_eq (bq_X12_number_41 E d y1 y2 y4 y5 a b0) ?_
    have h1179_ := iv_get hv (k := 146) (j := 23) (l := 0) (u := 200) rfl
    have h1180_ := iv_get hv (k := 146) (j := 22) (l := 0) (u := 200) rfl
    have h1181_ : a 146 22 = a0 146 22 := hf 146 22 rfl
    have h1182_ := iv_get hv0 (k := 146) (j := 22) (l := 0) (u := 200) rfl
    have h1183_ := iv_get hv0 (k := 146) (j := 23) (l := 0) (u := 200) rfl
    refine jt_ite (fun c1184_ => ?_) (fun c1184_ => ?_)
    ·
      refine jt_grd (by omega) ?_
      have h1185_ := iv_get hv (k := 164) (j := (a 146 23).toNat) (l := (-128)) (u := 127) rfl
      have h1186_ : a 164 ((a 146 23).toNat) = a0 164 ((a 146 23).toNat) := hf 164 ((a 146 23).toNat) rfl
      have h1187_ := iv_get hv0 (k := 164) (j := (a 146 23).toNat) (l := (-128)) (u := 127) rfl
      refine jt_ite (fun c1188_ => ?_) (fun c1188_ => ?_)
      ·
        exact cp_X12_number_122 E d hd x1 x2 a0 b0 hv0 hp0 y1 y2 y4 y5 a hv hf (show a 146 23 ≤ a 146 22 from by omega) (show a0 146 23 ≤ a 146 23 from by omega) (show y1 = x1 from by omega) (show y2 = x2 from by omega) (show 0 ≤ y5 from by omega) (show y5 ≤ 999 from by omega)
      ·
        refine jt_grd (by omega) ?_
        refine jt_ite (fun c1189_ => ?_) (fun c1189_ => ?_)
        ·
          exact cp_X12_number_122 E d hd x1 x2 a0 b0 hv0 hp0 y1 y2 y4 y5 a hv hf (show a 146 23 ≤ a 146 22 from by omega) (show a0 146 23 ≤ a 146 23 from by omega) (show y1 = x1 from by omega) (show y2 = x2 from by omega) (show 0 ≤ y5 from by omega) (show y5 ≤ 999 from by omega)
        ·
          exact hc80 y1 y2 y4 y5 a (show ((((a 146 22) - (a 146 23)) * 1) + 0).toNat ≤ n from by omega) hv hf (show 1 ≤ a 146 22 from by omega) (show a 146 23 ≤ 199 from by omega) (show a 146 23 ≤ a 146 22 from by omega) (show a0 146 23 ≤ a 146 23 from by omega) (show y1 = x1 from by omega) (show y2 = x2 from by omega) (show 0 ≤ y4 from by omega) (show y4 ≤ a 146 23 from by omega) (show 0 ≤ y5 from by omega) (show y5 ≤ 999 from by omega) (show (y4 ≤ 2 → y5 ≤ 99) from by omega) (show (y4 ≤ 1 → y5 ≤ 9) from by omega) (show (y4 ≤ 0 → y5 ≤ 0) from by omega) (show a 146 23 < a 146 22 from by omega) (show 48 ≤ a 164 ((a 146 23).toNat) from by omega) (show a 164 ((a 146 23).toNat) ≤ 57 from by omega)
    ·
      exact cp_X12_number_122 E d hd x1 x2 a0 b0 hv0 hp0 y1 y2 y4 y5 a hv hf (show a 146 23 ≤ a 146 22 from by omega) (show a0 146 23 ≤ a 146 23 from by omega) (show y1 = x1 from by omega) (show y2 = x2 from by omega) (show 0 ≤ y5 from by omega) (show y5 ≤ 999 from by omega)
  exact ⟨hc106, hc80, hc41⟩
theorem cp_X12_number_38 (E : jxE) (d : Nat) (hd : Nat.ble 2 (d + 1) = true) (x1 x2 : Int) (a0 b0 : Nat → Nat → Int) (hv0 : iv a0) (hp0 : a0 146 23 ≤ a0 146 22) : ∀ (y1 y2 y4 : Int) (a : Nat → Nat → Int), iv a → jfr jW_X12_number a0 a → 0 ≤ y4 → y4 ≤ 0 → a 146 23 ≤ a 146 22 → a0 146 23 ≤ a 146 23 → y1 = x1 → y2 = x2 → y4 = 0 → jt (jxX E d 217 38 [some (.inr (.inr (.inl 146))), some (.inl y1), some (.inl y2), none, some (.inl y4), none] [] (jxSH, a, b0)) (jQ_X12_number x1 x2 a0 b0) := by
  intro y1 y2 y4 a hv hf hi0 hi1 hi2 hi3 hi4 hi5 hi6
  refine jt_eq (bq_X12_number_38 E d y1 y2 y4 a b0) ?_
  have h1190_ := iv_get hv (k := 146) (j := 23) (l := 0) (u := 200) rfl
  have h1191_ := iv_get hv (k := 146) (j := 22) (l := 0) (u := 200) rfl
  have h1192_ : a 146 22 = a0 146 22 := hf 146 22 rfl
  have h1193_ := iv_get hv0 (k := 146) (j := 22) (l := 0) (u := 200) rfl
  have h1194_ := iv_get hv0 (k := 146) (j := 23) (l := 0) (u := 200) rfl
  exact (cp_X12_number_41 E d hd x1 x2 a0 b0 hv0 hp0 _).2.2 y1 y2 y4 0 a (Nat.le_refl _) hv hf (show a 146 23 ≤ a 146 22 from by omega) (show a0 146 23 ≤ a 146 23 from by omega) (show y1 = x1 from by omega) (show y2 = x2 from by omega) (show 0 ≤ y4 from by omega) (show y4 ≤ a 146 23 from by omega) (show 0 ≤ 0 from by omega) (show 0 ≤ 999 from by omega) (show (y4 ≤ 2 → 0 ≤ 99) from by omega) (show (y4 ≤ 1 → 0 ≤ 9) from by omega) (show (y4 ≤ 0 → 0 ≤ 0) from by omega)
theorem sp_X12_number (E : jxE) (d : Nat) (hd : Nat.ble 2 d = true) (x1 x2 : Int) (a0 b0 : Nat → Nat → Int) (hv0 : iv a0) (hp0 : a0 146 23 ≤ a0 146 22) : jt (jxC E d 217 [.inr (.inr (.inl 146)), .inl x1, .inl x2] (jxSH, a0, b0)) (jQ_X12_number x1 x2 a0 b0) := by
  obtain ⟨d, rfl⟩ := jd_succ hd
  refine jt_eq (bq_X12_number E d x1 x2 a0 b0) ?_
  have h1195_ := iv_get hv0 (k := 146) (j := 23) (l := 0) (u := 200) rfl
  have h1196_ := iv_get hv0 (k := 146) (j := 22) (l := 0) (u := 200) rfl
  refine jt_bI (sp_X12_see E d (jd_le hd rfl) a0 b0 hv0 (show a0 146 23 ≤ a0 146 22 from by omega)) (fun r1197_ a1197_ b1197_ h1197_ => ?_)
  obtain ⟨hv1197_, hf1197_, rfl, hq1197_0, hq1197_1, hq1197_2, hq1197_3⟩ := h1197_
  have h1198_ := iv_get hv1197_ (k := 146) (j := 23) (l := 0) (u := 200) rfl
  have h1199_ := iv_get hv1197_ (k := 164) (j := (a1197_ 146 23).toNat) (l := (-128)) (u := 127) rfl
  have h1200_ : a1197_ 164 ((a1197_ 146 23).toNat) = a0 164 ((a1197_ 146 23).toNat) := hf1197_ 164 ((a1197_ 146 23).toNat) rfl
  have h1201_ := iv_get hv0 (k := 164) (j := (a1197_ 146 23).toNat) (l := (-128)) (u := 127) rfl
  have h1202_ := iv_get hv0 (k := 164) (j := (a0 146 23).toNat) (l := (-128)) (u := 127) rfl
  refine jt_ite (fun c1203_ => ?_) (fun c1203_ => ?_)
  ·
    refine jt_bI (sp_X12_fails E d (jd_le hd rfl) 0 (a1197_ 146 23) a1197_ b0 hv1197_) (fun r1204_ a1204_ b1204_ h1204_ => ?_)
    obtain ⟨hv1204_, hf1204_, rfl, hq1204_0, hq1204_1, hq1204_2, hq1204_3⟩ := h1204_
    have h1205_ : a1197_ 146 24 = a0 146 24 := hf1197_ 146 24 rfl
    refine jt_grd (by omega) ?_
    have hf1206_ : jfr jW_X12_number a0 a1197_ := jfr_tr (jfr_rf _ _) hf1197_ rfl
    have hf1207_ : jfr jW_X12_number a0 a1204_ := jfr_tr hf1206_ hf1204_ rfl
    have h1208_ := iv_get hv1204_ (k := 146) (j := 23) (l := 0) (u := 200) rfl
    have h1209_ : a1204_ 146 23 = a1197_ 146 23 := hf1204_ 146 23 rfl
    have h1210_ := iv_get hv1204_ (k := 146) (j := 26) (l := 0) (u := 999) rfl
    have h1211_ : a1204_ 146 26 = a1197_ 146 26 := hf1204_ 146 26 rfl
    have h1212_ := iv_get hv1197_ (k := 146) (j := 26) (l := 0) (u := 999) rfl
    have h1213_ : a1197_ 146 26 = a0 146 26 := hf1197_ 146 26 rfl
    have h1214_ := iv_get hv0 (k := 146) (j := 26) (l := 0) (u := 999) rfl
    exact jt_rI ⟨hv1204_, hf1207_, rfl, (show (0 ≤ r1204_ ∧ r1204_ ≤ 1) from by omega), (show a0 146 23 ≤ a1204_ 146 23 from by omega), (show a1204_ 146 23 ≤ a0 146 22 from by omega), (show (r1204_ = 1 → (x1 ≤ a1204_ 146 26 ∧ a1204_ 146 26 ≤ x2)) from by omega)⟩
  ·
    refine jt_ite (fun c1215_ => ?_) (fun c1215_ => ?_)
    ·
      refine jt_bI (sp_X12_fails E d (jd_le hd rfl) 0 (a1197_ 146 23) a1197_ b0 hv1197_) (fun r1216_ a1216_ b1216_ h1216_ => ?_)
      obtain ⟨hv1216_, hf1216_, rfl, hq1216_0, hq1216_1, hq1216_2, hq1216_3⟩ := h1216_
      have h1217_ : a1197_ 146 24 = a0 146 24 := hf1197_ 146 24 rfl
      refine jt_grd (by omega) ?_
      have hf1218_ : jfr jW_X12_number a0 a1197_ := jfr_tr (jfr_rf _ _) hf1197_ rfl
      have hf1219_ : jfr jW_X12_number a0 a1216_ := jfr_tr hf1218_ hf1216_ rfl
      have h1220_ := iv_get hv1216_ (k := 146) (j := 23) (l := 0) (u := 200) rfl
      have h1221_ : a1216_ 146 23 = a1197_ 146 23 := hf1216_ 146 23 rfl
      have h1222_ := iv_get hv1216_ (k := 146) (j := 26) (l := 0) (u := 999) rfl
      have h1223_ : a1216_ 146 26 = a1197_ 146 26 := hf1216_ 146 26 rfl
      have h1224_ := iv_get hv1197_ (k := 146) (j := 26) (l := 0) (u := 999) rfl
      have h1225_ : a1197_ 146 26 = a0 146 26 := hf1197_ 146 26 rfl
      have h1226_ := iv_get hv0 (k := 146) (j := 26) (l := 0) (u := 999) rfl
      exact jt_rI ⟨hv1216_, hf1219_, rfl, (show (0 ≤ r1216_ ∧ r1216_ ≤ 1) from by omega), (show a0 146 23 ≤ a1216_ 146 23 from by omega), (show a1216_ 146 23 ≤ a0 146 22 from by omega), (show (r1216_ = 1 → (x1 ≤ a1216_ 146 26 ∧ a1216_ 146 26 ≤ x2)) from by omega)⟩
    ·
      have hv1227_ : iv (jxu a1197_ 146 27 (a1197_ 146 23)) := iv_putf hv1197_ rfl
      have hf1228_ : jfr jW_X12_number a0 a1197_ := jfr_tr (jfr_rf _ _) hf1197_ rfl
      have hf1229_ : jfr jW_X12_number a0 (jxu a1197_ 146 27 (a1197_ 146 23)) := jfr_put hf1228_ rfl
      have h1230_ := iv_get hv1197_ (k := 146) (j := 22) (l := 0) (u := 200) rfl
      have h1231_ : a1197_ 146 22 = a0 146 22 := hf1197_ 146 22 rfl
      exact cp_X12_number_38 E d hd x1 x2 a0 b0 hv0 hp0 x1 x2 0 (jxu a1197_ 146 27 (a1197_ 146 23)) hv1227_ hf1229_ (show 0 ≤ 0 from by omega) (show 0 ≤ 0 from by omega) (show a1197_ 146 23 ≤ a1197_ 146 22 from by omega) (show a0 146 23 ≤ a1197_ 146 23 from by omega) (show x1 = x1 from by omega) (show x2 = x2 from by omega) (show 0 = 0 from by omega)
def jW_X12_wordHere : List (Nat × Nat) := [(146, 23), (146, 25)]
abbrev jQ_X12_wordHere (a0 b0 : Nat → Nat → Int) : List jxV → (Nat → Nat → Int) → (Nat → Nat → Int) → Prop := rI (fun r a b => (iv a) ∧ (jfr jW_X12_wordHere a0 a) ∧ (b0 = b) ∧ ((a 146 23) + (a 146 25) ≤ a 146 22) ∧ (a0 146 23 ≤ a 146 23) ∧ (0 - 1 ≤ r) ∧ (r ≤ 15) ∧ ((r = 2 → a 146 25 = 3)) ∧ ((0 ≤ r → 2 ≤ a 146 25)) ∧ (((a0 146 23 < a0 146 22 ∧ ¬ a0 164 ((a0 146 23).toNat) = 32) → a 146 23 = a0 146 23)))
theorem cp_X12_wordHere_79 (E : jxE) (d : Nat) (hd : Nat.ble 2 (d + 1) = true) (a0 b0 : Nat → Nat → Int) (hv0 : iv a0) (hp0 : a0 146 23 ≤ a0 146 22) : ∀ n : Nat, (∀ (y1 y2 y4 : Int) (a : Nat → Nat → Int), (((((16 - y1) * 17) + 0) + ((6 - y4) * 1)) + 0).toNat ≤ n → iv a → jfr jW_X12_wordHere a0 a → 0 ≤ y1 → y1 ≤ 15 → 1 ≤ y2 → y2 ≤ 6 → 0 ≤ y4 → y4 ≤ 5 → a 146 25 ≤ 6 → (a 146 23) + (a 146 25) ≤ a 146 22 → a0 146 23 ≤ a 146 23 → 2 ≤ y2 → (y1 = 2 → y2 = 3) → y2 = a 146 25 → y4 < y2 → ((a0 146 23 < a0 146 22 ∧ ¬ a0 164 ((a0 146 23).toNat) = 32) → a 146 23 = a0 146 23) → jt (jxX E d 216 176 [some (.inr (.inr (.inl 146))), some (.inl y1), some (.inl y2), none, some (.inl y4)] [] (jxSH, a, b0)) (jQ_X12_wordHere a0 b0)) ∧ (∀ (y1 y2 y4 : Int) (a : Nat → Nat → Int), (((((16 - y1) * 17) + 0) + ((6 - y4) * 1)) + 0).toNat ≤ n → iv a → jfr jW_X12_wordHere a0 a → 0 ≤ y1 → y1 ≤ 15 → 1 ≤ y2 → y2 ≤ 6 → 0 ≤ y4 → y4 ≤ 5 → a 146 25 ≤ 6 → (a 146 23) + (a 146 25) ≤ a 146 22 → a0 146 23 ≤ a 146 23 → 2 ≤ y2 → (y1 = 2 → y2 = 3) → y2 = a 146 25 → y4 < y2 → ((a0 146 23 < a0 146 22 ∧ ¬ a0 164 ((a0 146 23).toNat) = 32) → a 146 23 = a0 146 23) → jt (jxX E d 216 180 [some (.inr (.inr (.inl 146))), some (.inl y1), some (.inl y2), none, some (.inl y4)] [] (jxSH, a, b0)) (jQ_X12_wordHere a0 b0)) ∧ (∀ (y1 y2 y3 y4 : Int) (a : Nat → Nat → Int), (((((16 - y1) * 17) + 0) + ((6 - y4) * 1)) + 0).toNat ≤ n → iv a → jfr jW_X12_wordHere a0 a → 0 ≤ y1 → y1 ≤ 15 → 0 ≤ y2 → y2 ≤ 6 → 0 ≤ y3 → y3 ≤ 1 → 0 ≤ y4 → y4 ≤ 6 → a 146 25 ≤ 6 → (a 146 23) + (a 146 25) ≤ a 146 22 → a0 146 23 ≤ a 146 23 → 2 ≤ y2 → (y1 = 2 → y2 = 3) → (y3 = 0 ∨ y2 = a 146 25) → (y3 = 0 ∨ y3 = 1) → ((a0 146 23 < a0 146 22 ∧ ¬ a0 164 ((a0 146 23).toNat) = 32) → a 146 23 = a0 146 23) → jt (jxX E d 216 139 [some (.inr (.inr (.inl 146))), some (.inl y1), some (.inl y2), some (.inl y3), some (.inl y4)] [] (jxSH, a, b0)) (jQ_X12_wordHere a0 b0)) ∧ (∀ (y1 y2 : Int) (a : Nat → Nat → Int), (((16 - y1) * 17) + 8).toNat ≤ n → iv a → jfr jW_X12_wordHere a0 a → 0 ≤ y1 → y1 ≤ 15 → 0 ≤ y2 → y2 ≤ 6 → a 146 25 ≤ 6 → (a 146 23) + (a 146 25) ≤ a 146 22 → a0 146 23 ≤ a 146 23 → (y1 = 2 → y2 = 3) → 2 ≤ y2 → ((a0 146 23 < a0 146 22 ∧ ¬ a0 164 ((a0 146 23).toNat) = 32) → a 146 23 = a0 146 23) → jt (jxX E d 216 122 [some (.inr (.inr (.inl 146))), some (.inl y1), some (.inl y2), none, none] [] (jxSH, a, b0)) (jQ_X12_wordHere a0 b0)) ∧ (∀ (y1 y2 : Int) (a : Nat → Nat → Int), (((((16 - y1) * 17) + 8) + ((6 - y2) * 1)) + 0).toNat ≤ n → iv a → jfr jW_X12_wordHere a0 a → 0 ≤ y1 → y1 ≤ 15 → 0 ≤ y2 → y2 ≤ 6 → a 146 25 ≤ 6 → (a 146 23) + (a 146 25) ≤ a 146 22 → a0 146 23 ≤ a 146 23 → (y1 = 2 → y2 ≤ 3) → ((a0 146 23 < a0 146 22 ∧ ¬ a0 164 ((a0 146 23).toNat) = 32) → a 146 23 = a0 146 23) → jt (jxX E d 216 96 [some (.inr (.inr (.inl 146))), some (.inl y1), some (.inl y2), none, none] [] (jxSH, a, b0)) (jQ_X12_wordHere a0 b0)) ∧ (∀ (y1 : Int) (a : Nat → Nat → Int), (((16 - y1) * 17) + 16).toNat ≤ n → iv a → jfr jW_X12_wordHere a0 a → 0 ≤ y1 → y1 ≤ 16 → (a 146 23) + (a 146 25) ≤ a 146 22 → a0 146 23 ≤ a 146 23 → ((a0 146 23 < a0 146 22 ∧ ¬ a0 164 ((a0 146 23).toNat) = 32) → a 146 23 = a0 146 23) → jt (jxX E d 216 79 [some (.inr (.inr (.inl 146))), some (.inl y1), none, none, none] [] (jxSH, a, b0)) (jQ_X12_wordHere a0 b0)) := by
  refine jx_ind fun n ih => ?_
  have ih176 : ∀ (y1 y2 y4 : Int) (a : Nat → Nat → Int), (((((16 - y1) * 17) + 0) + ((6 - y4) * 1)) + 0).toNat < n → iv a → jfr jW_X12_wordHere a0 a → 0 ≤ y1 → y1 ≤ 15 → 1 ≤ y2 → y2 ≤ 6 → 0 ≤ y4 → y4 ≤ 5 → a 146 25 ≤ 6 → (a 146 23) + (a 146 25) ≤ a 146 22 → a0 146 23 ≤ a 146 23 → 2 ≤ y2 → (y1 = 2 → y2 = 3) → y2 = a 146 25 → y4 < y2 → ((a0 146 23 < a0 146 22 ∧ ¬ a0 164 ((a0 146 23).toNat) = 32) → a 146 23 = a0 146 23) → jt (jxX E d 216 176 [some (.inr (.inr (.inl 146))), some (.inl y1), some (.inl y2), none, some (.inl y4)] [] (jxSH, a, b0)) (jQ_X12_wordHere a0 b0) := fun y1 y2 y4 a hlt i0 i1 i2 i3 i4 i5 i6 i7 i8 i9 i10 i11 i12 i13 i14 i15 => (ih _ hlt).1 y1 y2 y4 a (Nat.le_refl _) i0 i1 i2 i3 i4 i5 i6 i7 i8 i9 i10 i11 i12 i13 i14 i15
  have ih180 : ∀ (y1 y2 y4 : Int) (a : Nat → Nat → Int), (((((16 - y1) * 17) + 0) + ((6 - y4) * 1)) + 0).toNat < n → iv a → jfr jW_X12_wordHere a0 a → 0 ≤ y1 → y1 ≤ 15 → 1 ≤ y2 → y2 ≤ 6 → 0 ≤ y4 → y4 ≤ 5 → a 146 25 ≤ 6 → (a 146 23) + (a 146 25) ≤ a 146 22 → a0 146 23 ≤ a 146 23 → 2 ≤ y2 → (y1 = 2 → y2 = 3) → y2 = a 146 25 → y4 < y2 → ((a0 146 23 < a0 146 22 ∧ ¬ a0 164 ((a0 146 23).toNat) = 32) → a 146 23 = a0 146 23) → jt (jxX E d 216 180 [some (.inr (.inr (.inl 146))), some (.inl y1), some (.inl y2), none, some (.inl y4)] [] (jxSH, a, b0)) (jQ_X12_wordHere a0 b0) := fun y1 y2 y4 a hlt i0 i1 i2 i3 i4 i5 i6 i7 i8 i9 i10 i11 i12 i13 i14 i15 => (ih _ hlt).2.1 y1 y2 y4 a (Nat.le_refl _) i0 i1 i2 i3 i4 i5 i6 i7 i8 i9 i10 i11 i12 i13 i14 i15
  have ih139 : ∀ (y1 y2 y3 y4 : Int) (a : Nat → Nat → Int), (((((16 - y1) * 17) + 0) + ((6 - y4) * 1)) + 0).toNat < n → iv a → jfr jW_X12_wordHere a0 a → 0 ≤ y1 → y1 ≤ 15 → 0 ≤ y2 → y2 ≤ 6 → 0 ≤ y3 → y3 ≤ 1 → 0 ≤ y4 → y4 ≤ 6 → a 146 25 ≤ 6 → (a 146 23) + (a 146 25) ≤ a 146 22 → a0 146 23 ≤ a 146 23 → 2 ≤ y2 → (y1 = 2 → y2 = 3) → (y3 = 0 ∨ y2 = a 146 25) → (y3 = 0 ∨ y3 = 1) → ((a0 146 23 < a0 146 22 ∧ ¬ a0 164 ((a0 146 23).toNat) = 32) → a 146 23 = a0 146 23) → jt (jxX E d 216 139 [some (.inr (.inr (.inl 146))), some (.inl y1), some (.inl y2), some (.inl y3), some (.inl y4)] [] (jxSH, a, b0)) (jQ_X12_wordHere a0 b0) := fun y1 y2 y3 y4 a hlt i0 i1 i2 i3 i4 i5 i6 i7 i8 i9 i10 i11 i12 i13 i14 i15 i16 i17 => (ih _ hlt).2.2.1 y1 y2 y3 y4 a (Nat.le_refl _) i0 i1 i2 i3 i4 i5 i6 i7 i8 i9 i10 i11 i12 i13 i14 i15 i16 i17
  have ih122 : ∀ (y1 y2 : Int) (a : Nat → Nat → Int), (((16 - y1) * 17) + 8).toNat < n → iv a → jfr jW_X12_wordHere a0 a → 0 ≤ y1 → y1 ≤ 15 → 0 ≤ y2 → y2 ≤ 6 → a 146 25 ≤ 6 → (a 146 23) + (a 146 25) ≤ a 146 22 → a0 146 23 ≤ a 146 23 → (y1 = 2 → y2 = 3) → 2 ≤ y2 → ((a0 146 23 < a0 146 22 ∧ ¬ a0 164 ((a0 146 23).toNat) = 32) → a 146 23 = a0 146 23) → jt (jxX E d 216 122 [some (.inr (.inr (.inl 146))), some (.inl y1), some (.inl y2), none, none] [] (jxSH, a, b0)) (jQ_X12_wordHere a0 b0) := fun y1 y2 a hlt i0 i1 i2 i3 i4 i5 i6 i7 i8 i9 i10 i11 => (ih _ hlt).2.2.2.1 y1 y2 a (Nat.le_refl _) i0 i1 i2 i3 i4 i5 i6 i7 i8 i9 i10 i11
  have ih96 : ∀ (y1 y2 : Int) (a : Nat → Nat → Int), (((((16 - y1) * 17) + 8) + ((6 - y2) * 1)) + 0).toNat < n → iv a → jfr jW_X12_wordHere a0 a → 0 ≤ y1 → y1 ≤ 15 → 0 ≤ y2 → y2 ≤ 6 → a 146 25 ≤ 6 → (a 146 23) + (a 146 25) ≤ a 146 22 → a0 146 23 ≤ a 146 23 → (y1 = 2 → y2 ≤ 3) → ((a0 146 23 < a0 146 22 ∧ ¬ a0 164 ((a0 146 23).toNat) = 32) → a 146 23 = a0 146 23) → jt (jxX E d 216 96 [some (.inr (.inr (.inl 146))), some (.inl y1), some (.inl y2), none, none] [] (jxSH, a, b0)) (jQ_X12_wordHere a0 b0) := fun y1 y2 a hlt i0 i1 i2 i3 i4 i5 i6 i7 i8 i9 i10 => (ih _ hlt).2.2.2.2.1 y1 y2 a (Nat.le_refl _) i0 i1 i2 i3 i4 i5 i6 i7 i8 i9 i10
  have ih79 : ∀ (y1 : Int) (a : Nat → Nat → Int), (((16 - y1) * 17) + 16).toNat < n → iv a → jfr jW_X12_wordHere a0 a → 0 ≤ y1 → y1 ≤ 16 → (a 146 23) + (a 146 25) ≤ a 146 22 → a0 146 23 ≤ a 146 23 → ((a0 146 23 < a0 146 22 ∧ ¬ a0 164 ((a0 146 23).toNat) = 32) → a 146 23 = a0 146 23) → jt (jxX E d 216 79 [some (.inr (.inr (.inl 146))), some (.inl y1), none, none, none] [] (jxSH, a, b0)) (jQ_X12_wordHere a0 b0) := fun y1 a hlt i0 i1 i2 i3 i4 i5 i6 => (ih _ hlt).2.2.2.2.2 y1 a (Nat.le_refl _) i0 i1 i2 i3 i4 i5 i6
  have hc176 : ∀ (y1 y2 y4 : Int) (a : Nat → Nat → Int), (((((16 - y1) * 17) + 0) + ((6 - y4) * 1)) + 0).toNat ≤ n → iv a → jfr jW_X12_wordHere a0 a → 0 ≤ y1 → y1 ≤ 15 → 1 ≤ y2 → y2 ≤ 6 → 0 ≤ y4 → y4 ≤ 5 → a 146 25 ≤ 6 → (a 146 23) + (a 146 25) ≤ a 146 22 → a0 146 23 ≤ a 146 23 → 2 ≤ y2 → (y1 = 2 → y2 = 3) → y2 = a 146 25 → y4 < y2 → ((a0 146 23 < a0 146 22 ∧ ¬ a0 164 ((a0 146 23).toNat) = 32) → a 146 23 = a0 146 23) → jt (jxX E d 216 176 [some (.inr (.inr (.inl 146))), some (.inl y1), some (.inl y2), none, some (.inl y4)] [] (jxSH, a, b0)) (jQ_X12_wordHere a0 b0) := by
    intro y1 y2 y4 a hm hv hf hi0 hi1 hi2 hi3 hi4 hi5 hi6 hi7 hi8 hi9 hi10 hi11 hi12 hi13
    refine jt_eq (bq_X12_wordHere_176 E d y1 y2 y4 a b0) ?_
    have h1232_ := iv_get hv (k := 146) (j := 25) (l := 0) (u := 200) rfl
    have h1233_ := iv_get hv (k := 146) (j := 23) (l := 0) (u := 200) rfl
    have h1234_ := iv_get hv (k := 146) (j := 22) (l := 0) (u := 200) rfl
    have h1235_ : a 146 22 = a0 146 22 := hf 146 22 rfl
    have h1236_ := iv_get hv0 (k := 146) (j := 22) (l := 0) (u := 200) rfl
    have h1237_ := iv_get hv0 (k := 146) (j := 23) (l := 0) (u := 200) rfl
    have h1238_ := iv_get hv0 (k := 164) (j := (a0 146 23).toNat) (l := (-128)) (u := 127) rfl
    have h1239_ : jxw (y4 + 1) = y4 + 1 := jxw_id (by omega) (by omega)
    exact ih139 y1 y2 1 (jxw (y4 + 1)) a (show (((((16 - y1) * 17) + 0) + ((6 - (jxw (y4 + 1))) * 1)) + 0).toNat < n from by omega) hv hf (show 0 ≤ y1 from by omega) (show y1 ≤ 15 from by omega) (show 0 ≤ y2 from by omega) (show y2 ≤ 6 from by omega) (show 0 ≤ 1 from by omega) (show 1 ≤ 1 from by omega) (show 0 ≤ jxw (y4 + 1) from by omega) (show jxw (y4 + 1) ≤ 6 from by omega) (show a 146 25 ≤ 6 from by omega) (show (a 146 23) + (a 146 25) ≤ a 146 22 from by omega) (show a0 146 23 ≤ a 146 23 from by omega) (show 2 ≤ y2 from by omega) (show (y1 = 2 → y2 = 3) from by omega) (show (1 = 0 ∨ y2 = a 146 25) from by omega) (show (1 = 0 ∨ 1 = 1) from by omega) (show ((a0 146 23 < a0 146 22 ∧ ¬ a0 164 ((a0 146 23).toNat) = 32) → a 146 23 = a0 146 23) from by omega)
  have hc180 : ∀ (y1 y2 y4 : Int) (a : Nat → Nat → Int), (((((16 - y1) * 17) + 0) + ((6 - y4) * 1)) + 0).toNat ≤ n → iv a → jfr jW_X12_wordHere a0 a → 0 ≤ y1 → y1 ≤ 15 → 1 ≤ y2 → y2 ≤ 6 → 0 ≤ y4 → y4 ≤ 5 → a 146 25 ≤ 6 → (a 146 23) + (a 146 25) ≤ a 146 22 → a0 146 23 ≤ a 146 23 → 2 ≤ y2 → (y1 = 2 → y2 = 3) → y2 = a 146 25 → y4 < y2 → ((a0 146 23 < a0 146 22 ∧ ¬ a0 164 ((a0 146 23).toNat) = 32) → a 146 23 = a0 146 23) → jt (jxX E d 216 180 [some (.inr (.inr (.inl 146))), some (.inl y1), some (.inl y2), none, some (.inl y4)] [] (jxSH, a, b0)) (jQ_X12_wordHere a0 b0) := by
    intro y1 y2 y4 a hm hv hf hi0 hi1 hi2 hi3 hi4 hi5 hi6 hi7 hi8 hi9 hi10 hi11 hi12 hi13
    refine jt_eq (bq_X12_wordHere_180 E d y1 y2 y4 a b0) ?_
    have h1240_ := iv_get hv (k := 146) (j := 25) (l := 0) (u := 200) rfl
    have h1241_ := iv_get hv (k := 146) (j := 23) (l := 0) (u := 200) rfl
    have h1242_ := iv_get hv (k := 146) (j := 22) (l := 0) (u := 200) rfl
    have h1243_ : a 146 22 = a0 146 22 := hf 146 22 rfl
    have h1244_ := iv_get hv0 (k := 146) (j := 22) (l := 0) (u := 200) rfl
    have h1245_ := iv_get hv0 (k := 146) (j := 23) (l := 0) (u := 200) rfl
    have h1246_ := iv_get hv0 (k := 164) (j := (a0 146 23).toNat) (l := (-128)) (u := 127) rfl
    have h1247_ : jxw (y4 + 1) = y4 + 1 := jxw_id (by omega) (by omega)
    exact ih139 y1 y2 0 (jxw (y4 + 1)) a (show (((((16 - y1) * 17) + 0) + ((6 - (jxw (y4 + 1))) * 1)) + 0).toNat < n from by omega) hv hf (show 0 ≤ y1 from by omega) (show y1 ≤ 15 from by omega) (show 0 ≤ y2 from by omega) (show y2 ≤ 6 from by omega) (show 0 ≤ 0 from by omega) (show 0 ≤ 1 from by omega) (show 0 ≤ jxw (y4 + 1) from by omega) (show jxw (y4 + 1) ≤ 6 from by omega) (show a 146 25 ≤ 6 from by omega) (show (a 146 23) + (a 146 25) ≤ a 146 22 from by omega) (show a0 146 23 ≤ a 146 23 from by omega) (show 2 ≤ y2 from by omega) (show (y1 = 2 → y2 = 3) from by omega) (show (0 = 0 ∨ y2 = a 146 25) from by omega) (show (0 = 0 ∨ 0 = 1) from by omega) (show ((a0 146 23 < a0 146 22 ∧ ¬ a0 164 ((a0 146 23).toNat) = 32) → a 146 23 = a0 146 23) from by omega)
  have hc139 : ∀ (y1 y2 y3 y4 : Int) (a : Nat → Nat → Int), (((((16 - y1) * 17) + 0) + ((6 - y4) * 1)) + 0).toNat ≤ n → iv a → jfr jW_X12_wordHere a0 a → 0 ≤ y1 → y1 ≤ 15 → 0 ≤ y2 → y2 ≤ 6 → 0 ≤ y3 → y3 ≤ 1 → 0 ≤ y4 → y4 ≤ 6 → a 146 25 ≤ 6 → (a 146 23) + (a 146 25) ≤ a 146 22 → a0 146 23 ≤ a 146 23 → 2 ≤ y2 → (y1 = 2 → y2 = 3) → (y3 = 0 ∨ y2 = a 146 25) → (y3 = 0 ∨ y3 = 1) → ((a0 146 23 < a0 146 22 ∧ ¬ a0 164 ((a0 146 23).toNat) = 32) → a 146 23 = a0 146 23) → jt (jxX E d 216 139 [some (.inr (.inr (.inl 146))), some (.inl y1), some (.inl y2), some (.inl y3), some (.inl y4)] [] (jxSH, a, b0)) (jQ_X12_wordHere a0 b0) := by
    intro y1 y2 y3 y4 a hm hv hf hi0 hi1 hi2 hi3 hi4 hi5 hi6 hi7 hi8 hi9 hi10 hi11 hi12 hi13 hi14 hi15
    refine jt_eq (bq_X12_wordHere_139 E d y1 y2 y3 y4 a b0) ?_
    have h1248_ := iv_get hv (k := 146) (j := 25) (l := 0) (u := 200) rfl
    have h1249_ := iv_get hv (k := 146) (j := 23) (l := 0) (u := 200) rfl
    have h1250_ := iv_get hv (k := 146) (j := 22) (l := 0) (u := 200) rfl
    have h1251_ : a 146 22 = a0 146 22 := hf 146 22 rfl
    have h1252_ := iv_get hv0 (k := 146) (j := 22) (l := 0) (u := 200) rfl
    have h1253_ := iv_get hv0 (k := 146) (j := 23) (l := 0) (u := 200) rfl
    have h1254_ := iv_get hv0 (k := 164) (j := (a0 146 23).toNat) (l := (-128)) (u := 127) rfl
    refine jt_ite (fun c1255_ => ?_) (fun c1255_ => ?_)
    ·
      refine jt_ite (fun c1256_ => ?_) (fun c1256_ => ?_)
      ·
        have h1257_ : jxw (y1 + 1) = y1 + 1 := jxw_id (by omega) (by omega)
        exact ih79 (jxw (y1 + 1)) a (show (((16 - (jxw (y1 + 1))) * 17) + 16).toNat < n from by omega) hv hf (show 0 ≤ jxw (y1 + 1) from by omega) (show jxw (y1 + 1) ≤ 16 from by omega) (show (a 146 23) + (a 146 25) ≤ a 146 22 from by omega) (show a0 146 23 ≤ a 146 23 from by omega) (show ((a0 146 23 < a0 146 22 ∧ ¬ a0 164 ((a0 146 23).toNat) = 32) → a 146 23 = a0 146 23) from by omega)
      ·
        exact jt_rI ⟨hv, hf, rfl, (show (a 146 23) + (a 146 25) ≤ a 146 22 from by omega), (show a0 146 23 ≤ a 146 23 from by omega), (show 0 - 1 ≤ y1 from by omega), (show y1 ≤ 15 from by omega), (show (y1 = 2 → a 146 25 = 3) from by omega), (show (0 ≤ y1 → 2 ≤ a 146 25) from by omega), (show ((a0 146 23 < a0 146 22 ∧ ¬ a0 164 ((a0 146 23).toNat) = 32) → a 146 23 = a0 146 23) from by omega)⟩
    ·
      refine jt_ite (fun c1258_ => ?_) (fun c1258_ => ?_)
      ·
        have h1259_ : jxw (6 * y1) = 6 * y1 := jxw_id (by omega) (by omega)
        have h1260_ : jxw ((jxw (6 * y1)) + y4) = (jxw (6 * y1)) + y4 := jxw_id (by omega) (by omega)
        refine jt_grd (by omega) ?_
        have h1261_ : jxw ((a 146 23) + y4) = (a 146 23) + y4 := jxw_id (by omega) (by omega)
        refine jt_grd (by omega) ?_
        have h1262_ := iv_wd hv ((jxw ((jxw (6 * y1)) + y4)).toNat)
        have h1263_ : a 165 ((jxw ((jxw (6 * y1)) + y4)).toNat) = a0 165 ((jxw ((jxw (6 * y1)) + y4)).toNat) := hf 165 ((jxw ((jxw (6 * y1)) + y4)).toNat) rfl
        have h1264_ := iv_wd hv0 ((jxw ((jxw (6 * y1)) + y4)).toNat)
        have h1265_ := iv_get hv (k := 164) (j := (jxw ((a 146 23) + y4)).toNat) (l := (-128)) (u := 127) rfl
        have h1266_ : a 164 ((jxw ((a 146 23) + y4)).toNat) = a0 164 ((jxw ((a 146 23) + y4)).toNat) := hf 164 ((jxw ((a 146 23) + y4)).toNat) rfl
        have h1267_ := iv_get hv0 (k := 164) (j := (jxw ((a 146 23) + y4)).toNat) (l := (-128)) (u := 127) rfl
        refine jt_ite (fun c1268_ => ?_) (fun c1268_ => ?_)
        ·
          exact hc176 y1 y2 y4 a (show (((((16 - y1) * 17) + 0) + ((6 - y4) * 1)) + 0).toNat ≤ n from by omega) hv hf (show 0 ≤ y1 from by omega) (show y1 ≤ 15 from by omega) (show 1 ≤ y2 from by omega) (show y2 ≤ 6 from by omega) (show 0 ≤ y4 from by omega) (show y4 ≤ 5 from by omega) (show a 146 25 ≤ 6 from by omega) (show (a 146 23) + (a 146 25) ≤ a 146 22 from by omega) (show a0 146 23 ≤ a 146 23 from by omega) (show 2 ≤ y2 from by omega) (show (y1 = 2 → y2 = 3) from by omega) (show y2 = a 146 25 from by omega) (show y4 < y2 from by omega) (show ((a0 146 23 < a0 146 22 ∧ ¬ a0 164 ((a0 146 23).toNat) = 32) → a 146 23 = a0 146 23) from by omega)
        ·
          exact hc180 y1 y2 y4 a (show (((((16 - y1) * 17) + 0) + ((6 - y4) * 1)) + 0).toNat ≤ n from by omega) hv hf (show 0 ≤ y1 from by omega) (show y1 ≤ 15 from by omega) (show 1 ≤ y2 from by omega) (show y2 ≤ 6 from by omega) (show 0 ≤ y4 from by omega) (show y4 ≤ 5 from by omega) (show a 146 25 ≤ 6 from by omega) (show (a 146 23) + (a 146 25) ≤ a 146 22 from by omega) (show a0 146 23 ≤ a 146 23 from by omega) (show 2 ≤ y2 from by omega) (show (y1 = 2 → y2 = 3) from by omega) (show y2 = a 146 25 from by omega) (show y4 < y2 from by omega) (show ((a0 146 23 < a0 146 22 ∧ ¬ a0 164 ((a0 146 23).toNat) = 32) → a 146 23 = a0 146 23) from by omega)
      ·
        refine jt_ite (fun c1269_ => ?_) (fun c1269_ => ?_)
        ·
          have h1270_ : jxw (y1 + 1) = y1 + 1 := jxw_id (by omega) (by omega)
          exact ih79 (jxw (y1 + 1)) a (show (((16 - (jxw (y1 + 1))) * 17) + 16).toNat < n from by omega) hv hf (show 0 ≤ jxw (y1 + 1) from by omega) (show jxw (y1 + 1) ≤ 16 from by omega) (show (a 146 23) + (a 146 25) ≤ a 146 22 from by omega) (show a0 146 23 ≤ a 146 23 from by omega) (show ((a0 146 23 < a0 146 22 ∧ ¬ a0 164 ((a0 146 23).toNat) = 32) → a 146 23 = a0 146 23) from by omega)
        ·
          exact jt_rI ⟨hv, hf, rfl, (show (a 146 23) + (a 146 25) ≤ a 146 22 from by omega), (show a0 146 23 ≤ a 146 23 from by omega), (show 0 - 1 ≤ y1 from by omega), (show y1 ≤ 15 from by omega), (show (y1 = 2 → a 146 25 = 3) from by omega), (show (0 ≤ y1 → 2 ≤ a 146 25) from by omega), (show ((a0 146 23 < a0 146 22 ∧ ¬ a0 164 ((a0 146 23).toNat) = 32) → a 146 23 = a0 146 23) from by omega)⟩
  have hc122 : ∀ (y1 y2 : Int) (a : Nat → Nat → Int), (((16 - y1) * 17) + 8).toNat ≤ n → iv a → jfr jW_X12_wordHere a0 a → 0 ≤ y1 → y1 ≤ 15 → 0 ≤ y2 → y2 ≤ 6 → a 146 25 ≤ 6 → (a 146 23) + (a 146 25) ≤ a 146 22 → a0 146 23 ≤ a 146 23 → (y1 = 2 → y2 = 3) → 2 ≤ y2 → ((a0 146 23 < a0 146 22 ∧ ¬ a0 164 ((a0 146 23).toNat) = 32) → a 146 23 = a0 146 23) → jt (jxX E d 216 122 [some (.inr (.inr (.inl 146))), some (.inl y1), some (.inl y2), none, none] [] (jxSH, a, b0)) (jQ_X12_wordHere a0 b0) := by
    intro y1 y2 a hm hv hf hi0 hi1 hi2 hi3 hi4 hi5 hi6 hi7 hi8 hi9
    refine jt_eq (bq_X12_wordHere_122 E d y1 y2 a b0) ?_
    have h1271_ := iv_get hv (k := 146) (j := 25) (l := 0) (u := 200) rfl
    have h1272_ := iv_get hv (k := 146) (j := 23) (l := 0) (u := 200) rfl
    have h1273_ := iv_get hv (k := 146) (j := 22) (l := 0) (u := 200) rfl
    have h1274_ : a 146 22 = a0 146 22 := hf 146 22 rfl
    have h1275_ := iv_get hv0 (k := 146) (j := 22) (l := 0) (u := 200) rfl
    have h1276_ := iv_get hv0 (k := 146) (j := 23) (l := 0) (u := 200) rfl
    have h1277_ := iv_get hv0 (k := 164) (j := (a0 146 23).toNat) (l := (-128)) (u := 127) rfl
    refine jt_ite (fun c1278_ => ?_) (fun c1278_ => ?_)
    ·
      exact hc139 y1 y2 1 0 a (show (((((16 - y1) * 17) + 0) + ((6 - 0) * 1)) + 0).toNat ≤ n from by omega) hv hf (show 0 ≤ y1 from by omega) (show y1 ≤ 15 from by omega) (show 0 ≤ y2 from by omega) (show y2 ≤ 6 from by omega) (show 0 ≤ 1 from by omega) (show 1 ≤ 1 from by omega) (show 0 ≤ 0 from by omega) (show 0 ≤ 6 from by omega) (show a 146 25 ≤ 6 from by omega) (show (a 146 23) + (a 146 25) ≤ a 146 22 from by omega) (show a0 146 23 ≤ a 146 23 from by omega) (show 2 ≤ y2 from by omega) (show (y1 = 2 → y2 = 3) from by omega) (show (1 = 0 ∨ y2 = a 146 25) from by omega) (show (1 = 0 ∨ 1 = 1) from by omega) (show ((a0 146 23 < a0 146 22 ∧ ¬ a0 164 ((a0 146 23).toNat) = 32) → a 146 23 = a0 146 23) from by omega)
    ·
      exact hc139 y1 y2 0 0 a (show (((((16 - y1) * 17) + 0) + ((6 - 0) * 1)) + 0).toNat ≤ n from by omega) hv hf (show 0 ≤ y1 from by omega) (show y1 ≤ 15 from by omega) (show 0 ≤ y2 from by omega) (show y2 ≤ 6 from by omega) (show 0 ≤ 0 from by omega) (show 0 ≤ 1 from by omega) (show 0 ≤ 0 from by omega) (show 0 ≤ 6 from by omega) (show a 146 25 ≤ 6 from by omega) (show (a 146 23) + (a 146 25) ≤ a 146 22 from by omega) (show a0 146 23 ≤ a 146 23 from by omega) (show 2 ≤ y2 from by omega) (show (y1 = 2 → y2 = 3) from by omega) (show (0 = 0 ∨ y2 = a 146 25) from by omega) (show (0 = 0 ∨ 0 = 1) from by omega) (show ((a0 146 23 < a0 146 22 ∧ ¬ a0 164 ((a0 146 23).toNat) = 32) → a 146 23 = a0 146 23) from by omega)
  have hc96 : ∀ (y1 y2 : Int) (a : Nat → Nat → Int), (((((16 - y1) * 17) + 8) + ((6 - y2) * 1)) + 0).toNat ≤ n → iv a → jfr jW_X12_wordHere a0 a → 0 ≤ y1 → y1 ≤ 15 → 0 ≤ y2 → y2 ≤ 6 → a 146 25 ≤ 6 → (a 146 23) + (a 146 25) ≤ a 146 22 → a0 146 23 ≤ a 146 23 → (y1 = 2 → y2 ≤ 3) → ((a0 146 23 < a0 146 22 ∧ ¬ a0 164 ((a0 146 23).toNat) = 32) → a 146 23 = a0 146 23) → jt (jxX E d 216 96 [some (.inr (.inr (.inl 146))), some (.inl y1), some (.inl y2), none, none] [] (jxSH, a, b0)) (jQ_X12_wordHere a0 b0) := by
    intro y1 y2 a hm hv hf hi0 hi1 hi2 hi3 hi4 hi5 hi6 hi7 hi8
    refine jt_eq (bq_X12_wordHere_96 E d y1 y2 a b0) ?_
    have h1279_ := iv_get hv (k := 146) (j := 25) (l := 0) (u := 200) rfl
    have h1280_ := iv_get hv (k := 146) (j := 23) (l := 0) (u := 200) rfl
    have h1281_ := iv_get hv (k := 146) (j := 22) (l := 0) (u := 200) rfl
    have h1282_ : a 146 22 = a0 146 22 := hf 146 22 rfl
    have h1283_ := iv_get hv0 (k := 146) (j := 22) (l := 0) (u := 200) rfl
    have h1284_ := iv_get hv0 (k := 146) (j := 23) (l := 0) (u := 200) rfl
    have h1285_ := iv_get hv0 (k := 164) (j := (a0 146 23).toNat) (l := (-128)) (u := 127) rfl
    have hw1 := wd_ne (y1 := y1) (y2 := y2) (by omega) (by omega)
    rw [← iv_wd hv] at hw1
    have hw2 : y1 = 2 → (y2 = 0 ∨ y2 = 1 ∨ y2 = 2) → ¬ a 165 ((jxw ((jxw (6 * y1)) + y2)).toNat) = 0 := by rintro rfl (rfl | rfl | rfl) <;> rw [iv_wd hv] <;> decide
    have hw3 : y1 = 2 → y2 = 3 → a 165 ((jxw ((jxw (6 * y1)) + y2)).toNat) = 0 := by rintro rfl rfl; rw [iv_wd hv]; decide
    refine jt_ite (fun c1286_ => ?_) (fun c1286_ => ?_)
    ·
      have h1287_ : jxw (6 * y1) = 6 * y1 := jxw_id (by omega) (by omega)
      have h1288_ : jxw ((jxw (6 * y1)) + y2) = (jxw (6 * y1)) + y2 := jxw_id (by omega) (by omega)
      refine jt_grd (by omega) ?_
      have h1289_ := iv_wd hv ((jxw ((jxw (6 * y1)) + y2)).toNat)
      have h1290_ : a 165 ((jxw ((jxw (6 * y1)) + y2)).toNat) = a0 165 ((jxw ((jxw (6 * y1)) + y2)).toNat) := hf 165 ((jxw ((jxw (6 * y1)) + y2)).toNat) rfl
      have h1291_ := iv_wd hv0 ((jxw ((jxw (6 * y1)) + y2)).toNat)
      refine jt_ite (fun c1292_ => ?_) (fun c1292_ => ?_)
      ·
        exact hc122 y1 y2 a (show (((16 - y1) * 17) + 8).toNat ≤ n from by omega) hv hf (show 0 ≤ y1 from by omega) (show y1 ≤ 15 from by omega) (show 0 ≤ y2 from by omega) (show y2 ≤ 6 from by omega) (show a 146 25 ≤ 6 from by omega) (show (a 146 23) + (a 146 25) ≤ a 146 22 from by omega) (show a0 146 23 ≤ a 146 23 from by omega) (show (y1 = 2 → y2 = 3) from by omega) (show 2 ≤ y2 from by omega) (show ((a0 146 23 < a0 146 22 ∧ ¬ a0 164 ((a0 146 23).toNat) = 32) → a 146 23 = a0 146 23) from by omega)
      ·
        have h1293_ : jxw (y2 + 1) = y2 + 1 := jxw_id (by omega) (by omega)
        exact ih96 y1 (jxw (y2 + 1)) a (show (((((16 - y1) * 17) + 8) + ((6 - (jxw (y2 + 1))) * 1)) + 0).toNat < n from by omega) hv hf (show 0 ≤ y1 from by omega) (show y1 ≤ 15 from by omega) (show 0 ≤ jxw (y2 + 1) from by omega) (show jxw (y2 + 1) ≤ 6 from by omega) (show a 146 25 ≤ 6 from by omega) (show (a 146 23) + (a 146 25) ≤ a 146 22 from by omega) (show a0 146 23 ≤ a 146 23 from by omega) (show (y1 = 2 → jxw (y2 + 1) ≤ 3) from by omega) (show ((a0 146 23 < a0 146 22 ∧ ¬ a0 164 ((a0 146 23).toNat) = 32) → a 146 23 = a0 146 23) from by omega)
    ·
      exact hc122 y1 y2 a (show (((16 - y1) * 17) + 8).toNat ≤ n from by omega) hv hf (show 0 ≤ y1 from by omega) (show y1 ≤ 15 from by omega) (show 0 ≤ y2 from by omega) (show y2 ≤ 6 from by omega) (show a 146 25 ≤ 6 from by omega) (show (a 146 23) + (a 146 25) ≤ a 146 22 from by omega) (show a0 146 23 ≤ a 146 23 from by omega) (show (y1 = 2 → y2 = 3) from by omega) (show 2 ≤ y2 from by omega) (show ((a0 146 23 < a0 146 22 ∧ ¬ a0 164 ((a0 146 23).toNat) = 32) → a 146 23 = a0 146 23) from by omega)
  have hc79 : ∀ (y1 : Int) (a : Nat → Nat → Int), (((16 - y1) * 17) + 16).toNat ≤ n → iv a → jfr jW_X12_wordHere a0 a → 0 ≤ y1 → y1 ≤ 16 → (a 146 23) + (a 146 25) ≤ a 146 22 → a0 146 23 ≤ a 146 23 → ((a0 146 23 < a0 146 22 ∧ ¬ a0 164 ((a0 146 23).toNat) = 32) → a 146 23 = a0 146 23) → jt (jxX E d 216 79 [some (.inr (.inr (.inl 146))), some (.inl y1), none, none, none] [] (jxSH, a, b0)) (jQ_X12_wordHere a0 b0) := by
    intro y1 a hm hv hf hi0 hi1 hi2 hi3 hi4
    refine jt_eq (bq_X12_wordHere_79 E d y1 a b0) ?_
    have h1294_ := iv_get hv (k := 146) (j := 23) (l := 0) (u := 200) rfl
    have h1295_ := iv_get hv (k := 146) (j := 25) (l := 0) (u := 200) rfl
    have h1296_ := iv_get hv (k := 146) (j := 22) (l := 0) (u := 200) rfl
    have h1297_ : a 146 22 = a0 146 22 := hf 146 22 rfl
    have h1298_ := iv_get hv0 (k := 146) (j := 22) (l := 0) (u := 200) rfl
    have h1299_ := iv_get hv0 (k := 146) (j := 23) (l := 0) (u := 200) rfl
    have h1300_ := iv_get hv0 (k := 164) (j := (a0 146 23).toNat) (l := (-128)) (u := 127) rfl
    refine jt_ite (fun c1301_ => ?_) (fun c1301_ => ?_)
    ·
      refine jt_ite (fun c1302_ => ?_) (fun c1302_ => ?_)
      ·
        exact jt_rI ⟨hv, hf, rfl, (show (a 146 23) + (a 146 25) ≤ a 146 22 from by omega), (show a0 146 23 ≤ a 146 23 from by omega), (show 0 - 1 ≤ (-1) from by omega), (show (-1) ≤ 15 from by omega), (show ((-1) = 2 → a 146 25 = 3) from by omega), (show (0 ≤ (-1) → 2 ≤ a 146 25) from by omega), (show ((a0 146 23 < a0 146 22 ∧ ¬ a0 164 ((a0 146 23).toNat) = 32) → a 146 23 = a0 146 23) from by omega)⟩
      ·
        exact hc96 y1 0 a (show (((((16 - y1) * 17) + 8) + ((6 - 0) * 1)) + 0).toNat ≤ n from by omega) hv hf (show 0 ≤ y1 from by omega) (show y1 ≤ 15 from by omega) (show 0 ≤ 0 from by omega) (show 0 ≤ 6 from by omega) (show a 146 25 ≤ 6 from by omega) (show (a 146 23) + (a 146 25) ≤ a 146 22 from by omega) (show a0 146 23 ≤ a 146 23 from by omega) (show (y1 = 2 → 0 ≤ 3) from by omega) (show ((a0 146 23 < a0 146 22 ∧ ¬ a0 164 ((a0 146 23).toNat) = 32) → a 146 23 = a0 146 23) from by omega)
    ·
      exact jt_rI ⟨hv, hf, rfl, (show (a 146 23) + (a 146 25) ≤ a 146 22 from by omega), (show a0 146 23 ≤ a 146 23 from by omega), (show 0 - 1 ≤ (-1) from by omega), (show (-1) ≤ 15 from by omega), (show ((-1) = 2 → a 146 25 = 3) from by omega), (show (0 ≤ (-1) → 2 ≤ a 146 25) from by omega), (show ((a0 146 23 < a0 146 22 ∧ ¬ a0 164 ((a0 146 23).toNat) = 32) → a 146 23 = a0 146 23) from by omega)⟩
  exact ⟨hc176, hc180, hc139, hc122, hc96, hc79⟩
theorem cp_X12_wordHere_77 (E : jxE) (d : Nat) (hd : Nat.ble 2 (d + 1) = true) (a0 b0 : Nat → Nat → Int) (hv0 : iv a0) (hp0 : a0 146 23 ≤ a0 146 22) : ∀ (a : Nat → Nat → Int), iv a → jfr jW_X12_wordHere a0 a → (a 146 23) + (a 146 25) ≤ a 146 22 → a0 146 23 ≤ a 146 23 → ((a0 146 23 < a0 146 22 ∧ ¬ a0 164 ((a0 146 23).toNat) = 32) → a 146 23 = a0 146 23) → jt (jxX E d 216 77 [some (.inr (.inr (.inl 146))), none, none, none, none] [] (jxSH, a, b0)) (jQ_X12_wordHere a0 b0) := by
  intro a hv hf hi0 hi1 hi2
  refine jt_eq (bq_X12_wordHere_77 E d a b0) ?_
  have h1303_ := iv_get hv (k := 146) (j := 23) (l := 0) (u := 200) rfl
  have h1304_ := iv_get hv (k := 146) (j := 25) (l := 0) (u := 200) rfl
  have h1305_ := iv_get hv (k := 146) (j := 22) (l := 0) (u := 200) rfl
  have h1306_ : a 146 22 = a0 146 22 := hf 146 22 rfl
  have h1307_ := iv_get hv0 (k := 146) (j := 22) (l := 0) (u := 200) rfl
  have h1308_ := iv_get hv0 (k := 146) (j := 23) (l := 0) (u := 200) rfl
  have h1309_ := iv_get hv0 (k := 164) (j := (a0 146 23).toNat) (l := (-128)) (u := 127) rfl
  exact (cp_X12_wordHere_79 E d hd a0 b0 hv0 hp0 _).2.2.2.2.2 0 a (Nat.le_refl _) hv hf (show 0 ≤ 0 from by omega) (show 0 ≤ 16 from by omega) (show (a 146 23) + (a 146 25) ≤ a 146 22 from by omega) (show a0 146 23 ≤ a 146 23 from by omega) (show ((a0 146 23 < a0 146 22 ∧ ¬ a0 164 ((a0 146 23).toNat) = 32) → a 146 23 = a0 146 23) from by omega)
theorem cp_X12_wordHere_10 (E : jxE) (d : Nat) (hd : Nat.ble 2 (d + 1) = true) (a0 b0 : Nat → Nat → Int) (hv0 : iv a0) (hp0 : a0 146 23 ≤ a0 146 22) : ∀ n : Nat, (∀ (a : Nat → Nat → Int), (((((a 146 22) - (a 146 23)) - (a 146 25)) * 2) + 1).toNat ≤ n → iv a → jfr jW_X12_wordHere a0 a → 1 ≤ a 146 22 → 1 ≤ a 146 25 → (a 146 23) + (a 146 25) ≤ a 146 22 → a0 146 23 ≤ a 146 23 → ((a0 146 23 < a0 146 22 ∧ ¬ a0 164 ((a0 146 23).toNat) = 32) → a 146 23 = a0 146 23) → jt (jxX E d 216 74 [some (.inr (.inr (.inl 146))), none, none, none, none] [] (jxSH, a, b0)) (jQ_X12_wordHere a0 b0)) ∧ (∀ (a : Nat → Nat → Int), (((((a 146 22) - (a 146 23)) - (a 146 25)) * 2) + 0).toNat ≤ n → iv a → jfr jW_X12_wordHere a0 a → 1 ≤ a 146 22 → (a 146 23) + (a 146 25) ≤ a 146 22 → a0 146 23 ≤ a 146 23 → (a 146 23) + (a 146 25) < a 146 22 → ((a0 146 23 < a0 146 22 ∧ ¬ a0 164 ((a0 146 23).toNat) = 32) → a 146 23 = a0 146 23) → jt (jxX E d 216 45 [some (.inr (.inr (.inl 146))), none, none, none, none] [] (jxSH, a, b0)) (jQ_X12_wordHere a0 b0)) ∧ (∀ (a : Nat → Nat → Int), (((((a 146 22) - (a 146 23)) - (a 146 25)) * 2) + 0).toNat ≤ n → iv a → jfr jW_X12_wordHere a0 a → (a 146 23) + (a 146 25) ≤ a 146 22 → a0 146 23 ≤ a 146 23 → ((a0 146 23 < a0 146 22 ∧ ¬ a0 164 ((a0 146 23).toNat) = 32) → a 146 23 = a0 146 23) → jt (jxX E d 216 10 [some (.inr (.inr (.inl 146))), none, none, none, none] [] (jxSH, a, b0)) (jQ_X12_wordHere a0 b0)) := by
  refine jx_ind fun n ih => ?_
  have ih74 : ∀ (a : Nat → Nat → Int), (((((a 146 22) - (a 146 23)) - (a 146 25)) * 2) + 1).toNat < n → iv a → jfr jW_X12_wordHere a0 a → 1 ≤ a 146 22 → 1 ≤ a 146 25 → (a 146 23) + (a 146 25) ≤ a 146 22 → a0 146 23 ≤ a 146 23 → ((a0 146 23 < a0 146 22 ∧ ¬ a0 164 ((a0 146 23).toNat) = 32) → a 146 23 = a0 146 23) → jt (jxX E d 216 74 [some (.inr (.inr (.inl 146))), none, none, none, none] [] (jxSH, a, b0)) (jQ_X12_wordHere a0 b0) := fun a hlt i0 i1 i2 i3 i4 i5 i6 => (ih _ hlt).1 a (Nat.le_refl _) i0 i1 i2 i3 i4 i5 i6
  have ih45 : ∀ (a : Nat → Nat → Int), (((((a 146 22) - (a 146 23)) - (a 146 25)) * 2) + 0).toNat < n → iv a → jfr jW_X12_wordHere a0 a → 1 ≤ a 146 22 → (a 146 23) + (a 146 25) ≤ a 146 22 → a0 146 23 ≤ a 146 23 → (a 146 23) + (a 146 25) < a 146 22 → ((a0 146 23 < a0 146 22 ∧ ¬ a0 164 ((a0 146 23).toNat) = 32) → a 146 23 = a0 146 23) → jt (jxX E d 216 45 [some (.inr (.inr (.inl 146))), none, none, none, none] [] (jxSH, a, b0)) (jQ_X12_wordHere a0 b0) := fun a hlt i0 i1 i2 i3 i4 i5 i6 => (ih _ hlt).2.1 a (Nat.le_refl _) i0 i1 i2 i3 i4 i5 i6
  have ih10 : ∀ (a : Nat → Nat → Int), (((((a 146 22) - (a 146 23)) - (a 146 25)) * 2) + 0).toNat < n → iv a → jfr jW_X12_wordHere a0 a → (a 146 23) + (a 146 25) ≤ a 146 22 → a0 146 23 ≤ a 146 23 → ((a0 146 23 < a0 146 22 ∧ ¬ a0 164 ((a0 146 23).toNat) = 32) → a 146 23 = a0 146 23) → jt (jxX E d 216 10 [some (.inr (.inr (.inl 146))), none, none, none, none] [] (jxSH, a, b0)) (jQ_X12_wordHere a0 b0) := fun a hlt i0 i1 i2 i3 i4 => (ih _ hlt).2.2 a (Nat.le_refl _) i0 i1 i2 i3 i4
  have hc74 : ∀ (a : Nat → Nat → Int), (((((a 146 22) - (a 146 23)) - (a 146 25)) * 2) + 1).toNat ≤ n → iv a → jfr jW_X12_wordHere a0 a → 1 ≤ a 146 22 → 1 ≤ a 146 25 → (a 146 23) + (a 146 25) ≤ a 146 22 → a0 146 23 ≤ a 146 23 → ((a0 146 23 < a0 146 22 ∧ ¬ a0 164 ((a0 146 23).toNat) = 32) → a 146 23 = a0 146 23) → jt (jxX E d 216 74 [some (.inr (.inr (.inl 146))), none, none, none, none] [] (jxSH, a, b0)) (jQ_X12_wordHere a0 b0) := by
    intro a hm hv hf hi0 hi1 hi2 hi3 hi4
    refine jt_eq (bq_X12_wordHere_74 E d a b0) ?_
    have h1310_ := iv_get hv (k := 146) (j := 22) (l := 0) (u := 200) rfl
    have h1311_ : a 146 22 = a0 146 22 := hf 146 22 rfl
    have h1312_ := iv_get hv0 (k := 146) (j := 22) (l := 0) (u := 200) rfl
    have h1313_ := iv_get hv (k := 146) (j := 25) (l := 0) (u := 200) rfl
    have h1314_ := iv_get hv (k := 146) (j := 23) (l := 0) (u := 200) rfl
    have h1315_ := iv_get hv0 (k := 146) (j := 23) (l := 0) (u := 200) rfl
    have h1316_ := iv_get hv0 (k := 164) (j := (a0 146 23).toNat) (l := (-128)) (u := 127) rfl
    exact ih10 a (show (((((a 146 22) - (a 146 23)) - (a 146 25)) * 2) + 0).toNat < n from by omega) hv hf (show (a 146 23) + (a 146 25) ≤ a 146 22 from by omega) (show a0 146 23 ≤ a 146 23 from by omega) (show ((a0 146 23 < a0 146 22 ∧ ¬ a0 164 ((a0 146 23).toNat) = 32) → a 146 23 = a0 146 23) from by omega)
  have hc45 : ∀ (a : Nat → Nat → Int), (((((a 146 22) - (a 146 23)) - (a 146 25)) * 2) + 0).toNat ≤ n → iv a → jfr jW_X12_wordHere a0 a → 1 ≤ a 146 22 → (a 146 23) + (a 146 25) ≤ a 146 22 → a0 146 23 ≤ a 146 23 → (a 146 23) + (a 146 25) < a 146 22 → ((a0 146 23 < a0 146 22 ∧ ¬ a0 164 ((a0 146 23).toNat) = 32) → a 146 23 = a0 146 23) → jt (jxX E d 216 45 [some (.inr (.inr (.inl 146))), none, none, none, none] [] (jxSH, a, b0)) (jQ_X12_wordHere a0 b0) := by
    intro a hm hv hf hi0 hi1 hi2 hi3 hi4
    refine jt_eq (bq_X12_wordHere_45 E d a b0) ?_
    have h1317_ := iv_get hv (k := 146) (j := 22) (l := 0) (u := 200) rfl
    have h1318_ : a 146 22 = a0 146 22 := hf 146 22 rfl
    have h1319_ := iv_get hv0 (k := 146) (j := 22) (l := 0) (u := 200) rfl
    have h1320_ := iv_get hv (k := 146) (j := 23) (l := 0) (u := 200) rfl
    have h1321_ := iv_get hv (k := 146) (j := 25) (l := 0) (u := 200) rfl
    have h1322_ := iv_get hv0 (k := 146) (j := 23) (l := 0) (u := 200) rfl
    have h1323_ := iv_get hv0 (k := 164) (j := (a0 146 23).toNat) (l := (-128)) (u := 127) rfl
    have h1324_ : jxw ((a 146 23) + (a 146 25)) = (a 146 23) + (a 146 25) := jxw_id (by omega) (by omega)
    refine jt_grd (by omega) ?_
    have h1325_ := iv_get hv (k := 164) (j := (jxw ((a 146 23) + (a 146 25))).toNat) (l := (-128)) (u := 127) rfl
    have h1326_ : a 164 ((jxw ((a 146 23) + (a 146 25))).toNat) = a0 164 ((jxw ((a 146 23) + (a 146 25))).toNat) := hf 164 ((jxw ((a 146 23) + (a 146 25))).toNat) rfl
    have h1327_ := iv_get hv0 (k := 164) (j := (jxw ((a 146 23) + (a 146 25))).toNat) (l := (-128)) (u := 127) rfl
    refine jt_ite (fun c1328_ => ?_) (fun c1328_ => ?_)
    ·
      exact cp_X12_wordHere_77 E d hd a0 b0 hv0 hp0 a hv hf (show (a 146 23) + (a 146 25) ≤ a 146 22 from by omega) (show a0 146 23 ≤ a 146 23 from by omega) (show ((a0 146 23 < a0 146 22 ∧ ¬ a0 164 ((a0 146 23).toNat) = 32) → a 146 23 = a0 146 23) from by omega)
    ·
      have h1330_ : jxw ((a 146 25) + 1) = (a 146 25) + 1 := jxw_id (by omega) (by omega)
      have hv1329_ : iv (jxu a 146 25 (jxw ((a 146 25) + 1))) := iv_put hv (l := 0) (u := 200) rfl (by omega) (by omega)
      have hf1331_ : jfr jW_X12_wordHere a0 (jxu a 146 25 (jxw ((a 146 25) + 1))) := jfr_put hf rfl
      exact hc74 (jxu a 146 25 (jxw ((a 146 25) + 1))) (show (((((a 146 22) - (a 146 23)) - (jxw ((a 146 25) + 1))) * 2) + 1).toNat ≤ n from by omega) hv1329_ hf1331_ (show 1 ≤ a 146 22 from by omega) (show 1 ≤ jxw ((a 146 25) + 1) from by omega) (show (a 146 23) + (jxw ((a 146 25) + 1)) ≤ a 146 22 from by omega) (show a0 146 23 ≤ a 146 23 from by omega) (show ((a0 146 23 < a0 146 22 ∧ ¬ a0 164 ((a0 146 23).toNat) = 32) → a 146 23 = a0 146 23) from by omega)
  have hc10 : ∀ (a : Nat → Nat → Int), (((((a 146 22) - (a 146 23)) - (a 146 25)) * 2) + 0).toNat ≤ n → iv a → jfr jW_X12_wordHere a0 a → (a 146 23) + (a 146 25) ≤ a 146 22 → a0 146 23 ≤ a 146 23 → ((a0 146 23 < a0 146 22 ∧ ¬ a0 164 ((a0 146 23).toNat) = 32) → a 146 23 = a0 146 23) → jt (jxX E d 216 10 [some (.inr (.inr (.inl 146))), none, none, none, none] [] (jxSH, a, b0)) (jQ_X12_wordHere a0 b0) := by
    intro a hm hv hf hi0 hi1 hi2
    refine jt_eq (bq_X12_wordHere_10 E d a b0) ?_
    have h1332_ := iv_get hv (k := 146) (j := 23) (l := 0) (u := 200) rfl
    have h1333_ := iv_get hv (k := 146) (j := 25) (l := 0) (u := 200) rfl
    have h1334_ := iv_get hv (k := 146) (j := 22) (l := 0) (u := 200) rfl
    have h1335_ : a 146 22 = a0 146 22 := hf 146 22 rfl
    have h1336_ := iv_get hv0 (k := 146) (j := 22) (l := 0) (u := 200) rfl
    have h1337_ := iv_get hv0 (k := 146) (j := 23) (l := 0) (u := 200) rfl
    have h1338_ := iv_get hv0 (k := 164) (j := (a0 146 23).toNat) (l := (-128)) (u := 127) rfl
    have h1339_ : jxw ((a 146 23) + (a 146 25)) = (a 146 23) + (a 146 25) := jxw_id (by omega) (by omega)
    refine jt_ite (fun c1340_ => ?_) (fun c1340_ => ?_)
    ·
      refine jt_grd (by omega) ?_
      have h1341_ := iv_get hv (k := 164) (j := (jxw ((a 146 23) + (a 146 25))).toNat) (l := (-128)) (u := 127) rfl
      have h1342_ : a 164 ((jxw ((a 146 23) + (a 146 25))).toNat) = a0 164 ((jxw ((a 146 23) + (a 146 25))).toNat) := hf 164 ((jxw ((a 146 23) + (a 146 25))).toNat) rfl
      have h1343_ := iv_get hv0 (k := 164) (j := (jxw ((a 146 23) + (a 146 25))).toNat) (l := (-128)) (u := 127) rfl
      refine jt_ite (fun c1344_ => ?_) (fun c1344_ => ?_)
      ·
        exact cp_X12_wordHere_77 E d hd a0 b0 hv0 hp0 a hv hf (show (a 146 23) + (a 146 25) ≤ a 146 22 from by omega) (show a0 146 23 ≤ a 146 23 from by omega) (show ((a0 146 23 < a0 146 22 ∧ ¬ a0 164 ((a0 146 23).toNat) = 32) → a 146 23 = a0 146 23) from by omega)
      ·
        exact hc45 a (show (((((a 146 22) - (a 146 23)) - (a 146 25)) * 2) + 0).toNat ≤ n from by omega) hv hf (show 1 ≤ a 146 22 from by omega) (show (a 146 23) + (a 146 25) ≤ a 146 22 from by omega) (show a0 146 23 ≤ a 146 23 from by omega) (show (a 146 23) + (a 146 25) < a 146 22 from by omega) (show ((a0 146 23 < a0 146 22 ∧ ¬ a0 164 ((a0 146 23).toNat) = 32) → a 146 23 = a0 146 23) from by omega)
    ·
      exact cp_X12_wordHere_77 E d hd a0 b0 hv0 hp0 a hv hf (show (a 146 23) + (a 146 25) ≤ a 146 22 from by omega) (show a0 146 23 ≤ a 146 23 from by omega) (show ((a0 146 23 < a0 146 22 ∧ ¬ a0 164 ((a0 146 23).toNat) = 32) → a 146 23 = a0 146 23) from by omega)
  exact ⟨hc74, hc45, hc10⟩
theorem sp_X12_wordHere (E : jxE) (d : Nat) (hd : Nat.ble 2 d = true) (a0 b0 : Nat → Nat → Int) (hv0 : iv a0) (hp0 : a0 146 23 ≤ a0 146 22) : jt (jxC E d 216 [.inr (.inr (.inl 146))] (jxSH, a0, b0)) (jQ_X12_wordHere a0 b0) := by
  obtain ⟨d, rfl⟩ := jd_succ hd
  refine jt_eq (bq_X12_wordHere E d a0 b0) ?_
  have h1345_ := iv_get hv0 (k := 146) (j := 23) (l := 0) (u := 200) rfl
  have h1346_ := iv_get hv0 (k := 146) (j := 22) (l := 0) (u := 200) rfl
  refine jt_bI (sp_X12_see E d (jd_le hd rfl) a0 b0 hv0 (show a0 146 23 ≤ a0 146 22 from by omega)) (fun r1347_ a1347_ b1347_ h1347_ => ?_)
  obtain ⟨hv1347_, hf1347_, rfl, hq1347_0, hq1347_1, hq1347_2, hq1347_3⟩ := h1347_
  have h1348_ := iv_get hv1347_ (k := 146) (j := 23) (l := 0) (u := 200) rfl
  have h1349_ := iv_get hv1347_ (k := 164) (j := (a1347_ 146 23).toNat) (l := (-128)) (u := 127) rfl
  have h1350_ : a1347_ 164 ((a1347_ 146 23).toNat) = a0 164 ((a1347_ 146 23).toNat) := hf1347_ 164 ((a1347_ 146 23).toNat) rfl
  have h1351_ := iv_get hv0 (k := 164) (j := (a1347_ 146 23).toNat) (l := (-128)) (u := 127) rfl
  have h1352_ := iv_get hv0 (k := 164) (j := (a0 146 23).toNat) (l := (-128)) (u := 127) rfl
  have hv1353_ : iv (jxu a1347_ 146 25 0) := iv_put hv1347_ (l := 0) (u := 200) rfl (by omega) (by omega)
  have hf1354_ : jfr jW_X12_wordHere a0 a1347_ := jfr_tr (jfr_rf _ _) hf1347_ rfl
  have hf1355_ : jfr jW_X12_wordHere a0 (jxu a1347_ 146 25 0) := jfr_put hf1354_ rfl
  have h1356_ := iv_get hv1347_ (k := 146) (j := 22) (l := 0) (u := 200) rfl
  have h1357_ : a1347_ 146 22 = a0 146 22 := hf1347_ 146 22 rfl
  exact (cp_X12_wordHere_10 E d hd a0 b0 hv0 hp0 _).2.2 (jxu a1347_ 146 25 0) (Nat.le_refl _) hv1353_ hf1355_ (show (a1347_ 146 23) + 0 ≤ a1347_ 146 22 from by omega) (show a0 146 23 ≤ a1347_ 146 23 from by omega) (show ((a0 146 23 < a0 146 22 ∧ ¬ a0 164 ((a0 146 23).toNat) = 32) → a1347_ 146 23 = a0 146 23) from by omega)
def jW_X12_writes : List (Nat × Nat) := [(146, 32), (168, 9999)]
abbrev jQ_X12_writes (x1 : Int) (a0 b0 : Nat → Nat → Int) : List jxV → (Nat → Nat → Int) → (Nat → Nat → Int) → Prop := rV (fun a b => (iv a) ∧ (jfr jW_X12_writes a0 a) ∧ (b0 = b) ∧ (a 146 32 = (a0 146 32) + 1) ∧ (a 168 (a0 146 32).toNat = x1) ∧ (∀ k, ¬ k = (a0 146 32).toNat → a 168 k = a0 168 k))
theorem sp_X12_writes (E : jxE) (d : Nat) (hd : Nat.ble 1 d = true) (x1 : Int) (a0 b0 : Nat → Nat → Int) (hv0 : iv a0) (hp0 : a0 146 32 < 64) : jt (jxC E d 218 [.inr (.inr (.inl 146)), .inl x1] (jxSH, a0, b0)) (jQ_X12_writes x1 a0 b0) := by
  obtain ⟨d, rfl⟩ := jd_succ hd
  refine jt_eq (bq_X12_writes E d x1 a0 b0) ?_
  have h1358_ := iv_get hv0 (k := 146) (j := 32) (l := 0) (u := 64) rfl
  refine jt_grd (by omega) ?_
  have hv1359_ : iv (jxu a0 168 ((a0 146 32).toNat) x1) := iv_putf hv0 rfl
  have h1361_ : jxw ((a0 146 32) + 1) = (a0 146 32) + 1 := jxw_id (by omega) (by omega)
  have hv1360_ : iv (jxu (jxu a0 168 ((a0 146 32).toNat) x1) 146 32 (jxw ((a0 146 32) + 1))) := iv_put hv1359_ (l := 0) (u := 64) rfl (by omega) (by omega)
  have hf1362_ : jfr jW_X12_writes a0 (jxu a0 168 ((a0 146 32).toNat) x1) := jfr_put (jfr_rf _ _) rfl
  have hf1363_ : jfr jW_X12_writes a0 (jxu (jxu a0 168 ((a0 146 32).toNat) x1) 146 32 (jxw ((a0 146 32) + 1))) := jfr_put hf1362_ rfl
  exact jt_rV ⟨hv1360_, hf1363_, rfl, (show jxw ((a0 146 32) + 1) = (a0 146 32) + 1 from by omega), (by simp [jxu]), (by intro k hk; simp [jxu, hk])⟩
def jWat : List (Nat × Nat) := [(146, 23), (146, 24), (146, 26), (146, 27), (146, 33)]
def jW_X12_atom : List (Nat × Nat) := [(146, 23), (146, 24), (146, 26), (146, 27), (146, 32), (146, 33), (168, 9999)]
abbrev jQ_X12_atom (x1 : Int) (a0 b0 : Nat → Nat → Int) : List jxV → (Nat → Nat → Int) → (Nat → Nat → Int) → Prop := rI (fun r a b => (iv a) ∧ (jfr jW_X12_atom a0 a) ∧ (b0 = b) ∧ ((0 ≤ r ∧ r ≤ 1)) ∧ (a0 146 23 ≤ a 146 23) ∧ (a 146 23 ≤ a 146 22) ∧ ((r = 1 → (a0 146 23) + 2 ≤ a 146 23)) ∧ (((r = 0 ∧ a 146 32 = a0 146 32) ∨ (r = 1 ∧ a 146 32 = (a0 146 32) + 1))) ∧ (r = 1 → 1024 ≤ a 168 (a0 146 32).toNat) ∧ (∀ k : Nat, (k : Int) < a0 146 32 → a 168 k = a0 168 k))
theorem cp_X12_atom_113 (E : jxE) (d : Nat) (hd : Nat.ble 3 (d + 1) = true) (x1 : Int) (a0 b0 : Nat → Nat → Int) (hv0 : iv a0) (hp0 : (a0 146 23) + (a0 146 25) ≤ a0 146 22) (hp1 : (0 ≤ x1 → 2 ≤ a0 146 25)) (hp2 : a0 146 32 < 64) (hp3 : x1 ≤ 15) (hp4 : 0 - 1 ≤ x1) : ∀ (y1 : Int) (a : Nat → Nat → Int), iv a → jfr jW_X12_atom a0 a → 3 ≤ y1 → y1 ≤ 9 → 1 ≤ a 146 33 → a 146 23 ≤ a 146 22 → (a0 146 23) + 2 ≤ a 146 23 → 3 ≤ y1 → y1 ≤ 9 → a 146 32 = a0 146 32 → (jfr jWat a0 a) → jt (jxX E d 220 113 [some (.inr (.inr (.inl 146))), some (.inl y1)] [] (jxSH, a, b0)) (jQ_X12_atom x1 a0 b0) := by
  intro y1 a hv hf hi0 hi1 hi2 hi3 hi4 hi5 hi6 hi7 hfat
  refine jt_eq (bq_X12_atom_113 E d y1 a b0) ?_
  have h1364_ := iv_get hv (k := 146) (j := 33) (l := 0) (u := 12) rfl
  have h1365_ := iv_get hv (k := 146) (j := 23) (l := 0) (u := 200) rfl
  have h1366_ := iv_get hv (k := 146) (j := 22) (l := 0) (u := 200) rfl
  have h1367_ : a 146 22 = a0 146 22 := hf 146 22 rfl
  have h1368_ := iv_get hv0 (k := 146) (j := 22) (l := 0) (u := 200) rfl
  have h1369_ := iv_get hv0 (k := 146) (j := 23) (l := 0) (u := 200) rfl
  have h1370_ := iv_get hv (k := 146) (j := 32) (l := 0) (u := 64) rfl
  have h1371_ := iv_get hv0 (k := 146) (j := 32) (l := 0) (u := 64) rfl
  refine jt_bV (sp_X12_writes E d (jd_le hd rfl) (jxw ((jxw (1024 * (jxw (1 + y1)))) + (a 146 26))) a b0 hv (show a 146 32 < 64 from by omega)) (fun a1372_ b1372_ h1372_ => ?_)
  obtain ⟨hv1372_, hf1372_, rfl, hq1372_0, hq1372_1, hq1372_2⟩ := h1372_
  have h1373_ := iv_get hv1372_ (k := 146) (j := 32) (l := 0) (u := 64) rfl
  have i26_1372 := iv_get hv (k := 146) (j := 26) (l := 0) (u := 999) rfl
  have hA1372 : jxw ((jxw (1024 * (jxw (1 + y1)))) + (a 146 26)) = 1024 * (1 + y1) + a 146 26 := by
    have := iv_get hv (k := 146) (j := 26) (l := 0) (u := 999) rfl
    rw [jxw_id (x := 1 + y1) (by omega) (by omega), jxw_id (x := 1024 * (1 + y1)) (by omega) (by omega), jxw_id (by omega) (by omega)]
  have hf1374_ : jfr jW_X12_atom a0 a1372_ := jfr_tr hf hf1372_ rfl
  have h1375_ := iv_get hv1372_ (k := 146) (j := 23) (l := 0) (u := 200) rfl
  have h1376_ : a1372_ 146 23 = a 146 23 := hf1372_ 146 23 rfl
  have h1377_ := iv_get hv1372_ (k := 146) (j := 22) (l := 0) (u := 200) rfl
  have h1378_ : a1372_ 146 22 = a 146 22 := hf1372_ 146 22 rfl
  exact jt_rI ⟨hv1372_, hf1374_, rfl, (show (0 ≤ 1 ∧ 1 ≤ 1) from by omega), (show a0 146 23 ≤ a1372_ 146 23 from by omega), (show a1372_ 146 23 ≤ a1372_ 146 22 from by omega), (show (1 = 1 → (a0 146 23) + 2 ≤ a1372_ 146 23) from by omega), (show ((1 = 0 ∧ a1372_ 146 32 = a0 146 32) ∨ (1 = 1 ∧ a1372_ 146 32 = (a0 146 32) + 1)) from by omega), (fun _ => by rw [show (a0 146 32).toNat = (a 146 32).toNat from (by omega), hq1372_1, hA1372]; omega), (fun k hk => by rw [hq1372_2 k (by omega)]; exact hfat 168 k rfl)⟩
theorem cp_X12_atom_105 (E : jxE) (d : Nat) (hd : Nat.ble 3 (d + 1) = true) (x1 : Int) (a0 b0 : Nat → Nat → Int) (hv0 : iv a0) (hp0 : (a0 146 23) + (a0 146 25) ≤ a0 146 22) (hp1 : (0 ≤ x1 → 2 ≤ a0 146 25)) (hp2 : a0 146 32 < 64) (hp3 : x1 ≤ 15) (hp4 : 0 - 1 ≤ x1) : ∀ (y1 s1 s2 : Int) (a : Nat → Nat → Int), iv a → jfr jW_X12_atom a0 a → 3 ≤ y1 → y1 ≤ 8 → 0 ≤ s1 → s1 ≤ 0 → 15 ≤ s2 → s2 ≤ 999 → 1 ≤ a 146 33 → a 146 23 ≤ a 146 22 → (a0 146 23) + 2 ≤ a 146 23 → 3 ≤ y1 → y1 ≤ 9 → a 146 32 = a0 146 32 → (jfr jWat a0 a) → jt (jxX E d 220 105 [some (.inr (.inr (.inl 146))), some (.inl y1)] [.inl s2, .inl s1, .inr (.inr (.inl 146))] (jxSH, a, b0)) (jQ_X12_atom x1 a0 b0) := by
  intro y1 s1 s2 a hv hf hi0 hi1 hi2 hi3 hi4 hi5 hi6 hi7 hi8 hi9 hi10 hi11 hfat
  refine jt_eq (bq_X12_atom_105 E d y1 s1 s2 a b0) ?_
  have h1379_ := iv_get hv (k := 146) (j := 33) (l := 0) (u := 12) rfl
  have h1380_ := iv_get hv (k := 146) (j := 23) (l := 0) (u := 200) rfl
  have h1381_ := iv_get hv (k := 146) (j := 22) (l := 0) (u := 200) rfl
  have h1382_ : a 146 22 = a0 146 22 := hf 146 22 rfl
  have h1383_ := iv_get hv0 (k := 146) (j := 22) (l := 0) (u := 200) rfl
  have h1384_ := iv_get hv0 (k := 146) (j := 23) (l := 0) (u := 200) rfl
  have h1385_ := iv_get hv (k := 146) (j := 32) (l := 0) (u := 64) rfl
  have h1386_ := iv_get hv0 (k := 146) (j := 32) (l := 0) (u := 64) rfl
  refine jt_bI (sp_X12_number E d (jd_le hd rfl) s1 s2 a b0 hv (show a 146 23 ≤ a 146 22 from by omega)) (fun r1387_ a1387_ b1387_ h1387_ => ?_)
  obtain ⟨hv1387_, hf1387_, rfl, hq1387_0, hq1387_1, hq1387_2, hq1387_3⟩ := h1387_
  have h1388_ := iv_get hv1387_ (k := 146) (j := 23) (l := 0) (u := 200) rfl
  have h1389_ := iv_get hv1387_ (k := 146) (j := 26) (l := 0) (u := 999) rfl
  refine jt_ite (fun c1390_ => ?_) (fun c1390_ => ?_)
  ·
    have hf1391_ : jfr jW_X12_atom a0 a1387_ := jfr_tr hf hf1387_ rfl
    have h1392_ := iv_get hv1387_ (k := 146) (j := 22) (l := 0) (u := 200) rfl
    have h1393_ : a1387_ 146 22 = a 146 22 := hf1387_ 146 22 rfl
    have h1394_ := iv_get hv1387_ (k := 146) (j := 32) (l := 0) (u := 64) rfl
    have h1395_ : a1387_ 146 32 = a 146 32 := hf1387_ 146 32 rfl
    have hf1396_ : jfr jWat a0 a1387_ := jfr_tr hfat hf1387_ rfl
    exact jt_rI ⟨hv1387_, hf1391_, rfl, (show (0 ≤ 0 ∧ 0 ≤ 1) from by omega), (show a0 146 23 ≤ a1387_ 146 23 from by omega), (show a1387_ 146 23 ≤ a1387_ 146 22 from by omega), (show (0 = 1 → (a0 146 23) + 2 ≤ a1387_ 146 23) from by omega), (show ((0 = 0 ∧ a1387_ 146 32 = a0 146 32) ∨ (0 = 1 ∧ a1387_ 146 32 = (a0 146 32) + 1)) from by omega), (fun h => by omega), (fun k _ => hf1396_ 168 k rfl)⟩
  ·
    have hf1397_ : jfr jW_X12_atom a0 a1387_ := jfr_tr hf hf1387_ rfl
    have h1398_ := iv_get hv1387_ (k := 146) (j := 33) (l := 0) (u := 12) rfl
    have h1399_ : a1387_ 146 33 = a 146 33 := hf1387_ 146 33 rfl
    have h1400_ := iv_get hv1387_ (k := 146) (j := 22) (l := 0) (u := 200) rfl
    have h1401_ : a1387_ 146 22 = a 146 22 := hf1387_ 146 22 rfl
    have h1402_ := iv_get hv1387_ (k := 146) (j := 32) (l := 0) (u := 64) rfl
    have h1403_ : a1387_ 146 32 = a 146 32 := hf1387_ 146 32 rfl
    have hf1404_ : jfr jWat a0 a1387_ := jfr_tr hfat hf1387_ rfl
    exact cp_X12_atom_113 E d hd x1 a0 b0 hv0 hp0 hp1 hp2 hp3 hp4 y1 a1387_ hv1387_ hf1397_ (show 3 ≤ y1 from by omega) (show y1 ≤ 9 from by omega) (show 1 ≤ a1387_ 146 33 from by omega) (show a1387_ 146 23 ≤ a1387_ 146 22 from by omega) (show (a0 146 23) + 2 ≤ a1387_ 146 23 from by omega) (show 3 ≤ y1 from by omega) (show y1 ≤ 9 from by omega) (show a1387_ 146 32 = a0 146 32 from by omega) hf1404_
theorem cp_X12_atom_79 (E : jxE) (d : Nat) (hd : Nat.ble 3 (d + 1) = true) (x1 : Int) (a0 b0 : Nat → Nat → Int) (hv0 : iv a0) (hp0 : (a0 146 23) + (a0 146 25) ≤ a0 146 22) (hp1 : (0 ≤ x1 → 2 ≤ a0 146 25)) (hp2 : a0 146 32 < 64) (hp3 : x1 ≤ 15) (hp4 : 0 - 1 ≤ x1) : ∀ (y1 : Int) (a : Nat → Nat → Int), iv a → jfr jW_X12_atom a0 a → 3 ≤ y1 → y1 ≤ 8 → 1 ≤ a 146 33 → a 146 23 ≤ a 146 22 → (a0 146 23) + 2 ≤ a 146 23 → 3 ≤ y1 → y1 ≤ 9 → a 146 32 = a0 146 32 → (jfr jWat a0 a) → jt (jxX E d 220 79 [some (.inr (.inr (.inl 146))), some (.inl y1)] [] (jxSH, a, b0)) (jQ_X12_atom x1 a0 b0) := by
  intro y1 a hv hf hi0 hi1 hi2 hi3 hi4 hi5 hi6 hi7 hfat
  refine jt_eq (bq_X12_atom_79 E d y1 a b0) ?_
  have h1405_ := iv_get hv (k := 146) (j := 33) (l := 0) (u := 12) rfl
  have h1406_ := iv_get hv (k := 146) (j := 23) (l := 0) (u := 200) rfl
  have h1407_ := iv_get hv (k := 146) (j := 22) (l := 0) (u := 200) rfl
  have h1408_ : a 146 22 = a0 146 22 := hf 146 22 rfl
  have h1409_ := iv_get hv0 (k := 146) (j := 22) (l := 0) (u := 200) rfl
  have h1410_ := iv_get hv0 (k := 146) (j := 23) (l := 0) (u := 200) rfl
  have h1411_ := iv_get hv (k := 146) (j := 32) (l := 0) (u := 64) rfl
  have h1412_ := iv_get hv0 (k := 146) (j := 32) (l := 0) (u := 64) rfl
  refine jt_ite (fun c1413_ => ?_) (fun c1413_ => ?_)
  ·
    refine jt_ite (fun c1414_ => ?_) (fun c1414_ => ?_)
    ·
      exact cp_X12_atom_105 E d hd x1 a0 b0 hv0 hp0 hp1 hp2 hp3 hp4 y1 0 999 a hv hf (show 3 ≤ y1 from by omega) (show y1 ≤ 8 from by omega) (show 0 ≤ 0 from by omega) (show 0 ≤ 0 from by omega) (show 15 ≤ 999 from by omega) (show 999 ≤ 999 from by omega) (show 1 ≤ a 146 33 from by omega) (show a 146 23 ≤ a 146 22 from by omega) (show (a0 146 23) + 2 ≤ a 146 23 from by omega) (show 3 ≤ y1 from by omega) (show y1 ≤ 9 from by omega) (show a 146 32 = a0 146 32 from by omega) hfat
    ·
      exact cp_X12_atom_105 E d hd x1 a0 b0 hv0 hp0 hp1 hp2 hp3 hp4 y1 0 99 a hv hf (show 3 ≤ y1 from by omega) (show y1 ≤ 8 from by omega) (show 0 ≤ 0 from by omega) (show 0 ≤ 0 from by omega) (show 15 ≤ 99 from by omega) (show 99 ≤ 999 from by omega) (show 1 ≤ a 146 33 from by omega) (show a 146 23 ≤ a 146 22 from by omega) (show (a0 146 23) + 2 ≤ a 146 23 from by omega) (show 3 ≤ y1 from by omega) (show y1 ≤ 9 from by omega) (show a 146 32 = a0 146 32 from by omega) hfat
  ·
    exact cp_X12_atom_105 E d hd x1 a0 b0 hv0 hp0 hp1 hp2 hp3 hp4 y1 0 15 a hv hf (show 3 ≤ y1 from by omega) (show y1 ≤ 8 from by omega) (show 0 ≤ 0 from by omega) (show 0 ≤ 0 from by omega) (show 15 ≤ 15 from by omega) (show 15 ≤ 999 from by omega) (show 1 ≤ a 146 33 from by omega) (show a 146 23 ≤ a 146 22 from by omega) (show (a0 146 23) + 2 ≤ a 146 23 from by omega) (show 3 ≤ y1 from by omega) (show y1 ≤ 9 from by omega) (show a 146 32 = a0 146 32 from by omega) hfat
theorem cp_X12_atom_53 (E : jxE) (d : Nat) (hd : Nat.ble 3 (d + 1) = true) (x1 : Int) (a0 b0 : Nat → Nat → Int) (hv0 : iv a0) (hp0 : (a0 146 23) + (a0 146 25) ≤ a0 146 22) (hp1 : (0 ≤ x1 → 2 ≤ a0 146 25)) (hp2 : a0 146 32 < 64) (hp3 : x1 ≤ 15) (hp4 : 0 - 1 ≤ x1) : ∀ (y1 : Int) (a : Nat → Nat → Int), iv a → jfr jW_X12_atom a0 a → 3 ≤ y1 → y1 ≤ 9 → a 146 33 ≤ 11 → a 146 23 ≤ a 146 22 → (a0 146 23) + 2 ≤ a 146 23 → 3 ≤ y1 → y1 ≤ 9 → a 146 32 = a0 146 32 → (jfr jWat a0 a) → jt (jxX E d 220 53 [some (.inr (.inr (.inl 146))), some (.inl y1)] [] (jxSH, a, b0)) (jQ_X12_atom x1 a0 b0) := by
  intro y1 a hv hf hi0 hi1 hi2 hi3 hi4 hi5 hi6 hi7 hfat
  refine jt_eq (bq_X12_atom_53 E d y1 a b0) ?_
  have h1415_ := iv_get hv (k := 146) (j := 33) (l := 0) (u := 12) rfl
  have h1416_ := iv_get hv (k := 146) (j := 23) (l := 0) (u := 200) rfl
  have h1417_ := iv_get hv (k := 146) (j := 22) (l := 0) (u := 200) rfl
  have h1418_ : a 146 22 = a0 146 22 := hf 146 22 rfl
  have h1419_ := iv_get hv0 (k := 146) (j := 22) (l := 0) (u := 200) rfl
  have h1420_ := iv_get hv0 (k := 146) (j := 23) (l := 0) (u := 200) rfl
  have h1421_ := iv_get hv (k := 146) (j := 32) (l := 0) (u := 64) rfl
  have h1422_ := iv_get hv0 (k := 146) (j := 32) (l := 0) (u := 64) rfl
  refine jt_ite (fun c1423_ => ?_) (fun c1423_ => ?_)
  ·
    have h1425_ : jxw ((a 146 33) + 1) = (a 146 33) + 1 := jxw_id (by omega) (by omega)
    have hv1424_ : iv (jxu a 146 33 (jxw ((a 146 33) + 1))) := iv_put hv (l := 0) (u := 12) rfl (by omega) (by omega)
    have hv1426_ : iv (jxu (jxu a 146 33 (jxw ((a 146 33) + 1))) 146 26 0) := iv_put hv1424_ (l := 0) (u := 999) rfl (by omega) (by omega)
    have hf1427_ : jfr jW_X12_atom a0 (jxu a 146 33 (jxw ((a 146 33) + 1))) := jfr_put hf rfl
    have hf1428_ : jfr jW_X12_atom a0 (jxu (jxu a 146 33 (jxw ((a 146 33) + 1))) 146 26 0) := jfr_put hf1427_ rfl
    have hf1429_ : jfr jWat a0 (jxu a 146 33 (jxw ((a 146 33) + 1))) := jfr_put hfat rfl
    have hf1430_ : jfr jWat a0 (jxu (jxu a 146 33 (jxw ((a 146 33) + 1))) 146 26 0) := jfr_put hf1429_ rfl
    exact cp_X12_atom_113 E d hd x1 a0 b0 hv0 hp0 hp1 hp2 hp3 hp4 y1 (jxu (jxu a 146 33 (jxw ((a 146 33) + 1))) 146 26 0) hv1426_ hf1428_ (show 3 ≤ y1 from by omega) (show y1 ≤ 9 from by omega) (show 1 ≤ jxw ((a 146 33) + 1) from by omega) (show a 146 23 ≤ a 146 22 from by omega) (show (a0 146 23) + 2 ≤ a 146 23 from by omega) (show 3 ≤ y1 from by omega) (show y1 ≤ 9 from by omega) (show a 146 32 = a0 146 32 from by omega) hf1430_
  ·
    refine jt_ite (fun c1431_ => ?_) (fun c1431_ => ?_)
    ·
      have h1433_ : jxw ((a 146 33) + 1) = (a 146 33) + 1 := jxw_id (by omega) (by omega)
      have hv1432_ : iv (jxu a 146 33 (jxw ((a 146 33) + 1))) := iv_put hv (l := 0) (u := 12) rfl (by omega) (by omega)
      have hv1434_ : iv (jxu (jxu a 146 33 (jxw ((a 146 33) + 1))) 146 26 0) := iv_put hv1432_ (l := 0) (u := 999) rfl (by omega) (by omega)
      have hf1435_ : jfr jW_X12_atom a0 (jxu a 146 33 (jxw ((a 146 33) + 1))) := jfr_put hf rfl
      have hf1436_ : jfr jW_X12_atom a0 (jxu (jxu a 146 33 (jxw ((a 146 33) + 1))) 146 26 0) := jfr_put hf1435_ rfl
      have hf1437_ : jfr jWat a0 (jxu a 146 33 (jxw ((a 146 33) + 1))) := jfr_put hfat rfl
      have hf1438_ : jfr jWat a0 (jxu (jxu a 146 33 (jxw ((a 146 33) + 1))) 146 26 0) := jfr_put hf1437_ rfl
      exact cp_X12_atom_113 E d hd x1 a0 b0 hv0 hp0 hp1 hp2 hp3 hp4 y1 (jxu (jxu a 146 33 (jxw ((a 146 33) + 1))) 146 26 0) hv1434_ hf1436_ (show 3 ≤ y1 from by omega) (show y1 ≤ 9 from by omega) (show 1 ≤ jxw ((a 146 33) + 1) from by omega) (show a 146 23 ≤ a 146 22 from by omega) (show (a0 146 23) + 2 ≤ a 146 23 from by omega) (show 3 ≤ y1 from by omega) (show y1 ≤ 9 from by omega) (show a 146 32 = a0 146 32 from by omega) hf1438_
    ·
      have h1440_ : jxw ((a 146 33) + 1) = (a 146 33) + 1 := jxw_id (by omega) (by omega)
      have hv1439_ : iv (jxu a 146 33 (jxw ((a 146 33) + 1))) := iv_put hv (l := 0) (u := 12) rfl (by omega) (by omega)
      have hv1441_ : iv (jxu (jxu a 146 33 (jxw ((a 146 33) + 1))) 146 26 0) := iv_put hv1439_ (l := 0) (u := 999) rfl (by omega) (by omega)
      have hf1442_ : jfr jW_X12_atom a0 (jxu a 146 33 (jxw ((a 146 33) + 1))) := jfr_put hf rfl
      have hf1443_ : jfr jW_X12_atom a0 (jxu (jxu a 146 33 (jxw ((a 146 33) + 1))) 146 26 0) := jfr_put hf1442_ rfl
      have hf1444_ : jfr jWat a0 (jxu a 146 33 (jxw ((a 146 33) + 1))) := jfr_put hfat rfl
      have hf1445_ : jfr jWat a0 (jxu (jxu a 146 33 (jxw ((a 146 33) + 1))) 146 26 0) := jfr_put hf1444_ rfl
      exact cp_X12_atom_79 E d hd x1 a0 b0 hv0 hp0 hp1 hp2 hp3 hp4 y1 (jxu (jxu a 146 33 (jxw ((a 146 33) + 1))) 146 26 0) hv1441_ hf1443_ (show 3 ≤ y1 from by omega) (show y1 ≤ 8 from by omega) (show 1 ≤ jxw ((a 146 33) + 1) from by omega) (show a 146 23 ≤ a 146 22 from by omega) (show (a0 146 23) + 2 ≤ a 146 23 from by omega) (show 3 ≤ y1 from by omega) (show y1 ≤ 9 from by omega) (show a 146 32 = a0 146 32 from by omega) hf1445_
theorem sp_X12_atom (E : jxE) (d : Nat) (hd : Nat.ble 3 d = true) (x1 : Int) (a0 b0 : Nat → Nat → Int) (hv0 : iv a0) (hp0 : (a0 146 23) + (a0 146 25) ≤ a0 146 22) (hp1 : (0 ≤ x1 → 2 ≤ a0 146 25)) (hp2 : a0 146 32 < 64) (hp3 : x1 ≤ 15) (hp4 : 0 - 1 ≤ x1) : jt (jxC E d 220 [.inr (.inr (.inl 146)), .inl x1] (jxSH, a0, b0)) (jQ_X12_atom x1 a0 b0) := by
  obtain ⟨d, rfl⟩ := jd_succ hd
  refine jt_eq (bq_X12_atom E d x1 a0 b0) ?_
  have h1446_ := iv_get hv0 (k := 146) (j := 23) (l := 0) (u := 200) rfl
  have h1447_ := iv_get hv0 (k := 146) (j := 25) (l := 0) (u := 200) rfl
  have h1448_ := iv_get hv0 (k := 146) (j := 22) (l := 0) (u := 200) rfl
  have h1449_ := iv_get hv0 (k := 146) (j := 32) (l := 0) (u := 64) rfl
  refine jt_ite (fun c1450_ => ?_) (fun c1450_ => ?_)
  ·
    refine jt_bI (sp_X12_fails E d (jd_le hd rfl) 0 (a0 146 23) a0 b0 hv0) (fun r1451_ a1451_ b1451_ h1451_ => ?_)
    obtain ⟨hv1451_, hf1451_, rfl, hq1451_0, hq1451_1, hq1451_2, hq1451_3⟩ := h1451_
    refine jt_grd (by omega) ?_
    have hf1452_ : jfr jW_X12_atom a0 a1451_ := jfr_tr (jfr_rf _ _) hf1451_ rfl
    have h1453_ := iv_get hv1451_ (k := 146) (j := 23) (l := 0) (u := 200) rfl
    have h1454_ : a1451_ 146 23 = a0 146 23 := hf1451_ 146 23 rfl
    have h1455_ := iv_get hv1451_ (k := 146) (j := 22) (l := 0) (u := 200) rfl
    have h1456_ : a1451_ 146 22 = a0 146 22 := hf1451_ 146 22 rfl
    have h1457_ := iv_get hv1451_ (k := 146) (j := 32) (l := 0) (u := 64) rfl
    have h1458_ : a1451_ 146 32 = a0 146 32 := hf1451_ 146 32 rfl
    have hf1459_ : jfr jWat a0 a1451_ := jfr_tr (jfr_rf _ _) hf1451_ rfl
    exact jt_rI ⟨hv1451_, hf1452_, rfl, (show (0 ≤ r1451_ ∧ r1451_ ≤ 1) from by omega), (show a0 146 23 ≤ a1451_ 146 23 from by omega), (show a1451_ 146 23 ≤ a1451_ 146 22 from by omega), (show (r1451_ = 1 → (a0 146 23) + 2 ≤ a1451_ 146 23) from by omega), (show ((r1451_ = 0 ∧ a1451_ 146 32 = a0 146 32) ∨ (r1451_ = 1 ∧ a1451_ 146 32 = (a0 146 32) + 1)) from by omega), (fun h => by omega), (fun k _ => hf1459_ 168 k rfl)⟩
  ·
    refine jt_ite (fun c1460_ => ?_) (fun c1460_ => ?_)
    ·
      refine jt_bI (sp_X12_fails E d (jd_le hd rfl) 0 (a0 146 23) a0 b0 hv0) (fun r1461_ a1461_ b1461_ h1461_ => ?_)
      obtain ⟨hv1461_, hf1461_, rfl, hq1461_0, hq1461_1, hq1461_2, hq1461_3⟩ := h1461_
      refine jt_grd (by omega) ?_
      have hf1462_ : jfr jW_X12_atom a0 a1461_ := jfr_tr (jfr_rf _ _) hf1461_ rfl
      have h1463_ := iv_get hv1461_ (k := 146) (j := 23) (l := 0) (u := 200) rfl
      have h1464_ : a1461_ 146 23 = a0 146 23 := hf1461_ 146 23 rfl
      have h1465_ := iv_get hv1461_ (k := 146) (j := 22) (l := 0) (u := 200) rfl
      have h1466_ : a1461_ 146 22 = a0 146 22 := hf1461_ 146 22 rfl
      have h1467_ := iv_get hv1461_ (k := 146) (j := 32) (l := 0) (u := 64) rfl
      have h1468_ : a1461_ 146 32 = a0 146 32 := hf1461_ 146 32 rfl
      have hf1469_ : jfr jWat a0 a1461_ := jfr_tr (jfr_rf _ _) hf1461_ rfl
      exact jt_rI ⟨hv1461_, hf1462_, rfl, (show (0 ≤ r1461_ ∧ r1461_ ≤ 1) from by omega), (show a0 146 23 ≤ a1461_ 146 23 from by omega), (show a1461_ 146 23 ≤ a1461_ 146 22 from by omega), (show (r1461_ = 1 → (a0 146 23) + 2 ≤ a1461_ 146 23) from by omega), (show ((r1461_ = 0 ∧ a1461_ 146 32 = a0 146 32) ∨ (r1461_ = 1 ∧ a1461_ 146 32 = (a0 146 32) + 1)) from by omega), (fun h => by omega), (fun k _ => hf1469_ 168 k rfl)⟩
    ·
      have h1470_ := iv_get hv0 (k := 146) (j := 33) (l := 0) (u := 12) rfl
      refine jt_ite (fun c1471_ => ?_) (fun c1471_ => ?_)
      ·
        refine jt_bI (sp_X12_fails E d (jd_le hd rfl) 2 (a0 146 23) a0 b0 hv0) (fun r1472_ a1472_ b1472_ h1472_ => ?_)
        obtain ⟨hv1472_, hf1472_, rfl, hq1472_0, hq1472_1, hq1472_2, hq1472_3⟩ := h1472_
        refine jt_grd (by omega) ?_
        have hf1473_ : jfr jW_X12_atom a0 a1472_ := jfr_tr (jfr_rf _ _) hf1472_ rfl
        have h1474_ := iv_get hv1472_ (k := 146) (j := 23) (l := 0) (u := 200) rfl
        have h1475_ : a1472_ 146 23 = a0 146 23 := hf1472_ 146 23 rfl
        have h1476_ := iv_get hv1472_ (k := 146) (j := 22) (l := 0) (u := 200) rfl
        have h1477_ : a1472_ 146 22 = a0 146 22 := hf1472_ 146 22 rfl
        have h1478_ := iv_get hv1472_ (k := 146) (j := 32) (l := 0) (u := 64) rfl
        have h1479_ : a1472_ 146 32 = a0 146 32 := hf1472_ 146 32 rfl
        have hf1480_ : jfr jWat a0 a1472_ := jfr_tr (jfr_rf _ _) hf1472_ rfl
        exact jt_rI ⟨hv1472_, hf1473_, rfl, (show (0 ≤ r1472_ ∧ r1472_ ≤ 1) from by omega), (show a0 146 23 ≤ a1472_ 146 23 from by omega), (show a1472_ 146 23 ≤ a1472_ 146 22 from by omega), (show (r1472_ = 1 → (a0 146 23) + 2 ≤ a1472_ 146 23) from by omega), (show ((r1472_ = 0 ∧ a1472_ 146 32 = a0 146 32) ∨ (r1472_ = 1 ∧ a1472_ 146 32 = (a0 146 32) + 1)) from by omega), (fun h => by omega), (fun k _ => hf1480_ 168 k rfl)⟩
      ·
        have h1482_ : jxw ((a0 146 23) + (a0 146 25)) = (a0 146 23) + (a0 146 25) := jxw_id (by omega) (by omega)
        have hv1481_ : iv (jxu a0 146 23 (jxw ((a0 146 23) + (a0 146 25)))) := iv_put hv0 (l := 0) (u := 200) rfl (by omega) (by omega)
        have hf1483_ : jfr jW_X12_atom a0 (jxu a0 146 23 (jxw ((a0 146 23) + (a0 146 25)))) := jfr_put (jfr_rf _ _) rfl
        have hf1484_ : jfr jWat a0 (jxu a0 146 23 (jxw ((a0 146 23) + (a0 146 25)))) := jfr_put (jfr_rf _ _) rfl
        exact cp_X12_atom_53 E d hd x1 a0 b0 hv0 hp0 hp1 hp2 hp3 hp4 x1 (jxu a0 146 23 (jxw ((a0 146 23) + (a0 146 25)))) hv1481_ hf1483_ (show 3 ≤ x1 from by omega) (show x1 ≤ 9 from by omega) (show a0 146 33 ≤ 11 from by omega) (show jxw ((a0 146 23) + (a0 146 25)) ≤ a0 146 22 from by omega) (show (a0 146 23) + 2 ≤ jxw ((a0 146 23) + (a0 146 25)) from by omega) (show 3 ≤ x1 from by omega) (show x1 ≤ 9 from by omega) (show a0 146 32 = a0 146 32 from by omega) hf1484_
def jW_X12_clause : List (Nat × Nat) := [(146, 23), (146, 24), (146, 25), (146, 26), (146, 27), (195, 9999)]
abbrev jQ_X12_clause (x1 : Int) (a0 b0 : Nat → Nat → Int) : List jxV → (Nat → Nat → Int) → (Nat → Nat → Int) → Prop := rI (fun r a b => (iv a) ∧ (jfr jW_X12_clause a0 a) ∧ (b0 = b) ∧ ((0 ≤ r ∧ r ≤ 1)) ∧ (a0 146 23 ≤ a 146 23) ∧ (a 146 23 ≤ a 146 22) ∧ ((r = 1 → (x1 < 12 ∧ (a0 146 23) + 2 ≤ a 146 23))) ∧ (((a0 146 22 = 0 ∧ a0 146 24 = 0) → (r = 0 ∧ a 146 24 = 1))))
theorem cp_X12_clause_155 (E : jxE) (d : Nat) (hd : Nat.ble 3 (d + 1) = true) (x1 : Int) (a0 b0 : Nat → Nat → Int) (hv0 : iv a0) (hp0 : a0 146 23 ≤ a0 146 22) (hp1 : 0 ≤ x1) (hp2 : x1 ≤ 12) : ∀ (a : Nat → Nat → Int), iv a → jfr jW_X12_clause a0 a → a0 146 23 ≤ a 146 23 → a 146 23 ≤ a 146 22 → 1 ≤ a0 146 22 → jt (jxX E d 281 155 [none, none, none, none, none] [] (jxSH, a, b0)) (jQ_X12_clause x1 a0 b0) := by
  intro a hv hf hi0 hi1 hi2
  refine jt_eq (bq_X12_clause_155 E d a b0) ?_
  have h1485_ := iv_get hv0 (k := 146) (j := 23) (l := 0) (u := 200) rfl
  have h1486_ := iv_get hv (k := 146) (j := 23) (l := 0) (u := 200) rfl
  have h1487_ := iv_get hv (k := 146) (j := 22) (l := 0) (u := 200) rfl
  have h1488_ : a 146 22 = a0 146 22 := hf 146 22 rfl
  have h1489_ := iv_get hv0 (k := 146) (j := 22) (l := 0) (u := 200) rfl
  exact jt_rI ⟨hv, hf, rfl, (show (0 ≤ 0 ∧ 0 ≤ 1) from by omega), (show a0 146 23 ≤ a 146 23 from by omega), (show a 146 23 ≤ a 146 22 from by omega), (show (0 = 1 → (x1 < 12 ∧ (a0 146 23) + 2 ≤ a 146 23)) from by omega), (show ((a0 146 22 = 0 ∧ a0 146 24 = 0) → (0 = 0 ∧ a 146 24 = 1)) from by omega)⟩
theorem cp_X12_clause_157 (E : jxE) (d : Nat) (hd : Nat.ble 3 (d + 1) = true) (x1 : Int) (a0 b0 : Nat → Nat → Int) (hv0 : iv a0) (hp0 : a0 146 23 ≤ a0 146 22) (hp1 : 0 ≤ x1) (hp2 : x1 ≤ 12) : ∀ (y1 : Int) (a : Nat → Nat → Int), iv a → jfr jW_X12_clause a0 a → 0 ≤ y1 → y1 ≤ 11 → a 146 23 ≤ a 146 22 → (a0 146 23) + 2 ≤ a 146 23 → y1 = x1 → y1 < 12 → 0 ≤ y1 → a 146 26 ≤ 900 → 1 ≤ a0 146 22 → jt (jxX E d 281 157 [some (.inr (.inr (.inl 146))), some (.inl y1), none, none, none] [] (jxSH, a, b0)) (jQ_X12_clause x1 a0 b0) := by
  intro y1 a hv hf hi0 hi1 hi2 hi3 hi4 hi5 hi6 hi7 hi8
  refine jt_eq (bq_X12_clause_157 E d y1 a b0) ?_
  have h1490_ := iv_get hv (k := 146) (j := 23) (l := 0) (u := 200) rfl
  have h1491_ := iv_get hv (k := 146) (j := 22) (l := 0) (u := 200) rfl
  have h1492_ : a 146 22 = a0 146 22 := hf 146 22 rfl
  have h1493_ := iv_get hv0 (k := 146) (j := 22) (l := 0) (u := 200) rfl
  have h1494_ := iv_get hv0 (k := 146) (j := 23) (l := 0) (u := 200) rfl
  have h1495_ := iv_get hv (k := 146) (j := 26) (l := 0) (u := 999) rfl
  have h1496_ : jxw (3 * y1) = 3 * y1 := jxw_id (by omega) (by omega)
  have h1497_ : jxw ((jxw (3 * y1)) + 2) = (jxw (3 * y1)) + 2 := jxw_id (by omega) (by omega)
  refine jt_grd (by omega) ?_
  have hv1498_ : iv (jxu a 195 ((jxw ((jxw (3 * y1)) + 2)).toNat) (a 146 26)) := iv_put hv (l := 0) (u := 900) rfl (by omega) (by omega)
  have hf1499_ : jfr jW_X12_clause a0 (jxu a 195 ((jxw ((jxw (3 * y1)) + 2)).toNat) (a 146 26)) := jfr_put hf rfl
  exact jt_rI ⟨hv1498_, hf1499_, rfl, (show (0 ≤ 1 ∧ 1 ≤ 1) from by omega), (show a0 146 23 ≤ a 146 23 from by omega), (show a 146 23 ≤ a 146 22 from by omega), (show (1 = 1 → (x1 < 12 ∧ (a0 146 23) + 2 ≤ a 146 23)) from by omega), (show ((a0 146 22 = 0 ∧ a0 146 24 = 0) → (1 = 0 ∧ a 146 24 = 1)) from by omega)⟩
theorem cp_X12_clause_130 (E : jxE) (d : Nat) (hd : Nat.ble 3 (d + 1) = true) (x1 : Int) (a0 b0 : Nat → Nat → Int) (hv0 : iv a0) (hp0 : a0 146 23 ≤ a0 146 22) (hp1 : 0 ≤ x1) (hp2 : x1 ≤ 12) : ∀ (y1 : Int) (a : Nat → Nat → Int), iv a → jfr jW_X12_clause a0 a → 0 ≤ y1 → y1 ≤ 11 → a 146 23 ≤ a 146 22 → (a0 146 23) + 2 ≤ a 146 23 → y1 = x1 → y1 < 12 → 0 ≤ y1 → a 146 26 ≤ 500 → 1 ≤ a0 146 22 → jt (jxX E d 281 130 [some (.inr (.inr (.inl 146))), some (.inl y1), none, none, none] [] (jxSH, a, b0)) (jQ_X12_clause x1 a0 b0) := by
  intro y1 a hv hf hi0 hi1 hi2 hi3 hi4 hi5 hi6 hi7 hi8
  refine jt_eq (bq_X12_clause_130 E d y1 a b0) ?_
  have h1500_ := iv_get hv (k := 146) (j := 23) (l := 0) (u := 200) rfl
  have h1501_ := iv_get hv (k := 146) (j := 22) (l := 0) (u := 200) rfl
  have h1502_ : a 146 22 = a0 146 22 := hf 146 22 rfl
  have h1503_ := iv_get hv0 (k := 146) (j := 22) (l := 0) (u := 200) rfl
  have h1504_ := iv_get hv0 (k := 146) (j := 23) (l := 0) (u := 200) rfl
  have h1505_ := iv_get hv (k := 146) (j := 26) (l := 0) (u := 999) rfl
  have h1506_ : jxw (3 * y1) = 3 * y1 := jxw_id (by omega) (by omega)
  have h1507_ : jxw ((jxw (3 * y1)) + 1) = (jxw (3 * y1)) + 1 := jxw_id (by omega) (by omega)
  refine jt_grd (by omega) ?_
  have hv1508_ : iv (jxu a 195 ((jxw ((jxw (3 * y1)) + 1)).toNat) (a 146 26)) := iv_put hv (l := 0) (u := 900) rfl (by omega) (by omega)
  refine jt_bI (sp_X12_number E d (jd_le hd rfl) 1 900 (jxu a 195 ((jxw ((jxw (3 * y1)) + 1)).toNat) (a 146 26)) b0 hv1508_ (show a 146 23 ≤ a 146 22 from by omega)) (fun r1509_ a1509_ b1509_ h1509_ => ?_)
  obtain ⟨hv1509_, hf1509_, rfl, hq1509_0, hq1509_1, hq1509_2, hq1509_3⟩ := h1509_
  have h1510_ := iv_get hv1509_ (k := 146) (j := 23) (l := 0) (u := 200) rfl
  have h1511_ : a 146 23 ≤ a1509_ 146 23 := hq1509_1
  have h1512_ : a1509_ 146 23 ≤ a 146 22 := hq1509_2
  have h1513_ := iv_get hv1509_ (k := 146) (j := 26) (l := 0) (u := 999) rfl
  have h1514_ : (r1509_ = 1 → (1 ≤ a1509_ 146 26 ∧ a1509_ 146 26 ≤ 900)) := hq1509_3
  refine jt_ite (fun c1515_ => ?_) (fun c1515_ => ?_)
  ·
    have hf1516_ : jfr jW_X12_clause a0 (jxu a 195 ((jxw ((jxw (3 * y1)) + 1)).toNat) (a 146 26)) := jfr_put hf rfl
    have hf1517_ : jfr jW_X12_clause a0 a1509_ := jfr_tr hf1516_ hf1509_ rfl
    have h1518_ := iv_get hv1509_ (k := 146) (j := 22) (l := 0) (u := 200) rfl
    have h1519_ : a1509_ 146 22 = a 146 22 := hf1509_ 146 22 rfl
    exact cp_X12_clause_155 E d hd x1 a0 b0 hv0 hp0 hp1 hp2 a1509_ hv1509_ hf1517_ (show a0 146 23 ≤ a1509_ 146 23 from by omega) (show a1509_ 146 23 ≤ a1509_ 146 22 from by omega) (show 1 ≤ a0 146 22 from by omega)
  ·
    have hf1520_ : jfr jW_X12_clause a0 (jxu a 195 ((jxw ((jxw (3 * y1)) + 1)).toNat) (a 146 26)) := jfr_put hf rfl
    have hf1521_ : jfr jW_X12_clause a0 a1509_ := jfr_tr hf1520_ hf1509_ rfl
    have h1522_ := iv_get hv1509_ (k := 146) (j := 22) (l := 0) (u := 200) rfl
    have h1523_ : a1509_ 146 22 = a 146 22 := hf1509_ 146 22 rfl
    exact cp_X12_clause_157 E d hd x1 a0 b0 hv0 hp0 hp1 hp2 y1 a1509_ hv1509_ hf1521_ (show 0 ≤ y1 from by omega) (show y1 ≤ 11 from by omega) (show a1509_ 146 23 ≤ a1509_ 146 22 from by omega) (show (a0 146 23) + 2 ≤ a1509_ 146 23 from by omega) (show y1 = x1 from by omega) (show y1 < 12 from by omega) (show 0 ≤ y1 from by omega) (show a1509_ 146 26 ≤ 900 from by omega) (show 1 ≤ a0 146 22 from by omega)
theorem cp_X12_clause_69 (E : jxE) (d : Nat) (hd : Nat.ble 3 (d + 1) = true) (x1 : Int) (a0 b0 : Nat → Nat → Int) (hv0 : iv a0) (hp0 : a0 146 23 ≤ a0 146 22) (hp1 : 0 ≤ x1) (hp2 : x1 ≤ 12) : ∀ n : Nat, (∀ (y1 y2 y3 y4 : Int) (a : Nat → Nat → Int), (((11 - y4) * 1) + 0).toNat ≤ n → iv a → jfr jW_X12_clause a0 a → 1 ≤ y1 → y1 ≤ 11 → 0 ≤ y2 → y2 ≤ 999 → 0 ≤ y3 → y3 ≤ 900 → 0 ≤ y4 → y4 ≤ 10 → a 146 23 ≤ a 146 22 → (a0 146 23) + 2 ≤ a 146 23 → y1 = x1 → y1 < 12 → 0 ≤ y1 → 0 ≤ y2 → y2 ≤ 3 → 0 ≤ y3 → y3 ≤ 900 → 0 ≤ y4 → y4 < y1 → 1 ≤ a0 146 22 → jt (jxX E d 281 100 [some (.inr (.inr (.inl 146))), some (.inl y1), some (.inl y2), some (.inl y3), some (.inl y4)] [] (jxSH, a, b0)) (jQ_X12_clause x1 a0 b0)) ∧ (∀ (y1 y2 y3 y4 : Int) (a : Nat → Nat → Int), (((11 - y4) * 1) + 0).toNat ≤ n → iv a → jfr jW_X12_clause a0 a → 0 ≤ y1 → y1 ≤ 11 → 0 ≤ y2 → y2 ≤ 999 → 0 ≤ y3 → y3 ≤ 900 → 0 ≤ y4 → y4 ≤ 11 → a 146 23 ≤ a 146 22 → (a0 146 23) + 2 ≤ a 146 23 → y1 = x1 → y1 < 12 → 0 ≤ y1 → 0 ≤ y2 → y2 ≤ 3 → 0 ≤ y3 → y3 ≤ 900 → 0 ≤ y4 → y4 ≤ y1 → 1 ≤ a0 146 22 → jt (jxX E d 281 69 [some (.inr (.inr (.inl 146))), some (.inl y1), some (.inl y2), some (.inl y3), some (.inl y4)] [] (jxSH, a, b0)) (jQ_X12_clause x1 a0 b0)) := by
  refine jx_ind fun n ih => ?_
  have ih100 : ∀ (y1 y2 y3 y4 : Int) (a : Nat → Nat → Int), (((11 - y4) * 1) + 0).toNat < n → iv a → jfr jW_X12_clause a0 a → 1 ≤ y1 → y1 ≤ 11 → 0 ≤ y2 → y2 ≤ 999 → 0 ≤ y3 → y3 ≤ 900 → 0 ≤ y4 → y4 ≤ 10 → a 146 23 ≤ a 146 22 → (a0 146 23) + 2 ≤ a 146 23 → y1 = x1 → y1 < 12 → 0 ≤ y1 → 0 ≤ y2 → y2 ≤ 3 → 0 ≤ y3 → y3 ≤ 900 → 0 ≤ y4 → y4 < y1 → 1 ≤ a0 146 22 → jt (jxX E d 281 100 [some (.inr (.inr (.inl 146))), some (.inl y1), some (.inl y2), some (.inl y3), some (.inl y4)] [] (jxSH, a, b0)) (jQ_X12_clause x1 a0 b0) := fun y1 y2 y3 y4 a hlt i0 i1 i2 i3 i4 i5 i6 i7 i8 i9 i10 i11 i12 i13 i14 i15 i16 i17 i18 i19 i20 i21 => (ih _ hlt).1 y1 y2 y3 y4 a (Nat.le_refl _) i0 i1 i2 i3 i4 i5 i6 i7 i8 i9 i10 i11 i12 i13 i14 i15 i16 i17 i18 i19 i20 i21
  have ih69 : ∀ (y1 y2 y3 y4 : Int) (a : Nat → Nat → Int), (((11 - y4) * 1) + 0).toNat < n → iv a → jfr jW_X12_clause a0 a → 0 ≤ y1 → y1 ≤ 11 → 0 ≤ y2 → y2 ≤ 999 → 0 ≤ y3 → y3 ≤ 900 → 0 ≤ y4 → y4 ≤ 11 → a 146 23 ≤ a 146 22 → (a0 146 23) + 2 ≤ a 146 23 → y1 = x1 → y1 < 12 → 0 ≤ y1 → 0 ≤ y2 → y2 ≤ 3 → 0 ≤ y3 → y3 ≤ 900 → 0 ≤ y4 → y4 ≤ y1 → 1 ≤ a0 146 22 → jt (jxX E d 281 69 [some (.inr (.inr (.inl 146))), some (.inl y1), some (.inl y2), some (.inl y3), some (.inl y4)] [] (jxSH, a, b0)) (jQ_X12_clause x1 a0 b0) := fun y1 y2 y3 y4 a hlt i0 i1 i2 i3 i4 i5 i6 i7 i8 i9 i10 i11 i12 i13 i14 i15 i16 i17 i18 i19 i20 i21 => (ih _ hlt).2 y1 y2 y3 y4 a (Nat.le_refl _) i0 i1 i2 i3 i4 i5 i6 i7 i8 i9 i10 i11 i12 i13 i14 i15 i16 i17 i18 i19 i20 i21
  have hc100 : ∀ (y1 y2 y3 y4 : Int) (a : Nat → Nat → Int), (((11 - y4) * 1) + 0).toNat ≤ n → iv a → jfr jW_X12_clause a0 a → 1 ≤ y1 → y1 ≤ 11 → 0 ≤ y2 → y2 ≤ 999 → 0 ≤ y3 → y3 ≤ 900 → 0 ≤ y4 → y4 ≤ 10 → a 146 23 ≤ a 146 22 → (a0 146 23) + 2 ≤ a 146 23 → y1 = x1 → y1 < 12 → 0 ≤ y1 → 0 ≤ y2 → y2 ≤ 3 → 0 ≤ y3 → y3 ≤ 900 → 0 ≤ y4 → y4 < y1 → 1 ≤ a0 146 22 → jt (jxX E d 281 100 [some (.inr (.inr (.inl 146))), some (.inl y1), some (.inl y2), some (.inl y3), some (.inl y4)] [] (jxSH, a, b0)) (jQ_X12_clause x1 a0 b0) := by
    intro y1 y2 y3 y4 a hm hv hf hi0 hi1 hi2 hi3 hi4 hi5 hi6 hi7 hi8 hi9 hi10 hi11 hi12 hi13 hi14 hi15 hi16 hi17 hi18 hi19
    refine jt_eq (bq_X12_clause_100 E d y1 y2 y3 y4 a b0) ?_
    have h1524_ := iv_get hv (k := 146) (j := 23) (l := 0) (u := 200) rfl
    have h1525_ := iv_get hv (k := 146) (j := 22) (l := 0) (u := 200) rfl
    have h1526_ : a 146 22 = a0 146 22 := hf 146 22 rfl
    have h1527_ := iv_get hv0 (k := 146) (j := 22) (l := 0) (u := 200) rfl
    have h1528_ := iv_get hv0 (k := 146) (j := 23) (l := 0) (u := 200) rfl
    have h1529_ : jxw (y4 + 1) = y4 + 1 := jxw_id (by omega) (by omega)
    exact ih69 y1 y2 y3 (jxw (y4 + 1)) a (show (((11 - (jxw (y4 + 1))) * 1) + 0).toNat < n from by omega) hv hf (show 0 ≤ y1 from by omega) (show y1 ≤ 11 from by omega) (show 0 ≤ y2 from by omega) (show y2 ≤ 999 from by omega) (show 0 ≤ y3 from by omega) (show y3 ≤ 900 from by omega) (show 0 ≤ jxw (y4 + 1) from by omega) (show jxw (y4 + 1) ≤ 11 from by omega) (show a 146 23 ≤ a 146 22 from by omega) (show (a0 146 23) + 2 ≤ a 146 23 from by omega) (show y1 = x1 from by omega) (show y1 < 12 from by omega) (show 0 ≤ y1 from by omega) (show 0 ≤ y2 from by omega) (show y2 ≤ 3 from by omega) (show 0 ≤ y3 from by omega) (show y3 ≤ 900 from by omega) (show 0 ≤ jxw (y4 + 1) from by omega) (show jxw (y4 + 1) ≤ y1 from by omega) (show 1 ≤ a0 146 22 from by omega)
  have hc69 : ∀ (y1 y2 y3 y4 : Int) (a : Nat → Nat → Int), (((11 - y4) * 1) + 0).toNat ≤ n → iv a → jfr jW_X12_clause a0 a → 0 ≤ y1 → y1 ≤ 11 → 0 ≤ y2 → y2 ≤ 999 → 0 ≤ y3 → y3 ≤ 900 → 0 ≤ y4 → y4 ≤ 11 → a 146 23 ≤ a 146 22 → (a0 146 23) + 2 ≤ a 146 23 → y1 = x1 → y1 < 12 → 0 ≤ y1 → 0 ≤ y2 → y2 ≤ 3 → 0 ≤ y3 → y3 ≤ 900 → 0 ≤ y4 → y4 ≤ y1 → 1 ≤ a0 146 22 → jt (jxX E d 281 69 [some (.inr (.inr (.inl 146))), some (.inl y1), some (.inl y2), some (.inl y3), some (.inl y4)] [] (jxSH, a, b0)) (jQ_X12_clause x1 a0 b0) := by
    intro y1 y2 y3 y4 a hm hv hf hi0 hi1 hi2 hi3 hi4 hi5 hi6 hi7 hi8 hi9 hi10 hi11 hi12 hi13 hi14 hi15 hi16 hi17 hi18 hi19
    refine jt_eq (bq_X12_clause_69 E d y1 y2 y3 y4 a b0) ?_
    have h1530_ := iv_get hv (k := 146) (j := 23) (l := 0) (u := 200) rfl
    have h1531_ := iv_get hv (k := 146) (j := 22) (l := 0) (u := 200) rfl
    have h1532_ : a 146 22 = a0 146 22 := hf 146 22 rfl
    have h1533_ := iv_get hv0 (k := 146) (j := 22) (l := 0) (u := 200) rfl
    have h1534_ := iv_get hv0 (k := 146) (j := 23) (l := 0) (u := 200) rfl
    refine jt_ite (fun c1535_ => ?_) (fun c1535_ => ?_)
    ·
      have h1536_ : jxw (3 * y4) = 3 * y4 := jxw_id (by omega) (by omega)
      refine jt_grd (by omega) ?_
      have h1537_ := iv_get hv (k := 195) (j := (jxw (3 * y4)).toNat) (l := 0) (u := 900) rfl
      refine jt_ite (fun c1538_ => ?_) (fun c1538_ => ?_)
      ·
        have h1539_ : jxw ((jxw (3 * y4)) + 1) = (jxw (3 * y4)) + 1 := jxw_id (by omega) (by omega)
        refine jt_grd (by omega) ?_
        have h1540_ := iv_get hv (k := 195) (j := (jxw ((jxw (3 * y4)) + 1)).toNat) (l := 0) (u := 900) rfl
        exact hc100 y1 y2 (a 195 ((jxw ((jxw (3 * y4)) + 1)).toNat)) y4 a (show (((11 - y4) * 1) + 0).toNat ≤ n from by omega) hv hf (show 1 ≤ y1 from by omega) (show y1 ≤ 11 from by omega) (show 0 ≤ y2 from by omega) (show y2 ≤ 999 from by omega) (show 0 ≤ a 195 ((jxw ((jxw (3 * y4)) + 1)).toNat) from by omega) (show a 195 ((jxw ((jxw (3 * y4)) + 1)).toNat) ≤ 900 from by omega) (show 0 ≤ y4 from by omega) (show y4 ≤ 10 from by omega) (show a 146 23 ≤ a 146 22 from by omega) (show (a0 146 23) + 2 ≤ a 146 23 from by omega) (show y1 = x1 from by omega) (show y1 < 12 from by omega) (show 0 ≤ y1 from by omega) (show 0 ≤ y2 from by omega) (show y2 ≤ 3 from by omega) (show 0 ≤ a 195 ((jxw ((jxw (3 * y4)) + 1)).toNat) from by omega) (show a 195 ((jxw ((jxw (3 * y4)) + 1)).toNat) ≤ 900 from by omega) (show 0 ≤ y4 from by omega) (show y4 < y1 from by omega) (show 1 ≤ a0 146 22 from by omega)
      ·
        exact hc100 y1 y2 y3 y4 a (show (((11 - y4) * 1) + 0).toNat ≤ n from by omega) hv hf (show 1 ≤ y1 from by omega) (show y1 ≤ 11 from by omega) (show 0 ≤ y2 from by omega) (show y2 ≤ 999 from by omega) (show 0 ≤ y3 from by omega) (show y3 ≤ 900 from by omega) (show 0 ≤ y4 from by omega) (show y4 ≤ 10 from by omega) (show a 146 23 ≤ a 146 22 from by omega) (show (a0 146 23) + 2 ≤ a 146 23 from by omega) (show y1 = x1 from by omega) (show y1 < 12 from by omega) (show 0 ≤ y1 from by omega) (show 0 ≤ y2 from by omega) (show y2 ≤ 3 from by omega) (show 0 ≤ y3 from by omega) (show y3 ≤ 900 from by omega) (show 0 ≤ y4 from by omega) (show y4 < y1 from by omega) (show 1 ≤ a0 146 22 from by omega)
    ·
      refine jt_bI (sp_X12_number E d (jd_le hd rfl) (jxw (y3 + 1)) 500 a b0 hv (show a 146 23 ≤ a 146 22 from by omega)) (fun r1541_ a1541_ b1541_ h1541_ => ?_)
      obtain ⟨hv1541_, hf1541_, rfl, hq1541_0, hq1541_1, hq1541_2, hq1541_3⟩ := h1541_
      have h1542_ := iv_get hv1541_ (k := 146) (j := 23) (l := 0) (u := 200) rfl
      have h1543_ : jxw (y3 + 1) = y3 + 1 := jxw_id (by omega) (by omega)
      have h1544_ := iv_get hv1541_ (k := 146) (j := 26) (l := 0) (u := 999) rfl
      refine jt_ite (fun c1545_ => ?_) (fun c1545_ => ?_)
      ·
        have hf1546_ : jfr jW_X12_clause a0 a1541_ := jfr_tr hf hf1541_ rfl
        have h1547_ := iv_get hv1541_ (k := 146) (j := 22) (l := 0) (u := 200) rfl
        have h1548_ : a1541_ 146 22 = a 146 22 := hf1541_ 146 22 rfl
        exact jt_rI ⟨hv1541_, hf1546_, rfl, (show (0 ≤ 0 ∧ 0 ≤ 1) from by omega), (show a0 146 23 ≤ a1541_ 146 23 from by omega), (show a1541_ 146 23 ≤ a1541_ 146 22 from by omega), (show (0 = 1 → (x1 < 12 ∧ (a0 146 23) + 2 ≤ a1541_ 146 23)) from by omega), (show ((a0 146 22 = 0 ∧ a0 146 24 = 0) → (0 = 0 ∧ a1541_ 146 24 = 1)) from by omega)⟩
      ·
        have h1549_ : jxw (3 * y1) = 3 * y1 := jxw_id (by omega) (by omega)
        refine jt_grd (by omega) ?_
        have hv1550_ : iv (jxu a1541_ 195 ((jxw (3 * y1)).toNat) y2) := iv_put hv1541_ (l := 0) (u := 900) rfl (by omega) (by omega)
        have hf1551_ : jfr jW_X12_clause a0 a1541_ := jfr_tr hf hf1541_ rfl
        have hf1552_ : jfr jW_X12_clause a0 (jxu a1541_ 195 ((jxw (3 * y1)).toNat) y2) := jfr_put hf1551_ rfl
        have h1553_ := iv_get hv1541_ (k := 146) (j := 22) (l := 0) (u := 200) rfl
        have h1554_ : a1541_ 146 22 = a 146 22 := hf1541_ 146 22 rfl
        exact cp_X12_clause_130 E d hd x1 a0 b0 hv0 hp0 hp1 hp2 y1 (jxu a1541_ 195 ((jxw (3 * y1)).toNat) y2) hv1550_ hf1552_ (show 0 ≤ y1 from by omega) (show y1 ≤ 11 from by omega) (show a1541_ 146 23 ≤ a1541_ 146 22 from by omega) (show (a0 146 23) + 2 ≤ a1541_ 146 23 from by omega) (show y1 = x1 from by omega) (show y1 < 12 from by omega) (show 0 ≤ y1 from by omega) (show a1541_ 146 26 ≤ 500 from by omega) (show 1 ≤ a0 146 22 from by omega)
  exact ⟨hc100, hc69⟩
theorem cp_X12_clause_48 (E : jxE) (d : Nat) (hd : Nat.ble 3 (d + 1) = true) (x1 : Int) (a0 b0 : Nat → Nat → Int) (hv0 : iv a0) (hp0 : a0 146 23 ≤ a0 146 22) (hp1 : 0 ≤ x1) (hp2 : x1 ≤ 12) : ∀ (y1 : Int) (a : Nat → Nat → Int), iv a → jfr jW_X12_clause a0 a → 0 ≤ y1 → y1 ≤ 11 → a 146 23 ≤ a 146 22 → (a0 146 23) + 2 ≤ a 146 23 → y1 = x1 → y1 < 12 → 0 ≤ y1 → 1 ≤ a0 146 22 → jt (jxX E d 281 48 [some (.inr (.inr (.inl 146))), some (.inl y1), none, none, none] [] (jxSH, a, b0)) (jQ_X12_clause x1 a0 b0) := by
  intro y1 a hv hf hi0 hi1 hi2 hi3 hi4 hi5 hi6 hi7
  refine jt_eq (bq_X12_clause_48 E d y1 a b0) ?_
  have h1555_ := iv_get hv (k := 146) (j := 23) (l := 0) (u := 200) rfl
  have h1556_ := iv_get hv (k := 146) (j := 22) (l := 0) (u := 200) rfl
  have h1557_ : a 146 22 = a0 146 22 := hf 146 22 rfl
  have h1558_ := iv_get hv0 (k := 146) (j := 22) (l := 0) (u := 200) rfl
  have h1559_ := iv_get hv0 (k := 146) (j := 23) (l := 0) (u := 200) rfl
  refine jt_bI (sp_X12_number E d (jd_le hd rfl) 0 3 a b0 hv (show a 146 23 ≤ a 146 22 from by omega)) (fun r1560_ a1560_ b1560_ h1560_ => ?_)
  obtain ⟨hv1560_, hf1560_, rfl, hq1560_0, hq1560_1, hq1560_2, hq1560_3⟩ := h1560_
  have h1561_ := iv_get hv1560_ (k := 146) (j := 23) (l := 0) (u := 200) rfl
  have h1562_ := iv_get hv1560_ (k := 146) (j := 26) (l := 0) (u := 999) rfl
  refine jt_ite (fun c1563_ => ?_) (fun c1563_ => ?_)
  ·
    have hf1564_ : jfr jW_X12_clause a0 a1560_ := jfr_tr hf hf1560_ rfl
    have h1565_ := iv_get hv1560_ (k := 146) (j := 22) (l := 0) (u := 200) rfl
    have h1566_ : a1560_ 146 22 = a 146 22 := hf1560_ 146 22 rfl
    exact jt_rI ⟨hv1560_, hf1564_, rfl, (show (0 ≤ 0 ∧ 0 ≤ 1) from by omega), (show a0 146 23 ≤ a1560_ 146 23 from by omega), (show a1560_ 146 23 ≤ a1560_ 146 22 from by omega), (show (0 = 1 → (x1 < 12 ∧ (a0 146 23) + 2 ≤ a1560_ 146 23)) from by omega), (show ((a0 146 22 = 0 ∧ a0 146 24 = 0) → (0 = 0 ∧ a1560_ 146 24 = 1)) from by omega)⟩
  ·
    have hf1567_ : jfr jW_X12_clause a0 a1560_ := jfr_tr hf hf1560_ rfl
    have h1568_ := iv_get hv1560_ (k := 146) (j := 22) (l := 0) (u := 200) rfl
    have h1569_ : a1560_ 146 22 = a 146 22 := hf1560_ 146 22 rfl
    exact (cp_X12_clause_69 E d hd x1 a0 b0 hv0 hp0 hp1 hp2 _).2 y1 (a1560_ 146 26) 0 0 a1560_ (Nat.le_refl _) hv1560_ hf1567_ (show 0 ≤ y1 from by omega) (show y1 ≤ 11 from by omega) (show 0 ≤ a1560_ 146 26 from by omega) (show a1560_ 146 26 ≤ 999 from by omega) (show 0 ≤ 0 from by omega) (show 0 ≤ 900 from by omega) (show 0 ≤ 0 from by omega) (show 0 ≤ 11 from by omega) (show a1560_ 146 23 ≤ a1560_ 146 22 from by omega) (show (a0 146 23) + 2 ≤ a1560_ 146 23 from by omega) (show y1 = x1 from by omega) (show y1 < 12 from by omega) (show 0 ≤ y1 from by omega) (show 0 ≤ a1560_ 146 26 from by omega) (show a1560_ 146 26 ≤ 3 from by omega) (show 0 ≤ 0 from by omega) (show 0 ≤ 900 from by omega) (show 0 ≤ 0 from by omega) (show 0 ≤ y1 from by omega) (show 1 ≤ a0 146 22 from by omega)
theorem sp_X12_clause (E : jxE) (d : Nat) (hd : Nat.ble 3 d = true) (x1 : Int) (a0 b0 : Nat → Nat → Int) (hv0 : iv a0) (hp0 : a0 146 23 ≤ a0 146 22) (hp1 : 0 ≤ x1) (hp2 : x1 ≤ 12) : jt (jxC E d 281 [.inr (.inr (.inl 146)), .inl x1] (jxSH, a0, b0)) (jQ_X12_clause x1 a0 b0) := by
  obtain ⟨d, rfl⟩ := jd_succ hd
  refine jt_eq (bq_X12_clause E d x1 a0 b0) ?_
  have h1570_ := iv_get hv0 (k := 146) (j := 23) (l := 0) (u := 200) rfl
  have h1571_ := iv_get hv0 (k := 146) (j := 22) (l := 0) (u := 200) rfl
  refine jt_bI (sp_X12_wordHere E d (jd_le hd rfl) a0 b0 hv0 (show a0 146 23 ≤ a0 146 22 from by omega)) (fun r1572_ a1572_ b1572_ h1572_ => ?_)
  obtain ⟨hv1572_, hf1572_, rfl, hq1572_0, hq1572_1, hq1572_2, hq1572_3, hq1572_4, hq1572_5, hq1572_6⟩ := h1572_
  have h1573_ := iv_get hv1572_ (k := 146) (j := 23) (l := 0) (u := 200) rfl
  have h1574_ := iv_get hv1572_ (k := 146) (j := 25) (l := 0) (u := 200) rfl
  have h1575_ := iv_get hv1572_ (k := 146) (j := 22) (l := 0) (u := 200) rfl
  have h1576_ : a1572_ 146 22 = a0 146 22 := hf1572_ 146 22 rfl
  have h1577_ := iv_get hv0 (k := 164) (j := (a0 146 23).toNat) (l := (-128)) (u := 127) rfl
  refine jt_ite (fun c1578_ => ?_) (fun c1578_ => ?_)
  ·
    refine jt_ite (fun c1579_ => ?_) (fun c1579_ => ?_)
    ·
      refine jt_bI (sp_X12_fails E d (jd_le hd rfl) 2 (a1572_ 146 23) a1572_ b0 hv1572_) (fun r1580_ a1580_ b1580_ h1580_ => ?_)
      obtain ⟨hv1580_, hf1580_, rfl, hq1580_0, hq1580_1, hq1580_2, hq1580_3⟩ := h1580_
      have h1581_ : a1572_ 146 24 = a0 146 24 := hf1572_ 146 24 rfl
      refine jt_grd (by omega) ?_
      have hf1582_ : jfr jW_X12_clause a0 a1572_ := jfr_tr (jfr_rf _ _) hf1572_ rfl
      have hf1583_ : jfr jW_X12_clause a0 a1580_ := jfr_tr hf1582_ hf1580_ rfl
      have h1584_ := iv_get hv1580_ (k := 146) (j := 23) (l := 0) (u := 200) rfl
      have h1585_ : a1580_ 146 23 = a1572_ 146 23 := hf1580_ 146 23 rfl
      have h1586_ := iv_get hv1580_ (k := 146) (j := 22) (l := 0) (u := 200) rfl
      have h1587_ : a1580_ 146 22 = a1572_ 146 22 := hf1580_ 146 22 rfl
      exact jt_rI ⟨hv1580_, hf1583_, rfl, (show (0 ≤ r1580_ ∧ r1580_ ≤ 1) from by omega), (show a0 146 23 ≤ a1580_ 146 23 from by omega), (show a1580_ 146 23 ≤ a1580_ 146 22 from by omega), (show (r1580_ = 1 → (x1 < 12 ∧ (a0 146 23) + 2 ≤ a1580_ 146 23)) from by omega), (show ((a0 146 22 = 0 ∧ a0 146 24 = 0) → (r1580_ = 0 ∧ a1580_ 146 24 = 1)) from by omega)⟩
    ·
      have h1589_ : jxw ((a1572_ 146 23) + (a1572_ 146 25)) = (a1572_ 146 23) + (a1572_ 146 25) := jxw_id (by omega) (by omega)
      have hv1588_ : iv (jxu a1572_ 146 23 (jxw ((a1572_ 146 23) + (a1572_ 146 25)))) := iv_put hv1572_ (l := 0) (u := 200) rfl (by omega) (by omega)
      have hf1590_ : jfr jW_X12_clause a0 a1572_ := jfr_tr (jfr_rf _ _) hf1572_ rfl
      have hf1591_ : jfr jW_X12_clause a0 (jxu a1572_ 146 23 (jxw ((a1572_ 146 23) + (a1572_ 146 25)))) := jfr_put hf1590_ rfl
      exact cp_X12_clause_48 E d hd x1 a0 b0 hv0 hp0 hp1 hp2 x1 (jxu a1572_ 146 23 (jxw ((a1572_ 146 23) + (a1572_ 146 25)))) hv1588_ hf1591_ (show 0 ≤ x1 from by omega) (show x1 ≤ 11 from by omega) (show jxw ((a1572_ 146 23) + (a1572_ 146 25)) ≤ a1572_ 146 22 from by omega) (show (a0 146 23) + 2 ≤ jxw ((a1572_ 146 23) + (a1572_ 146 25)) from by omega) (show x1 = x1 from by omega) (show x1 < 12 from by omega) (show 0 ≤ x1 from by omega) (show 1 ≤ a0 146 22 from by omega)
  ·
    refine jt_bI (sp_X12_fails E d (jd_le hd rfl) 0 (a1572_ 146 23) a1572_ b0 hv1572_) (fun r1592_ a1592_ b1592_ h1592_ => ?_)
    obtain ⟨hv1592_, hf1592_, rfl, hq1592_0, hq1592_1, hq1592_2, hq1592_3⟩ := h1592_
    have h1593_ : a1572_ 146 24 = a0 146 24 := hf1572_ 146 24 rfl
    refine jt_grd (by omega) ?_
    have hf1594_ : jfr jW_X12_clause a0 a1572_ := jfr_tr (jfr_rf _ _) hf1572_ rfl
    have hf1595_ : jfr jW_X12_clause a0 a1592_ := jfr_tr hf1594_ hf1592_ rfl
    have h1596_ := iv_get hv1592_ (k := 146) (j := 23) (l := 0) (u := 200) rfl
    have h1597_ : a1592_ 146 23 = a1572_ 146 23 := hf1592_ 146 23 rfl
    have h1598_ := iv_get hv1592_ (k := 146) (j := 22) (l := 0) (u := 200) rfl
    have h1599_ : a1592_ 146 22 = a1572_ 146 22 := hf1592_ 146 22 rfl
    exact jt_rI ⟨hv1592_, hf1595_, rfl, (show (0 ≤ r1592_ ∧ r1592_ ≤ 1) from by omega), (show a0 146 23 ≤ a1592_ 146 23 from by omega), (show a1592_ 146 23 ≤ a1592_ 146 22 from by omega), (show (r1592_ = 1 → (x1 < 12 ∧ (a0 146 23) + 2 ≤ a1592_ 146 23)) from by omega), (show ((a0 146 22 = 0 ∧ a0 146 24 = 0) → (r1592_ = 0 ∧ a1592_ 146 24 = 1)) from by omega)⟩
def jW_X12_rules : List (Nat × Nat) := [(146, 22), (146, 23), (146, 24), (146, 25), (146, 26), (146, 27), (171, 9999), (172, 9999)]
abbrev jQ_X12_rules (a0 b0 : Nat → Nat → Int) : List jxV → (Nat → Nat → Int) → (Nat → Nat → Int) → Prop := rI (fun r a b => (iv a) ∧ (jfr jW_X12_rules a0 a) ∧ (b0 = b) ∧ ((a0 146 22 = 0 → r = 0)))
theorem cp_X12_rules_301 (E : jxE) (d : Nat) (hd : Nat.ble 3 (d + 1) = true) (a0 b0 : Nat → Nat → Int) (hv0 : iv a0) : ∀ n : Nat, (∀ (y2 y5 : Int) (a : Nat → Nat → Int), (((5 - y5) * 1) + 0).toNat ≤ n → iv a → jfr jW_X12_rules a0 a → 0 ≤ y5 → y5 ≤ 5 → a 146 22 ≤ 0 → (a0 146 22 = 0 → y2 = 0) → jt (jxX E d 232 301 [some (.inr (.inr (.inl 146))), none, some (.inl y2), none, none, some (.inl y5)] [] (jxSH, a, b0)) (jQ_X12_rules a0 b0)) := by
  refine jx_ind fun n ih => ?_
  have ih301 : ∀ (y2 y5 : Int) (a : Nat → Nat → Int), (((5 - y5) * 1) + 0).toNat < n → iv a → jfr jW_X12_rules a0 a → 0 ≤ y5 → y5 ≤ 5 → a 146 22 ≤ 0 → (a0 146 22 = 0 → y2 = 0) → jt (jxX E d 232 301 [some (.inr (.inr (.inl 146))), none, some (.inl y2), none, none, some (.inl y5)] [] (jxSH, a, b0)) (jQ_X12_rules a0 b0) := fun y2 y5 a hlt i0 i1 i2 i3 i4 i5 => (ih _ hlt) y2 y5 a (Nat.le_refl _) i0 i1 i2 i3 i4 i5
  have hc301 : ∀ (y2 y5 : Int) (a : Nat → Nat → Int), (((5 - y5) * 1) + 0).toNat ≤ n → iv a → jfr jW_X12_rules a0 a → 0 ≤ y5 → y5 ≤ 5 → a 146 22 ≤ 0 → (a0 146 22 = 0 → y2 = 0) → jt (jxX E d 232 301 [some (.inr (.inr (.inl 146))), none, some (.inl y2), none, none, some (.inl y5)] [] (jxSH, a, b0)) (jQ_X12_rules a0 b0) := by
    intro y2 y5 a hm hv hf hi0 hi1 hi2 hi3
    refine jt_eq (bq_X12_rules_301 E d y2 y5 a b0) ?_
    have h1600_ := iv_get hv (k := 146) (j := 22) (l := 0) (u := 200) rfl
    have h1601_ := iv_get hv0 (k := 146) (j := 22) (l := 0) (u := 200) rfl
    refine jt_ite (fun c1602_ => ?_) (fun c1602_ => ?_)
    ·
      refine jt_grd (by omega) ?_
      refine jt_grd (by omega) ?_
      have hv1603_ : iv (jxu a 171 (y5.toNat) (a 172 (y5.toNat))) := iv_putf hv rfl
      have hf1604_ : jfr jW_X12_rules a0 (jxu a 171 (y5.toNat) (a 172 (y5.toNat))) := jfr_put hf rfl
      have h1605_ : jxw (y5 + 1) = y5 + 1 := jxw_id (by omega) (by omega)
      exact ih301 y2 (jxw (y5 + 1)) (jxu a 171 (y5.toNat) (a 172 (y5.toNat))) (show (((5 - (jxw (y5 + 1))) * 1) + 0).toNat < n from by omega) hv1603_ hf1604_ (show 0 ≤ jxw (y5 + 1) from by omega) (show jxw (y5 + 1) ≤ 5 from by omega) (show a 146 22 ≤ 0 from by omega) (show (a0 146 22 = 0 → y2 = 0) from by omega)
    ·
      exact jt_rI ⟨hv, hf, rfl, (show (a0 146 22 = 0 → y2 = 0) from by omega)⟩
  exact hc301
theorem cp_X12_rules_281 (E : jxE) (d : Nat) (hd : Nat.ble 3 (d + 1) = true) (a0 b0 : Nat → Nat → Int) (hv0 : iv a0) : ∀ (y2 y3 : Int) (a : Nat → Nat → Int), iv a → jfr jW_X12_rules a0 a → 0 ≤ y3 → y3 ≤ 1 → a 146 22 ≤ 100 → 0 ≤ y3 → y3 ≤ 1 → a 146 22 = a0 146 22 → (a0 146 22 = 0 → (y2 = 0 ∧ ¬ y3 = 0)) → jt (jxX E d 232 281 [some (.inr (.inr (.inl 146))), none, some (.inl y2), some (.inl y3), none, none] [] (jxSH, a, b0)) (jQ_X12_rules a0 b0) := by
  intro y2 y3 a hv hf hi0 hi1 hi2 hi3 hi4 hi5 hi6
  refine jt_eq (bq_X12_rules_281 E d y2 y3 a b0) ?_
  have h1606_ := iv_get hv (k := 146) (j := 22) (l := 0) (u := 200) rfl
  have h1607_ := iv_get hv0 (k := 146) (j := 22) (l := 0) (u := 200) rfl
  refine jt_ite (fun c1608_ => ?_) (fun c1608_ => ?_)
  ·
    have hv1609_ : iv (jxu a 146 22 0) := iv_put hv (l := 0) (u := 200) rfl (by omega) (by omega)
    have hf1610_ : jfr jW_X12_rules a0 (jxu a 146 22 0) := jfr_put hf rfl
    have h1611_ := jxw_im ((-2) - (a 146 24))
    have h1612_ := jxw_rg ((-2) - (a 146 24))
    exact jt_rI ⟨hv1609_, hf1610_, rfl, (show (a0 146 22 = 0 → jxw ((-2) - (a 146 24)) = 0) from by omega)⟩
  ·
    have hv1613_ : iv (jxu a 146 22 0) := iv_put hv (l := 0) (u := 200) rfl (by omega) (by omega)
    have hf1614_ : jfr jW_X12_rules a0 (jxu a 146 22 0) := jfr_put hf rfl
    exact (cp_X12_rules_301 E d hd a0 b0 hv0 _) y2 0 (jxu a 146 22 0) (Nat.le_refl _) hv1613_ hf1614_ (show 0 ≤ 0 from by omega) (show 0 ≤ 5 from by omega) (show 0 ≤ 0 from by omega) (show (a0 146 22 = 0 → y2 = 0) from by omega)
theorem cp_X12_rules_65 (E : jxE) (d : Nat) (hd : Nat.ble 3 (d + 1) = true) (a0 b0 : Nat → Nat → Int) (hv0 : iv a0) : ∀ n : Nat, (∀ (y1 y2 y3 y4 : Int) (a : Nat → Nat → Int), (((((a 146 22) - (a 146 23)) + (2 * y3)) + y4) + 1).toNat ≤ n → iv a → jfr jW_X12_rules a0 a → 0 ≤ y3 → y3 ≤ 1 → 0 ≤ y4 → y4 ≤ 1 → a 146 22 ≤ 100 → a 146 23 ≤ a 146 22 → 0 ≤ y2 → y2 ≤ a 146 23 → 0 ≤ y3 → 0 ≤ y4 → y3 ≤ 1 → y4 ≤ 1 → a 146 22 = a0 146 22 → 1 ≤ a0 146 22 → jt (jxX E d 232 278 [some (.inr (.inr (.inl 146))), some (.inl y1), some (.inl y2), some (.inl y3), some (.inl y4), none] [] (jxSH, a, b0)) (jQ_X12_rules a0 b0)) ∧ (∀ (y1 y2 y3 y4 : Int) (a : Nat → Nat → Int), (((((a 146 22) - (a 146 23)) + (2 * y3)) + y4) + 1).toNat ≤ n → iv a → jfr jW_X12_rules a0 a → 0 ≤ y3 → y3 ≤ 1 → 0 ≤ y4 → y4 ≤ 1 → a 146 22 ≤ 100 → a 146 23 ≤ a 146 22 → 0 ≤ y2 → y2 ≤ a 146 23 → 0 ≤ y3 → 0 ≤ y4 → y3 ≤ 1 → y4 ≤ 1 → a 146 22 = a0 146 22 → 1 ≤ a0 146 22 → jt (jxX E d 232 251 [some (.inr (.inr (.inl 146))), some (.inl y1), some (.inl y2), some (.inl y3), some (.inl y4), none] [] (jxSH, a, b0)) (jQ_X12_rules a0 b0)) ∧ (∀ (y1 y2 y3 y4 : Int) (a : Nat → Nat → Int), (((((a 146 22) - (a 146 23)) + (2 * y3)) + y4) + 1).toNat ≤ n → iv a → jfr jW_X12_rules a0 a → 0 ≤ y3 → y3 ≤ 1 → 0 ≤ y4 → y4 ≤ 1 → a 146 22 ≤ 100 → a 146 23 ≤ a 146 22 → 0 ≤ y2 → y2 ≤ a 146 23 → 0 ≤ y3 → 0 ≤ y4 → y3 ≤ 1 → y4 ≤ 1 → (y4 = 1 → a 146 23 < a 146 22) → a 146 22 = a0 146 22 → 1 ≤ a0 146 22 → jt (jxX E d 232 236 [some (.inr (.inr (.inl 146))), some (.inl y1), some (.inl y2), some (.inl y3), some (.inl y4), none] [] (jxSH, a, b0)) (jQ_X12_rules a0 b0)) ∧ (∀ (y1 y2 y3 s0 : Int) (a : Nat → Nat → Int), (((((a 146 22) - (a 146 23)) + (2 * y3)) + s0) + 1).toNat ≤ n → iv a → jfr jW_X12_rules a0 a → 0 ≤ y3 → y3 ≤ 1 → 0 ≤ s0 → s0 ≤ 1 → a 146 22 ≤ 100 → a 146 23 ≤ a 146 22 → 0 ≤ y2 → y2 ≤ a 146 23 → 0 ≤ y3 → 0 ≤ s0 → y3 ≤ 1 → s0 ≤ 1 → (s0 = 1 → (a 146 23 < a 146 22 ∧ ¬ a 164 ((a 146 23).toNat) = 32)) → a 146 22 = a0 146 22 → 1 ≤ a0 146 22 → jt (jxX E d 232 210 [some (.inr (.inr (.inl 146))), some (.inl y1), some (.inl y2), some (.inl y3), none, none] [.inl s0] (jxSH, a, b0)) (jQ_X12_rules a0 b0)) ∧ (∀ (y1 y2 y3 : Int) (a : Nat → Nat → Int), ((((a 146 22) - (a 146 23)) + (2 * y3)) + 2).toNat ≤ n → iv a → jfr jW_X12_rules a0 a → 1 ≤ y3 → y3 ≤ 1 → a 146 22 ≤ 100 → a 146 23 ≤ a 146 22 → 0 ≤ y2 → y2 ≤ a 146 23 → 0 ≤ y3 → y3 ≤ 1 → a 146 23 < a 146 22 → ¬ a 164 ((a 146 23).toNat) = 32 → a 146 22 = a0 146 22 → 1 ≤ a0 146 22 → jt (jxX E d 232 205 [some (.inr (.inr (.inl 146))), some (.inl y1), some (.inl y2), some (.inl y3), none, none] [] (jxSH, a, b0)) (jQ_X12_rules a0 b0)) ∧ (∀ (y1 y2 y3 : Int) (a : Nat → Nat → Int), ((((a 146 22) - (a 146 23)) + (2 * y3)) + 1).toNat ≤ n → iv a → jfr jW_X12_rules a0 a → 0 ≤ y3 → y3 ≤ 1 → a 146 22 ≤ 100 → a 146 23 ≤ a 146 22 → 0 ≤ y2 → y2 ≤ a 146 23 → 0 ≤ y3 → y3 ≤ 1 → a 146 22 = a0 146 22 → 1 ≤ a0 146 22 → jt (jxX E d 232 209 [some (.inr (.inr (.inl 146))), some (.inl y1), some (.inl y2), some (.inl y3), none, none] [] (jxSH, a, b0)) (jQ_X12_rules a0 b0)) ∧ (∀ (y1 y2 y5 s1 : Int) (a : Nat → Nat → Int), (((a 146 22) - (a 146 23)) + 4).toNat ≤ n → iv a → jfr jW_X12_rules a0 a → 0 - 11 ≤ y5 → y5 ≤ 5 → 0 ≤ s1 → s1 ≤ 1 → a 146 22 ≤ 100 → a 146 23 ≤ a 146 22 → 0 ≤ y2 → y2 + 2 ≤ a 146 23 → 0 ≤ y5 → y5 ≤ 4 → a 146 22 = a0 146 22 → 1 ≤ a0 146 22 → jt (jxX E d 232 170 [some (.inr (.inr (.inl 146))), some (.inl y1), some (.inl y2), none, none, some (.inl y5)] [.inl s1, .inr (.inr (.inl 146))] (jxSH, a, b0)) (jQ_X12_rules a0 b0)) ∧ (∀ (y1 y2 y5 : Int) (a : Nat → Nat → Int), (((a 146 22) - (a 146 23)) + 4).toNat ≤ n → iv a → jfr jW_X12_rules a0 a → 0 ≤ y5 → y5 ≤ 3 → a 146 22 ≤ 100 → a 146 23 ≤ a 146 22 → 0 ≤ y2 → y2 + 2 ≤ a 146 23 → 0 ≤ y5 → y5 ≤ 4 → a 146 22 = a0 146 22 → 1 ≤ a0 146 22 → jt (jxX E d 232 165 [some (.inr (.inr (.inl 146))), some (.inl y1), some (.inl y2), none, none, some (.inl y5)] [.inr (.inr (.inl 146))] (jxSH, a, b0)) (jQ_X12_rules a0 b0)) ∧ (∀ (y1 y2 y5 : Int) (a : Nat → Nat → Int), (((a 146 22) - (a 146 23)) + 4).toNat ≤ n → iv a → jfr jW_X12_rules a0 a → 0 - 11 ≤ y5 → y5 ≤ 5 → a 146 22 ≤ 100 → a 146 23 ≤ a 146 22 → 0 ≤ y2 → y2 + 2 ≤ a 146 23 → 0 ≤ y5 → y5 ≤ 4 → a 146 22 = a0 146 22 → 1 ≤ a0 146 22 → jt (jxX E d 232 153 [some (.inr (.inr (.inl 146))), some (.inl y1), some (.inl y2), none, none, some (.inl y5)] [] (jxSH, a, b0)) (jQ_X12_rules a0 b0)) ∧ (∀ (y1 y2 y3 y5 : Int) (a : Nat → Nat → Int), (((a 146 22) - (a 146 23)) + 2).toNat ≤ n → iv a → jfr jW_X12_rules a0 a → 0 ≤ y3 → y3 ≤ 1 → 0 - 11 ≤ y5 → y5 ≤ 5 → a 146 22 ≤ 100 → a 146 23 ≤ a 146 22 → 0 ≤ y2 → y2 ≤ a 146 23 → (a 146 23) + (a 146 25) ≤ a 146 22 → 0 ≤ y3 → y3 ≤ 1 → (y3 = 1 → ((0 ≤ y5 ∧ y5 ≤ 4) ∧ 2 ≤ a 146 25)) → a 146 22 = a0 146 22 → 1 ≤ a0 146 22 → jt (jxX E d 232 126 [some (.inr (.inr (.inl 146))), some (.inl y1), some (.inl y2), some (.inl y3), none, some (.inl y5)] [] (jxSH, a, b0)) (jQ_X12_rules a0 b0)) ∧ (∀ (y1 y2 y5 : Int) (a : Nat → Nat → Int), (((a 146 22) - (a 146 23)) + 2).toNat ≤ n → iv a → jfr jW_X12_rules a0 a → 0 - 11 ≤ y5 → y5 ≤ 5 → a 146 22 ≤ 100 → a 146 23 ≤ a 146 22 → 0 ≤ y2 → y2 ≤ a 146 23 → (a 146 23) + (a 146 25) ≤ a 146 22 → a 146 22 = a0 146 22 → 1 ≤ a0 146 22 → jt (jxX E d 232 93 [some (.inr (.inr (.inl 146))), some (.inl y1), some (.inl y2), none, none, some (.inl y5)] [] (jxSH, a, b0)) (jQ_X12_rules a0 b0)) ∧ (∀ (y1 y2 y3 y5 : Int) (a : Nat → Nat → Int), (((a 146 22) - (a 146 23)) + 2).toNat ≤ n → iv a → jfr jW_X12_rules a0 a → 1 ≤ y3 → y3 ≤ 1 → 0 ≤ y5 → y5 ≤ 4 → a 146 22 ≤ 100 → a 146 23 ≤ a 146 22 → 0 ≤ y2 → y2 ≤ a 146 23 → (a 146 23) + (a 146 25) ≤ a 146 22 → 0 ≤ y3 → y3 ≤ 1 → 0 ≤ y5 → y5 ≤ 4 → 2 ≤ a 146 25 → a 146 22 = a0 146 22 → 1 ≤ a0 146 22 → jt (jxX E d 232 106 [some (.inr (.inr (.inl 146))), some (.inl y1), some (.inl y2), some (.inl y3), none, some (.inl y5)] [] (jxSH, a, b0)) (jQ_X12_rules a0 b0)) ∧ (∀ (y1 y2 y3 y4 : Int) (a : Nat → Nat → Int), ((((a 146 22) - (a 146 23)) + y3) + y4).toNat ≤ n → iv a → jfr jW_X12_rules a0 a → 0 ≤ y3 → y3 ≤ 1 → 0 ≤ y4 → y4 ≤ 1 → a 146 22 ≤ 100 → a 146 23 ≤ a 146 22 → 0 ≤ y2 → y2 ≤ a 146 23 → 0 ≤ y3 → 0 ≤ y4 → y3 ≤ 1 → y4 ≤ 1 → a 146 22 = a0 146 22 → (a0 146 22 = 0 → ((y2 = 0 ∧ ¬ y3 = 0) ∧ y4 = 0)) → jt (jxX E d 232 65 [some (.inr (.inr (.inl 146))), some (.inl y1), some (.inl y2), some (.inl y3), some (.inl y4), none] [] (jxSH, a, b0)) (jQ_X12_rules a0 b0)) := by
  refine jx_ind fun n ih => ?_
  have ih278 : ∀ (y1 y2 y3 y4 : Int) (a : Nat → Nat → Int), (((((a 146 22) - (a 146 23)) + (2 * y3)) + y4) + 1).toNat < n → iv a → jfr jW_X12_rules a0 a → 0 ≤ y3 → y3 ≤ 1 → 0 ≤ y4 → y4 ≤ 1 → a 146 22 ≤ 100 → a 146 23 ≤ a 146 22 → 0 ≤ y2 → y2 ≤ a 146 23 → 0 ≤ y3 → 0 ≤ y4 → y3 ≤ 1 → y4 ≤ 1 → a 146 22 = a0 146 22 → 1 ≤ a0 146 22 → jt (jxX E d 232 278 [some (.inr (.inr (.inl 146))), some (.inl y1), some (.inl y2), some (.inl y3), some (.inl y4), none] [] (jxSH, a, b0)) (jQ_X12_rules a0 b0) := fun y1 y2 y3 y4 a hlt i0 i1 i2 i3 i4 i5 i6 i7 i8 i9 i10 i11 i12 i13 i14 i15 => (ih _ hlt).1 y1 y2 y3 y4 a (Nat.le_refl _) i0 i1 i2 i3 i4 i5 i6 i7 i8 i9 i10 i11 i12 i13 i14 i15
  have ih251 : ∀ (y1 y2 y3 y4 : Int) (a : Nat → Nat → Int), (((((a 146 22) - (a 146 23)) + (2 * y3)) + y4) + 1).toNat < n → iv a → jfr jW_X12_rules a0 a → 0 ≤ y3 → y3 ≤ 1 → 0 ≤ y4 → y4 ≤ 1 → a 146 22 ≤ 100 → a 146 23 ≤ a 146 22 → 0 ≤ y2 → y2 ≤ a 146 23 → 0 ≤ y3 → 0 ≤ y4 → y3 ≤ 1 → y4 ≤ 1 → a 146 22 = a0 146 22 → 1 ≤ a0 146 22 → jt (jxX E d 232 251 [some (.inr (.inr (.inl 146))), some (.inl y1), some (.inl y2), some (.inl y3), some (.inl y4), none] [] (jxSH, a, b0)) (jQ_X12_rules a0 b0) := fun y1 y2 y3 y4 a hlt i0 i1 i2 i3 i4 i5 i6 i7 i8 i9 i10 i11 i12 i13 i14 i15 => (ih _ hlt).2.1 y1 y2 y3 y4 a (Nat.le_refl _) i0 i1 i2 i3 i4 i5 i6 i7 i8 i9 i10 i11 i12 i13 i14 i15
  have ih236 : ∀ (y1 y2 y3 y4 : Int) (a : Nat → Nat → Int), (((((a 146 22) - (a 146 23)) + (2 * y3)) + y4) + 1).toNat < n → iv a → jfr jW_X12_rules a0 a → 0 ≤ y3 → y3 ≤ 1 → 0 ≤ y4 → y4 ≤ 1 → a 146 22 ≤ 100 → a 146 23 ≤ a 146 22 → 0 ≤ y2 → y2 ≤ a 146 23 → 0 ≤ y3 → 0 ≤ y4 → y3 ≤ 1 → y4 ≤ 1 → (y4 = 1 → a 146 23 < a 146 22) → a 146 22 = a0 146 22 → 1 ≤ a0 146 22 → jt (jxX E d 232 236 [some (.inr (.inr (.inl 146))), some (.inl y1), some (.inl y2), some (.inl y3), some (.inl y4), none] [] (jxSH, a, b0)) (jQ_X12_rules a0 b0) := fun y1 y2 y3 y4 a hlt i0 i1 i2 i3 i4 i5 i6 i7 i8 i9 i10 i11 i12 i13 i14 i15 i16 => (ih _ hlt).2.2.1 y1 y2 y3 y4 a (Nat.le_refl _) i0 i1 i2 i3 i4 i5 i6 i7 i8 i9 i10 i11 i12 i13 i14 i15 i16
  have ih210 : ∀ (y1 y2 y3 s0 : Int) (a : Nat → Nat → Int), (((((a 146 22) - (a 146 23)) + (2 * y3)) + s0) + 1).toNat < n → iv a → jfr jW_X12_rules a0 a → 0 ≤ y3 → y3 ≤ 1 → 0 ≤ s0 → s0 ≤ 1 → a 146 22 ≤ 100 → a 146 23 ≤ a 146 22 → 0 ≤ y2 → y2 ≤ a 146 23 → 0 ≤ y3 → 0 ≤ s0 → y3 ≤ 1 → s0 ≤ 1 → (s0 = 1 → (a 146 23 < a 146 22 ∧ ¬ a 164 ((a 146 23).toNat) = 32)) → a 146 22 = a0 146 22 → 1 ≤ a0 146 22 → jt (jxX E d 232 210 [some (.inr (.inr (.inl 146))), some (.inl y1), some (.inl y2), some (.inl y3), none, none] [.inl s0] (jxSH, a, b0)) (jQ_X12_rules a0 b0) := fun y1 y2 y3 s0 a hlt i0 i1 i2 i3 i4 i5 i6 i7 i8 i9 i10 i11 i12 i13 i14 i15 i16 => (ih _ hlt).2.2.2.1 y1 y2 y3 s0 a (Nat.le_refl _) i0 i1 i2 i3 i4 i5 i6 i7 i8 i9 i10 i11 i12 i13 i14 i15 i16
  have ih205 : ∀ (y1 y2 y3 : Int) (a : Nat → Nat → Int), ((((a 146 22) - (a 146 23)) + (2 * y3)) + 2).toNat < n → iv a → jfr jW_X12_rules a0 a → 1 ≤ y3 → y3 ≤ 1 → a 146 22 ≤ 100 → a 146 23 ≤ a 146 22 → 0 ≤ y2 → y2 ≤ a 146 23 → 0 ≤ y3 → y3 ≤ 1 → a 146 23 < a 146 22 → ¬ a 164 ((a 146 23).toNat) = 32 → a 146 22 = a0 146 22 → 1 ≤ a0 146 22 → jt (jxX E d 232 205 [some (.inr (.inr (.inl 146))), some (.inl y1), some (.inl y2), some (.inl y3), none, none] [] (jxSH, a, b0)) (jQ_X12_rules a0 b0) := fun y1 y2 y3 a hlt i0 i1 i2 i3 i4 i5 i6 i7 i8 i9 i10 i11 i12 i13 => (ih _ hlt).2.2.2.2.1 y1 y2 y3 a (Nat.le_refl _) i0 i1 i2 i3 i4 i5 i6 i7 i8 i9 i10 i11 i12 i13
  have ih209 : ∀ (y1 y2 y3 : Int) (a : Nat → Nat → Int), ((((a 146 22) - (a 146 23)) + (2 * y3)) + 1).toNat < n → iv a → jfr jW_X12_rules a0 a → 0 ≤ y3 → y3 ≤ 1 → a 146 22 ≤ 100 → a 146 23 ≤ a 146 22 → 0 ≤ y2 → y2 ≤ a 146 23 → 0 ≤ y3 → y3 ≤ 1 → a 146 22 = a0 146 22 → 1 ≤ a0 146 22 → jt (jxX E d 232 209 [some (.inr (.inr (.inl 146))), some (.inl y1), some (.inl y2), some (.inl y3), none, none] [] (jxSH, a, b0)) (jQ_X12_rules a0 b0) := fun y1 y2 y3 a hlt i0 i1 i2 i3 i4 i5 i6 i7 i8 i9 i10 i11 => (ih _ hlt).2.2.2.2.2.1 y1 y2 y3 a (Nat.le_refl _) i0 i1 i2 i3 i4 i5 i6 i7 i8 i9 i10 i11
  have ih170 : ∀ (y1 y2 y5 s1 : Int) (a : Nat → Nat → Int), (((a 146 22) - (a 146 23)) + 4).toNat < n → iv a → jfr jW_X12_rules a0 a → 0 - 11 ≤ y5 → y5 ≤ 5 → 0 ≤ s1 → s1 ≤ 1 → a 146 22 ≤ 100 → a 146 23 ≤ a 146 22 → 0 ≤ y2 → y2 + 2 ≤ a 146 23 → 0 ≤ y5 → y5 ≤ 4 → a 146 22 = a0 146 22 → 1 ≤ a0 146 22 → jt (jxX E d 232 170 [some (.inr (.inr (.inl 146))), some (.inl y1), some (.inl y2), none, none, some (.inl y5)] [.inl s1, .inr (.inr (.inl 146))] (jxSH, a, b0)) (jQ_X12_rules a0 b0) := fun y1 y2 y5 s1 a hlt i0 i1 i2 i3 i4 i5 i6 i7 i8 i9 i10 i11 i12 i13 => (ih _ hlt).2.2.2.2.2.2.1 y1 y2 y5 s1 a (Nat.le_refl _) i0 i1 i2 i3 i4 i5 i6 i7 i8 i9 i10 i11 i12 i13
  have ih165 : ∀ (y1 y2 y5 : Int) (a : Nat → Nat → Int), (((a 146 22) - (a 146 23)) + 4).toNat < n → iv a → jfr jW_X12_rules a0 a → 0 ≤ y5 → y5 ≤ 3 → a 146 22 ≤ 100 → a 146 23 ≤ a 146 22 → 0 ≤ y2 → y2 + 2 ≤ a 146 23 → 0 ≤ y5 → y5 ≤ 4 → a 146 22 = a0 146 22 → 1 ≤ a0 146 22 → jt (jxX E d 232 165 [some (.inr (.inr (.inl 146))), some (.inl y1), some (.inl y2), none, none, some (.inl y5)] [.inr (.inr (.inl 146))] (jxSH, a, b0)) (jQ_X12_rules a0 b0) := fun y1 y2 y5 a hlt i0 i1 i2 i3 i4 i5 i6 i7 i8 i9 i10 i11 => (ih _ hlt).2.2.2.2.2.2.2.1 y1 y2 y5 a (Nat.le_refl _) i0 i1 i2 i3 i4 i5 i6 i7 i8 i9 i10 i11
  have ih153 : ∀ (y1 y2 y5 : Int) (a : Nat → Nat → Int), (((a 146 22) - (a 146 23)) + 4).toNat < n → iv a → jfr jW_X12_rules a0 a → 0 - 11 ≤ y5 → y5 ≤ 5 → a 146 22 ≤ 100 → a 146 23 ≤ a 146 22 → 0 ≤ y2 → y2 + 2 ≤ a 146 23 → 0 ≤ y5 → y5 ≤ 4 → a 146 22 = a0 146 22 → 1 ≤ a0 146 22 → jt (jxX E d 232 153 [some (.inr (.inr (.inl 146))), some (.inl y1), some (.inl y2), none, none, some (.inl y5)] [] (jxSH, a, b0)) (jQ_X12_rules a0 b0) := fun y1 y2 y5 a hlt i0 i1 i2 i3 i4 i5 i6 i7 i8 i9 i10 i11 => (ih _ hlt).2.2.2.2.2.2.2.2.1 y1 y2 y5 a (Nat.le_refl _) i0 i1 i2 i3 i4 i5 i6 i7 i8 i9 i10 i11
  have ih126 : ∀ (y1 y2 y3 y5 : Int) (a : Nat → Nat → Int), (((a 146 22) - (a 146 23)) + 2).toNat < n → iv a → jfr jW_X12_rules a0 a → 0 ≤ y3 → y3 ≤ 1 → 0 - 11 ≤ y5 → y5 ≤ 5 → a 146 22 ≤ 100 → a 146 23 ≤ a 146 22 → 0 ≤ y2 → y2 ≤ a 146 23 → (a 146 23) + (a 146 25) ≤ a 146 22 → 0 ≤ y3 → y3 ≤ 1 → (y3 = 1 → ((0 ≤ y5 ∧ y5 ≤ 4) ∧ 2 ≤ a 146 25)) → a 146 22 = a0 146 22 → 1 ≤ a0 146 22 → jt (jxX E d 232 126 [some (.inr (.inr (.inl 146))), some (.inl y1), some (.inl y2), some (.inl y3), none, some (.inl y5)] [] (jxSH, a, b0)) (jQ_X12_rules a0 b0) := fun y1 y2 y3 y5 a hlt i0 i1 i2 i3 i4 i5 i6 i7 i8 i9 i10 i11 i12 i13 i14 i15 => (ih _ hlt).2.2.2.2.2.2.2.2.2.1 y1 y2 y3 y5 a (Nat.le_refl _) i0 i1 i2 i3 i4 i5 i6 i7 i8 i9 i10 i11 i12 i13 i14 i15
  have ih93 : ∀ (y1 y2 y5 : Int) (a : Nat → Nat → Int), (((a 146 22) - (a 146 23)) + 2).toNat < n → iv a → jfr jW_X12_rules a0 a → 0 - 11 ≤ y5 → y5 ≤ 5 → a 146 22 ≤ 100 → a 146 23 ≤ a 146 22 → 0 ≤ y2 → y2 ≤ a 146 23 → (a 146 23) + (a 146 25) ≤ a 146 22 → a 146 22 = a0 146 22 → 1 ≤ a0 146 22 → jt (jxX E d 232 93 [some (.inr (.inr (.inl 146))), some (.inl y1), some (.inl y2), none, none, some (.inl y5)] [] (jxSH, a, b0)) (jQ_X12_rules a0 b0) := fun y1 y2 y5 a hlt i0 i1 i2 i3 i4 i5 i6 i7 i8 i9 i10 => (ih _ hlt).2.2.2.2.2.2.2.2.2.2.1 y1 y2 y5 a (Nat.le_refl _) i0 i1 i2 i3 i4 i5 i6 i7 i8 i9 i10
  have ih106 : ∀ (y1 y2 y3 y5 : Int) (a : Nat → Nat → Int), (((a 146 22) - (a 146 23)) + 2).toNat < n → iv a → jfr jW_X12_rules a0 a → 1 ≤ y3 → y3 ≤ 1 → 0 ≤ y5 → y5 ≤ 4 → a 146 22 ≤ 100 → a 146 23 ≤ a 146 22 → 0 ≤ y2 → y2 ≤ a 146 23 → (a 146 23) + (a 146 25) ≤ a 146 22 → 0 ≤ y3 → y3 ≤ 1 → 0 ≤ y5 → y5 ≤ 4 → 2 ≤ a 146 25 → a 146 22 = a0 146 22 → 1 ≤ a0 146 22 → jt (jxX E d 232 106 [some (.inr (.inr (.inl 146))), some (.inl y1), some (.inl y2), some (.inl y3), none, some (.inl y5)] [] (jxSH, a, b0)) (jQ_X12_rules a0 b0) := fun y1 y2 y3 y5 a hlt i0 i1 i2 i3 i4 i5 i6 i7 i8 i9 i10 i11 i12 i13 i14 i15 i16 i17 => (ih _ hlt).2.2.2.2.2.2.2.2.2.2.2.1 y1 y2 y3 y5 a (Nat.le_refl _) i0 i1 i2 i3 i4 i5 i6 i7 i8 i9 i10 i11 i12 i13 i14 i15 i16 i17
  have ih65 : ∀ (y1 y2 y3 y4 : Int) (a : Nat → Nat → Int), ((((a 146 22) - (a 146 23)) + y3) + y4).toNat < n → iv a → jfr jW_X12_rules a0 a → 0 ≤ y3 → y3 ≤ 1 → 0 ≤ y4 → y4 ≤ 1 → a 146 22 ≤ 100 → a 146 23 ≤ a 146 22 → 0 ≤ y2 → y2 ≤ a 146 23 → 0 ≤ y3 → 0 ≤ y4 → y3 ≤ 1 → y4 ≤ 1 → a 146 22 = a0 146 22 → (a0 146 22 = 0 → ((y2 = 0 ∧ ¬ y3 = 0) ∧ y4 = 0)) → jt (jxX E d 232 65 [some (.inr (.inr (.inl 146))), some (.inl y1), some (.inl y2), some (.inl y3), some (.inl y4), none] [] (jxSH, a, b0)) (jQ_X12_rules a0 b0) := fun y1 y2 y3 y4 a hlt i0 i1 i2 i3 i4 i5 i6 i7 i8 i9 i10 i11 i12 i13 i14 i15 => (ih _ hlt).2.2.2.2.2.2.2.2.2.2.2.2 y1 y2 y3 y4 a (Nat.le_refl _) i0 i1 i2 i3 i4 i5 i6 i7 i8 i9 i10 i11 i12 i13 i14 i15
  have hc278 : ∀ (y1 y2 y3 y4 : Int) (a : Nat → Nat → Int), (((((a 146 22) - (a 146 23)) + (2 * y3)) + y4) + 1).toNat ≤ n → iv a → jfr jW_X12_rules a0 a → 0 ≤ y3 → y3 ≤ 1 → 0 ≤ y4 → y4 ≤ 1 → a 146 22 ≤ 100 → a 146 23 ≤ a 146 22 → 0 ≤ y2 → y2 ≤ a 146 23 → 0 ≤ y3 → 0 ≤ y4 → y3 ≤ 1 → y4 ≤ 1 → a 146 22 = a0 146 22 → 1 ≤ a0 146 22 → jt (jxX E d 232 278 [some (.inr (.inr (.inl 146))), some (.inl y1), some (.inl y2), some (.inl y3), some (.inl y4), none] [] (jxSH, a, b0)) (jQ_X12_rules a0 b0) := by
    intro y1 y2 y3 y4 a hm hv hf hi0 hi1 hi2 hi3 hi4 hi5 hi6 hi7 hi8 hi9 hi10 hi11 hi12 hi13
    refine jt_eq (bq_X12_rules_278 E d y1 y2 y3 y4 a b0) ?_
    have h1615_ := iv_get hv (k := 146) (j := 22) (l := 0) (u := 200) rfl
    have h1616_ := iv_get hv (k := 146) (j := 23) (l := 0) (u := 200) rfl
    have h1617_ := iv_get hv0 (k := 146) (j := 22) (l := 0) (u := 200) rfl
    exact ih65 y1 y2 y3 y4 a (show ((((a 146 22) - (a 146 23)) + y3) + y4).toNat < n from by omega) hv hf (show 0 ≤ y3 from by omega) (show y3 ≤ 1 from by omega) (show 0 ≤ y4 from by omega) (show y4 ≤ 1 from by omega) (show a 146 22 ≤ 100 from by omega) (show a 146 23 ≤ a 146 22 from by omega) (show 0 ≤ y2 from by omega) (show y2 ≤ a 146 23 from by omega) (show 0 ≤ y3 from by omega) (show 0 ≤ y4 from by omega) (show y3 ≤ 1 from by omega) (show y4 ≤ 1 from by omega) (show a 146 22 = a0 146 22 from by omega) (show (a0 146 22 = 0 → ((y2 = 0 ∧ ¬ y3 = 0) ∧ y4 = 0)) from by omega)
  have hc251 : ∀ (y1 y2 y3 y4 : Int) (a : Nat → Nat → Int), (((((a 146 22) - (a 146 23)) + (2 * y3)) + y4) + 1).toNat ≤ n → iv a → jfr jW_X12_rules a0 a → 0 ≤ y3 → y3 ≤ 1 → 0 ≤ y4 → y4 ≤ 1 → a 146 22 ≤ 100 → a 146 23 ≤ a 146 22 → 0 ≤ y2 → y2 ≤ a 146 23 → 0 ≤ y3 → 0 ≤ y4 → y3 ≤ 1 → y4 ≤ 1 → a 146 22 = a0 146 22 → 1 ≤ a0 146 22 → jt (jxX E d 232 251 [some (.inr (.inr (.inl 146))), some (.inl y1), some (.inl y2), some (.inl y3), some (.inl y4), none] [] (jxSH, a, b0)) (jQ_X12_rules a0 b0) := by
    intro y1 y2 y3 y4 a hm hv hf hi0 hi1 hi2 hi3 hi4 hi5 hi6 hi7 hi8 hi9 hi10 hi11 hi12 hi13
    refine jt_eq (bq_X12_rules_251 E d y1 y2 y3 y4 a b0) ?_
    have h1618_ := iv_get hv (k := 146) (j := 22) (l := 0) (u := 200) rfl
    have h1619_ := iv_get hv (k := 146) (j := 23) (l := 0) (u := 200) rfl
    have h1620_ := iv_get hv0 (k := 146) (j := 22) (l := 0) (u := 200) rfl
    refine jt_ite (fun c1621_ => ?_) (fun c1621_ => ?_)
    ·
      exact hc278 y1 y2 y3 y4 a (show (((((a 146 22) - (a 146 23)) + (2 * y3)) + y4) + 1).toNat ≤ n from by omega) hv hf (show 0 ≤ y3 from by omega) (show y3 ≤ 1 from by omega) (show 0 ≤ y4 from by omega) (show y4 ≤ 1 from by omega) (show a 146 22 ≤ 100 from by omega) (show a 146 23 ≤ a 146 22 from by omega) (show 0 ≤ y2 from by omega) (show y2 ≤ a 146 23 from by omega) (show 0 ≤ y3 from by omega) (show 0 ≤ y4 from by omega) (show y3 ≤ 1 from by omega) (show y4 ≤ 1 from by omega) (show a 146 22 = a0 146 22 from by omega) (show 1 ≤ a0 146 22 from by omega)
    ·
      refine jt_ite (fun c1622_ => ?_) (fun c1622_ => ?_)
      ·
        exact hc278 y1 y2 y3 y4 a (show (((((a 146 22) - (a 146 23)) + (2 * y3)) + y4) + 1).toNat ≤ n from by omega) hv hf (show 0 ≤ y3 from by omega) (show y3 ≤ 1 from by omega) (show 0 ≤ y4 from by omega) (show y4 ≤ 1 from by omega) (show a 146 22 ≤ 100 from by omega) (show a 146 23 ≤ a 146 22 from by omega) (show 0 ≤ y2 from by omega) (show y2 ≤ a 146 23 from by omega) (show 0 ≤ y3 from by omega) (show 0 ≤ y4 from by omega) (show y3 ≤ 1 from by omega) (show y4 ≤ 1 from by omega) (show a 146 22 = a0 146 22 from by omega) (show 1 ≤ a0 146 22 from by omega)
      ·
        refine jt_bI (sp_X12_see E d (jd_le hd rfl) a b0 hv (show a 146 23 ≤ a 146 22 from by omega)) (fun r1623_ a1623_ b1623_ h1623_ => ?_)
        obtain ⟨hv1623_, hf1623_, rfl, hq1623_0, hq1623_1, hq1623_2, hq1623_3⟩ := h1623_
        have h1624_ := iv_get hv1623_ (k := 146) (j := 23) (l := 0) (u := 200) rfl
        have h1625_ := iv_get hv1623_ (k := 164) (j := (a1623_ 146 23).toNat) (l := (-128)) (u := 127) rfl
        have h1626_ : a1623_ 164 ((a1623_ 146 23).toNat) = a 164 ((a1623_ 146 23).toNat) := hf1623_ 164 ((a1623_ 146 23).toNat) rfl
        have h1627_ := iv_get hv (k := 164) (j := (a1623_ 146 23).toNat) (l := (-128)) (u := 127) rfl
        have h1628_ : a 164 ((a1623_ 146 23).toNat) = a0 164 ((a1623_ 146 23).toNat) := hf 164 ((a1623_ 146 23).toNat) rfl
        have h1629_ := iv_get hv0 (k := 164) (j := (a1623_ 146 23).toNat) (l := (-128)) (u := 127) rfl
        have h1630_ := iv_get hv (k := 164) (j := (a 146 23).toNat) (l := (-128)) (u := 127) rfl
        have h1631_ : a 164 ((a 146 23).toNat) = a0 164 ((a 146 23).toNat) := hf 164 ((a 146 23).toNat) rfl
        have h1632_ := iv_get hv0 (k := 164) (j := (a 146 23).toNat) (l := (-128)) (u := 127) rfl
        refine jt_ite (fun c1633_ => ?_) (fun c1633_ => ?_)
        ·
          refine jt_bI (sp_X12_fails E d (jd_le hd rfl) 0 (a1623_ 146 23) a1623_ b0 hv1623_) (fun r1634_ a1634_ b1634_ h1634_ => ?_)
          obtain ⟨hv1634_, hf1634_, rfl, hq1634_0, hq1634_1, hq1634_2, hq1634_3⟩ := h1634_
          have h1635_ : a1623_ 146 24 = a 146 24 := hf1623_ 146 24 rfl
          have hf1636_ : jfr jW_X12_rules a0 a1623_ := jfr_tr hf hf1623_ rfl
          have hf1637_ : jfr jW_X12_rules a0 a1634_ := jfr_tr hf1636_ hf1634_ rfl
          have h1638_ := iv_get hv1634_ (k := 146) (j := 22) (l := 0) (u := 200) rfl
          have h1639_ : a1634_ 146 22 = a1623_ 146 22 := hf1634_ 146 22 rfl
          have h1640_ := iv_get hv1623_ (k := 146) (j := 22) (l := 0) (u := 200) rfl
          have h1641_ : a1623_ 146 22 = a 146 22 := hf1623_ 146 22 rfl
          have h1642_ := iv_get hv1634_ (k := 146) (j := 23) (l := 0) (u := 200) rfl
          have h1643_ : a1634_ 146 23 = a1623_ 146 23 := hf1634_ 146 23 rfl
          exact hc278 y1 y2 r1634_ y4 a1634_ (show (((((a1634_ 146 22) - (a1634_ 146 23)) + (2 * r1634_)) + y4) + 1).toNat ≤ n from by omega) hv1634_ hf1637_ (show 0 ≤ r1634_ from by omega) (show r1634_ ≤ 1 from by omega) (show 0 ≤ y4 from by omega) (show y4 ≤ 1 from by omega) (show a1634_ 146 22 ≤ 100 from by omega) (show a1634_ 146 23 ≤ a1634_ 146 22 from by omega) (show 0 ≤ y2 from by omega) (show y2 ≤ a1634_ 146 23 from by omega) (show 0 ≤ r1634_ from by omega) (show 0 ≤ y4 from by omega) (show r1634_ ≤ 1 from by omega) (show y4 ≤ 1 from by omega) (show a1634_ 146 22 = a0 146 22 from by omega) (show 1 ≤ a0 146 22 from by omega)
        ·
          have hf1644_ : jfr jW_X12_rules a0 a1623_ := jfr_tr hf hf1623_ rfl
          have h1645_ := iv_get hv1623_ (k := 146) (j := 22) (l := 0) (u := 200) rfl
          have h1646_ : a1623_ 146 22 = a 146 22 := hf1623_ 146 22 rfl
          exact hc278 y1 y2 y3 y4 a1623_ (show (((((a1623_ 146 22) - (a1623_ 146 23)) + (2 * y3)) + y4) + 1).toNat ≤ n from by omega) hv1623_ hf1644_ (show 0 ≤ y3 from by omega) (show y3 ≤ 1 from by omega) (show 0 ≤ y4 from by omega) (show y4 ≤ 1 from by omega) (show a1623_ 146 22 ≤ 100 from by omega) (show a1623_ 146 23 ≤ a1623_ 146 22 from by omega) (show 0 ≤ y2 from by omega) (show y2 ≤ a1623_ 146 23 from by omega) (show 0 ≤ y3 from by omega) (show 0 ≤ y4 from by omega) (show y3 ≤ 1 from by omega) (show y4 ≤ 1 from by omega) (show a1623_ 146 22 = a0 146 22 from by omega) (show 1 ≤ a0 146 22 from by omega)
  have hc236 : ∀ (y1 y2 y3 y4 : Int) (a : Nat → Nat → Int), (((((a 146 22) - (a 146 23)) + (2 * y3)) + y4) + 1).toNat ≤ n → iv a → jfr jW_X12_rules a0 a → 0 ≤ y3 → y3 ≤ 1 → 0 ≤ y4 → y4 ≤ 1 → a 146 22 ≤ 100 → a 146 23 ≤ a 146 22 → 0 ≤ y2 → y2 ≤ a 146 23 → 0 ≤ y3 → 0 ≤ y4 → y3 ≤ 1 → y4 ≤ 1 → (y4 = 1 → a 146 23 < a 146 22) → a 146 22 = a0 146 22 → 1 ≤ a0 146 22 → jt (jxX E d 232 236 [some (.inr (.inr (.inl 146))), some (.inl y1), some (.inl y2), some (.inl y3), some (.inl y4), none] [] (jxSH, a, b0)) (jQ_X12_rules a0 b0) := by
    intro y1 y2 y3 y4 a hm hv hf hi0 hi1 hi2 hi3 hi4 hi5 hi6 hi7 hi8 hi9 hi10 hi11 hi12 hi13 hi14
    refine jt_eq (bq_X12_rules_236 E d y1 y2 y3 y4 a b0) ?_
    have h1647_ := iv_get hv (k := 146) (j := 22) (l := 0) (u := 200) rfl
    have h1648_ := iv_get hv (k := 146) (j := 23) (l := 0) (u := 200) rfl
    have h1649_ := iv_get hv0 (k := 146) (j := 22) (l := 0) (u := 200) rfl
    refine jt_ite (fun c1650_ => ?_) (fun c1650_ => ?_)
    ·
      exact hc251 y1 y2 y3 y4 a (show (((((a 146 22) - (a 146 23)) + (2 * y3)) + y4) + 1).toNat ≤ n from by omega) hv hf (show 0 ≤ y3 from by omega) (show y3 ≤ 1 from by omega) (show 0 ≤ y4 from by omega) (show y4 ≤ 1 from by omega) (show a 146 22 ≤ 100 from by omega) (show a 146 23 ≤ a 146 22 from by omega) (show 0 ≤ y2 from by omega) (show y2 ≤ a 146 23 from by omega) (show 0 ≤ y3 from by omega) (show 0 ≤ y4 from by omega) (show y3 ≤ 1 from by omega) (show y4 ≤ 1 from by omega) (show a 146 22 = a0 146 22 from by omega) (show 1 ≤ a0 146 22 from by omega)
    ·
      have h1652_ : jxw ((a 146 23) + 1) = (a 146 23) + 1 := jxw_id (by omega) (by omega)
      have hv1651_ : iv (jxu a 146 23 (jxw ((a 146 23) + 1))) := iv_put hv (l := 0) (u := 200) rfl (by omega) (by omega)
      have hf1653_ : jfr jW_X12_rules a0 (jxu a 146 23 (jxw ((a 146 23) + 1))) := jfr_put hf rfl
      exact hc251 y1 y2 y3 y4 (jxu a 146 23 (jxw ((a 146 23) + 1))) (show (((((a 146 22) - (jxw ((a 146 23) + 1))) + (2 * y3)) + y4) + 1).toNat ≤ n from by omega) hv1651_ hf1653_ (show 0 ≤ y3 from by omega) (show y3 ≤ 1 from by omega) (show 0 ≤ y4 from by omega) (show y4 ≤ 1 from by omega) (show a 146 22 ≤ 100 from by omega) (show jxw ((a 146 23) + 1) ≤ a 146 22 from by omega) (show 0 ≤ y2 from by omega) (show y2 ≤ jxw ((a 146 23) + 1) from by omega) (show 0 ≤ y3 from by omega) (show 0 ≤ y4 from by omega) (show y3 ≤ 1 from by omega) (show y4 ≤ 1 from by omega) (show a 146 22 = a0 146 22 from by omega) (show 1 ≤ a0 146 22 from by omega)
  have hc210 : ∀ (y1 y2 y3 s0 : Int) (a : Nat → Nat → Int), (((((a 146 22) - (a 146 23)) + (2 * y3)) + s0) + 1).toNat ≤ n → iv a → jfr jW_X12_rules a0 a → 0 ≤ y3 → y3 ≤ 1 → 0 ≤ s0 → s0 ≤ 1 → a 146 22 ≤ 100 → a 146 23 ≤ a 146 22 → 0 ≤ y2 → y2 ≤ a 146 23 → 0 ≤ y3 → 0 ≤ s0 → y3 ≤ 1 → s0 ≤ 1 → (s0 = 1 → (a 146 23 < a 146 22 ∧ ¬ a 164 ((a 146 23).toNat) = 32)) → a 146 22 = a0 146 22 → 1 ≤ a0 146 22 → jt (jxX E d 232 210 [some (.inr (.inr (.inl 146))), some (.inl y1), some (.inl y2), some (.inl y3), none, none] [.inl s0] (jxSH, a, b0)) (jQ_X12_rules a0 b0) := by
    intro y1 y2 y3 s0 a hm hv hf hi0 hi1 hi2 hi3 hi4 hi5 hi6 hi7 hi8 hi9 hi10 hi11 hi12 hi13 hi14
    refine jt_eq (bq_X12_rules_210 E d y1 y2 y3 s0 a b0) ?_
    have h1654_ := iv_get hv (k := 146) (j := 22) (l := 0) (u := 200) rfl
    have h1655_ := iv_get hv (k := 146) (j := 23) (l := 0) (u := 200) rfl
    have h1656_ := iv_get hv (k := 164) (j := (a 146 23).toNat) (l := (-128)) (u := 127) rfl
    have h1657_ : a 164 ((a 146 23).toNat) = a0 164 ((a 146 23).toNat) := hf 164 ((a 146 23).toNat) rfl
    have h1658_ := iv_get hv0 (k := 164) (j := (a 146 23).toNat) (l := (-128)) (u := 127) rfl
    have h1659_ := iv_get hv0 (k := 146) (j := 22) (l := 0) (u := 200) rfl
    refine jt_ite (fun c1660_ => ?_) (fun c1660_ => ?_)
    ·
      exact hc236 y1 y2 y3 s0 a (show (((((a 146 22) - (a 146 23)) + (2 * y3)) + s0) + 1).toNat ≤ n from by omega) hv hf (show 0 ≤ y3 from by omega) (show y3 ≤ 1 from by omega) (show 0 ≤ s0 from by omega) (show s0 ≤ 1 from by omega) (show a 146 22 ≤ 100 from by omega) (show a 146 23 ≤ a 146 22 from by omega) (show 0 ≤ y2 from by omega) (show y2 ≤ a 146 23 from by omega) (show 0 ≤ y3 from by omega) (show 0 ≤ s0 from by omega) (show y3 ≤ 1 from by omega) (show s0 ≤ 1 from by omega) (show (s0 = 1 → a 146 23 < a 146 22) from by omega) (show a 146 22 = a0 146 22 from by omega) (show 1 ≤ a0 146 22 from by omega)
    ·
      refine jt_bI (sp_X12_see E d (jd_le hd rfl) a b0 hv (show a 146 23 ≤ a 146 22 from by omega)) (fun r1661_ a1661_ b1661_ h1661_ => ?_)
      obtain ⟨hv1661_, hf1661_, rfl, hq1661_0, hq1661_1, hq1661_2, hq1661_3⟩ := h1661_
      have h1662_ := iv_get hv1661_ (k := 146) (j := 23) (l := 0) (u := 200) rfl
      have h1663_ := iv_get hv1661_ (k := 164) (j := (a1661_ 146 23).toNat) (l := (-128)) (u := 127) rfl
      have h1664_ : a1661_ 164 ((a1661_ 146 23).toNat) = a 164 ((a1661_ 146 23).toNat) := hf1661_ 164 ((a1661_ 146 23).toNat) rfl
      have h1665_ := iv_get hv (k := 164) (j := (a1661_ 146 23).toNat) (l := (-128)) (u := 127) rfl
      have h1666_ : a 164 ((a1661_ 146 23).toNat) = a0 164 ((a1661_ 146 23).toNat) := hf 164 ((a1661_ 146 23).toNat) rfl
      have h1667_ := iv_get hv0 (k := 164) (j := (a1661_ 146 23).toNat) (l := (-128)) (u := 127) rfl
      refine jt_ite (fun c1668_ => ?_) (fun c1668_ => ?_)
      ·
        have hf1669_ : jfr jW_X12_rules a0 a1661_ := jfr_tr hf hf1661_ rfl
        have h1670_ := iv_get hv1661_ (k := 146) (j := 22) (l := 0) (u := 200) rfl
        have h1671_ : a1661_ 146 22 = a 146 22 := hf1661_ 146 22 rfl
        exact hc236 y1 y2 y3 s0 a1661_ (show (((((a1661_ 146 22) - (a1661_ 146 23)) + (2 * y3)) + s0) + 1).toNat ≤ n from by omega) hv1661_ hf1669_ (show 0 ≤ y3 from by omega) (show y3 ≤ 1 from by omega) (show 0 ≤ s0 from by omega) (show s0 ≤ 1 from by omega) (show a1661_ 146 22 ≤ 100 from by omega) (show a1661_ 146 23 ≤ a1661_ 146 22 from by omega) (show 0 ≤ y2 from by omega) (show y2 ≤ a1661_ 146 23 from by omega) (show 0 ≤ y3 from by omega) (show 0 ≤ s0 from by omega) (show y3 ≤ 1 from by omega) (show s0 ≤ 1 from by omega) (show (s0 = 1 → a1661_ 146 23 < a1661_ 146 22) from by omega) (show a1661_ 146 22 = a0 146 22 from by omega) (show 1 ≤ a0 146 22 from by omega)
      ·
        refine jt_bI (sp_X12_fails E d (jd_le hd rfl) 0 (a1661_ 146 23) a1661_ b0 hv1661_) (fun r1672_ a1672_ b1672_ h1672_ => ?_)
        obtain ⟨hv1672_, hf1672_, rfl, hq1672_0, hq1672_1, hq1672_2, hq1672_3⟩ := h1672_
        have h1673_ : a1661_ 146 24 = a 146 24 := hf1661_ 146 24 rfl
        have hf1674_ : jfr jW_X12_rules a0 a1661_ := jfr_tr hf hf1661_ rfl
        have hf1675_ : jfr jW_X12_rules a0 a1672_ := jfr_tr hf1674_ hf1672_ rfl
        have h1676_ := iv_get hv1672_ (k := 146) (j := 22) (l := 0) (u := 200) rfl
        have h1677_ : a1672_ 146 22 = a1661_ 146 22 := hf1672_ 146 22 rfl
        have h1678_ := iv_get hv1661_ (k := 146) (j := 22) (l := 0) (u := 200) rfl
        have h1679_ : a1661_ 146 22 = a 146 22 := hf1661_ 146 22 rfl
        have h1680_ := iv_get hv1672_ (k := 146) (j := 23) (l := 0) (u := 200) rfl
        have h1681_ : a1672_ 146 23 = a1661_ 146 23 := hf1672_ 146 23 rfl
        exact hc236 y1 y2 r1672_ s0 a1672_ (show (((((a1672_ 146 22) - (a1672_ 146 23)) + (2 * r1672_)) + s0) + 1).toNat ≤ n from by omega) hv1672_ hf1675_ (show 0 ≤ r1672_ from by omega) (show r1672_ ≤ 1 from by omega) (show 0 ≤ s0 from by omega) (show s0 ≤ 1 from by omega) (show a1672_ 146 22 ≤ 100 from by omega) (show a1672_ 146 23 ≤ a1672_ 146 22 from by omega) (show 0 ≤ y2 from by omega) (show y2 ≤ a1672_ 146 23 from by omega) (show 0 ≤ r1672_ from by omega) (show 0 ≤ s0 from by omega) (show r1672_ ≤ 1 from by omega) (show s0 ≤ 1 from by omega) (show (s0 = 1 → a1672_ 146 23 < a1672_ 146 22) from by omega) (show a1672_ 146 22 = a0 146 22 from by omega) (show 1 ≤ a0 146 22 from by omega)
  have hc205 : ∀ (y1 y2 y3 : Int) (a : Nat → Nat → Int), ((((a 146 22) - (a 146 23)) + (2 * y3)) + 2).toNat ≤ n → iv a → jfr jW_X12_rules a0 a → 1 ≤ y3 → y3 ≤ 1 → a 146 22 ≤ 100 → a 146 23 ≤ a 146 22 → 0 ≤ y2 → y2 ≤ a 146 23 → 0 ≤ y3 → y3 ≤ 1 → a 146 23 < a 146 22 → ¬ a 164 ((a 146 23).toNat) = 32 → a 146 22 = a0 146 22 → 1 ≤ a0 146 22 → jt (jxX E d 232 205 [some (.inr (.inr (.inl 146))), some (.inl y1), some (.inl y2), some (.inl y3), none, none] [] (jxSH, a, b0)) (jQ_X12_rules a0 b0) := by
    intro y1 y2 y3 a hm hv hf hi0 hi1 hi2 hi3 hi4 hi5 hi6 hi7 hi8 hi9 hi10 hi11
    refine jt_eq (bq_X12_rules_205 E d y1 y2 y3 a b0) ?_
    have h1682_ := iv_get hv (k := 146) (j := 22) (l := 0) (u := 200) rfl
    have h1683_ := iv_get hv (k := 146) (j := 23) (l := 0) (u := 200) rfl
    have h1684_ := iv_get hv (k := 164) (j := (a 146 23).toNat) (l := (-128)) (u := 127) rfl
    have h1685_ : a 164 ((a 146 23).toNat) = a0 164 ((a 146 23).toNat) := hf 164 ((a 146 23).toNat) rfl
    have h1686_ := iv_get hv0 (k := 164) (j := (a 146 23).toNat) (l := (-128)) (u := 127) rfl
    have h1687_ := iv_get hv0 (k := 146) (j := 22) (l := 0) (u := 200) rfl
    exact hc210 y1 y2 y3 1 a (show (((((a 146 22) - (a 146 23)) + (2 * y3)) + 1) + 1).toNat ≤ n from by omega) hv hf (show 0 ≤ y3 from by omega) (show y3 ≤ 1 from by omega) (show 0 ≤ 1 from by omega) (show 1 ≤ 1 from by omega) (show a 146 22 ≤ 100 from by omega) (show a 146 23 ≤ a 146 22 from by omega) (show 0 ≤ y2 from by omega) (show y2 ≤ a 146 23 from by omega) (show 0 ≤ y3 from by omega) (show 0 ≤ 1 from by omega) (show y3 ≤ 1 from by omega) (show 1 ≤ 1 from by omega) (show (1 = 1 → (a 146 23 < a 146 22 ∧ ¬ a 164 ((a 146 23).toNat) = 32)) from by omega) (show a 146 22 = a0 146 22 from by omega) (show 1 ≤ a0 146 22 from by omega)
  have hc209 : ∀ (y1 y2 y3 : Int) (a : Nat → Nat → Int), ((((a 146 22) - (a 146 23)) + (2 * y3)) + 1).toNat ≤ n → iv a → jfr jW_X12_rules a0 a → 0 ≤ y3 → y3 ≤ 1 → a 146 22 ≤ 100 → a 146 23 ≤ a 146 22 → 0 ≤ y2 → y2 ≤ a 146 23 → 0 ≤ y3 → y3 ≤ 1 → a 146 22 = a0 146 22 → 1 ≤ a0 146 22 → jt (jxX E d 232 209 [some (.inr (.inr (.inl 146))), some (.inl y1), some (.inl y2), some (.inl y3), none, none] [] (jxSH, a, b0)) (jQ_X12_rules a0 b0) := by
    intro y1 y2 y3 a hm hv hf hi0 hi1 hi2 hi3 hi4 hi5 hi6 hi7 hi8 hi9
    refine jt_eq (bq_X12_rules_209 E d y1 y2 y3 a b0) ?_
    have h1688_ := iv_get hv (k := 146) (j := 22) (l := 0) (u := 200) rfl
    have h1689_ := iv_get hv (k := 146) (j := 23) (l := 0) (u := 200) rfl
    have h1690_ := iv_get hv0 (k := 146) (j := 22) (l := 0) (u := 200) rfl
    have h1691_ := iv_get hv (k := 164) (j := (a 146 23).toNat) (l := (-128)) (u := 127) rfl
    have h1692_ : a 164 ((a 146 23).toNat) = a0 164 ((a 146 23).toNat) := hf 164 ((a 146 23).toNat) rfl
    have h1693_ := iv_get hv0 (k := 164) (j := (a 146 23).toNat) (l := (-128)) (u := 127) rfl
    exact hc210 y1 y2 y3 0 a (show (((((a 146 22) - (a 146 23)) + (2 * y3)) + 0) + 1).toNat ≤ n from by omega) hv hf (show 0 ≤ y3 from by omega) (show y3 ≤ 1 from by omega) (show 0 ≤ 0 from by omega) (show 0 ≤ 1 from by omega) (show a 146 22 ≤ 100 from by omega) (show a 146 23 ≤ a 146 22 from by omega) (show 0 ≤ y2 from by omega) (show y2 ≤ a 146 23 from by omega) (show 0 ≤ y3 from by omega) (show 0 ≤ 0 from by omega) (show y3 ≤ 1 from by omega) (show 0 ≤ 1 from by omega) (show (0 = 1 → (a 146 23 < a 146 22 ∧ ¬ a 164 ((a 146 23).toNat) = 32)) from by omega) (show a 146 22 = a0 146 22 from by omega) (show 1 ≤ a0 146 22 from by omega)
  have hc170 : ∀ (y1 y2 y5 s1 : Int) (a : Nat → Nat → Int), (((a 146 22) - (a 146 23)) + 4).toNat ≤ n → iv a → jfr jW_X12_rules a0 a → 0 - 11 ≤ y5 → y5 ≤ 5 → 0 ≤ s1 → s1 ≤ 1 → a 146 22 ≤ 100 → a 146 23 ≤ a 146 22 → 0 ≤ y2 → y2 + 2 ≤ a 146 23 → 0 ≤ y5 → y5 ≤ 4 → a 146 22 = a0 146 22 → 1 ≤ a0 146 22 → jt (jxX E d 232 170 [some (.inr (.inr (.inl 146))), some (.inl y1), some (.inl y2), none, none, some (.inl y5)] [.inl s1, .inr (.inr (.inl 146))] (jxSH, a, b0)) (jQ_X12_rules a0 b0) := by
    intro y1 y2 y5 s1 a hm hv hf hi0 hi1 hi2 hi3 hi4 hi5 hi6 hi7 hi8 hi9 hi10 hi11
    refine jt_eq (bq_X12_rules_170 E d y1 y2 y5 s1 a b0) ?_
    have h1694_ := iv_get hv (k := 146) (j := 22) (l := 0) (u := 200) rfl
    have h1695_ := iv_get hv (k := 146) (j := 23) (l := 0) (u := 200) rfl
    have h1696_ := iv_get hv0 (k := 146) (j := 22) (l := 0) (u := 200) rfl
    refine jt_eI (eq_X12_mostOf E d (jd_le hd rfl) y5 a b0) ?_
    refine jt_bI (sp_X12_number E d (jd_le hd rfl) s1 (f_X12_mostOf a b0 y5) a b0 hv (show a 146 23 ≤ a 146 22 from by omega)) (fun r1697_ a1697_ b1697_ h1697_ => ?_)
    obtain ⟨hv1697_, hf1697_, rfl, hq1697_0, hq1697_1, hq1697_2, hq1697_3⟩ := h1697_
    have h1698_ := iv_get hv1697_ (k := 146) (j := 23) (l := 0) (u := 200) rfl
    have h1699_ := iv_get hv1697_ (k := 146) (j := 26) (l := 0) (u := 999) rfl
    have h1700_ := f_X12_mostOf_eq a b0 y5
    refine jt_grd (by omega) ?_
    refine jt_ite (fun c1701_ => ?_) (fun c1701_ => ?_)
    ·
      have hv1702_ : iv (jxu a1697_ 172 (y5.toNat) (a1697_ 146 26)) := iv_putf hv1697_ rfl
      have hf1703_ : jfr jW_X12_rules a0 a1697_ := jfr_tr hf hf1697_ rfl
      have hf1704_ : jfr jW_X12_rules a0 (jxu a1697_ 172 (y5.toNat) (a1697_ 146 26)) := jfr_put hf1703_ rfl
      have h1705_ := iv_get hv1697_ (k := 146) (j := 22) (l := 0) (u := 200) rfl
      have h1706_ : a1697_ 146 22 = a 146 22 := hf1697_ 146 22 rfl
      have h1707_ := jxw_im (y2 + 1)
      have h1708_ := jxw_rg (y2 + 1)
      exact hc209 y1 (jxw (y2 + 1)) r1697_ (jxu a1697_ 172 (y5.toNat) (a1697_ 146 26)) (show ((((a1697_ 146 22) - (a1697_ 146 23)) + (2 * r1697_)) + 1).toNat ≤ n from by omega) hv1702_ hf1704_ (show 0 ≤ r1697_ from by omega) (show r1697_ ≤ 1 from by omega) (show a1697_ 146 22 ≤ 100 from by omega) (show a1697_ 146 23 ≤ a1697_ 146 22 from by omega) (show 0 ≤ jxw (y2 + 1) from by omega) (show jxw (y2 + 1) ≤ a1697_ 146 23 from by omega) (show 0 ≤ r1697_ from by omega) (show r1697_ ≤ 1 from by omega) (show a1697_ 146 22 = a0 146 22 from by omega) (show 1 ≤ a0 146 22 from by omega)
    ·
      have hv1709_ : iv (jxu a1697_ 172 (y5.toNat) (a1697_ 146 26)) := iv_putf hv1697_ rfl
      have h1710_ := iv_get hv1697_ (k := 146) (j := 22) (l := 0) (u := 200) rfl
      have h1711_ : a1697_ 146 22 = a 146 22 := hf1697_ 146 22 rfl
      refine jt_bI (sp_X12_see E d (jd_le hd rfl) (jxu a1697_ 172 (y5.toNat) (a1697_ 146 26)) b0 hv1709_ (show a1697_ 146 23 ≤ a1697_ 146 22 from by omega)) (fun r1712_ a1712_ b1712_ h1712_ => ?_)
      obtain ⟨hv1712_, hf1712_, rfl, hq1712_0, hq1712_1, hq1712_2, hq1712_3⟩ := h1712_
      have h1713_ := iv_get hv1712_ (k := 146) (j := 23) (l := 0) (u := 200) rfl
      have h1714_ : a1697_ 146 23 ≤ a1712_ 146 23 := hq1712_0
      have h1715_ : a1712_ 146 23 ≤ a1697_ 146 22 := hq1712_1
      have h1716_ := iv_get hv1712_ (k := 164) (j := (a1712_ 146 23).toNat) (l := (-128)) (u := 127) rfl
      have h1717_ : a1712_ 164 ((a1712_ 146 23).toNat) = a1697_ 164 ((a1712_ 146 23).toNat) := hf1712_ 164 ((a1712_ 146 23).toNat) rfl
      have h1718_ := iv_get hv1697_ (k := 164) (j := (a1712_ 146 23).toNat) (l := (-128)) (u := 127) rfl
      have h1719_ : a1697_ 164 ((a1712_ 146 23).toNat) = a 164 ((a1712_ 146 23).toNat) := hf1697_ 164 ((a1712_ 146 23).toNat) rfl
      have h1720_ := iv_get hv (k := 164) (j := (a1712_ 146 23).toNat) (l := (-128)) (u := 127) rfl
      have h1721_ : a 164 ((a1712_ 146 23).toNat) = a0 164 ((a1712_ 146 23).toNat) := hf 164 ((a1712_ 146 23).toNat) rfl
      have h1722_ := iv_get hv0 (k := 164) (j := (a1712_ 146 23).toNat) (l := (-128)) (u := 127) rfl
      have h1723_ : ((r1712_ = 0 - 1 ∧ a1712_ 146 23 = a1697_ 146 22) ∨ (((0 ≤ r1712_ ∧ r1712_ ≤ 255) ∧ a1712_ 146 23 < a1697_ 146 22) ∧ ¬ a1712_ 164 ((a1712_ 146 23).toNat) = 32)) := hq1712_2
      have h1724_ := iv_get hv1697_ (k := 164) (j := (a1697_ 146 23).toNat) (l := (-128)) (u := 127) rfl
      have h1725_ : a1697_ 164 ((a1697_ 146 23).toNat) = a 164 ((a1697_ 146 23).toNat) := hf1697_ 164 ((a1697_ 146 23).toNat) rfl
      have h1726_ := iv_get hv (k := 164) (j := (a1697_ 146 23).toNat) (l := (-128)) (u := 127) rfl
      have h1727_ : a 164 ((a1697_ 146 23).toNat) = a0 164 ((a1697_ 146 23).toNat) := hf 164 ((a1697_ 146 23).toNat) rfl
      have h1728_ := iv_get hv0 (k := 164) (j := (a1697_ 146 23).toNat) (l := (-128)) (u := 127) rfl
      have h1729_ : ((a1697_ 146 23 < a1697_ 146 22 ∧ ¬ a1697_ 164 ((a1697_ 146 23).toNat) = 32) → a1712_ 146 23 = a1697_ 146 23) := hq1712_3
      refine jt_ite (fun c1730_ => ?_) (fun c1730_ => ?_)
      ·
        have hf1731_ : jfr jW_X12_rules a0 a1697_ := jfr_tr hf hf1697_ rfl
        have hf1732_ : jfr jW_X12_rules a0 (jxu a1697_ 172 (y5.toNat) (a1697_ 146 26)) := jfr_put hf1731_ rfl
        have hf1733_ : jfr jW_X12_rules a0 a1712_ := jfr_tr hf1732_ hf1712_ rfl
        have h1734_ := iv_get hv1712_ (k := 146) (j := 22) (l := 0) (u := 200) rfl
        have h1735_ : a1712_ 146 22 = a1697_ 146 22 := hf1712_ 146 22 rfl
        have h1736_ := jxw_im (y2 + 1)
        have h1737_ := jxw_rg (y2 + 1)
        exact hc209 y1 (jxw (y2 + 1)) r1697_ a1712_ (show ((((a1712_ 146 22) - (a1712_ 146 23)) + (2 * r1697_)) + 1).toNat ≤ n from by omega) hv1712_ hf1733_ (show 0 ≤ r1697_ from by omega) (show r1697_ ≤ 1 from by omega) (show a1712_ 146 22 ≤ 100 from by omega) (show a1712_ 146 23 ≤ a1712_ 146 22 from by omega) (show 0 ≤ jxw (y2 + 1) from by omega) (show jxw (y2 + 1) ≤ a1712_ 146 23 from by omega) (show 0 ≤ r1697_ from by omega) (show r1697_ ≤ 1 from by omega) (show a1712_ 146 22 = a0 146 22 from by omega) (show 1 ≤ a0 146 22 from by omega)
      ·
        have hf1738_ : jfr jW_X12_rules a0 a1697_ := jfr_tr hf hf1697_ rfl
        have hf1739_ : jfr jW_X12_rules a0 (jxu a1697_ 172 (y5.toNat) (a1697_ 146 26)) := jfr_put hf1738_ rfl
        have hf1740_ : jfr jW_X12_rules a0 a1712_ := jfr_tr hf1739_ hf1712_ rfl
        have h1741_ := iv_get hv1712_ (k := 146) (j := 22) (l := 0) (u := 200) rfl
        have h1742_ : a1712_ 146 22 = a1697_ 146 22 := hf1712_ 146 22 rfl
        have h1743_ := jxw_im (y2 + 1)
        have h1744_ := jxw_rg (y2 + 1)
        exact hc205 y1 (jxw (y2 + 1)) r1697_ a1712_ (show ((((a1712_ 146 22) - (a1712_ 146 23)) + (2 * r1697_)) + 2).toNat ≤ n from by omega) hv1712_ hf1740_ (show 1 ≤ r1697_ from by omega) (show r1697_ ≤ 1 from by omega) (show a1712_ 146 22 ≤ 100 from by omega) (show a1712_ 146 23 ≤ a1712_ 146 22 from by omega) (show 0 ≤ jxw (y2 + 1) from by omega) (show jxw (y2 + 1) ≤ a1712_ 146 23 from by omega) (show 0 ≤ r1697_ from by omega) (show r1697_ ≤ 1 from by omega) (show a1712_ 146 23 < a1712_ 146 22 from by omega) (show ¬ a1712_ 164 ((a1712_ 146 23).toNat) = 32 from by omega) (show a1712_ 146 22 = a0 146 22 from by omega) (show 1 ≤ a0 146 22 from by omega)
  have hc165 : ∀ (y1 y2 y5 : Int) (a : Nat → Nat → Int), (((a 146 22) - (a 146 23)) + 4).toNat ≤ n → iv a → jfr jW_X12_rules a0 a → 0 ≤ y5 → y5 ≤ 3 → a 146 22 ≤ 100 → a 146 23 ≤ a 146 22 → 0 ≤ y2 → y2 + 2 ≤ a 146 23 → 0 ≤ y5 → y5 ≤ 4 → a 146 22 = a0 146 22 → 1 ≤ a0 146 22 → jt (jxX E d 232 165 [some (.inr (.inr (.inl 146))), some (.inl y1), some (.inl y2), none, none, some (.inl y5)] [.inr (.inr (.inl 146))] (jxSH, a, b0)) (jQ_X12_rules a0 b0) := by
    intro y1 y2 y5 a hm hv hf hi0 hi1 hi2 hi3 hi4 hi5 hi6 hi7 hi8 hi9
    refine jt_eq (bq_X12_rules_165 E d y1 y2 y5 a b0) ?_
    have h1745_ := iv_get hv (k := 146) (j := 22) (l := 0) (u := 200) rfl
    have h1746_ := iv_get hv (k := 146) (j := 23) (l := 0) (u := 200) rfl
    have h1747_ := iv_get hv0 (k := 146) (j := 22) (l := 0) (u := 200) rfl
    exact hc170 y1 y2 y5 1 a (show (((a 146 22) - (a 146 23)) + 4).toNat ≤ n from by omega) hv hf (show 0 - 11 ≤ y5 from by omega) (show y5 ≤ 5 from by omega) (show 0 ≤ 1 from by omega) (show 1 ≤ 1 from by omega) (show a 146 22 ≤ 100 from by omega) (show a 146 23 ≤ a 146 22 from by omega) (show 0 ≤ y2 from by omega) (show y2 + 2 ≤ a 146 23 from by omega) (show 0 ≤ y5 from by omega) (show y5 ≤ 4 from by omega) (show a 146 22 = a0 146 22 from by omega) (show 1 ≤ a0 146 22 from by omega)
  have hc153 : ∀ (y1 y2 y5 : Int) (a : Nat → Nat → Int), (((a 146 22) - (a 146 23)) + 4).toNat ≤ n → iv a → jfr jW_X12_rules a0 a → 0 - 11 ≤ y5 → y5 ≤ 5 → a 146 22 ≤ 100 → a 146 23 ≤ a 146 22 → 0 ≤ y2 → y2 + 2 ≤ a 146 23 → 0 ≤ y5 → y5 ≤ 4 → a 146 22 = a0 146 22 → 1 ≤ a0 146 22 → jt (jxX E d 232 153 [some (.inr (.inr (.inl 146))), some (.inl y1), some (.inl y2), none, none, some (.inl y5)] [] (jxSH, a, b0)) (jQ_X12_rules a0 b0) := by
    intro y1 y2 y5 a hm hv hf hi0 hi1 hi2 hi3 hi4 hi5 hi6 hi7 hi8 hi9
    refine jt_eq (bq_X12_rules_153 E d y1 y2 y5 a b0) ?_
    have h1748_ := iv_get hv (k := 146) (j := 22) (l := 0) (u := 200) rfl
    have h1749_ := iv_get hv (k := 146) (j := 23) (l := 0) (u := 200) rfl
    have h1750_ := iv_get hv0 (k := 146) (j := 22) (l := 0) (u := 200) rfl
    refine jt_ite (fun c1751_ => ?_) (fun c1751_ => ?_)
    ·
      exact hc165 y1 y2 y5 a (show (((a 146 22) - (a 146 23)) + 4).toNat ≤ n from by omega) hv hf (show 0 ≤ y5 from by omega) (show y5 ≤ 3 from by omega) (show a 146 22 ≤ 100 from by omega) (show a 146 23 ≤ a 146 22 from by omega) (show 0 ≤ y2 from by omega) (show y2 + 2 ≤ a 146 23 from by omega) (show 0 ≤ y5 from by omega) (show y5 ≤ 4 from by omega) (show a 146 22 = a0 146 22 from by omega) (show 1 ≤ a0 146 22 from by omega)
    ·
      refine jt_ite (fun c1752_ => ?_) (fun c1752_ => ?_)
      ·
        exact hc165 y1 y2 y5 a (show (((a 146 22) - (a 146 23)) + 4).toNat ≤ n from by omega) hv hf (show 0 ≤ y5 from by omega) (show y5 ≤ 3 from by omega) (show a 146 22 ≤ 100 from by omega) (show a 146 23 ≤ a 146 22 from by omega) (show 0 ≤ y2 from by omega) (show y2 + 2 ≤ a 146 23 from by omega) (show 0 ≤ y5 from by omega) (show y5 ≤ 4 from by omega) (show a 146 22 = a0 146 22 from by omega) (show 1 ≤ a0 146 22 from by omega)
      ·
        exact hc170 y1 y2 y5 0 a (show (((a 146 22) - (a 146 23)) + 4).toNat ≤ n from by omega) hv hf (show 0 - 11 ≤ y5 from by omega) (show y5 ≤ 5 from by omega) (show 0 ≤ 0 from by omega) (show 0 ≤ 1 from by omega) (show a 146 22 ≤ 100 from by omega) (show a 146 23 ≤ a 146 22 from by omega) (show 0 ≤ y2 from by omega) (show y2 + 2 ≤ a 146 23 from by omega) (show 0 ≤ y5 from by omega) (show y5 ≤ 4 from by omega) (show a 146 22 = a0 146 22 from by omega) (show 1 ≤ a0 146 22 from by omega)
  have hc126 : ∀ (y1 y2 y3 y5 : Int) (a : Nat → Nat → Int), (((a 146 22) - (a 146 23)) + 2).toNat ≤ n → iv a → jfr jW_X12_rules a0 a → 0 ≤ y3 → y3 ≤ 1 → 0 - 11 ≤ y5 → y5 ≤ 5 → a 146 22 ≤ 100 → a 146 23 ≤ a 146 22 → 0 ≤ y2 → y2 ≤ a 146 23 → (a 146 23) + (a 146 25) ≤ a 146 22 → 0 ≤ y3 → y3 ≤ 1 → (y3 = 1 → ((0 ≤ y5 ∧ y5 ≤ 4) ∧ 2 ≤ a 146 25)) → a 146 22 = a0 146 22 → 1 ≤ a0 146 22 → jt (jxX E d 232 126 [some (.inr (.inr (.inl 146))), some (.inl y1), some (.inl y2), some (.inl y3), none, some (.inl y5)] [] (jxSH, a, b0)) (jQ_X12_rules a0 b0) := by
    intro y1 y2 y3 y5 a hm hv hf hi0 hi1 hi2 hi3 hi4 hi5 hi6 hi7 hi8 hi9 hi10 hi11 hi12 hi13
    refine jt_eq (bq_X12_rules_126 E d y1 y2 y3 y5 a b0) ?_
    have h1753_ := iv_get hv (k := 146) (j := 22) (l := 0) (u := 200) rfl
    have h1754_ := iv_get hv (k := 146) (j := 23) (l := 0) (u := 200) rfl
    have h1755_ := iv_get hv (k := 146) (j := 25) (l := 0) (u := 200) rfl
    have h1756_ := iv_get hv0 (k := 146) (j := 22) (l := 0) (u := 200) rfl
    refine jt_ite (fun c1757_ => ?_) (fun c1757_ => ?_)
    ·
      exact cp_X12_rules_281 E d hd a0 b0 hv0 y2 y3 a hv hf (show 0 ≤ y3 from by omega) (show y3 ≤ 1 from by omega) (show a 146 22 ≤ 100 from by omega) (show 0 ≤ y3 from by omega) (show y3 ≤ 1 from by omega) (show a 146 22 = a0 146 22 from by omega) (show (a0 146 22 = 0 → (y2 = 0 ∧ ¬ y3 = 0)) from by omega)
    ·
      have h1759_ : jxw ((a 146 23) + (a 146 25)) = (a 146 23) + (a 146 25) := jxw_id (by omega) (by omega)
      have hv1758_ : iv (jxu a 146 23 (jxw ((a 146 23) + (a 146 25)))) := iv_put hv (l := 0) (u := 200) rfl (by omega) (by omega)
      have hf1760_ : jfr jW_X12_rules a0 (jxu a 146 23 (jxw ((a 146 23) + (a 146 25)))) := jfr_put hf rfl
      exact hc153 (jxor y1 (jxshl 1 y5)) y2 y5 (jxu a 146 23 (jxw ((a 146 23) + (a 146 25)))) (show (((a 146 22) - (jxw ((a 146 23) + (a 146 25)))) + 4).toNat ≤ n from by omega) hv1758_ hf1760_ (show 0 - 11 ≤ y5 from by omega) (show y5 ≤ 5 from by omega) (show a 146 22 ≤ 100 from by omega) (show jxw ((a 146 23) + (a 146 25)) ≤ a 146 22 from by omega) (show 0 ≤ y2 from by omega) (show y2 + 2 ≤ jxw ((a 146 23) + (a 146 25)) from by omega) (show 0 ≤ y5 from by omega) (show y5 ≤ 4 from by omega) (show a 146 22 = a0 146 22 from by omega) (show 1 ≤ a0 146 22 from by omega)
  have hc93 : ∀ (y1 y2 y5 : Int) (a : Nat → Nat → Int), (((a 146 22) - (a 146 23)) + 2).toNat ≤ n → iv a → jfr jW_X12_rules a0 a → 0 - 11 ≤ y5 → y5 ≤ 5 → a 146 22 ≤ 100 → a 146 23 ≤ a 146 22 → 0 ≤ y2 → y2 ≤ a 146 23 → (a 146 23) + (a 146 25) ≤ a 146 22 → a 146 22 = a0 146 22 → 1 ≤ a0 146 22 → jt (jxX E d 232 93 [some (.inr (.inr (.inl 146))), some (.inl y1), some (.inl y2), none, none, some (.inl y5)] [] (jxSH, a, b0)) (jQ_X12_rules a0 b0) := by
    intro y1 y2 y5 a hm hv hf hi0 hi1 hi2 hi3 hi4 hi5 hi6 hi7 hi8
    refine jt_eq (bq_X12_rules_93 E d y1 y2 y5 a b0) ?_
    have h1761_ := iv_get hv (k := 146) (j := 22) (l := 0) (u := 200) rfl
    have h1762_ := iv_get hv (k := 146) (j := 23) (l := 0) (u := 200) rfl
    have h1763_ := iv_get hv (k := 146) (j := 25) (l := 0) (u := 200) rfl
    have h1764_ := iv_get hv0 (k := 146) (j := 22) (l := 0) (u := 200) rfl
    refine jt_bI (sp_X12_fails E d (jd_le hd rfl) 0 (a 146 23) a b0 hv) (fun r1765_ a1765_ b1765_ h1765_ => ?_)
    obtain ⟨hv1765_, hf1765_, rfl, hq1765_0, hq1765_1, hq1765_2, hq1765_3⟩ := h1765_
    have hf1766_ : jfr jW_X12_rules a0 a1765_ := jfr_tr hf hf1765_ rfl
    have h1767_ := iv_get hv1765_ (k := 146) (j := 22) (l := 0) (u := 200) rfl
    have h1768_ : a1765_ 146 22 = a 146 22 := hf1765_ 146 22 rfl
    have h1769_ := iv_get hv1765_ (k := 146) (j := 23) (l := 0) (u := 200) rfl
    have h1770_ : a1765_ 146 23 = a 146 23 := hf1765_ 146 23 rfl
    have h1771_ := iv_get hv1765_ (k := 146) (j := 25) (l := 0) (u := 200) rfl
    have h1772_ : a1765_ 146 25 = a 146 25 := hf1765_ 146 25 rfl
    exact hc126 y1 y2 r1765_ y5 a1765_ (show (((a1765_ 146 22) - (a1765_ 146 23)) + 2).toNat ≤ n from by omega) hv1765_ hf1766_ (show 0 ≤ r1765_ from by omega) (show r1765_ ≤ 1 from by omega) (show 0 - 11 ≤ y5 from by omega) (show y5 ≤ 5 from by omega) (show a1765_ 146 22 ≤ 100 from by omega) (show a1765_ 146 23 ≤ a1765_ 146 22 from by omega) (show 0 ≤ y2 from by omega) (show y2 ≤ a1765_ 146 23 from by omega) (show (a1765_ 146 23) + (a1765_ 146 25) ≤ a1765_ 146 22 from by omega) (show 0 ≤ r1765_ from by omega) (show r1765_ ≤ 1 from by omega) (show (r1765_ = 1 → ((0 ≤ y5 ∧ y5 ≤ 4) ∧ 2 ≤ a1765_ 146 25)) from by omega) (show a1765_ 146 22 = a0 146 22 from by omega) (show 1 ≤ a0 146 22 from by omega)
  have hc106 : ∀ (y1 y2 y3 y5 : Int) (a : Nat → Nat → Int), (((a 146 22) - (a 146 23)) + 2).toNat ≤ n → iv a → jfr jW_X12_rules a0 a → 1 ≤ y3 → y3 ≤ 1 → 0 ≤ y5 → y5 ≤ 4 → a 146 22 ≤ 100 → a 146 23 ≤ a 146 22 → 0 ≤ y2 → y2 ≤ a 146 23 → (a 146 23) + (a 146 25) ≤ a 146 22 → 0 ≤ y3 → y3 ≤ 1 → 0 ≤ y5 → y5 ≤ 4 → 2 ≤ a 146 25 → a 146 22 = a0 146 22 → 1 ≤ a0 146 22 → jt (jxX E d 232 106 [some (.inr (.inr (.inl 146))), some (.inl y1), some (.inl y2), some (.inl y3), none, some (.inl y5)] [] (jxSH, a, b0)) (jQ_X12_rules a0 b0) := by
    intro y1 y2 y3 y5 a hm hv hf hi0 hi1 hi2 hi3 hi4 hi5 hi6 hi7 hi8 hi9 hi10 hi11 hi12 hi13 hi14 hi15
    refine jt_eq (bq_X12_rules_106 E d y1 y2 y3 y5 a b0) ?_
    have h1773_ := iv_get hv (k := 146) (j := 22) (l := 0) (u := 200) rfl
    have h1774_ := iv_get hv (k := 146) (j := 23) (l := 0) (u := 200) rfl
    have h1775_ := iv_get hv (k := 146) (j := 25) (l := 0) (u := 200) rfl
    have h1776_ := iv_get hv0 (k := 146) (j := 22) (l := 0) (u := 200) rfl
    have h1777_ := jxshr_b y1 y5
    have h1778_ := jxand_r (jxshr y1 y5) 1 (by decide) (by decide)
    refine jt_ite (fun c1779_ => ?_) (fun c1779_ => ?_)
    ·
      refine jt_bI (sp_X12_fails E d (jd_le hd rfl) 2 (a 146 23) a b0 hv) (fun r1780_ a1780_ b1780_ h1780_ => ?_)
      obtain ⟨hv1780_, hf1780_, rfl, hq1780_0, hq1780_1, hq1780_2, hq1780_3⟩ := h1780_
      have hf1781_ : jfr jW_X12_rules a0 a1780_ := jfr_tr hf hf1780_ rfl
      have h1782_ := iv_get hv1780_ (k := 146) (j := 22) (l := 0) (u := 200) rfl
      have h1783_ : a1780_ 146 22 = a 146 22 := hf1780_ 146 22 rfl
      have h1784_ := iv_get hv1780_ (k := 146) (j := 23) (l := 0) (u := 200) rfl
      have h1785_ : a1780_ 146 23 = a 146 23 := hf1780_ 146 23 rfl
      have h1786_ := iv_get hv1780_ (k := 146) (j := 25) (l := 0) (u := 200) rfl
      have h1787_ : a1780_ 146 25 = a 146 25 := hf1780_ 146 25 rfl
      exact hc126 y1 y2 r1780_ y5 a1780_ (show (((a1780_ 146 22) - (a1780_ 146 23)) + 2).toNat ≤ n from by omega) hv1780_ hf1781_ (show 0 ≤ r1780_ from by omega) (show r1780_ ≤ 1 from by omega) (show 0 - 11 ≤ y5 from by omega) (show y5 ≤ 5 from by omega) (show a1780_ 146 22 ≤ 100 from by omega) (show a1780_ 146 23 ≤ a1780_ 146 22 from by omega) (show 0 ≤ y2 from by omega) (show y2 ≤ a1780_ 146 23 from by omega) (show (a1780_ 146 23) + (a1780_ 146 25) ≤ a1780_ 146 22 from by omega) (show 0 ≤ r1780_ from by omega) (show r1780_ ≤ 1 from by omega) (show (r1780_ = 1 → ((0 ≤ y5 ∧ y5 ≤ 4) ∧ 2 ≤ a1780_ 146 25)) from by omega) (show a1780_ 146 22 = a0 146 22 from by omega) (show 1 ≤ a0 146 22 from by omega)
    ·
      exact hc126 y1 y2 y3 y5 a (show (((a 146 22) - (a 146 23)) + 2).toNat ≤ n from by omega) hv hf (show 0 ≤ y3 from by omega) (show y3 ≤ 1 from by omega) (show 0 - 11 ≤ y5 from by omega) (show y5 ≤ 5 from by omega) (show a 146 22 ≤ 100 from by omega) (show a 146 23 ≤ a 146 22 from by omega) (show 0 ≤ y2 from by omega) (show y2 ≤ a 146 23 from by omega) (show (a 146 23) + (a 146 25) ≤ a 146 22 from by omega) (show 0 ≤ y3 from by omega) (show y3 ≤ 1 from by omega) (show (y3 = 1 → ((0 ≤ y5 ∧ y5 ≤ 4) ∧ 2 ≤ a 146 25)) from by omega) (show a 146 22 = a0 146 22 from by omega) (show 1 ≤ a0 146 22 from by omega)
  have hc65 : ∀ (y1 y2 y3 y4 : Int) (a : Nat → Nat → Int), ((((a 146 22) - (a 146 23)) + y3) + y4).toNat ≤ n → iv a → jfr jW_X12_rules a0 a → 0 ≤ y3 → y3 ≤ 1 → 0 ≤ y4 → y4 ≤ 1 → a 146 22 ≤ 100 → a 146 23 ≤ a 146 22 → 0 ≤ y2 → y2 ≤ a 146 23 → 0 ≤ y3 → 0 ≤ y4 → y3 ≤ 1 → y4 ≤ 1 → a 146 22 = a0 146 22 → (a0 146 22 = 0 → ((y2 = 0 ∧ ¬ y3 = 0) ∧ y4 = 0)) → jt (jxX E d 232 65 [some (.inr (.inr (.inl 146))), some (.inl y1), some (.inl y2), some (.inl y3), some (.inl y4), none] [] (jxSH, a, b0)) (jQ_X12_rules a0 b0) := by
    intro y1 y2 y3 y4 a hm hv hf hi0 hi1 hi2 hi3 hi4 hi5 hi6 hi7 hi8 hi9 hi10 hi11 hi12 hi13
    refine jt_eq (bq_X12_rules_65 E d y1 y2 y3 y4 a b0) ?_
    have h1788_ := iv_get hv (k := 146) (j := 22) (l := 0) (u := 200) rfl
    have h1789_ := iv_get hv (k := 146) (j := 23) (l := 0) (u := 200) rfl
    have h1790_ := iv_get hv0 (k := 146) (j := 22) (l := 0) (u := 200) rfl
    refine jt_ite (fun c1791_ => ?_) (fun c1791_ => ?_)
    ·
      exact cp_X12_rules_281 E d hd a0 b0 hv0 y2 y3 a hv hf (show 0 ≤ y3 from by omega) (show y3 ≤ 1 from by omega) (show a 146 22 ≤ 100 from by omega) (show 0 ≤ y3 from by omega) (show y3 ≤ 1 from by omega) (show a 146 22 = a0 146 22 from by omega) (show (a0 146 22 = 0 → (y2 = 0 ∧ ¬ y3 = 0)) from by omega)
    ·
      refine jt_ite (fun c1792_ => ?_) (fun c1792_ => ?_)
      ·
        exact cp_X12_rules_281 E d hd a0 b0 hv0 y2 y3 a hv hf (show 0 ≤ y3 from by omega) (show y3 ≤ 1 from by omega) (show a 146 22 ≤ 100 from by omega) (show 0 ≤ y3 from by omega) (show y3 ≤ 1 from by omega) (show a 146 22 = a0 146 22 from by omega) (show (a0 146 22 = 0 → (y2 = 0 ∧ ¬ y3 = 0)) from by omega)
      ·
        refine jt_bI (sp_X12_wordHere E d (jd_le hd rfl) a b0 hv (show a 146 23 ≤ a 146 22 from by omega)) (fun r1793_ a1793_ b1793_ h1793_ => ?_)
        obtain ⟨hv1793_, hf1793_, rfl, hq1793_0, hq1793_1, hq1793_2, hq1793_3, hq1793_4, hq1793_5, hq1793_6⟩ := h1793_
        have h1794_ := iv_get hv1793_ (k := 146) (j := 23) (l := 0) (u := 200) rfl
        have h1795_ := iv_get hv1793_ (k := 146) (j := 25) (l := 0) (u := 200) rfl
        have h1796_ := iv_get hv1793_ (k := 146) (j := 22) (l := 0) (u := 200) rfl
        have h1797_ : a1793_ 146 22 = a 146 22 := hf1793_ 146 22 rfl
        have h1798_ := iv_get hv (k := 164) (j := (a 146 23).toNat) (l := (-128)) (u := 127) rfl
        have h1799_ : a 164 ((a 146 23).toNat) = a0 164 ((a 146 23).toNat) := hf 164 ((a 146 23).toNat) rfl
        have h1800_ := iv_get hv0 (k := 164) (j := (a 146 23).toNat) (l := (-128)) (u := 127) rfl
        refine jt_eI (eq_X12_in E d (jd_le hd rfl) (jxw (r1793_ - 10)) 0 4 a1793_ b0) ?_
        have h1801_ : jxw (r1793_ - 10) = r1793_ - 10 := jxw_id (by omega) (by omega)
        have h1802_ := f_X12_in_eq a1793_ b0 (jxw (r1793_ - 10)) 0 4
        refine jt_ite (fun c1803_ => ?_) (fun c1803_ => ?_)
        ·
          have hf1804_ : jfr jW_X12_rules a0 a1793_ := jfr_tr hf hf1793_ rfl
          exact hc93 y1 y2 (jxw (r1793_ - 10)) a1793_ (show (((a1793_ 146 22) - (a1793_ 146 23)) + 2).toNat ≤ n from by omega) hv1793_ hf1804_ (show 0 - 11 ≤ jxw (r1793_ - 10) from by omega) (show jxw (r1793_ - 10) ≤ 5 from by omega) (show a1793_ 146 22 ≤ 100 from by omega) (show a1793_ 146 23 ≤ a1793_ 146 22 from by omega) (show 0 ≤ y2 from by omega) (show y2 ≤ a1793_ 146 23 from by omega) (show (a1793_ 146 23) + (a1793_ 146 25) ≤ a1793_ 146 22 from by omega) (show a1793_ 146 22 = a0 146 22 from by omega) (show 1 ≤ a0 146 22 from by omega)
        ·
          have hf1805_ : jfr jW_X12_rules a0 a1793_ := jfr_tr hf hf1793_ rfl
          exact hc106 y1 y2 y3 (jxw (r1793_ - 10)) a1793_ (show (((a1793_ 146 22) - (a1793_ 146 23)) + 2).toNat ≤ n from by omega) hv1793_ hf1805_ (show 1 ≤ y3 from by omega) (show y3 ≤ 1 from by omega) (show 0 ≤ jxw (r1793_ - 10) from by omega) (show jxw (r1793_ - 10) ≤ 4 from by omega) (show a1793_ 146 22 ≤ 100 from by omega) (show a1793_ 146 23 ≤ a1793_ 146 22 from by omega) (show 0 ≤ y2 from by omega) (show y2 ≤ a1793_ 146 23 from by omega) (show (a1793_ 146 23) + (a1793_ 146 25) ≤ a1793_ 146 22 from by omega) (show 0 ≤ y3 from by omega) (show y3 ≤ 1 from by omega) (show 0 ≤ jxw (r1793_ - 10) from by omega) (show jxw (r1793_ - 10) ≤ 4 from by omega) (show 2 ≤ a1793_ 146 25 from by omega) (show a1793_ 146 22 = a0 146 22 from by omega) (show 1 ≤ a0 146 22 from by omega)
  exact ⟨hc278, hc251, hc236, hc210, hc205, hc209, hc170, hc165, hc153, hc126, hc93, hc106, hc65⟩
theorem cp_X12_rules_27 (E : jxE) (d : Nat) (hd : Nat.ble 3 (d + 1) = true) (a0 b0 : Nat → Nat → Int) (hv0 : iv a0) : ∀ n : Nat, (∀ (y1 y2 y3 : Int) (a : Nat → Nat → Int), (((5 - y3) * 1) + 0).toNat ≤ n → iv a → jfr jW_X12_rules a0 a → 0 ≤ y1 → y1 ≤ 0 → 0 ≤ y2 → y2 ≤ 0 → 0 ≤ y3 → y3 ≤ 5 → a 146 22 ≤ 100 → a 146 23 ≤ a 146 22 → y2 = 0 → a 146 22 = a0 146 22 → jt (jxX E d 232 27 [some (.inr (.inr (.inl 146))), some (.inl y1), some (.inl y2), some (.inl y3), none, none] [] (jxSH, a, b0)) (jQ_X12_rules a0 b0)) := by
  refine jx_ind fun n ih => ?_
  have ih27 : ∀ (y1 y2 y3 : Int) (a : Nat → Nat → Int), (((5 - y3) * 1) + 0).toNat < n → iv a → jfr jW_X12_rules a0 a → 0 ≤ y1 → y1 ≤ 0 → 0 ≤ y2 → y2 ≤ 0 → 0 ≤ y3 → y3 ≤ 5 → a 146 22 ≤ 100 → a 146 23 ≤ a 146 22 → y2 = 0 → a 146 22 = a0 146 22 → jt (jxX E d 232 27 [some (.inr (.inr (.inl 146))), some (.inl y1), some (.inl y2), some (.inl y3), none, none] [] (jxSH, a, b0)) (jQ_X12_rules a0 b0) := fun y1 y2 y3 a hlt i0 i1 i2 i3 i4 i5 i6 i7 i8 i9 i10 i11 => (ih _ hlt) y1 y2 y3 a (Nat.le_refl _) i0 i1 i2 i3 i4 i5 i6 i7 i8 i9 i10 i11
  have hc27 : ∀ (y1 y2 y3 : Int) (a : Nat → Nat → Int), (((5 - y3) * 1) + 0).toNat ≤ n → iv a → jfr jW_X12_rules a0 a → 0 ≤ y1 → y1 ≤ 0 → 0 ≤ y2 → y2 ≤ 0 → 0 ≤ y3 → y3 ≤ 5 → a 146 22 ≤ 100 → a 146 23 ≤ a 146 22 → y2 = 0 → a 146 22 = a0 146 22 → jt (jxX E d 232 27 [some (.inr (.inr (.inl 146))), some (.inl y1), some (.inl y2), some (.inl y3), none, none] [] (jxSH, a, b0)) (jQ_X12_rules a0 b0) := by
    intro y1 y2 y3 a hm hv hf hi0 hi1 hi2 hi3 hi4 hi5 hi6 hi7 hi8 hi9
    refine jt_eq (bq_X12_rules_27 E d y1 y2 y3 a b0) ?_
    have h1806_ := iv_get hv (k := 146) (j := 22) (l := 0) (u := 200) rfl
    have h1807_ := iv_get hv (k := 146) (j := 23) (l := 0) (u := 200) rfl
    have h1808_ := iv_get hv0 (k := 146) (j := 22) (l := 0) (u := 200) rfl
    refine jt_ite (fun c1809_ => ?_) (fun c1809_ => ?_)
    ·
      refine jt_eI (eq_X12_without E d (jd_le hd rfl) y3 a b0) ?_
      refine jt_grd (by omega) ?_
      have hv1810_ : iv (jxu a 172 (y3.toNat) (f_X12_without a b0 y3)) := iv_putf hv rfl
      have hf1811_ : jfr jW_X12_rules a0 (jxu a 172 (y3.toNat) (f_X12_without a b0 y3)) := jfr_put hf rfl
      have h1812_ : jxw (y3 + 1) = y3 + 1 := jxw_id (by omega) (by omega)
      exact ih27 y1 y2 (jxw (y3 + 1)) (jxu a 172 (y3.toNat) (f_X12_without a b0 y3)) (show (((5 - (jxw (y3 + 1))) * 1) + 0).toNat < n from by omega) hv1810_ hf1811_ (show 0 ≤ y1 from by omega) (show y1 ≤ 0 from by omega) (show 0 ≤ y2 from by omega) (show y2 ≤ 0 from by omega) (show 0 ≤ jxw (y3 + 1) from by omega) (show jxw (y3 + 1) ≤ 5 from by omega) (show a 146 22 ≤ 100 from by omega) (show a 146 23 ≤ a 146 22 from by omega) (show y2 = 0 from by omega) (show a 146 22 = a0 146 22 from by omega)
    ·
      refine jt_bI (sp_X12_see E d (jd_le hd rfl) a b0 hv (show a 146 23 ≤ a 146 22 from by omega)) (fun r1813_ a1813_ b1813_ h1813_ => ?_)
      obtain ⟨hv1813_, hf1813_, rfl, hq1813_0, hq1813_1, hq1813_2, hq1813_3⟩ := h1813_
      have h1814_ := iv_get hv1813_ (k := 146) (j := 23) (l := 0) (u := 200) rfl
      have h1815_ := iv_get hv1813_ (k := 164) (j := (a1813_ 146 23).toNat) (l := (-128)) (u := 127) rfl
      have h1816_ : a1813_ 164 ((a1813_ 146 23).toNat) = a 164 ((a1813_ 146 23).toNat) := hf1813_ 164 ((a1813_ 146 23).toNat) rfl
      have h1817_ := iv_get hv (k := 164) (j := (a1813_ 146 23).toNat) (l := (-128)) (u := 127) rfl
      have h1818_ : a 164 ((a1813_ 146 23).toNat) = a0 164 ((a1813_ 146 23).toNat) := hf 164 ((a1813_ 146 23).toNat) rfl
      have h1819_ := iv_get hv0 (k := 164) (j := (a1813_ 146 23).toNat) (l := (-128)) (u := 127) rfl
      have h1820_ := iv_get hv (k := 164) (j := (a 146 23).toNat) (l := (-128)) (u := 127) rfl
      have h1821_ : a 164 ((a 146 23).toNat) = a0 164 ((a 146 23).toNat) := hf 164 ((a 146 23).toNat) rfl
      have h1822_ := iv_get hv0 (k := 164) (j := (a 146 23).toNat) (l := (-128)) (u := 127) rfl
      refine jt_ite (fun c1823_ => ?_) (fun c1823_ => ?_)
      ·
        have hf1824_ : jfr jW_X12_rules a0 a1813_ := jfr_tr hf hf1813_ rfl
        have h1825_ := iv_get hv1813_ (k := 146) (j := 22) (l := 0) (u := 200) rfl
        have h1826_ : a1813_ 146 22 = a 146 22 := hf1813_ 146 22 rfl
        exact (cp_X12_rules_65 E d hd a0 b0 hv0 _).2.2.2.2.2.2.2.2.2.2.2.2 y1 y2 1 0 a1813_ (Nat.le_refl _) hv1813_ hf1824_ (show 0 ≤ 1 from by omega) (show 1 ≤ 1 from by omega) (show 0 ≤ 0 from by omega) (show 0 ≤ 1 from by omega) (show a1813_ 146 22 ≤ 100 from by omega) (show a1813_ 146 23 ≤ a1813_ 146 22 from by omega) (show 0 ≤ y2 from by omega) (show y2 ≤ a1813_ 146 23 from by omega) (show 0 ≤ 1 from by omega) (show 0 ≤ 0 from by omega) (show 1 ≤ 1 from by omega) (show 0 ≤ 1 from by omega) (show a1813_ 146 22 = a0 146 22 from by omega) (show (a0 146 22 = 0 → ((y2 = 0 ∧ ¬ 1 = 0) ∧ 0 = 0)) from by omega)
      ·
        have hf1827_ : jfr jW_X12_rules a0 a1813_ := jfr_tr hf hf1813_ rfl
        have h1828_ := iv_get hv1813_ (k := 146) (j := 22) (l := 0) (u := 200) rfl
        have h1829_ : a1813_ 146 22 = a 146 22 := hf1813_ 146 22 rfl
        exact (cp_X12_rules_65 E d hd a0 b0 hv0 _).2.2.2.2.2.2.2.2.2.2.2.2 y1 y2 1 1 a1813_ (Nat.le_refl _) hv1813_ hf1827_ (show 0 ≤ 1 from by omega) (show 1 ≤ 1 from by omega) (show 0 ≤ 1 from by omega) (show 1 ≤ 1 from by omega) (show a1813_ 146 22 ≤ 100 from by omega) (show a1813_ 146 23 ≤ a1813_ 146 22 from by omega) (show 0 ≤ y2 from by omega) (show y2 ≤ a1813_ 146 23 from by omega) (show 0 ≤ 1 from by omega) (show 0 ≤ 1 from by omega) (show 1 ≤ 1 from by omega) (show 1 ≤ 1 from by omega) (show a1813_ 146 22 = a0 146 22 from by omega) (show (a0 146 22 = 0 → ((y2 = 0 ∧ ¬ 1 = 0) ∧ 1 = 0)) from by omega)
  exact hc27
theorem cp_X12_rules_25 (E : jxE) (d : Nat) (hd : Nat.ble 3 (d + 1) = true) (a0 b0 : Nat → Nat → Int) (hv0 : iv a0) : ∀ (y1 y2 : Int) (a : Nat → Nat → Int), iv a → jfr jW_X12_rules a0 a → 0 ≤ y1 → y1 ≤ 0 → 0 ≤ y2 → y2 ≤ 0 → a 146 22 ≤ 100 → a 146 23 ≤ a 146 22 → y2 = 0 → a 146 22 = a0 146 22 → jt (jxX E d 232 25 [some (.inr (.inr (.inl 146))), some (.inl y1), some (.inl y2), none, none, none] [] (jxSH, a, b0)) (jQ_X12_rules a0 b0) := by
  intro y1 y2 a hv hf hi0 hi1 hi2 hi3 hi4 hi5 hi6 hi7
  refine jt_eq (bq_X12_rules_25 E d y1 y2 a b0) ?_
  have h1830_ := iv_get hv (k := 146) (j := 22) (l := 0) (u := 200) rfl
  have h1831_ := iv_get hv (k := 146) (j := 23) (l := 0) (u := 200) rfl
  have h1832_ := iv_get hv0 (k := 146) (j := 22) (l := 0) (u := 200) rfl
  exact (cp_X12_rules_27 E d hd a0 b0 hv0 _) y1 y2 0 a (Nat.le_refl _) hv hf (show 0 ≤ y1 from by omega) (show y1 ≤ 0 from by omega) (show 0 ≤ y2 from by omega) (show y2 ≤ 0 from by omega) (show 0 ≤ 0 from by omega) (show 0 ≤ 5 from by omega) (show a 146 22 ≤ 100 from by omega) (show a 146 23 ≤ a 146 22 from by omega) (show y2 = 0 from by omega) (show a 146 22 = a0 146 22 from by omega)
theorem sp_X12_rules (E : jxE) (d : Nat) (hd : Nat.ble 3 d = true) (a0 b0 : Nat → Nat → Int) (hv0 : iv a0) : jt (jxC E d 232 [.inr (.inr (.inl 146))] (jxSH, a0, b0)) (jQ_X12_rules a0 b0) := by
  obtain ⟨d, rfl⟩ := jd_succ hd
  refine jt_eq (bq_X12_rules E d a0 b0) ?_
  have h1833_ := iv_get hv0 (k := 146) (j := 22) (l := 0) (u := 200) rfl
  refine jt_ite (fun c1834_ => ?_) (fun c1834_ => ?_)
  ·
    exact jt_rI ⟨hv0, (jfr_rf _ _), rfl, (show (a0 146 22 = 0 → (-1) = 0) from by omega)⟩
  ·
    have hv1835_ : iv (jxu a0 146 23 0) := iv_put hv0 (l := 0) (u := 200) rfl (by omega) (by omega)
    have hv1836_ : iv (jxu (jxu a0 146 23 0) 146 24 0) := iv_putf hv1835_ rfl
    have hf1837_ : jfr jW_X12_rules a0 (jxu a0 146 23 0) := jfr_put (jfr_rf _ _) rfl
    have hf1838_ : jfr jW_X12_rules a0 (jxu (jxu a0 146 23 0) 146 24 0) := jfr_put hf1837_ rfl
    exact cp_X12_rules_25 E d hd a0 b0 hv0 0 0 (jxu (jxu a0 146 23 0) 146 24 0) hv1836_ hf1838_ (show 0 ≤ 0 from by omega) (show 0 ≤ 0 from by omega) (show 0 ≤ 0 from by omega) (show 0 ≤ 0 from by omega) (show a0 146 22 ≤ 100 from by omega) (show 0 ≤ a0 146 22 from by omega) (show 0 = 0 from by omega) (show a0 146 22 = a0 146 22 from by omega)
def jW_X12_rates : List (Nat × Nat) := [(146, 22), (146, 23), (146, 24), (146, 25), (146, 26), (146, 27), (146, 68), (192, 9999), (193, 9999), (194, 9999), (195, 9999)]
abbrev jQ_X12_rates (x1 : Int) (a0 b0 : Nat → Nat → Int) : List jxV → (Nat → Nat → Int) → (Nat → Nat → Int) → Prop := rI (fun r a b => (iv a) ∧ (jfr jW_X12_rates a0 a) ∧ (b0 = b) ∧ (((a0 146 22 = 0 ∧ a0 146 68 = 0) → (((0 ≤ x1 ∧ x1 ≤ 1999) ∧ r = 0 - 3) ∨ ((x1 < 0 ∨ 1999 < x1) ∧ r = 0 - 1)))))
theorem cp_X12_rates_154 (E : jxE) (d : Nat) (hd : Nat.ble 4 (d + 1) = true) (x1 : Int) (a0 b0 : Nat → Nat → Int) (hv0 : iv a0) : ∀ n : Nat, (∀ (y2 y5 : Int) (a : Nat → Nat → Int), (((36 - y5) * 1) + 0).toNat ≤ n → iv a → jfr jW_X12_rates a0 a → 0 ≤ y5 → y5 ≤ 35 → a 146 68 ≤ 9 → 0 ≤ y2 → y2 ≤ 12 → 0 ≤ y5 → y5 < 3 * y2 → a 146 68 ≤ 9 → 1 ≤ a0 146 22 → jt (jxX E d 282 184 [some (.inr (.inr (.inl 146))), none, some (.inl y2), none, none, some (.inl y5)] [] (jxSH, a, b0)) (jQ_X12_rates x1 a0 b0)) ∧ (∀ (y2 y5 : Int) (a : Nat → Nat → Int), (((36 - y5) * 1) + 0).toNat ≤ n → iv a → jfr jW_X12_rates a0 a → 0 ≤ y5 → y5 ≤ 36 → a 146 68 ≤ 9 → 0 ≤ y2 → y2 ≤ 12 → 0 ≤ y5 → a 146 68 ≤ 9 → 1 ≤ a0 146 22 → jt (jxX E d 282 154 [some (.inr (.inr (.inl 146))), none, some (.inl y2), none, none, some (.inl y5)] [] (jxSH, a, b0)) (jQ_X12_rates x1 a0 b0)) := by
  refine jx_ind fun n ih => ?_
  have ih184 : ∀ (y2 y5 : Int) (a : Nat → Nat → Int), (((36 - y5) * 1) + 0).toNat < n → iv a → jfr jW_X12_rates a0 a → 0 ≤ y5 → y5 ≤ 35 → a 146 68 ≤ 9 → 0 ≤ y2 → y2 ≤ 12 → 0 ≤ y5 → y5 < 3 * y2 → a 146 68 ≤ 9 → 1 ≤ a0 146 22 → jt (jxX E d 282 184 [some (.inr (.inr (.inl 146))), none, some (.inl y2), none, none, some (.inl y5)] [] (jxSH, a, b0)) (jQ_X12_rates x1 a0 b0) := fun y2 y5 a hlt i0 i1 i2 i3 i4 i5 i6 i7 i8 i9 i10 => (ih _ hlt).1 y2 y5 a (Nat.le_refl _) i0 i1 i2 i3 i4 i5 i6 i7 i8 i9 i10
  have ih154 : ∀ (y2 y5 : Int) (a : Nat → Nat → Int), (((36 - y5) * 1) + 0).toNat < n → iv a → jfr jW_X12_rates a0 a → 0 ≤ y5 → y5 ≤ 36 → a 146 68 ≤ 9 → 0 ≤ y2 → y2 ≤ 12 → 0 ≤ y5 → a 146 68 ≤ 9 → 1 ≤ a0 146 22 → jt (jxX E d 282 154 [some (.inr (.inr (.inl 146))), none, some (.inl y2), none, none, some (.inl y5)] [] (jxSH, a, b0)) (jQ_X12_rates x1 a0 b0) := fun y2 y5 a hlt i0 i1 i2 i3 i4 i5 i6 i7 i8 i9 => (ih _ hlt).2 y2 y5 a (Nat.le_refl _) i0 i1 i2 i3 i4 i5 i6 i7 i8 i9
  have hc184 : ∀ (y2 y5 : Int) (a : Nat → Nat → Int), (((36 - y5) * 1) + 0).toNat ≤ n → iv a → jfr jW_X12_rates a0 a → 0 ≤ y5 → y5 ≤ 35 → a 146 68 ≤ 9 → 0 ≤ y2 → y2 ≤ 12 → 0 ≤ y5 → y5 < 3 * y2 → a 146 68 ≤ 9 → 1 ≤ a0 146 22 → jt (jxX E d 282 184 [some (.inr (.inr (.inl 146))), none, some (.inl y2), none, none, some (.inl y5)] [] (jxSH, a, b0)) (jQ_X12_rates x1 a0 b0) := by
    intro y2 y5 a hm hv hf hi0 hi1 hi2 hi3 hi4 hi5 hi6 hi7 hi8
    refine jt_eq (bq_X12_rates_184 E d y2 y5 a b0) ?_
    have h1839_ := iv_get hv (k := 146) (j := 68) (l := 0) (u := 10) rfl
    have h1840_ := iv_get hv0 (k := 146) (j := 22) (l := 0) (u := 200) rfl
    have h1841_ : jxw (y5 + 1) = y5 + 1 := jxw_id (by omega) (by omega)
    exact ih154 y2 (jxw (y5 + 1)) a (show (((36 - (jxw (y5 + 1))) * 1) + 0).toNat < n from by omega) hv hf (show 0 ≤ jxw (y5 + 1) from by omega) (show jxw (y5 + 1) ≤ 36 from by omega) (show a 146 68 ≤ 9 from by omega) (show 0 ≤ y2 from by omega) (show y2 ≤ 12 from by omega) (show 0 ≤ jxw (y5 + 1) from by omega) (show a 146 68 ≤ 9 from by omega) (show 1 ≤ a0 146 22 from by omega)
  have hc154 : ∀ (y2 y5 : Int) (a : Nat → Nat → Int), (((36 - y5) * 1) + 0).toNat ≤ n → iv a → jfr jW_X12_rates a0 a → 0 ≤ y5 → y5 ≤ 36 → a 146 68 ≤ 9 → 0 ≤ y2 → y2 ≤ 12 → 0 ≤ y5 → a 146 68 ≤ 9 → 1 ≤ a0 146 22 → jt (jxX E d 282 154 [some (.inr (.inr (.inl 146))), none, some (.inl y2), none, none, some (.inl y5)] [] (jxSH, a, b0)) (jQ_X12_rates x1 a0 b0) := by
    intro y2 y5 a hm hv hf hi0 hi1 hi2 hi3 hi4 hi5 hi6 hi7
    refine jt_eq (bq_X12_rates_154 E d y2 y5 a b0) ?_
    have h1842_ := iv_get hv (k := 146) (j := 68) (l := 0) (u := 10) rfl
    have h1843_ := iv_get hv0 (k := 146) (j := 22) (l := 0) (u := 200) rfl
    have h1844_ : jxw (3 * y2) = 3 * y2 := jxw_id (by omega) (by omega)
    refine jt_ite (fun c1845_ => ?_) (fun c1845_ => ?_)
    ·
      refine jt_grd (by omega) ?_
      have h1846_ : jxw (36 * (a 146 68)) = 36 * (a 146 68) := jxw_id (by omega) (by omega)
      have h1847_ : jxw ((jxw (36 * (a 146 68))) + y5) = (jxw (36 * (a 146 68))) + y5 := jxw_id (by omega) (by omega)
      refine jt_grd (by omega) ?_
      have h1849_ := iv_get hv (k := 195) (j := y5.toNat) (l := 0) (u := 900) rfl
      have hv1848_ : iv (jxu a 194 ((jxw ((jxw (36 * (a 146 68))) + y5)).toNat) (a 195 (y5.toNat))) := iv_put hv (l := 0) (u := 900) rfl (by omega) (by omega)
      have hf1850_ : jfr jW_X12_rates a0 (jxu a 194 ((jxw ((jxw (36 * (a 146 68))) + y5)).toNat) (a 195 (y5.toNat))) := jfr_put hf rfl
      exact hc184 y2 y5 (jxu a 194 ((jxw ((jxw (36 * (a 146 68))) + y5)).toNat) (a 195 (y5.toNat))) (show (((36 - y5) * 1) + 0).toNat ≤ n from by omega) hv1848_ hf1850_ (show 0 ≤ y5 from by omega) (show y5 ≤ 35 from by omega) (show a 146 68 ≤ 9 from by omega) (show 0 ≤ y2 from by omega) (show y2 ≤ 12 from by omega) (show 0 ≤ y5 from by omega) (show y5 < 3 * y2 from by omega) (show a 146 68 ≤ 9 from by omega) (show 1 ≤ a0 146 22 from by omega)
    ·
      have h1852_ : jxw ((a 146 68) + 1) = (a 146 68) + 1 := jxw_id (by omega) (by omega)
      have hv1851_ : iv (jxu a 146 68 (jxw ((a 146 68) + 1))) := iv_put hv (l := 0) (u := 10) rfl (by omega) (by omega)
      have hf1853_ : jfr jW_X12_rates a0 (jxu a 146 68 (jxw ((a 146 68) + 1))) := jfr_put hf rfl
      have h1854_ := iv_get hv0 (k := 146) (j := 68) (l := 0) (u := 10) rfl
      exact jt_rI ⟨hv1851_, hf1853_, rfl, (show ((a0 146 22 = 0 ∧ a0 146 68 = 0) → (((0 ≤ x1 ∧ x1 ≤ 1999) ∧ y2 = 0 - 3) ∨ ((x1 < 0 ∨ 1999 < x1) ∧ y2 = 0 - 1))) from by omega)⟩
  exact ⟨hc184, hc154⟩
theorem cp_X12_rates_151 (E : jxE) (d : Nat) (hd : Nat.ble 4 (d + 1) = true) (x1 : Int) (a0 b0 : Nat → Nat → Int) (hv0 : iv a0) : ∀ (y2 : Int) (a : Nat → Nat → Int), iv a → jfr jW_X12_rates a0 a → a 146 68 ≤ 9 → 0 ≤ y2 → y2 ≤ 12 → a 146 68 ≤ 9 → 1 ≤ a0 146 22 → jt (jxX E d 282 151 [some (.inr (.inr (.inl 146))), none, some (.inl y2), none, none, none] [] (jxSH, a, b0)) (jQ_X12_rates x1 a0 b0) := by
  intro y2 a hv hf hi0 hi1 hi2 hi3 hi4
  refine jt_eq (bq_X12_rates_151 E d y2 a b0) ?_
  have h1855_ := iv_get hv (k := 146) (j := 68) (l := 0) (u := 10) rfl
  have h1856_ := iv_get hv0 (k := 146) (j := 22) (l := 0) (u := 200) rfl
  exact (cp_X12_rates_154 E d hd x1 a0 b0 hv0 _).2 y2 0 a (Nat.le_refl _) hv hf (show 0 ≤ 0 from by omega) (show 0 ≤ 36 from by omega) (show a 146 68 ≤ 9 from by omega) (show 0 ≤ y2 from by omega) (show y2 ≤ 12 from by omega) (show 0 ≤ 0 from by omega) (show a 146 68 ≤ 9 from by omega) (show 1 ≤ a0 146 22 from by omega)
theorem cp_X12_rates_114 (E : jxE) (d : Nat) (hd : Nat.ble 4 (d + 1) = true) (x1 : Int) (a0 b0 : Nat → Nat → Int) (hv0 : iv a0) : ∀ (y1 y2 y3 : Int) (a : Nat → Nat → Int), iv a → jfr jW_X12_rates a0 a → 0 ≤ y1 → y1 ≤ 1999 → 0 ≤ y3 → y3 ≤ 1 → a 146 68 ≤ 9 → a 146 23 ≤ a 146 22 → 0 ≤ y2 → y2 ≤ 13 → (y3 = 1 → y2 ≤ 12) → 0 ≤ y3 → y3 ≤ 1 → a 146 22 = a0 146 22 → (0 ≤ x1 ∧ x1 ≤ 1999) → (a0 146 22 = 0 → (y3 = 0 ∧ a 146 24 = 1)) → jt (jxX E d 282 114 [some (.inr (.inr (.inl 146))), some (.inl y1), some (.inl y2), some (.inl y3), none, none] [] (jxSH, a, b0)) (jQ_X12_rates x1 a0 b0) := by
  intro y1 y2 y3 a hv hf hi0 hi1 hi2 hi3 hi4 hi5 hi6 hi7 hi8 hi9 hi10 hi11 hi12 hi13
  refine jt_eq (bq_X12_rates_114 E d y1 y2 y3 a b0) ?_
  have h1857_ := iv_get hv (k := 146) (j := 68) (l := 0) (u := 10) rfl
  have h1858_ := iv_get hv (k := 146) (j := 23) (l := 0) (u := 200) rfl
  have h1859_ := iv_get hv (k := 146) (j := 22) (l := 0) (u := 200) rfl
  have h1860_ := iv_get hv0 (k := 146) (j := 22) (l := 0) (u := 200) rfl
  refine jt_ite (fun c1861_ => ?_) (fun c1861_ => ?_)
  ·
    have hv1862_ : iv (jxu a 146 22 0) := iv_put hv (l := 0) (u := 200) rfl (by omega) (by omega)
    have hf1863_ : jfr jW_X12_rates a0 (jxu a 146 22 0) := jfr_put hf rfl
    have h1864_ := iv_get hv0 (k := 146) (j := 68) (l := 0) (u := 10) rfl
    have h1865_ := jxw_im ((-2) - (a 146 24))
    have h1866_ := jxw_rg ((-2) - (a 146 24))
    exact jt_rI ⟨hv1862_, hf1863_, rfl, (show ((a0 146 22 = 0 ∧ a0 146 68 = 0) → (((0 ≤ x1 ∧ x1 ≤ 1999) ∧ jxw ((-2) - (a 146 24)) = 0 - 3) ∨ ((x1 < 0 ∨ 1999 < x1) ∧ jxw ((-2) - (a 146 24)) = 0 - 1))) from by omega)⟩
  ·
    refine jt_grd (by omega) ?_
    refine jt_grd (by omega) ?_
    have hv1867_ : iv (jxu a 146 22 0) := iv_put hv (l := 0) (u := 200) rfl (by omega) (by omega)
    have hv1868_ : iv (jxu (jxu a 146 22 0) 192 ((a 146 68).toNat) y1) := iv_putf hv1867_ rfl
    have hv1869_ : iv (jxu (jxu (jxu a 146 22 0) 192 ((a 146 68).toNat) y1) 193 ((a 146 68).toNat) y2) := iv_put hv1868_ (l := 0) (u := 12) rfl (by omega) (by omega)
    have hf1870_ : jfr jW_X12_rates a0 (jxu a 146 22 0) := jfr_put hf rfl
    have hf1871_ : jfr jW_X12_rates a0 (jxu (jxu a 146 22 0) 192 ((a 146 68).toNat) y1) := jfr_put hf1870_ rfl
    have hf1872_ : jfr jW_X12_rates a0 (jxu (jxu (jxu a 146 22 0) 192 ((a 146 68).toNat) y1) 193 ((a 146 68).toNat) y2) := jfr_put hf1871_ rfl
    exact cp_X12_rates_151 E d hd x1 a0 b0 hv0 y2 (jxu (jxu (jxu a 146 22 0) 192 ((a 146 68).toNat) y1) 193 ((a 146 68).toNat) y2) hv1869_ hf1872_ (show a 146 68 ≤ 9 from by omega) (show 0 ≤ y2 from by omega) (show y2 ≤ 12 from by omega) (show a 146 68 ≤ 9 from by omega) (show 1 ≤ a0 146 22 from by omega)
theorem cp_X12_rates_35 (E : jxE) (d : Nat) (hd : Nat.ble 4 (d + 1) = true) (x1 : Int) (a0 b0 : Nat → Nat → Int) (hv0 : iv a0) : ∀ n : Nat, (∀ (y1 y2 y3 y4 : Int) (a : Nat → Nat → Int), (((((a 146 22) - (a 146 23)) + (2 * y3)) + y4) + 1).toNat ≤ n → iv a → jfr jW_X12_rates a0 a → 0 ≤ y1 → y1 ≤ 1999 → 0 ≤ y3 → y3 ≤ 1 → 0 ≤ y4 → y4 ≤ 1 → a 146 68 ≤ 9 → a 146 23 ≤ a 146 22 → 0 ≤ y2 → y2 ≤ 13 → (y3 = 1 → y2 ≤ 12) → 0 ≤ y3 → 0 ≤ y4 → y3 ≤ 1 → y4 ≤ 1 → (y4 = 1 → a 146 23 < a 146 22) → a 146 22 = a0 146 22 → (0 ≤ x1 ∧ x1 ≤ 1999) → (a0 146 22 = 0 → (y3 = 0 ∧ a 146 24 = 1)) → jt (jxX E d 282 96 [some (.inr (.inr (.inl 146))), some (.inl y1), some (.inl y2), some (.inl y3), some (.inl y4), none] [] (jxSH, a, b0)) (jQ_X12_rates x1 a0 b0)) ∧ (∀ (y1 y2 y3 s0 : Int) (a : Nat → Nat → Int), (((((a 146 22) - (a 146 23)) + (2 * y3)) + s0) + 1).toNat ≤ n → iv a → jfr jW_X12_rates a0 a → 0 ≤ y1 → y1 ≤ 1999 → 0 ≤ y3 → y3 ≤ 1 → 0 ≤ s0 → s0 ≤ 1 → a 146 68 ≤ 9 → a 146 23 ≤ a 146 22 → 0 ≤ y2 → y2 ≤ 13 → (y3 = 1 → y2 ≤ 12) → 0 ≤ y3 → 0 ≤ s0 → y3 ≤ 1 → s0 ≤ 1 → (s0 = 1 → (a 146 23 < a 146 22 ∧ ¬ a 164 ((a 146 23).toNat) = 32)) → a 146 22 = a0 146 22 → (0 ≤ x1 ∧ x1 ≤ 1999) → (a0 146 22 = 0 → (y3 = 0 ∧ a 146 24 = 1)) → jt (jxX E d 282 70 [some (.inr (.inr (.inl 146))), some (.inl y1), some (.inl y2), some (.inl y3), none, none] [.inl s0] (jxSH, a, b0)) (jQ_X12_rates x1 a0 b0)) ∧ (∀ (y1 y2 y3 : Int) (a : Nat → Nat → Int), ((((a 146 22) - (a 146 23)) + (2 * y3)) + 2).toNat ≤ n → iv a → jfr jW_X12_rates a0 a → 0 ≤ y1 → y1 ≤ 1999 → 1 ≤ y3 → y3 ≤ 1 → a 146 68 ≤ 9 → a 146 23 ≤ a 146 22 → 0 ≤ y2 → y2 ≤ 13 → (y3 = 1 → y2 ≤ 12) → 0 ≤ y3 → y3 ≤ 1 → a 146 23 < a 146 22 → ¬ a 164 ((a 146 23).toNat) = 32 → a 146 22 = a0 146 22 → (0 ≤ x1 ∧ x1 ≤ 1999) → 1 ≤ a0 146 22 → jt (jxX E d 282 65 [some (.inr (.inr (.inl 146))), some (.inl y1), some (.inl y2), some (.inl y3), none, none] [] (jxSH, a, b0)) (jQ_X12_rates x1 a0 b0)) ∧ (∀ (y1 y2 y3 : Int) (a : Nat → Nat → Int), ((((a 146 22) - (a 146 23)) + (2 * y3)) + 1).toNat ≤ n → iv a → jfr jW_X12_rates a0 a → 0 ≤ y1 → y1 ≤ 1999 → 0 ≤ y3 → y3 ≤ 1 → a 146 68 ≤ 9 → a 146 23 ≤ a 146 22 → 0 ≤ y2 → y2 ≤ 13 → (y3 = 1 → y2 ≤ 12) → 0 ≤ y3 → y3 ≤ 1 → a 146 22 = a0 146 22 → (0 ≤ x1 ∧ x1 ≤ 1999) → (a0 146 22 = 0 → (y3 = 0 ∧ a 146 24 = 1)) → jt (jxX E d 282 69 [some (.inr (.inr (.inl 146))), some (.inl y1), some (.inl y2), some (.inl y3), none, none] [] (jxSH, a, b0)) (jQ_X12_rates x1 a0 b0)) ∧ (∀ (y1 y2 y3 y4 : Int) (a : Nat → Nat → Int), ((((a 146 22) - (a 146 23)) + y3) + y4).toNat ≤ n → iv a → jfr jW_X12_rates a0 a → 0 ≤ y1 → y1 ≤ 1999 → 0 ≤ y3 → y3 ≤ 1 → 0 ≤ y4 → y4 ≤ 1 → a 146 68 ≤ 9 → a 146 23 ≤ a 146 22 → 0 ≤ y2 → y2 ≤ 13 → (y3 = 1 → y2 ≤ 12) → 0 ≤ y3 → 0 ≤ y4 → y3 ≤ 1 → y4 ≤ 1 → a 146 22 = a0 146 22 → (0 ≤ x1 ∧ x1 ≤ 1999) → (a0 146 22 = 0 → (((a 146 24 = 0 ∧ ¬ y3 = 0) ∧ ¬ y4 = 0) ∨ (y3 = 0 ∧ a 146 24 = 1))) → jt (jxX E d 282 35 [some (.inr (.inr (.inl 146))), some (.inl y1), some (.inl y2), some (.inl y3), some (.inl y4), none] [] (jxSH, a, b0)) (jQ_X12_rates x1 a0 b0)) := by
  refine jx_ind fun n ih => ?_
  have ih96 : ∀ (y1 y2 y3 y4 : Int) (a : Nat → Nat → Int), (((((a 146 22) - (a 146 23)) + (2 * y3)) + y4) + 1).toNat < n → iv a → jfr jW_X12_rates a0 a → 0 ≤ y1 → y1 ≤ 1999 → 0 ≤ y3 → y3 ≤ 1 → 0 ≤ y4 → y4 ≤ 1 → a 146 68 ≤ 9 → a 146 23 ≤ a 146 22 → 0 ≤ y2 → y2 ≤ 13 → (y3 = 1 → y2 ≤ 12) → 0 ≤ y3 → 0 ≤ y4 → y3 ≤ 1 → y4 ≤ 1 → (y4 = 1 → a 146 23 < a 146 22) → a 146 22 = a0 146 22 → (0 ≤ x1 ∧ x1 ≤ 1999) → (a0 146 22 = 0 → (y3 = 0 ∧ a 146 24 = 1)) → jt (jxX E d 282 96 [some (.inr (.inr (.inl 146))), some (.inl y1), some (.inl y2), some (.inl y3), some (.inl y4), none] [] (jxSH, a, b0)) (jQ_X12_rates x1 a0 b0) := fun y1 y2 y3 y4 a hlt i0 i1 i2 i3 i4 i5 i6 i7 i8 i9 i10 i11 i12 i13 i14 i15 i16 i17 i18 i19 i20 => (ih _ hlt).1 y1 y2 y3 y4 a (Nat.le_refl _) i0 i1 i2 i3 i4 i5 i6 i7 i8 i9 i10 i11 i12 i13 i14 i15 i16 i17 i18 i19 i20
  have ih70 : ∀ (y1 y2 y3 s0 : Int) (a : Nat → Nat → Int), (((((a 146 22) - (a 146 23)) + (2 * y3)) + s0) + 1).toNat < n → iv a → jfr jW_X12_rates a0 a → 0 ≤ y1 → y1 ≤ 1999 → 0 ≤ y3 → y3 ≤ 1 → 0 ≤ s0 → s0 ≤ 1 → a 146 68 ≤ 9 → a 146 23 ≤ a 146 22 → 0 ≤ y2 → y2 ≤ 13 → (y3 = 1 → y2 ≤ 12) → 0 ≤ y3 → 0 ≤ s0 → y3 ≤ 1 → s0 ≤ 1 → (s0 = 1 → (a 146 23 < a 146 22 ∧ ¬ a 164 ((a 146 23).toNat) = 32)) → a 146 22 = a0 146 22 → (0 ≤ x1 ∧ x1 ≤ 1999) → (a0 146 22 = 0 → (y3 = 0 ∧ a 146 24 = 1)) → jt (jxX E d 282 70 [some (.inr (.inr (.inl 146))), some (.inl y1), some (.inl y2), some (.inl y3), none, none] [.inl s0] (jxSH, a, b0)) (jQ_X12_rates x1 a0 b0) := fun y1 y2 y3 s0 a hlt i0 i1 i2 i3 i4 i5 i6 i7 i8 i9 i10 i11 i12 i13 i14 i15 i16 i17 i18 i19 i20 => (ih _ hlt).2.1 y1 y2 y3 s0 a (Nat.le_refl _) i0 i1 i2 i3 i4 i5 i6 i7 i8 i9 i10 i11 i12 i13 i14 i15 i16 i17 i18 i19 i20
  have ih65 : ∀ (y1 y2 y3 : Int) (a : Nat → Nat → Int), ((((a 146 22) - (a 146 23)) + (2 * y3)) + 2).toNat < n → iv a → jfr jW_X12_rates a0 a → 0 ≤ y1 → y1 ≤ 1999 → 1 ≤ y3 → y3 ≤ 1 → a 146 68 ≤ 9 → a 146 23 ≤ a 146 22 → 0 ≤ y2 → y2 ≤ 13 → (y3 = 1 → y2 ≤ 12) → 0 ≤ y3 → y3 ≤ 1 → a 146 23 < a 146 22 → ¬ a 164 ((a 146 23).toNat) = 32 → a 146 22 = a0 146 22 → (0 ≤ x1 ∧ x1 ≤ 1999) → 1 ≤ a0 146 22 → jt (jxX E d 282 65 [some (.inr (.inr (.inl 146))), some (.inl y1), some (.inl y2), some (.inl y3), none, none] [] (jxSH, a, b0)) (jQ_X12_rates x1 a0 b0) := fun y1 y2 y3 a hlt i0 i1 i2 i3 i4 i5 i6 i7 i8 i9 i10 i11 i12 i13 i14 i15 i16 i17 => (ih _ hlt).2.2.1 y1 y2 y3 a (Nat.le_refl _) i0 i1 i2 i3 i4 i5 i6 i7 i8 i9 i10 i11 i12 i13 i14 i15 i16 i17
  have ih69 : ∀ (y1 y2 y3 : Int) (a : Nat → Nat → Int), ((((a 146 22) - (a 146 23)) + (2 * y3)) + 1).toNat < n → iv a → jfr jW_X12_rates a0 a → 0 ≤ y1 → y1 ≤ 1999 → 0 ≤ y3 → y3 ≤ 1 → a 146 68 ≤ 9 → a 146 23 ≤ a 146 22 → 0 ≤ y2 → y2 ≤ 13 → (y3 = 1 → y2 ≤ 12) → 0 ≤ y3 → y3 ≤ 1 → a 146 22 = a0 146 22 → (0 ≤ x1 ∧ x1 ≤ 1999) → (a0 146 22 = 0 → (y3 = 0 ∧ a 146 24 = 1)) → jt (jxX E d 282 69 [some (.inr (.inr (.inl 146))), some (.inl y1), some (.inl y2), some (.inl y3), none, none] [] (jxSH, a, b0)) (jQ_X12_rates x1 a0 b0) := fun y1 y2 y3 a hlt i0 i1 i2 i3 i4 i5 i6 i7 i8 i9 i10 i11 i12 i13 i14 i15 => (ih _ hlt).2.2.2.1 y1 y2 y3 a (Nat.le_refl _) i0 i1 i2 i3 i4 i5 i6 i7 i8 i9 i10 i11 i12 i13 i14 i15
  have ih35 : ∀ (y1 y2 y3 y4 : Int) (a : Nat → Nat → Int), ((((a 146 22) - (a 146 23)) + y3) + y4).toNat < n → iv a → jfr jW_X12_rates a0 a → 0 ≤ y1 → y1 ≤ 1999 → 0 ≤ y3 → y3 ≤ 1 → 0 ≤ y4 → y4 ≤ 1 → a 146 68 ≤ 9 → a 146 23 ≤ a 146 22 → 0 ≤ y2 → y2 ≤ 13 → (y3 = 1 → y2 ≤ 12) → 0 ≤ y3 → 0 ≤ y4 → y3 ≤ 1 → y4 ≤ 1 → a 146 22 = a0 146 22 → (0 ≤ x1 ∧ x1 ≤ 1999) → (a0 146 22 = 0 → (((a 146 24 = 0 ∧ ¬ y3 = 0) ∧ ¬ y4 = 0) ∨ (y3 = 0 ∧ a 146 24 = 1))) → jt (jxX E d 282 35 [some (.inr (.inr (.inl 146))), some (.inl y1), some (.inl y2), some (.inl y3), some (.inl y4), none] [] (jxSH, a, b0)) (jQ_X12_rates x1 a0 b0) := fun y1 y2 y3 y4 a hlt i0 i1 i2 i3 i4 i5 i6 i7 i8 i9 i10 i11 i12 i13 i14 i15 i16 i17 i18 i19 => (ih _ hlt).2.2.2.2 y1 y2 y3 y4 a (Nat.le_refl _) i0 i1 i2 i3 i4 i5 i6 i7 i8 i9 i10 i11 i12 i13 i14 i15 i16 i17 i18 i19
  have hc96 : ∀ (y1 y2 y3 y4 : Int) (a : Nat → Nat → Int), (((((a 146 22) - (a 146 23)) + (2 * y3)) + y4) + 1).toNat ≤ n → iv a → jfr jW_X12_rates a0 a → 0 ≤ y1 → y1 ≤ 1999 → 0 ≤ y3 → y3 ≤ 1 → 0 ≤ y4 → y4 ≤ 1 → a 146 68 ≤ 9 → a 146 23 ≤ a 146 22 → 0 ≤ y2 → y2 ≤ 13 → (y3 = 1 → y2 ≤ 12) → 0 ≤ y3 → 0 ≤ y4 → y3 ≤ 1 → y4 ≤ 1 → (y4 = 1 → a 146 23 < a 146 22) → a 146 22 = a0 146 22 → (0 ≤ x1 ∧ x1 ≤ 1999) → (a0 146 22 = 0 → (y3 = 0 ∧ a 146 24 = 1)) → jt (jxX E d 282 96 [some (.inr (.inr (.inl 146))), some (.inl y1), some (.inl y2), some (.inl y3), some (.inl y4), none] [] (jxSH, a, b0)) (jQ_X12_rates x1 a0 b0) := by
    intro y1 y2 y3 y4 a hm hv hf hi0 hi1 hi2 hi3 hi4 hi5 hi6 hi7 hi8 hi9 hi10 hi11 hi12 hi13 hi14 hi15 hi16 hi17 hi18
    refine jt_eq (bq_X12_rates_96 E d y1 y2 y3 y4 a b0) ?_
    have h1873_ := iv_get hv (k := 146) (j := 68) (l := 0) (u := 10) rfl
    have h1874_ := iv_get hv (k := 146) (j := 23) (l := 0) (u := 200) rfl
    have h1875_ := iv_get hv (k := 146) (j := 22) (l := 0) (u := 200) rfl
    have h1876_ := iv_get hv0 (k := 146) (j := 22) (l := 0) (u := 200) rfl
    refine jt_ite (fun c1877_ => ?_) (fun c1877_ => ?_)
    ·
      exact ih35 y1 y2 y3 y4 a (show ((((a 146 22) - (a 146 23)) + y3) + y4).toNat < n from by omega) hv hf (show 0 ≤ y1 from by omega) (show y1 ≤ 1999 from by omega) (show 0 ≤ y3 from by omega) (show y3 ≤ 1 from by omega) (show 0 ≤ y4 from by omega) (show y4 ≤ 1 from by omega) (show a 146 68 ≤ 9 from by omega) (show a 146 23 ≤ a 146 22 from by omega) (show 0 ≤ y2 from by omega) (show y2 ≤ 13 from by omega) (show (y3 = 1 → y2 ≤ 12) from by omega) (show 0 ≤ y3 from by omega) (show 0 ≤ y4 from by omega) (show y3 ≤ 1 from by omega) (show y4 ≤ 1 from by omega) (show a 146 22 = a0 146 22 from by omega) (show (0 ≤ x1 ∧ x1 ≤ 1999) from by omega) (show (a0 146 22 = 0 → (((a 146 24 = 0 ∧ ¬ y3 = 0) ∧ ¬ y4 = 0) ∨ (y3 = 0 ∧ a 146 24 = 1))) from by omega)
    ·
      have h1879_ : jxw ((a 146 23) + 1) = (a 146 23) + 1 := jxw_id (by omega) (by omega)
      have hv1878_ : iv (jxu a 146 23 (jxw ((a 146 23) + 1))) := iv_put hv (l := 0) (u := 200) rfl (by omega) (by omega)
      have hf1880_ : jfr jW_X12_rates a0 (jxu a 146 23 (jxw ((a 146 23) + 1))) := jfr_put hf rfl
      exact ih35 y1 y2 y3 y4 (jxu a 146 23 (jxw ((a 146 23) + 1))) (show ((((a 146 22) - (jxw ((a 146 23) + 1))) + y3) + y4).toNat < n from by omega) hv1878_ hf1880_ (show 0 ≤ y1 from by omega) (show y1 ≤ 1999 from by omega) (show 0 ≤ y3 from by omega) (show y3 ≤ 1 from by omega) (show 0 ≤ y4 from by omega) (show y4 ≤ 1 from by omega) (show a 146 68 ≤ 9 from by omega) (show jxw ((a 146 23) + 1) ≤ a 146 22 from by omega) (show 0 ≤ y2 from by omega) (show y2 ≤ 13 from by omega) (show (y3 = 1 → y2 ≤ 12) from by omega) (show 0 ≤ y3 from by omega) (show 0 ≤ y4 from by omega) (show y3 ≤ 1 from by omega) (show y4 ≤ 1 from by omega) (show a 146 22 = a0 146 22 from by omega) (show (0 ≤ x1 ∧ x1 ≤ 1999) from by omega) (show (a0 146 22 = 0 → (((a 146 24 = 0 ∧ ¬ y3 = 0) ∧ ¬ y4 = 0) ∨ (y3 = 0 ∧ a 146 24 = 1))) from by omega)
  have hc70 : ∀ (y1 y2 y3 s0 : Int) (a : Nat → Nat → Int), (((((a 146 22) - (a 146 23)) + (2 * y3)) + s0) + 1).toNat ≤ n → iv a → jfr jW_X12_rates a0 a → 0 ≤ y1 → y1 ≤ 1999 → 0 ≤ y3 → y3 ≤ 1 → 0 ≤ s0 → s0 ≤ 1 → a 146 68 ≤ 9 → a 146 23 ≤ a 146 22 → 0 ≤ y2 → y2 ≤ 13 → (y3 = 1 → y2 ≤ 12) → 0 ≤ y3 → 0 ≤ s0 → y3 ≤ 1 → s0 ≤ 1 → (s0 = 1 → (a 146 23 < a 146 22 ∧ ¬ a 164 ((a 146 23).toNat) = 32)) → a 146 22 = a0 146 22 → (0 ≤ x1 ∧ x1 ≤ 1999) → (a0 146 22 = 0 → (y3 = 0 ∧ a 146 24 = 1)) → jt (jxX E d 282 70 [some (.inr (.inr (.inl 146))), some (.inl y1), some (.inl y2), some (.inl y3), none, none] [.inl s0] (jxSH, a, b0)) (jQ_X12_rates x1 a0 b0) := by
    intro y1 y2 y3 s0 a hm hv hf hi0 hi1 hi2 hi3 hi4 hi5 hi6 hi7 hi8 hi9 hi10 hi11 hi12 hi13 hi14 hi15 hi16 hi17 hi18
    refine jt_eq (bq_X12_rates_70 E d y1 y2 y3 s0 a b0) ?_
    have h1881_ := iv_get hv (k := 146) (j := 68) (l := 0) (u := 10) rfl
    have h1882_ := iv_get hv (k := 146) (j := 23) (l := 0) (u := 200) rfl
    have h1883_ := iv_get hv (k := 146) (j := 22) (l := 0) (u := 200) rfl
    have h1884_ := iv_get hv (k := 164) (j := (a 146 23).toNat) (l := (-128)) (u := 127) rfl
    have h1885_ : a 164 ((a 146 23).toNat) = a0 164 ((a 146 23).toNat) := hf 164 ((a 146 23).toNat) rfl
    have h1886_ := iv_get hv0 (k := 164) (j := (a 146 23).toNat) (l := (-128)) (u := 127) rfl
    have h1887_ := iv_get hv0 (k := 146) (j := 22) (l := 0) (u := 200) rfl
    refine jt_ite (fun c1888_ => ?_) (fun c1888_ => ?_)
    ·
      exact hc96 y1 y2 y3 s0 a (show (((((a 146 22) - (a 146 23)) + (2 * y3)) + s0) + 1).toNat ≤ n from by omega) hv hf (show 0 ≤ y1 from by omega) (show y1 ≤ 1999 from by omega) (show 0 ≤ y3 from by omega) (show y3 ≤ 1 from by omega) (show 0 ≤ s0 from by omega) (show s0 ≤ 1 from by omega) (show a 146 68 ≤ 9 from by omega) (show a 146 23 ≤ a 146 22 from by omega) (show 0 ≤ y2 from by omega) (show y2 ≤ 13 from by omega) (show (y3 = 1 → y2 ≤ 12) from by omega) (show 0 ≤ y3 from by omega) (show 0 ≤ s0 from by omega) (show y3 ≤ 1 from by omega) (show s0 ≤ 1 from by omega) (show (s0 = 1 → a 146 23 < a 146 22) from by omega) (show a 146 22 = a0 146 22 from by omega) (show (0 ≤ x1 ∧ x1 ≤ 1999) from by omega) (show (a0 146 22 = 0 → (y3 = 0 ∧ a 146 24 = 1)) from by omega)
    ·
      refine jt_bI (sp_X12_see E d (jd_le hd rfl) a b0 hv (show a 146 23 ≤ a 146 22 from by omega)) (fun r1889_ a1889_ b1889_ h1889_ => ?_)
      obtain ⟨hv1889_, hf1889_, rfl, hq1889_0, hq1889_1, hq1889_2, hq1889_3⟩ := h1889_
      have h1890_ := iv_get hv1889_ (k := 146) (j := 23) (l := 0) (u := 200) rfl
      have h1891_ := iv_get hv1889_ (k := 164) (j := (a1889_ 146 23).toNat) (l := (-128)) (u := 127) rfl
      have h1892_ : a1889_ 164 ((a1889_ 146 23).toNat) = a 164 ((a1889_ 146 23).toNat) := hf1889_ 164 ((a1889_ 146 23).toNat) rfl
      have h1893_ := iv_get hv (k := 164) (j := (a1889_ 146 23).toNat) (l := (-128)) (u := 127) rfl
      have h1894_ : a 164 ((a1889_ 146 23).toNat) = a0 164 ((a1889_ 146 23).toNat) := hf 164 ((a1889_ 146 23).toNat) rfl
      have h1895_ := iv_get hv0 (k := 164) (j := (a1889_ 146 23).toNat) (l := (-128)) (u := 127) rfl
      refine jt_ite (fun c1896_ => ?_) (fun c1896_ => ?_)
      ·
        have hf1897_ : jfr jW_X12_rates a0 a1889_ := jfr_tr hf hf1889_ rfl
        have h1898_ := iv_get hv1889_ (k := 146) (j := 68) (l := 0) (u := 10) rfl
        have h1899_ : a1889_ 146 68 = a 146 68 := hf1889_ 146 68 rfl
        have h1900_ := iv_get hv1889_ (k := 146) (j := 22) (l := 0) (u := 200) rfl
        have h1901_ : a1889_ 146 22 = a 146 22 := hf1889_ 146 22 rfl
        have h1902_ : a1889_ 146 24 = a 146 24 := hf1889_ 146 24 rfl
        exact hc96 y1 y2 y3 s0 a1889_ (show (((((a1889_ 146 22) - (a1889_ 146 23)) + (2 * y3)) + s0) + 1).toNat ≤ n from by omega) hv1889_ hf1897_ (show 0 ≤ y1 from by omega) (show y1 ≤ 1999 from by omega) (show 0 ≤ y3 from by omega) (show y3 ≤ 1 from by omega) (show 0 ≤ s0 from by omega) (show s0 ≤ 1 from by omega) (show a1889_ 146 68 ≤ 9 from by omega) (show a1889_ 146 23 ≤ a1889_ 146 22 from by omega) (show 0 ≤ y2 from by omega) (show y2 ≤ 13 from by omega) (show (y3 = 1 → y2 ≤ 12) from by omega) (show 0 ≤ y3 from by omega) (show 0 ≤ s0 from by omega) (show y3 ≤ 1 from by omega) (show s0 ≤ 1 from by omega) (show (s0 = 1 → a1889_ 146 23 < a1889_ 146 22) from by omega) (show a1889_ 146 22 = a0 146 22 from by omega) (show (0 ≤ x1 ∧ x1 ≤ 1999) from by omega) (show (a0 146 22 = 0 → (y3 = 0 ∧ a1889_ 146 24 = 1)) from by omega)
      ·
        refine jt_bI (sp_X12_fails E d (jd_le hd rfl) 0 (a1889_ 146 23) a1889_ b0 hv1889_) (fun r1903_ a1903_ b1903_ h1903_ => ?_)
        obtain ⟨hv1903_, hf1903_, rfl, hq1903_0, hq1903_1, hq1903_2, hq1903_3⟩ := h1903_
        have h1904_ : a1889_ 146 24 = a 146 24 := hf1889_ 146 24 rfl
        have hf1905_ : jfr jW_X12_rates a0 a1889_ := jfr_tr hf hf1889_ rfl
        have hf1906_ : jfr jW_X12_rates a0 a1903_ := jfr_tr hf1905_ hf1903_ rfl
        have h1907_ := iv_get hv1903_ (k := 146) (j := 68) (l := 0) (u := 10) rfl
        have h1908_ : a1903_ 146 68 = a1889_ 146 68 := hf1903_ 146 68 rfl
        have h1909_ := iv_get hv1889_ (k := 146) (j := 68) (l := 0) (u := 10) rfl
        have h1910_ : a1889_ 146 68 = a 146 68 := hf1889_ 146 68 rfl
        have h1911_ := iv_get hv1903_ (k := 146) (j := 23) (l := 0) (u := 200) rfl
        have h1912_ : a1903_ 146 23 = a1889_ 146 23 := hf1903_ 146 23 rfl
        have h1913_ := iv_get hv1903_ (k := 146) (j := 22) (l := 0) (u := 200) rfl
        have h1914_ : a1903_ 146 22 = a1889_ 146 22 := hf1903_ 146 22 rfl
        have h1915_ := iv_get hv1889_ (k := 146) (j := 22) (l := 0) (u := 200) rfl
        have h1916_ : a1889_ 146 22 = a 146 22 := hf1889_ 146 22 rfl
        exact hc96 y1 y2 r1903_ s0 a1903_ (show (((((a1903_ 146 22) - (a1903_ 146 23)) + (2 * r1903_)) + s0) + 1).toNat ≤ n from by omega) hv1903_ hf1906_ (show 0 ≤ y1 from by omega) (show y1 ≤ 1999 from by omega) (show 0 ≤ r1903_ from by omega) (show r1903_ ≤ 1 from by omega) (show 0 ≤ s0 from by omega) (show s0 ≤ 1 from by omega) (show a1903_ 146 68 ≤ 9 from by omega) (show a1903_ 146 23 ≤ a1903_ 146 22 from by omega) (show 0 ≤ y2 from by omega) (show y2 ≤ 13 from by omega) (show (r1903_ = 1 → y2 ≤ 12) from by omega) (show 0 ≤ r1903_ from by omega) (show 0 ≤ s0 from by omega) (show r1903_ ≤ 1 from by omega) (show s0 ≤ 1 from by omega) (show (s0 = 1 → a1903_ 146 23 < a1903_ 146 22) from by omega) (show a1903_ 146 22 = a0 146 22 from by omega) (show (0 ≤ x1 ∧ x1 ≤ 1999) from by omega) (show (a0 146 22 = 0 → (r1903_ = 0 ∧ a1903_ 146 24 = 1)) from by omega)
  have hc65 : ∀ (y1 y2 y3 : Int) (a : Nat → Nat → Int), ((((a 146 22) - (a 146 23)) + (2 * y3)) + 2).toNat ≤ n → iv a → jfr jW_X12_rates a0 a → 0 ≤ y1 → y1 ≤ 1999 → 1 ≤ y3 → y3 ≤ 1 → a 146 68 ≤ 9 → a 146 23 ≤ a 146 22 → 0 ≤ y2 → y2 ≤ 13 → (y3 = 1 → y2 ≤ 12) → 0 ≤ y3 → y3 ≤ 1 → a 146 23 < a 146 22 → ¬ a 164 ((a 146 23).toNat) = 32 → a 146 22 = a0 146 22 → (0 ≤ x1 ∧ x1 ≤ 1999) → 1 ≤ a0 146 22 → jt (jxX E d 282 65 [some (.inr (.inr (.inl 146))), some (.inl y1), some (.inl y2), some (.inl y3), none, none] [] (jxSH, a, b0)) (jQ_X12_rates x1 a0 b0) := by
    intro y1 y2 y3 a hm hv hf hi0 hi1 hi2 hi3 hi4 hi5 hi6 hi7 hi8 hi9 hi10 hi11 hi12 hi13 hi14 hi15
    refine jt_eq (bq_X12_rates_65 E d y1 y2 y3 a b0) ?_
    have h1917_ := iv_get hv (k := 146) (j := 68) (l := 0) (u := 10) rfl
    have h1918_ := iv_get hv (k := 146) (j := 23) (l := 0) (u := 200) rfl
    have h1919_ := iv_get hv (k := 146) (j := 22) (l := 0) (u := 200) rfl
    have h1920_ := iv_get hv (k := 164) (j := (a 146 23).toNat) (l := (-128)) (u := 127) rfl
    have h1921_ : a 164 ((a 146 23).toNat) = a0 164 ((a 146 23).toNat) := hf 164 ((a 146 23).toNat) rfl
    have h1922_ := iv_get hv0 (k := 164) (j := (a 146 23).toNat) (l := (-128)) (u := 127) rfl
    have h1923_ := iv_get hv0 (k := 146) (j := 22) (l := 0) (u := 200) rfl
    exact hc70 y1 y2 y3 1 a (show (((((a 146 22) - (a 146 23)) + (2 * y3)) + 1) + 1).toNat ≤ n from by omega) hv hf (show 0 ≤ y1 from by omega) (show y1 ≤ 1999 from by omega) (show 0 ≤ y3 from by omega) (show y3 ≤ 1 from by omega) (show 0 ≤ 1 from by omega) (show 1 ≤ 1 from by omega) (show a 146 68 ≤ 9 from by omega) (show a 146 23 ≤ a 146 22 from by omega) (show 0 ≤ y2 from by omega) (show y2 ≤ 13 from by omega) (show (y3 = 1 → y2 ≤ 12) from by omega) (show 0 ≤ y3 from by omega) (show 0 ≤ 1 from by omega) (show y3 ≤ 1 from by omega) (show 1 ≤ 1 from by omega) (show (1 = 1 → (a 146 23 < a 146 22 ∧ ¬ a 164 ((a 146 23).toNat) = 32)) from by omega) (show a 146 22 = a0 146 22 from by omega) (show (0 ≤ x1 ∧ x1 ≤ 1999) from by omega) (show (a0 146 22 = 0 → (y3 = 0 ∧ a 146 24 = 1)) from by omega)
  have hc69 : ∀ (y1 y2 y3 : Int) (a : Nat → Nat → Int), ((((a 146 22) - (a 146 23)) + (2 * y3)) + 1).toNat ≤ n → iv a → jfr jW_X12_rates a0 a → 0 ≤ y1 → y1 ≤ 1999 → 0 ≤ y3 → y3 ≤ 1 → a 146 68 ≤ 9 → a 146 23 ≤ a 146 22 → 0 ≤ y2 → y2 ≤ 13 → (y3 = 1 → y2 ≤ 12) → 0 ≤ y3 → y3 ≤ 1 → a 146 22 = a0 146 22 → (0 ≤ x1 ∧ x1 ≤ 1999) → (a0 146 22 = 0 → (y3 = 0 ∧ a 146 24 = 1)) → jt (jxX E d 282 69 [some (.inr (.inr (.inl 146))), some (.inl y1), some (.inl y2), some (.inl y3), none, none] [] (jxSH, a, b0)) (jQ_X12_rates x1 a0 b0) := by
    intro y1 y2 y3 a hm hv hf hi0 hi1 hi2 hi3 hi4 hi5 hi6 hi7 hi8 hi9 hi10 hi11 hi12 hi13
    refine jt_eq (bq_X12_rates_69 E d y1 y2 y3 a b0) ?_
    have h1924_ := iv_get hv (k := 146) (j := 68) (l := 0) (u := 10) rfl
    have h1925_ := iv_get hv (k := 146) (j := 23) (l := 0) (u := 200) rfl
    have h1926_ := iv_get hv (k := 146) (j := 22) (l := 0) (u := 200) rfl
    have h1927_ := iv_get hv0 (k := 146) (j := 22) (l := 0) (u := 200) rfl
    have h1928_ := iv_get hv (k := 164) (j := (a 146 23).toNat) (l := (-128)) (u := 127) rfl
    have h1929_ : a 164 ((a 146 23).toNat) = a0 164 ((a 146 23).toNat) := hf 164 ((a 146 23).toNat) rfl
    have h1930_ := iv_get hv0 (k := 164) (j := (a 146 23).toNat) (l := (-128)) (u := 127) rfl
    exact hc70 y1 y2 y3 0 a (show (((((a 146 22) - (a 146 23)) + (2 * y3)) + 0) + 1).toNat ≤ n from by omega) hv hf (show 0 ≤ y1 from by omega) (show y1 ≤ 1999 from by omega) (show 0 ≤ y3 from by omega) (show y3 ≤ 1 from by omega) (show 0 ≤ 0 from by omega) (show 0 ≤ 1 from by omega) (show a 146 68 ≤ 9 from by omega) (show a 146 23 ≤ a 146 22 from by omega) (show 0 ≤ y2 from by omega) (show y2 ≤ 13 from by omega) (show (y3 = 1 → y2 ≤ 12) from by omega) (show 0 ≤ y3 from by omega) (show 0 ≤ 0 from by omega) (show y3 ≤ 1 from by omega) (show 0 ≤ 1 from by omega) (show (0 = 1 → (a 146 23 < a 146 22 ∧ ¬ a 164 ((a 146 23).toNat) = 32)) from by omega) (show a 146 22 = a0 146 22 from by omega) (show (0 ≤ x1 ∧ x1 ≤ 1999) from by omega) (show (a0 146 22 = 0 → (y3 = 0 ∧ a 146 24 = 1)) from by omega)
  have hc35 : ∀ (y1 y2 y3 y4 : Int) (a : Nat → Nat → Int), ((((a 146 22) - (a 146 23)) + y3) + y4).toNat ≤ n → iv a → jfr jW_X12_rates a0 a → 0 ≤ y1 → y1 ≤ 1999 → 0 ≤ y3 → y3 ≤ 1 → 0 ≤ y4 → y4 ≤ 1 → a 146 68 ≤ 9 → a 146 23 ≤ a 146 22 → 0 ≤ y2 → y2 ≤ 13 → (y3 = 1 → y2 ≤ 12) → 0 ≤ y3 → 0 ≤ y4 → y3 ≤ 1 → y4 ≤ 1 → a 146 22 = a0 146 22 → (0 ≤ x1 ∧ x1 ≤ 1999) → (a0 146 22 = 0 → (((a 146 24 = 0 ∧ ¬ y3 = 0) ∧ ¬ y4 = 0) ∨ (y3 = 0 ∧ a 146 24 = 1))) → jt (jxX E d 282 35 [some (.inr (.inr (.inl 146))), some (.inl y1), some (.inl y2), some (.inl y3), some (.inl y4), none] [] (jxSH, a, b0)) (jQ_X12_rates x1 a0 b0) := by
    intro y1 y2 y3 y4 a hm hv hf hi0 hi1 hi2 hi3 hi4 hi5 hi6 hi7 hi8 hi9 hi10 hi11 hi12 hi13 hi14 hi15 hi16 hi17
    refine jt_eq (bq_X12_rates_35 E d y1 y2 y3 y4 a b0) ?_
    have h1931_ := iv_get hv (k := 146) (j := 68) (l := 0) (u := 10) rfl
    have h1932_ := iv_get hv (k := 146) (j := 23) (l := 0) (u := 200) rfl
    have h1933_ := iv_get hv (k := 146) (j := 22) (l := 0) (u := 200) rfl
    have h1934_ := iv_get hv0 (k := 146) (j := 22) (l := 0) (u := 200) rfl
    refine jt_ite (fun c1935_ => ?_) (fun c1935_ => ?_)
    ·
      exact cp_X12_rates_114 E d hd x1 a0 b0 hv0 y1 y2 y3 a hv hf (show 0 ≤ y1 from by omega) (show y1 ≤ 1999 from by omega) (show 0 ≤ y3 from by omega) (show y3 ≤ 1 from by omega) (show a 146 68 ≤ 9 from by omega) (show a 146 23 ≤ a 146 22 from by omega) (show 0 ≤ y2 from by omega) (show y2 ≤ 13 from by omega) (show (y3 = 1 → y2 ≤ 12) from by omega) (show 0 ≤ y3 from by omega) (show y3 ≤ 1 from by omega) (show a 146 22 = a0 146 22 from by omega) (show (0 ≤ x1 ∧ x1 ≤ 1999) from by omega) (show (a0 146 22 = 0 → (y3 = 0 ∧ a 146 24 = 1)) from by omega)
    ·
      refine jt_ite (fun c1936_ => ?_) (fun c1936_ => ?_)
      ·
        exact cp_X12_rates_114 E d hd x1 a0 b0 hv0 y1 y2 y3 a hv hf (show 0 ≤ y1 from by omega) (show y1 ≤ 1999 from by omega) (show 0 ≤ y3 from by omega) (show y3 ≤ 1 from by omega) (show a 146 68 ≤ 9 from by omega) (show a 146 23 ≤ a 146 22 from by omega) (show 0 ≤ y2 from by omega) (show y2 ≤ 13 from by omega) (show (y3 = 1 → y2 ≤ 12) from by omega) (show 0 ≤ y3 from by omega) (show y3 ≤ 1 from by omega) (show a 146 22 = a0 146 22 from by omega) (show (0 ≤ x1 ∧ x1 ≤ 1999) from by omega) (show (a0 146 22 = 0 → (y3 = 0 ∧ a 146 24 = 1)) from by omega)
      ·
        refine jt_bI (sp_X12_clause E d (jd_le hd rfl) y2 a b0 hv (show a 146 23 ≤ a 146 22 from by omega) (show 0 ≤ y2 from by omega) (show y2 ≤ 12 from by omega)) (fun r1937_ a1937_ b1937_ h1937_ => ?_)
        obtain ⟨hv1937_, hf1937_, rfl, hq1937_0, hq1937_1, hq1937_2, hq1937_3, hq1937_4⟩ := h1937_
        have h1938_ := iv_get hv1937_ (k := 146) (j := 23) (l := 0) (u := 200) rfl
        have h1939_ := iv_get hv1937_ (k := 146) (j := 22) (l := 0) (u := 200) rfl
        have h1940_ : a1937_ 146 22 = a 146 22 := hf1937_ 146 22 rfl
        refine jt_ite (fun c1941_ => ?_) (fun c1941_ => ?_)
        ·
          have hf1942_ : jfr jW_X12_rates a0 a1937_ := jfr_tr hf hf1937_ rfl
          have h1943_ := iv_get hv1937_ (k := 146) (j := 68) (l := 0) (u := 10) rfl
          have h1944_ : a1937_ 146 68 = a 146 68 := hf1937_ 146 68 rfl
          have h1945_ : jxw (y2 + 1) = y2 + 1 := jxw_id (by omega) (by omega)
          exact hc69 y1 (jxw (y2 + 1)) r1937_ a1937_ (show ((((a1937_ 146 22) - (a1937_ 146 23)) + (2 * r1937_)) + 1).toNat ≤ n from by omega) hv1937_ hf1942_ (show 0 ≤ y1 from by omega) (show y1 ≤ 1999 from by omega) (show 0 ≤ r1937_ from by omega) (show r1937_ ≤ 1 from by omega) (show a1937_ 146 68 ≤ 9 from by omega) (show a1937_ 146 23 ≤ a1937_ 146 22 from by omega) (show 0 ≤ jxw (y2 + 1) from by omega) (show jxw (y2 + 1) ≤ 13 from by omega) (show (r1937_ = 1 → jxw (y2 + 1) ≤ 12) from by omega) (show 0 ≤ r1937_ from by omega) (show r1937_ ≤ 1 from by omega) (show a1937_ 146 22 = a0 146 22 from by omega) (show (0 ≤ x1 ∧ x1 ≤ 1999) from by omega) (show (a0 146 22 = 0 → (r1937_ = 0 ∧ a1937_ 146 24 = 1)) from by omega)
        ·
          refine jt_bI (sp_X12_see E d (jd_le hd rfl) a1937_ b0 hv1937_ (show a1937_ 146 23 ≤ a1937_ 146 22 from by omega)) (fun r1946_ a1946_ b1946_ h1946_ => ?_)
          obtain ⟨hv1946_, hf1946_, rfl, hq1946_0, hq1946_1, hq1946_2, hq1946_3⟩ := h1946_
          have h1947_ := iv_get hv1946_ (k := 146) (j := 23) (l := 0) (u := 200) rfl
          have h1948_ := iv_get hv1946_ (k := 164) (j := (a1946_ 146 23).toNat) (l := (-128)) (u := 127) rfl
          have h1949_ : a1946_ 164 ((a1946_ 146 23).toNat) = a1937_ 164 ((a1946_ 146 23).toNat) := hf1946_ 164 ((a1946_ 146 23).toNat) rfl
          have h1950_ := iv_get hv1937_ (k := 164) (j := (a1946_ 146 23).toNat) (l := (-128)) (u := 127) rfl
          have h1951_ : a1937_ 164 ((a1946_ 146 23).toNat) = a 164 ((a1946_ 146 23).toNat) := hf1937_ 164 ((a1946_ 146 23).toNat) rfl
          have h1952_ := iv_get hv (k := 164) (j := (a1946_ 146 23).toNat) (l := (-128)) (u := 127) rfl
          have h1953_ : a 164 ((a1946_ 146 23).toNat) = a0 164 ((a1946_ 146 23).toNat) := hf 164 ((a1946_ 146 23).toNat) rfl
          have h1954_ := iv_get hv0 (k := 164) (j := (a1946_ 146 23).toNat) (l := (-128)) (u := 127) rfl
          have h1955_ := iv_get hv1937_ (k := 164) (j := (a1937_ 146 23).toNat) (l := (-128)) (u := 127) rfl
          have h1956_ : a1937_ 164 ((a1937_ 146 23).toNat) = a 164 ((a1937_ 146 23).toNat) := hf1937_ 164 ((a1937_ 146 23).toNat) rfl
          have h1957_ := iv_get hv (k := 164) (j := (a1937_ 146 23).toNat) (l := (-128)) (u := 127) rfl
          have h1958_ : a 164 ((a1937_ 146 23).toNat) = a0 164 ((a1937_ 146 23).toNat) := hf 164 ((a1937_ 146 23).toNat) rfl
          have h1959_ := iv_get hv0 (k := 164) (j := (a1937_ 146 23).toNat) (l := (-128)) (u := 127) rfl
          refine jt_ite (fun c1960_ => ?_) (fun c1960_ => ?_)
          ·
            have hf1961_ : jfr jW_X12_rates a0 a1937_ := jfr_tr hf hf1937_ rfl
            have hf1962_ : jfr jW_X12_rates a0 a1946_ := jfr_tr hf1961_ hf1946_ rfl
            have h1963_ := iv_get hv1946_ (k := 146) (j := 68) (l := 0) (u := 10) rfl
            have h1964_ : a1946_ 146 68 = a1937_ 146 68 := hf1946_ 146 68 rfl
            have h1965_ := iv_get hv1937_ (k := 146) (j := 68) (l := 0) (u := 10) rfl
            have h1966_ : a1937_ 146 68 = a 146 68 := hf1937_ 146 68 rfl
            have h1967_ := iv_get hv1946_ (k := 146) (j := 22) (l := 0) (u := 200) rfl
            have h1968_ : a1946_ 146 22 = a1937_ 146 22 := hf1946_ 146 22 rfl
            have h1969_ : jxw (y2 + 1) = y2 + 1 := jxw_id (by omega) (by omega)
            have h1970_ : a1946_ 146 24 = a1937_ 146 24 := hf1946_ 146 24 rfl
            exact hc69 y1 (jxw (y2 + 1)) r1937_ a1946_ (show ((((a1946_ 146 22) - (a1946_ 146 23)) + (2 * r1937_)) + 1).toNat ≤ n from by omega) hv1946_ hf1962_ (show 0 ≤ y1 from by omega) (show y1 ≤ 1999 from by omega) (show 0 ≤ r1937_ from by omega) (show r1937_ ≤ 1 from by omega) (show a1946_ 146 68 ≤ 9 from by omega) (show a1946_ 146 23 ≤ a1946_ 146 22 from by omega) (show 0 ≤ jxw (y2 + 1) from by omega) (show jxw (y2 + 1) ≤ 13 from by omega) (show (r1937_ = 1 → jxw (y2 + 1) ≤ 12) from by omega) (show 0 ≤ r1937_ from by omega) (show r1937_ ≤ 1 from by omega) (show a1946_ 146 22 = a0 146 22 from by omega) (show (0 ≤ x1 ∧ x1 ≤ 1999) from by omega) (show (a0 146 22 = 0 → (r1937_ = 0 ∧ a1946_ 146 24 = 1)) from by omega)
          ·
            have hf1971_ : jfr jW_X12_rates a0 a1937_ := jfr_tr hf hf1937_ rfl
            have hf1972_ : jfr jW_X12_rates a0 a1946_ := jfr_tr hf1971_ hf1946_ rfl
            have h1973_ := iv_get hv1946_ (k := 146) (j := 68) (l := 0) (u := 10) rfl
            have h1974_ : a1946_ 146 68 = a1937_ 146 68 := hf1946_ 146 68 rfl
            have h1975_ := iv_get hv1937_ (k := 146) (j := 68) (l := 0) (u := 10) rfl
            have h1976_ : a1937_ 146 68 = a 146 68 := hf1937_ 146 68 rfl
            have h1977_ := iv_get hv1946_ (k := 146) (j := 22) (l := 0) (u := 200) rfl
            have h1978_ : a1946_ 146 22 = a1937_ 146 22 := hf1946_ 146 22 rfl
            have h1979_ : jxw (y2 + 1) = y2 + 1 := jxw_id (by omega) (by omega)
            exact hc65 y1 (jxw (y2 + 1)) r1937_ a1946_ (show ((((a1946_ 146 22) - (a1946_ 146 23)) + (2 * r1937_)) + 2).toNat ≤ n from by omega) hv1946_ hf1972_ (show 0 ≤ y1 from by omega) (show y1 ≤ 1999 from by omega) (show 1 ≤ r1937_ from by omega) (show r1937_ ≤ 1 from by omega) (show a1946_ 146 68 ≤ 9 from by omega) (show a1946_ 146 23 ≤ a1946_ 146 22 from by omega) (show 0 ≤ jxw (y2 + 1) from by omega) (show jxw (y2 + 1) ≤ 13 from by omega) (show (r1937_ = 1 → jxw (y2 + 1) ≤ 12) from by omega) (show 0 ≤ r1937_ from by omega) (show r1937_ ≤ 1 from by omega) (show a1946_ 146 23 < a1946_ 146 22 from by omega) (show ¬ a1946_ 164 ((a1946_ 146 23).toNat) = 32 from by omega) (show a1946_ 146 22 = a0 146 22 from by omega) (show (0 ≤ x1 ∧ x1 ≤ 1999) from by omega) (show 1 ≤ a0 146 22 from by omega)
  exact ⟨hc96, hc70, hc65, hc69, hc35⟩
theorem cp_X12_rates_30 (E : jxE) (d : Nat) (hd : Nat.ble 4 (d + 1) = true) (x1 : Int) (a0 b0 : Nat → Nat → Int) (hv0 : iv a0) : ∀ (y1 y2 : Int) (a : Nat → Nat → Int), iv a → jfr jW_X12_rates a0 a → 0 ≤ y1 → y1 ≤ 1999 → 0 ≤ y2 → y2 ≤ 0 → a 146 68 ≤ 9 → a 146 23 ≤ a 146 22 → a 146 22 = a0 146 22 → a 146 24 = 0 → (0 ≤ x1 ∧ x1 ≤ 1999) → jt (jxX E d 282 30 [some (.inr (.inr (.inl 146))), some (.inl y1), some (.inl y2), none, none, none] [] (jxSH, a, b0)) (jQ_X12_rates x1 a0 b0) := by
  intro y1 y2 a hv hf hi0 hi1 hi2 hi3 hi4 hi5 hi6 hi7 hi8
  refine jt_eq (bq_X12_rates_30 E d y1 y2 a b0) ?_
  have h1980_ := iv_get hv (k := 146) (j := 68) (l := 0) (u := 10) rfl
  have h1981_ := iv_get hv (k := 146) (j := 23) (l := 0) (u := 200) rfl
  have h1982_ := iv_get hv (k := 146) (j := 22) (l := 0) (u := 200) rfl
  have h1983_ := iv_get hv0 (k := 146) (j := 22) (l := 0) (u := 200) rfl
  exact (cp_X12_rates_35 E d hd x1 a0 b0 hv0 _).2.2.2.2 y1 y2 1 1 a (Nat.le_refl _) hv hf (show 0 ≤ y1 from by omega) (show y1 ≤ 1999 from by omega) (show 0 ≤ 1 from by omega) (show 1 ≤ 1 from by omega) (show 0 ≤ 1 from by omega) (show 1 ≤ 1 from by omega) (show a 146 68 ≤ 9 from by omega) (show a 146 23 ≤ a 146 22 from by omega) (show 0 ≤ y2 from by omega) (show y2 ≤ 13 from by omega) (show (1 = 1 → y2 ≤ 12) from by omega) (show 0 ≤ 1 from by omega) (show 0 ≤ 1 from by omega) (show 1 ≤ 1 from by omega) (show 1 ≤ 1 from by omega) (show a 146 22 = a0 146 22 from by omega) (show (0 ≤ x1 ∧ x1 ≤ 1999) from by omega) (show (a0 146 22 = 0 → (((a 146 24 = 0 ∧ ¬ 1 = 0) ∧ ¬ 1 = 0) ∨ (1 = 0 ∧ a 146 24 = 1))) from by omega)
theorem sp_X12_rates (E : jxE) (d : Nat) (hd : Nat.ble 4 d = true) (x1 : Int) (a0 b0 : Nat → Nat → Int) (hv0 : iv a0) : jt (jxC E d 282 [.inr (.inr (.inl 146)), .inl x1] (jxSH, a0, b0)) (jQ_X12_rates x1 a0 b0) := by
  obtain ⟨d, rfl⟩ := jd_succ hd
  refine jt_eq (bq_X12_rates E d x1 a0 b0) ?_
  have h1984_ := iv_get hv0 (k := 146) (j := 68) (l := 0) (u := 10) rfl
  refine jt_ite (fun c1985_ => ?_) (fun c1985_ => ?_)
  ·
    have h1986_ := iv_get hv0 (k := 146) (j := 22) (l := 0) (u := 200) rfl
    exact jt_rI ⟨hv0, (jfr_rf _ _), rfl, (show ((a0 146 22 = 0 ∧ a0 146 68 = 0) → (((0 ≤ x1 ∧ x1 ≤ 1999) ∧ (-1) = 0 - 3) ∨ ((x1 < 0 ∨ 1999 < x1) ∧ (-1) = 0 - 1))) from by omega)⟩
  ·
    refine jt_eI (eq_X12_isDay E d (jd_le hd rfl) x1 a0 b0) ?_
    have h1987_ := f_X12_isDay_eq a0 b0 x1
    have h1988_ := f_X12_in_eq a0 b0 x1 0 1999
    refine jt_ite (fun c1989_ => ?_) (fun c1989_ => ?_)
    ·
      have h1990_ := iv_get hv0 (k := 146) (j := 22) (l := 0) (u := 200) rfl
      exact jt_rI ⟨hv0, (jfr_rf _ _), rfl, (show ((a0 146 22 = 0 ∧ a0 146 68 = 0) → (((0 ≤ x1 ∧ x1 ≤ 1999) ∧ (-1) = 0 - 3) ∨ ((x1 < 0 ∨ 1999 < x1) ∧ (-1) = 0 - 1))) from by omega)⟩
    ·
      have hv1991_ : iv (jxu a0 146 23 0) := iv_put hv0 (l := 0) (u := 200) rfl (by omega) (by omega)
      have hv1992_ : iv (jxu (jxu a0 146 23 0) 146 24 0) := iv_putf hv1991_ rfl
      have hf1993_ : jfr jW_X12_rates a0 (jxu a0 146 23 0) := jfr_put (jfr_rf _ _) rfl
      have hf1994_ : jfr jW_X12_rates a0 (jxu (jxu a0 146 23 0) 146 24 0) := jfr_put hf1993_ rfl
      have h1995_ := iv_get hv0 (k := 146) (j := 22) (l := 0) (u := 200) rfl
      exact cp_X12_rates_30 E d hd x1 a0 b0 hv0 x1 0 (jxu (jxu a0 146 23 0) 146 24 0) hv1992_ hf1994_ (show 0 ≤ x1 from by omega) (show x1 ≤ 1999 from by omega) (show 0 ≤ 0 from by omega) (show 0 ≤ 0 from by omega) (show a0 146 68 ≤ 9 from by omega) (show 0 ≤ a0 146 22 from by omega) (show a0 146 22 = a0 146 22 from by omega) (show 0 = 0 from by omega) (show (0 ≤ x1 ∧ x1 ≤ 1999) from by omega)
