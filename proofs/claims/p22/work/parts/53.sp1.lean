def jW_X8_noteFault : List (Nat × Nat) := [(2, 3)]
abbrev jQ_X8_noteFault (x1 x2 : Int) (a0 b0 : Nat → Nat → Int) : List jxV → (Nat → Nat → Int) → (Nat → Nat → Int) → Prop := rV (fun a b => (iv a) ∧ (jfr jW_X8_noteFault a0 a) ∧ (b0 = b) ∧ ((((((a0 2 3 = 0 ∧ 0 ≤ x1) ∧ x1 ≤ 200) ∧ 0 ≤ x2) ∧ x2 ≤ 7) → a 2 3 = (1 + (8 * x1)) + x2)) ∧ ((¬ a0 2 3 = 0 → a 2 3 = a0 2 3)))
theorem sp_X8_noteFault (E : jxE) (d : Nat) (hd : Nat.ble 1 d = true) (x1 x2 : Int) (a0 b0 : Nat → Nat → Int) (hv0 : iv a0) : jt (jxC E d 124 [.inr (.inr (.inl 2)), .inl x1, .inl x2] (jxSH, a0, b0)) (jQ_X8_noteFault x1 x2 a0 b0) := by
  obtain ⟨d, rfl⟩ := jd_succ hd
  refine jt_eq (bq_X8_noteFault E d x1 x2 a0 b0) ?_
  refine jt_ite (fun c1_ => ?_) (fun c1_ => ?_)
  ·
    have hv2_ : iv (jxu a0 2 3 (jxw ((jxw (1 + (jxw (8 * x1)))) + x2))) := iv_putf hv0 rfl
    have hf3_ : jfr jW_X8_noteFault a0 (jxu a0 2 3 (jxw ((jxw (1 + (jxw (8 * x1)))) + x2))) := jfr_put (jfr_rf _ _) rfl
    have h4_ := jxw_im (8 * x1)
    have h5_ := jxw_rg (8 * x1)
    have h6_ := jxw_im (1 + (jxw (8 * x1)))
    have h7_ := jxw_rg (1 + (jxw (8 * x1)))
    have h8_ := jxw_im ((jxw (1 + (jxw (8 * x1)))) + x2)
    have h9_ := jxw_rg ((jxw (1 + (jxw (8 * x1)))) + x2)
    exact jt_rV ⟨hv2_, hf3_, rfl, (show (((((a0 2 3 = 0 ∧ 0 ≤ x1) ∧ x1 ≤ 200) ∧ 0 ≤ x2) ∧ x2 ≤ 7) → jxw ((jxw (1 + (jxw (8 * x1)))) + x2) = (1 + (8 * x1)) + x2) from by omega), (show (¬ a0 2 3 = 0 → jxw ((jxw (1 + (jxw (8 * x1)))) + x2) = a0 2 3) from by omega)⟩
  ·
    exact jt_rV ⟨hv0, (jfr_rf _ _), rfl, (show (((((a0 2 3 = 0 ∧ 0 ≤ x1) ∧ x1 ≤ 200) ∧ 0 ≤ x2) ∧ x2 ≤ 7) → a0 2 3 = (1 + (8 * x1)) + x2) from by omega), (show (¬ a0 2 3 = 0 → a0 2 3 = a0 2 3) from by omega)⟩
def jW_X8_noteCannotStand : List (Nat × Nat) := [(2, 3)]
abbrev jQ_X8_noteCannotStand (a0 b0 : Nat → Nat → Int) : List jxV → (Nat → Nat → Int) → (Nat → Nat → Int) → Prop := rV (fun a b => (iv a) ∧ (jfr jW_X8_noteCannotStand a0 a) ∧ (b0 = b) ∧ ((a0 2 3 = 0 → a 2 3 = 1 + (8 * (a0 2 2)))) ∧ ((¬ a0 2 3 = 0 → a 2 3 = a0 2 3)))
theorem sp_X8_noteCannotStand (E : jxE) (d : Nat) (hd : Nat.ble 2 d = true) (a0 b0 : Nat → Nat → Int) (hv0 : iv a0) : jt (jxC E d 125 [.inr (.inr (.inl 2))] (jxSH, a0, b0)) (jQ_X8_noteCannotStand a0 b0) := by
  obtain ⟨d, rfl⟩ := jd_succ hd
  refine jt_eq (bq_X8_noteCannotStand E d a0 b0) ?_
  refine jt_bV (sp_X8_noteFault E d (jd_le hd rfl) (a0 2 2) 0 a0 b0 hv0) (fun a10_ b10_ h10_ => ?_)
  obtain ⟨hv10_, hf10_, rfl, hq10_0, hq10_1⟩ := h10_
  have h11_ := iv_get hv0 (k := 2) (j := 2) (l := 0) (u := 200) rfl
  have hf12_ : jfr jW_X8_noteCannotStand a0 a10_ := jfr_tr (jfr_rf _ _) hf10_ rfl
  exact jt_rV ⟨hv10_, hf12_, rfl, (show (a0 2 3 = 0 → a10_ 2 3 = 1 + (8 * (a0 2 2))) from by omega), (show (¬ a0 2 3 = 0 → a10_ 2 3 = a0 2 3) from by omega)⟩
def jW_X8_skipBlanks : List (Nat × Nat) := [(2, 2)]
abbrev jQ_X8_skipBlanks (a0 b0 : Nat → Nat → Int) : List jxV → (Nat → Nat → Int) → (Nat → Nat → Int) → Prop := rV (fun a b => (iv a) ∧ (jfr jW_X8_skipBlanks a0 a) ∧ (b0 = b) ∧ ((a0 2 1 ≤ a0 2 2 → a 2 2 = a0 2 2)))
theorem cp_X8_skipBlanks_0 (E : jxE) (d : Nat) (hd : Nat.ble 1 (d + 1) = true) (a0 b0 : Nat → Nat → Int) (hv0 : iv a0) : ∀ n : Nat, (∀ (a : Nat → Nat → Int), ((((a 2 1) - (a 2 2)) * 2) + 1).toNat ≤ n → iv a → jfr jW_X8_skipBlanks a0 a → 1 ≤ a 2 1 → 1 ≤ a 2 2 → a 2 2 ≤ a 2 1 → a0 2 2 < a0 2 1 → jt (jxX E d 131 35 [some (.inr (.inr (.inl 2)))] [] (jxSH, a, b0)) (jQ_X8_skipBlanks a0 b0)) ∧ (∀ (a : Nat → Nat → Int), ((((a 2 1) - (a 2 2)) * 2) + 0).toNat ≤ n → iv a → jfr jW_X8_skipBlanks a0 a → 1 ≤ a 2 1 → 1 ≤ a 2 2 → a0 2 2 < a0 2 1 → jt (jxX E d 131 0 [some (.inr (.inr (.inl 2)))] [] (jxSH, a, b0)) (jQ_X8_skipBlanks a0 b0)) := by
  refine jx_ind fun n ih => ?_
  have ih35 : ∀ (a : Nat → Nat → Int), ((((a 2 1) - (a 2 2)) * 2) + 1).toNat < n → iv a → jfr jW_X8_skipBlanks a0 a → 1 ≤ a 2 1 → 1 ≤ a 2 2 → a 2 2 ≤ a 2 1 → a0 2 2 < a0 2 1 → jt (jxX E d 131 35 [some (.inr (.inr (.inl 2)))] [] (jxSH, a, b0)) (jQ_X8_skipBlanks a0 b0) := fun a hlt i0 i1 i2 i3 i4 i5 => (ih _ hlt).1 a (Nat.le_refl _) i0 i1 i2 i3 i4 i5
  have ih0 : ∀ (a : Nat → Nat → Int), ((((a 2 1) - (a 2 2)) * 2) + 0).toNat < n → iv a → jfr jW_X8_skipBlanks a0 a → 1 ≤ a 2 1 → 1 ≤ a 2 2 → a0 2 2 < a0 2 1 → jt (jxX E d 131 0 [some (.inr (.inr (.inl 2)))] [] (jxSH, a, b0)) (jQ_X8_skipBlanks a0 b0) := fun a hlt i0 i1 i2 i3 i4 => (ih _ hlt).2 a (Nat.le_refl _) i0 i1 i2 i3 i4
  have hc35 : ∀ (a : Nat → Nat → Int), ((((a 2 1) - (a 2 2)) * 2) + 1).toNat ≤ n → iv a → jfr jW_X8_skipBlanks a0 a → 1 ≤ a 2 1 → 1 ≤ a 2 2 → a 2 2 ≤ a 2 1 → a0 2 2 < a0 2 1 → jt (jxX E d 131 35 [some (.inr (.inr (.inl 2)))] [] (jxSH, a, b0)) (jQ_X8_skipBlanks a0 b0) := by
    intro a hm hv hf hi0 hi1 hi2 hi3
    refine jt_eq (bq_X8_skipBlanks_35 E d a b0) ?_
    have h13_ := iv_get hv (k := 2) (j := 1) (l := 0) (u := 200) rfl
    have h14_ : a 2 1 = a0 2 1 := hf 2 1 rfl
    have h15_ := iv_get hv0 (k := 2) (j := 1) (l := 0) (u := 200) rfl
    have h16_ := iv_get hv (k := 2) (j := 2) (l := 0) (u := 200) rfl
    have h17_ := iv_get hv0 (k := 2) (j := 2) (l := 0) (u := 200) rfl
    exact ih0 a (show ((((a 2 1) - (a 2 2)) * 2) + 0).toNat < n from by omega) hv hf (show 1 ≤ a 2 1 from by omega) (show 1 ≤ a 2 2 from by omega) (show a0 2 2 < a0 2 1 from by omega)
  have hc0 : ∀ (a : Nat → Nat → Int), ((((a 2 1) - (a 2 2)) * 2) + 0).toNat ≤ n → iv a → jfr jW_X8_skipBlanks a0 a → 1 ≤ a 2 1 → 1 ≤ a 2 2 → a0 2 2 < a0 2 1 → jt (jxX E d 131 0 [some (.inr (.inr (.inl 2)))] [] (jxSH, a, b0)) (jQ_X8_skipBlanks a0 b0) := by
    intro a hm hv hf hi0 hi1 hi2
    refine jt_eq (bq_X8_skipBlanks_0 E d a b0) ?_
    have h18_ := iv_get hv (k := 2) (j := 1) (l := 0) (u := 200) rfl
    have h19_ : a 2 1 = a0 2 1 := hf 2 1 rfl
    have h20_ := iv_get hv0 (k := 2) (j := 1) (l := 0) (u := 200) rfl
    have h21_ := iv_get hv (k := 2) (j := 2) (l := 0) (u := 200) rfl
    have h22_ := iv_get hv0 (k := 2) (j := 2) (l := 0) (u := 200) rfl
    refine jt_ite (fun c23_ => ?_) (fun c23_ => ?_)
    ·
      refine jt_grd (by omega) ?_
      have h24_ := iv_get hv (k := 3) (j := (a 2 2).toNat) (l := 0) (u := 255) rfl
      have h25_ : a 3 ((a 2 2).toNat) = a0 3 ((a 2 2).toNat) := hf 3 ((a 2 2).toNat) rfl
      have h26_ := iv_get hv0 (k := 3) (j := (a 2 2).toNat) (l := 0) (u := 255) rfl
      refine jt_ite (fun c27_ => ?_) (fun c27_ => ?_)
      ·
        have h29_ : jxw ((a 2 2) + 1) = (a 2 2) + 1 := jxw_id (by omega) (by omega)
        have hv28_ : iv (jxu a 2 2 (jxw ((a 2 2) + 1))) := iv_put hv (l := 0) (u := 200) rfl (by omega) (by omega)
        have hf30_ : jfr jW_X8_skipBlanks a0 (jxu a 2 2 (jxw ((a 2 2) + 1))) := jfr_put hf rfl
        exact hc35 (jxu a 2 2 (jxw ((a 2 2) + 1))) (show ((((a 2 1) - (jxw ((a 2 2) + 1))) * 2) + 1).toNat ≤ n from by omega) hv28_ hf30_ (show 1 ≤ a 2 1 from by omega) (show 1 ≤ jxw ((a 2 2) + 1) from by omega) (show jxw ((a 2 2) + 1) ≤ a 2 1 from by omega) (show a0 2 2 < a0 2 1 from by omega)
      ·
        exact jt_rV ⟨hv, hf, rfl, (show (a0 2 1 ≤ a0 2 2 → a 2 2 = a0 2 2) from by omega)⟩
    ·
      exact jt_rV ⟨hv, hf, rfl, (show (a0 2 1 ≤ a0 2 2 → a 2 2 = a0 2 2) from by omega)⟩
  exact ⟨hc35, hc0⟩
theorem sp_X8_skipBlanks (E : jxE) (d : Nat) (hd : Nat.ble 1 d = true) (a0 b0 : Nat → Nat → Int) (hv0 : iv a0) : jt (jxC E d 131 [.inr (.inr (.inl 2))] (jxSH, a0, b0)) (jQ_X8_skipBlanks a0 b0) := by
  obtain ⟨d, rfl⟩ := jd_succ hd
  refine jt_eq (bq_X8_skipBlanks E d a0 b0) ?_
  have h31_ := iv_get hv0 (k := 2) (j := 2) (l := 0) (u := 200) rfl
  have h32_ := iv_get hv0 (k := 2) (j := 1) (l := 0) (u := 200) rfl
  refine jt_ite (fun c33_ => ?_) (fun c33_ => ?_)
  ·
    refine jt_grd (by omega) ?_
    have h34_ := iv_get hv0 (k := 3) (j := (a0 2 2).toNat) (l := 0) (u := 255) rfl
    refine jt_ite (fun c35_ => ?_) (fun c35_ => ?_)
    ·
      have h37_ : jxw ((a0 2 2) + 1) = (a0 2 2) + 1 := jxw_id (by omega) (by omega)
      have hv36_ : iv (jxu a0 2 2 (jxw ((a0 2 2) + 1))) := iv_put hv0 (l := 0) (u := 200) rfl (by omega) (by omega)
      have hf38_ : jfr jW_X8_skipBlanks a0 (jxu a0 2 2 (jxw ((a0 2 2) + 1))) := jfr_put (jfr_rf _ _) rfl
      exact (cp_X8_skipBlanks_0 E d hd a0 b0 hv0 _).1 (jxu a0 2 2 (jxw ((a0 2 2) + 1))) (Nat.le_refl _) hv36_ hf38_ (show 1 ≤ a0 2 1 from by omega) (show 1 ≤ jxw ((a0 2 2) + 1) from by omega) (show jxw ((a0 2 2) + 1) ≤ a0 2 1 from by omega) (show a0 2 2 < a0 2 1 from by omega)
    ·
      exact jt_rV ⟨hv0, (jfr_rf _ _), rfl, (show (a0 2 1 ≤ a0 2 2 → a0 2 2 = a0 2 2) from by omega)⟩
  ·
    exact jt_rV ⟨hv0, (jfr_rf _ _), rfl, (show (a0 2 1 ≤ a0 2 2 → a0 2 2 = a0 2 2) from by omega)⟩
def jW_X8_takeNumber : List (Nat × Nat) := [(2, 2), (2, 3)]
abbrev jQ_X8_takeNumber (x1 x2 : Int) (a0 b0 : Nat → Nat → Int) : List jxV → (Nat → Nat → Int) → (Nat → Nat → Int) → Prop := rI (fun r a b => (iv a) ∧ (jfr jW_X8_takeNumber a0 a) ∧ (b0 = b))
theorem cp_X8_takeNumber_133 (E : jxE) (d : Nat) (hd : Nat.ble 2 (d + 1) = true) (x1 x2 : Int) (a0 b0 : Nat → Nat → Int) (hv0 : iv a0) : ∀ (y4 : Int) (a : Nat → Nat → Int), iv a → jfr jW_X8_takeNumber a0 a → jt (jxX E d 130 133 [some (.inr (.inr (.inl 2))), none, none, none, some (.inl y4)] [] (jxSH, a, b0)) (jQ_X8_takeNumber x1 x2 a0 b0) := by
  intro y4 a hv hf
  refine jt_eq (bq_X8_takeNumber_133 E d y4 a b0) ?_
  refine jt_bV (sp_X8_skipBlanks E d (jd_le hd rfl) a b0 hv) (fun a39_ b39_ h39_ => ?_)
  obtain ⟨hv39_, hf39_, rfl, hq39_0⟩ := h39_
  have h40_ := iv_get hv (k := 2) (j := 1) (l := 0) (u := 200) rfl
  have h41_ : a 2 1 = a0 2 1 := hf 2 1 rfl
  have h42_ := iv_get hv0 (k := 2) (j := 1) (l := 0) (u := 200) rfl
  have h43_ := iv_get hv (k := 2) (j := 2) (l := 0) (u := 200) rfl
  have h44_ := iv_get hv39_ (k := 2) (j := 2) (l := 0) (u := 200) rfl
  have hf45_ : jfr jW_X8_takeNumber a0 a39_ := jfr_tr hf hf39_ rfl
  exact jt_rI ⟨hv39_, hf45_, rfl⟩
theorem cp_X8_takeNumber_127 (E : jxE) (d : Nat) (hd : Nat.ble 2 (d + 1) = true) (x1 x2 : Int) (a0 b0 : Nat → Nat → Int) (hv0 : iv a0) : ∀ (y3 y4 : Int) (a : Nat → Nat → Int), iv a → jfr jW_X8_takeNumber a0 a → 0 ≤ y3 → y3 ≤ 200 → jt (jxX E d 130 127 [some (.inr (.inr (.inl 2))), none, none, some (.inl y3), some (.inl y4)] [] (jxSH, a, b0)) (jQ_X8_takeNumber x1 x2 a0 b0) := by
  intro y3 y4 a hv hf hi0 hi1
  refine jt_eq (bq_X8_takeNumber_127 E d y3 y4 a b0) ?_
  refine jt_bV (sp_X8_noteFault E d (jd_le hd rfl) y3 1 a b0 hv) (fun a46_ b46_ h46_ => ?_)
  obtain ⟨hv46_, hf46_, rfl, hq46_0, hq46_1⟩ := h46_
  have hf47_ : jfr jW_X8_takeNumber a0 a46_ := jfr_tr hf hf46_ rfl
  exact cp_X8_takeNumber_133 E d hd x1 x2 a0 b0 hv0 y4 a46_ hv46_ hf47_
theorem cp_X8_takeNumber_90 (E : jxE) (d : Nat) (hd : Nat.ble 2 (d + 1) = true) (x1 x2 : Int) (a0 b0 : Nat → Nat → Int) (hv0 : iv a0) : ∀ (y1 y2 y3 y4 : Int) (a : Nat → Nat → Int), iv a → jfr jW_X8_takeNumber a0 a → 0 ≤ y3 → y3 ≤ 200 → jt (jxX E d 130 90 [some (.inr (.inr (.inl 2))), some (.inl y1), some (.inl y2), some (.inl y3), some (.inl y4)] [] (jxSH, a, b0)) (jQ_X8_takeNumber x1 x2 a0 b0) := by
  intro y1 y2 y3 y4 a hv hf hi0 hi1
  refine jt_eq (bq_X8_takeNumber_90 E d y1 y2 y3 y4 a b0) ?_
  have h48_ := iv_get hv (k := 2) (j := 2) (l := 0) (u := 200) rfl
  refine jt_ite (fun c49_ => ?_) (fun c49_ => ?_)
  ·
    refine jt_bV (sp_X8_noteFault E d (jd_le hd rfl) y3 0 a b0 hv) (fun a50_ b50_ h50_ => ?_)
    obtain ⟨hv50_, hf50_, rfl, hq50_0, hq50_1⟩ := h50_
    have hf51_ : jfr jW_X8_takeNumber a0 a50_ := jfr_tr hf hf50_ rfl
    exact cp_X8_takeNumber_133 E d hd x1 x2 a0 b0 hv0 y4 a50_ hv50_ hf51_
  ·
    have h52_ : jxw ((a 2 2) - y3) = (a 2 2) - y3 := jxw_id (by omega) (by omega)
    refine jt_ite (fun c53_ => ?_) (fun c53_ => ?_)
    ·
      exact cp_X8_takeNumber_127 E d hd x1 x2 a0 b0 hv0 y3 y4 a hv hf (show 0 ≤ y3 from by omega) (show y3 ≤ 200 from by omega)
    ·
      refine jt_eI (eq_X11_within E d (jd_le hd rfl) y4 y1 y2 a b0) ?_
      have h54_ := f_X11_within_eq a b0 y4 y1 y2
      refine jt_ite (fun c55_ => ?_) (fun c55_ => ?_)
      ·
        exact cp_X8_takeNumber_127 E d hd x1 x2 a0 b0 hv0 y3 y4 a hv hf (show 0 ≤ y3 from by omega) (show y3 ≤ 200 from by omega)
      ·
        exact cp_X8_takeNumber_133 E d hd x1 x2 a0 b0 hv0 y4 a hv hf
theorem cp_X8_takeNumber_8 (E : jxE) (d : Nat) (hd : Nat.ble 2 (d + 1) = true) (x1 x2 : Int) (a0 b0 : Nat → Nat → Int) (hv0 : iv a0) : ∀ n : Nat, (∀ (y1 y2 y3 y4 : Int) (a : Nat → Nat → Int), ((((a 2 1) - (a 2 2)) * 1) + 0).toNat ≤ n → iv a → jfr jW_X8_takeNumber a0 a → 0 ≤ y3 → y3 ≤ 200 → 1 ≤ a 2 1 → a 2 2 ≤ 199 → a 2 2 < a 2 1 → jt (jxX E d 130 77 [some (.inr (.inr (.inl 2))), some (.inl y1), some (.inl y2), some (.inl y3), some (.inl y4)] [] (jxSH, a, b0)) (jQ_X8_takeNumber x1 x2 a0 b0)) ∧ (∀ (y1 y2 y3 y4 : Int) (a : Nat → Nat → Int), ((((a 2 1) - (a 2 2)) * 1) + 0).toNat ≤ n → iv a → jfr jW_X8_takeNumber a0 a → 0 ≤ y3 → y3 ≤ 200 → 1 ≤ a 2 1 → a 2 2 ≤ 199 → a 2 2 < a 2 1 → jt (jxX E d 130 47 [some (.inr (.inr (.inl 2))), some (.inl y1), some (.inl y2), some (.inl y3), some (.inl y4)] [] (jxSH, a, b0)) (jQ_X8_takeNumber x1 x2 a0 b0)) ∧ (∀ (y1 y2 y3 y4 : Int) (a : Nat → Nat → Int), ((((a 2 1) - (a 2 2)) * 1) + 0).toNat ≤ n → iv a → jfr jW_X8_takeNumber a0 a → 0 ≤ y3 → y3 ≤ 200 → jt (jxX E d 130 8 [some (.inr (.inr (.inl 2))), some (.inl y1), some (.inl y2), some (.inl y3), some (.inl y4)] [] (jxSH, a, b0)) (jQ_X8_takeNumber x1 x2 a0 b0)) := by
  refine jx_ind fun n ih => ?_
  have ih77 : ∀ (y1 y2 y3 y4 : Int) (a : Nat → Nat → Int), ((((a 2 1) - (a 2 2)) * 1) + 0).toNat < n → iv a → jfr jW_X8_takeNumber a0 a → 0 ≤ y3 → y3 ≤ 200 → 1 ≤ a 2 1 → a 2 2 ≤ 199 → a 2 2 < a 2 1 → jt (jxX E d 130 77 [some (.inr (.inr (.inl 2))), some (.inl y1), some (.inl y2), some (.inl y3), some (.inl y4)] [] (jxSH, a, b0)) (jQ_X8_takeNumber x1 x2 a0 b0) := fun y1 y2 y3 y4 a hlt i0 i1 i2 i3 i4 i5 i6 => (ih _ hlt).1 y1 y2 y3 y4 a (Nat.le_refl _) i0 i1 i2 i3 i4 i5 i6
  have ih47 : ∀ (y1 y2 y3 y4 : Int) (a : Nat → Nat → Int), ((((a 2 1) - (a 2 2)) * 1) + 0).toNat < n → iv a → jfr jW_X8_takeNumber a0 a → 0 ≤ y3 → y3 ≤ 200 → 1 ≤ a 2 1 → a 2 2 ≤ 199 → a 2 2 < a 2 1 → jt (jxX E d 130 47 [some (.inr (.inr (.inl 2))), some (.inl y1), some (.inl y2), some (.inl y3), some (.inl y4)] [] (jxSH, a, b0)) (jQ_X8_takeNumber x1 x2 a0 b0) := fun y1 y2 y3 y4 a hlt i0 i1 i2 i3 i4 i5 i6 => (ih _ hlt).2.1 y1 y2 y3 y4 a (Nat.le_refl _) i0 i1 i2 i3 i4 i5 i6
  have ih8 : ∀ (y1 y2 y3 y4 : Int) (a : Nat → Nat → Int), ((((a 2 1) - (a 2 2)) * 1) + 0).toNat < n → iv a → jfr jW_X8_takeNumber a0 a → 0 ≤ y3 → y3 ≤ 200 → jt (jxX E d 130 8 [some (.inr (.inr (.inl 2))), some (.inl y1), some (.inl y2), some (.inl y3), some (.inl y4)] [] (jxSH, a, b0)) (jQ_X8_takeNumber x1 x2 a0 b0) := fun y1 y2 y3 y4 a hlt i0 i1 i2 i3 => (ih _ hlt).2.2 y1 y2 y3 y4 a (Nat.le_refl _) i0 i1 i2 i3
  have hc77 : ∀ (y1 y2 y3 y4 : Int) (a : Nat → Nat → Int), ((((a 2 1) - (a 2 2)) * 1) + 0).toNat ≤ n → iv a → jfr jW_X8_takeNumber a0 a → 0 ≤ y3 → y3 ≤ 200 → 1 ≤ a 2 1 → a 2 2 ≤ 199 → a 2 2 < a 2 1 → jt (jxX E d 130 77 [some (.inr (.inr (.inl 2))), some (.inl y1), some (.inl y2), some (.inl y3), some (.inl y4)] [] (jxSH, a, b0)) (jQ_X8_takeNumber x1 x2 a0 b0) := by
    intro y1 y2 y3 y4 a hm hv hf hi0 hi1 hi2 hi3 hi4
    refine jt_eq (bq_X8_takeNumber_77 E d y1 y2 y3 y4 a b0) ?_
    have h56_ := iv_get hv (k := 2) (j := 1) (l := 0) (u := 200) rfl
    have h57_ : a 2 1 = a0 2 1 := hf 2 1 rfl
    have h58_ := iv_get hv0 (k := 2) (j := 1) (l := 0) (u := 200) rfl
    have h59_ := iv_get hv (k := 2) (j := 2) (l := 0) (u := 200) rfl
    have h61_ : jxw ((a 2 2) + 1) = (a 2 2) + 1 := jxw_id (by omega) (by omega)
    have hv60_ : iv (jxu a 2 2 (jxw ((a 2 2) + 1))) := iv_put hv (l := 0) (u := 200) rfl (by omega) (by omega)
    have hf62_ : jfr jW_X8_takeNumber a0 (jxu a 2 2 (jxw ((a 2 2) + 1))) := jfr_put hf rfl
    exact ih8 y1 y2 y3 y4 (jxu a 2 2 (jxw ((a 2 2) + 1))) (show ((((a 2 1) - (jxw ((a 2 2) + 1))) * 1) + 0).toNat < n from by omega) hv60_ hf62_ (show 0 ≤ y3 from by omega) (show y3 ≤ 200 from by omega)
  have hc47 : ∀ (y1 y2 y3 y4 : Int) (a : Nat → Nat → Int), ((((a 2 1) - (a 2 2)) * 1) + 0).toNat ≤ n → iv a → jfr jW_X8_takeNumber a0 a → 0 ≤ y3 → y3 ≤ 200 → 1 ≤ a 2 1 → a 2 2 ≤ 199 → a 2 2 < a 2 1 → jt (jxX E d 130 47 [some (.inr (.inr (.inl 2))), some (.inl y1), some (.inl y2), some (.inl y3), some (.inl y4)] [] (jxSH, a, b0)) (jQ_X8_takeNumber x1 x2 a0 b0) := by
    intro y1 y2 y3 y4 a hm hv hf hi0 hi1 hi2 hi3 hi4
    refine jt_eq (bq_X8_takeNumber_47 E d y1 y2 y3 y4 a b0) ?_
    have h63_ := iv_get hv (k := 2) (j := 1) (l := 0) (u := 200) rfl
    have h64_ : a 2 1 = a0 2 1 := hf 2 1 rfl
    have h65_ := iv_get hv0 (k := 2) (j := 1) (l := 0) (u := 200) rfl
    have h66_ := iv_get hv (k := 2) (j := 2) (l := 0) (u := 200) rfl
    have h67_ : jxw ((a 2 2) - y3) = (a 2 2) - y3 := jxw_id (by omega) (by omega)
    refine jt_ite (fun c68_ => ?_) (fun c68_ => ?_)
    ·
      refine jt_grd (by omega) ?_
      exact hc77 y1 y2 y3 (jxw ((jxw ((jxw (y4 * 10)) + (a 3 ((a 2 2).toNat)))) - 48)) a (show ((((a 2 1) - (a 2 2)) * 1) + 0).toNat ≤ n from by omega) hv hf (show 0 ≤ y3 from by omega) (show y3 ≤ 200 from by omega) (show 1 ≤ a 2 1 from by omega) (show a 2 2 ≤ 199 from by omega) (show a 2 2 < a 2 1 from by omega)
    ·
      exact hc77 y1 y2 y3 y4 a (show ((((a 2 1) - (a 2 2)) * 1) + 0).toNat ≤ n from by omega) hv hf (show 0 ≤ y3 from by omega) (show y3 ≤ 200 from by omega) (show 1 ≤ a 2 1 from by omega) (show a 2 2 ≤ 199 from by omega) (show a 2 2 < a 2 1 from by omega)
  have hc8 : ∀ (y1 y2 y3 y4 : Int) (a : Nat → Nat → Int), ((((a 2 1) - (a 2 2)) * 1) + 0).toNat ≤ n → iv a → jfr jW_X8_takeNumber a0 a → 0 ≤ y3 → y3 ≤ 200 → jt (jxX E d 130 8 [some (.inr (.inr (.inl 2))), some (.inl y1), some (.inl y2), some (.inl y3), some (.inl y4)] [] (jxSH, a, b0)) (jQ_X8_takeNumber x1 x2 a0 b0) := by
    intro y1 y2 y3 y4 a hm hv hf hi0 hi1
    refine jt_eq (bq_X8_takeNumber_8 E d y1 y2 y3 y4 a b0) ?_
    have h69_ := iv_get hv (k := 2) (j := 1) (l := 0) (u := 200) rfl
    have h70_ : a 2 1 = a0 2 1 := hf 2 1 rfl
    have h71_ := iv_get hv0 (k := 2) (j := 1) (l := 0) (u := 200) rfl
    have h72_ := iv_get hv (k := 2) (j := 2) (l := 0) (u := 200) rfl
    refine jt_ite (fun c73_ => ?_) (fun c73_ => ?_)
    ·
      refine jt_grd (by omega) ?_
      have h74_ := iv_get hv (k := 3) (j := (a 2 2).toNat) (l := 0) (u := 255) rfl
      have h75_ : a 3 ((a 2 2).toNat) = a0 3 ((a 2 2).toNat) := hf 3 ((a 2 2).toNat) rfl
      have h76_ := iv_get hv0 (k := 3) (j := (a 2 2).toNat) (l := 0) (u := 255) rfl
      refine jt_ite (fun c77_ => ?_) (fun c77_ => ?_)
      ·
        exact cp_X8_takeNumber_90 E d hd x1 x2 a0 b0 hv0 y1 y2 y3 y4 a hv hf (show 0 ≤ y3 from by omega) (show y3 ≤ 200 from by omega)
      ·
        refine jt_grd (by omega) ?_
        refine jt_ite (fun c78_ => ?_) (fun c78_ => ?_)
        ·
          exact cp_X8_takeNumber_90 E d hd x1 x2 a0 b0 hv0 y1 y2 y3 y4 a hv hf (show 0 ≤ y3 from by omega) (show y3 ≤ 200 from by omega)
        ·
          exact hc47 y1 y2 y3 y4 a (show ((((a 2 1) - (a 2 2)) * 1) + 0).toNat ≤ n from by omega) hv hf (show 0 ≤ y3 from by omega) (show y3 ≤ 200 from by omega) (show 1 ≤ a 2 1 from by omega) (show a 2 2 ≤ 199 from by omega) (show a 2 2 < a 2 1 from by omega)
    ·
      exact cp_X8_takeNumber_90 E d hd x1 x2 a0 b0 hv0 y1 y2 y3 y4 a hv hf (show 0 ≤ y3 from by omega) (show y3 ≤ 200 from by omega)
  exact ⟨hc77, hc47, hc8⟩
theorem sp_X8_takeNumber (E : jxE) (d : Nat) (hd : Nat.ble 2 d = true) (x1 x2 : Int) (a0 b0 : Nat → Nat → Int) (hv0 : iv a0) : jt (jxC E d 130 [.inr (.inr (.inl 2)), .inl x1, .inl x2] (jxSH, a0, b0)) (jQ_X8_takeNumber x1 x2 a0 b0) := by
  obtain ⟨d, rfl⟩ := jd_succ hd
  refine jt_eq (bq_X8_takeNumber E d x1 x2 a0 b0) ?_
  have h79_ := iv_get hv0 (k := 2) (j := 2) (l := 0) (u := 200) rfl
  exact (cp_X8_takeNumber_8 E d hd x1 x2 a0 b0 hv0 _).2.2 x1 x2 (a0 2 2) 0 a0 (Nat.le_refl _) hv0 (jfr_rf _ _) (show 0 ≤ a0 2 2 from by omega) (show a0 2 2 ≤ 200 from by omega)
def jW_X8_takesWord_r1000 : List (Nat × Nat) := [(2, 2)]
abbrev jQ_X8_takesWord_r1000 (a0 b0 : Nat → Nat → Int) : List jxV → (Nat → Nat → Int) → (Nat → Nat → Int) → Prop := rI (fun r a b => (iv a) ∧ (jfr jW_X8_takesWord_r1000 a0 a) ∧ (b0 = b) ∧ ((0 ≤ r ∧ r ≤ 1)) ∧ (((¬ a0 2 3 = 0 ∨ a0 2 1 ≤ a0 2 2) → r = 0)) ∧ ((r = 0 → a 2 2 = a0 2 2)))
theorem cp_X8_takesWord_r1000_56 (E : jxE) (d : Nat) (hd : Nat.ble 5 (d + 1) = true) (a0 b0 : Nat → Nat → Int) (hv0 : iv a0) : ∀ (a : Nat → Nat → Int), iv a → jfr jW_X8_takesWord_r1000 a0 a → 3 ≤ a 2 1 → jt (jxX E d 128 56 [none, none, none, none] [] (jxSH, a, b0)) (jQ_X8_takesWord_r1000 a0 b0) := by
  intro a hv hf hi0
  refine jt_eq (bq_X8_takesWord_r1000_56 E d a b0) ?_
  have h80_ := iv_get hv (k := 2) (j := 1) (l := 0) (u := 200) rfl
  have h81_ : a 2 1 = a0 2 1 := hf 2 1 rfl
  have h82_ := iv_get hv0 (k := 2) (j := 1) (l := 0) (u := 200) rfl
  have h83_ := iv_get hv0 (k := 2) (j := 2) (l := 0) (u := 200) rfl
  have h84_ := iv_get hv (k := 2) (j := 2) (l := 0) (u := 200) rfl
  exact jt_rI ⟨hv, hf, rfl, (show (0 ≤ 0 ∧ 0 ≤ 1) from by omega), (show ((¬ a0 2 3 = 0 ∨ a0 2 1 ≤ a0 2 2) → 0 = 0) from by omega), (show (0 = 0 → a 2 2 = a0 2 2) from by omega)⟩
theorem cp_X8_takesWord_r1000_96 (E : jxE) (d : Nat) (hd : Nat.ble 5 (d + 1) = true) (a0 b0 : Nat → Nat → Int) (hv0 : iv a0) : ∀ (y2 : Int) (a : Nat → Nat → Int), iv a → jfr jW_X8_takesWord_r1000 a0 a → 3 ≤ y2 → y2 ≤ 200 → 3 ≤ a 2 1 → y2 = (a 2 2) + 3 → y2 ≤ a 2 1 → y2 ≤ 200 → jt (jxX E d 128 96 [some (.inr (.inr (.inl 2))), none, some (.inl y2), none] [] (jxSH, a, b0)) (jQ_X8_takesWord_r1000 a0 b0) := by
  intro y2 a hv hf hi0 hi1 hi2 hi3 hi4 hi5
  refine jt_eq (bq_X8_takesWord_r1000_96 E d y2 a b0) ?_
  have h85_ := iv_get hv (k := 2) (j := 1) (l := 0) (u := 200) rfl
  have h86_ : a 2 1 = a0 2 1 := hf 2 1 rfl
  have h87_ := iv_get hv0 (k := 2) (j := 1) (l := 0) (u := 200) rfl
  have h88_ := iv_get hv (k := 2) (j := 2) (l := 0) (u := 200) rfl
  have hv89_ : iv (jxu a 2 2 y2) := iv_put hv (l := 0) (u := 200) rfl (by omega) (by omega)
  refine jt_bV (sp_X8_skipBlanks E d (jd_le hd rfl) (jxu a 2 2 y2) b0 hv89_) (fun a90_ b90_ h90_ => ?_)
  obtain ⟨hv90_, hf90_, rfl, hq90_0⟩ := h90_
  have h91_ := iv_get hv90_ (k := 2) (j := 2) (l := 0) (u := 200) rfl
  have h92_ : (a 2 1 ≤ y2 → a90_ 2 2 = y2) := hq90_0
  have hf93_ : jfr jW_X8_takesWord_r1000 a0 (jxu a 2 2 y2) := jfr_put hf rfl
  have hf94_ : jfr jW_X8_takesWord_r1000 a0 a90_ := jfr_tr hf93_ hf90_ rfl
  have h95_ := iv_get hv0 (k := 2) (j := 2) (l := 0) (u := 200) rfl
  exact jt_rI ⟨hv90_, hf94_, rfl, (show (0 ≤ 1 ∧ 1 ≤ 1) from by omega), (show ((¬ a0 2 3 = 0 ∨ a0 2 1 ≤ a0 2 2) → 1 = 0) from by omega), (show (1 = 0 → a90_ 2 2 = a0 2 2) from by omega)⟩
theorem cp_X8_takesWord_r1000_83 (E : jxE) (d : Nat) (hd : Nat.ble 5 (d + 1) = true) (a0 b0 : Nat → Nat → Int) (hv0 : iv a0) : ∀ (y2 : Int) (a : Nat → Nat → Int), iv a → jfr jW_X8_takesWord_r1000 a0 a → 3 ≤ y2 → y2 ≤ 199 → 4 ≤ a 2 1 → y2 = (a 2 2) + 3 → y2 ≤ a 2 1 → y2 ≤ 200 → jt (jxX E d 128 83 [some (.inr (.inr (.inl 2))), none, some (.inl y2), none] [] (jxSH, a, b0)) (jQ_X8_takesWord_r1000 a0 b0) := by
  intro y2 a hv hf hi0 hi1 hi2 hi3 hi4 hi5
  refine jt_eq (bq_X8_takesWord_r1000_83 E d y2 a b0) ?_
  have h96_ := iv_get hv (k := 2) (j := 1) (l := 0) (u := 200) rfl
  have h97_ : a 2 1 = a0 2 1 := hf 2 1 rfl
  have h98_ := iv_get hv0 (k := 2) (j := 1) (l := 0) (u := 200) rfl
  have h99_ := iv_get hv (k := 2) (j := 2) (l := 0) (u := 200) rfl
  refine jt_grd (by omega) ?_
  have h100_ := iv_get hv (k := 3) (j := y2.toNat) (l := 0) (u := 255) rfl
  have h101_ : a 3 (y2.toNat) = a0 3 (y2.toNat) := hf 3 (y2.toNat) rfl
  have h102_ := iv_get hv0 (k := 3) (j := y2.toNat) (l := 0) (u := 255) rfl
  refine jt_ite (fun c103_ => ?_) (fun c103_ => ?_)
  ·
    exact cp_X8_takesWord_r1000_96 E d hd a0 b0 hv0 y2 a hv hf (show 3 ≤ y2 from by omega) (show y2 ≤ 200 from by omega) (show 3 ≤ a 2 1 from by omega) (show y2 = (a 2 2) + 3 from by omega) (show y2 ≤ a 2 1 from by omega) (show y2 ≤ 200 from by omega)
  ·
    have h104_ := iv_get hv0 (k := 2) (j := 2) (l := 0) (u := 200) rfl
    exact jt_rI ⟨hv, hf, rfl, (show (0 ≤ 0 ∧ 0 ≤ 1) from by omega), (show ((¬ a0 2 3 = 0 ∨ a0 2 1 ≤ a0 2 2) → 0 = 0) from by omega), (show (0 = 0 → a 2 2 = a0 2 2) from by omega)⟩
theorem cp_X8_takesWord_r1000_29 (E : jxE) (d : Nat) (hd : Nat.ble 5 (d + 1) = true) (a0 b0 : Nat → Nat → Int) (hv0 : iv a0) : ∀ n : Nat, (∀ (y2 y3 : Int) (a : Nat → Nat → Int), (((3 - y3) * 1) + 0).toNat ≤ n → iv a → jfr jW_X8_takesWord_r1000 a0 a → 3 ≤ y2 → y2 ≤ 200 → 0 ≤ y3 → y3 ≤ 2 → 3 ≤ a 2 1 → y3 < 3 → 0 ≤ y3 → y2 = (a 2 2) + 3 → y2 ≤ a 2 1 → y2 ≤ 200 → jt (jxX E d 128 58 [some (.inr (.inr (.inl 2))), some (.inr (.inr (.inl 1000))), some (.inl y2), some (.inl y3)] [] (jxSH, a, b0)) (jQ_X8_takesWord_r1000 a0 b0)) ∧ (∀ (y2 y3 : Int) (a : Nat → Nat → Int), (((3 - y3) * 1) + 0).toNat ≤ n → iv a → jfr jW_X8_takesWord_r1000 a0 a → 3 ≤ y2 → y2 ≤ 200 → 0 ≤ y3 → y3 ≤ 3 → 3 ≤ a 2 1 → 0 ≤ y3 → y2 = (a 2 2) + 3 → y2 ≤ a 2 1 → y2 ≤ 200 → jt (jxX E d 128 29 [some (.inr (.inr (.inl 2))), some (.inr (.inr (.inl 1000))), some (.inl y2), some (.inl y3)] [] (jxSH, a, b0)) (jQ_X8_takesWord_r1000 a0 b0)) := by
  refine jx_ind fun n ih => ?_
  have ih58 : ∀ (y2 y3 : Int) (a : Nat → Nat → Int), (((3 - y3) * 1) + 0).toNat < n → iv a → jfr jW_X8_takesWord_r1000 a0 a → 3 ≤ y2 → y2 ≤ 200 → 0 ≤ y3 → y3 ≤ 2 → 3 ≤ a 2 1 → y3 < 3 → 0 ≤ y3 → y2 = (a 2 2) + 3 → y2 ≤ a 2 1 → y2 ≤ 200 → jt (jxX E d 128 58 [some (.inr (.inr (.inl 2))), some (.inr (.inr (.inl 1000))), some (.inl y2), some (.inl y3)] [] (jxSH, a, b0)) (jQ_X8_takesWord_r1000 a0 b0) := fun y2 y3 a hlt i0 i1 i2 i3 i4 i5 i6 i7 i8 i9 i10 i11 => (ih _ hlt).1 y2 y3 a (Nat.le_refl _) i0 i1 i2 i3 i4 i5 i6 i7 i8 i9 i10 i11
  have ih29 : ∀ (y2 y3 : Int) (a : Nat → Nat → Int), (((3 - y3) * 1) + 0).toNat < n → iv a → jfr jW_X8_takesWord_r1000 a0 a → 3 ≤ y2 → y2 ≤ 200 → 0 ≤ y3 → y3 ≤ 3 → 3 ≤ a 2 1 → 0 ≤ y3 → y2 = (a 2 2) + 3 → y2 ≤ a 2 1 → y2 ≤ 200 → jt (jxX E d 128 29 [some (.inr (.inr (.inl 2))), some (.inr (.inr (.inl 1000))), some (.inl y2), some (.inl y3)] [] (jxSH, a, b0)) (jQ_X8_takesWord_r1000 a0 b0) := fun y2 y3 a hlt i0 i1 i2 i3 i4 i5 i6 i7 i8 i9 i10 => (ih _ hlt).2 y2 y3 a (Nat.le_refl _) i0 i1 i2 i3 i4 i5 i6 i7 i8 i9 i10
  have hc58 : ∀ (y2 y3 : Int) (a : Nat → Nat → Int), (((3 - y3) * 1) + 0).toNat ≤ n → iv a → jfr jW_X8_takesWord_r1000 a0 a → 3 ≤ y2 → y2 ≤ 200 → 0 ≤ y3 → y3 ≤ 2 → 3 ≤ a 2 1 → y3 < 3 → 0 ≤ y3 → y2 = (a 2 2) + 3 → y2 ≤ a 2 1 → y2 ≤ 200 → jt (jxX E d 128 58 [some (.inr (.inr (.inl 2))), some (.inr (.inr (.inl 1000))), some (.inl y2), some (.inl y3)] [] (jxSH, a, b0)) (jQ_X8_takesWord_r1000 a0 b0) := by
    intro y2 y3 a hm hv hf hi0 hi1 hi2 hi3 hi4 hi5 hi6 hi7 hi8 hi9
    refine jt_eq (bq_X8_takesWord_r1000_58 E d y2 y3 a b0) ?_
    have h105_ := iv_get hv (k := 2) (j := 1) (l := 0) (u := 200) rfl
    have h106_ : a 2 1 = a0 2 1 := hf 2 1 rfl
    have h107_ := iv_get hv0 (k := 2) (j := 1) (l := 0) (u := 200) rfl
    have h108_ := iv_get hv (k := 2) (j := 2) (l := 0) (u := 200) rfl
    have h109_ : jxw (y3 + 1) = y3 + 1 := jxw_id (by omega) (by omega)
    exact ih29 y2 (jxw (y3 + 1)) a (show (((3 - (jxw (y3 + 1))) * 1) + 0).toNat < n from by omega) hv hf (show 3 ≤ y2 from by omega) (show y2 ≤ 200 from by omega) (show 0 ≤ jxw (y3 + 1) from by omega) (show jxw (y3 + 1) ≤ 3 from by omega) (show 3 ≤ a 2 1 from by omega) (show 0 ≤ jxw (y3 + 1) from by omega) (show y2 = (a 2 2) + 3 from by omega) (show y2 ≤ a 2 1 from by omega) (show y2 ≤ 200 from by omega)
  have hc29 : ∀ (y2 y3 : Int) (a : Nat → Nat → Int), (((3 - y3) * 1) + 0).toNat ≤ n → iv a → jfr jW_X8_takesWord_r1000 a0 a → 3 ≤ y2 → y2 ≤ 200 → 0 ≤ y3 → y3 ≤ 3 → 3 ≤ a 2 1 → 0 ≤ y3 → y2 = (a 2 2) + 3 → y2 ≤ a 2 1 → y2 ≤ 200 → jt (jxX E d 128 29 [some (.inr (.inr (.inl 2))), some (.inr (.inr (.inl 1000))), some (.inl y2), some (.inl y3)] [] (jxSH, a, b0)) (jQ_X8_takesWord_r1000 a0 b0) := by
    intro y2 y3 a hm hv hf hi0 hi1 hi2 hi3 hi4 hi5 hi6 hi7 hi8
    refine jt_eq (bq_X8_takesWord_r1000_29 E d y2 y3 a b0) ?_
    have h110_ := iv_get hv (k := 2) (j := 1) (l := 0) (u := 200) rfl
    have h111_ : a 2 1 = a0 2 1 := hf 2 1 rfl
    have h112_ := iv_get hv0 (k := 2) (j := 1) (l := 0) (u := 200) rfl
    have h113_ := iv_get hv (k := 2) (j := 2) (l := 0) (u := 200) rfl
    refine jt_eI (eq_J0_length_8abf5_r1000 E d (jd_le hd rfl) a b0) ?_
    have h114_ := ff_J0_length_8abf5_r1000 a b0
    refine jt_ite (fun c115_ => ?_) (fun c115_ => ?_)
    ·
      have h116_ : jxw ((a 2 2) + y3) = (a 2 2) + y3 := jxw_id (by omega) (by omega)
      refine jt_grd (by omega) ?_
      refine jt_eI (eq_J0_charAt_5068e_r1000 E d (jd_le hd rfl) y3 a b0 (show (0 ≤ y3 ∧ y3 < 3) from by omega)) ?_
      have h117_ := iv_get hv (k := 3) (j := (jxw ((a 2 2) + y3)).toNat) (l := 0) (u := 255) rfl
      have h118_ : a 3 ((jxw ((a 2 2) + y3)).toNat) = a0 3 ((jxw ((a 2 2) + y3)).toNat) := hf 3 ((jxw ((a 2 2) + y3)).toNat) rfl
      have h119_ := iv_get hv0 (k := 3) (j := (jxw ((a 2 2) + y3)).toNat) (l := 0) (u := 255) rfl
      have h120_ := f_J0_charAt_5068e_r1000_eq a b0 y3
      have h121_ := f_J0_isLatin1_aae02_r1000_eq a b0
      have h122_ := f_J1_charAt_3b067_r2000_eq a b0 y3
      have h123_ := jxand_r (([110, 111, 116] : List Int).getD (y3.toNat) 0) 255 (by decide) (by decide)
      have h124_ := jxi2c_b (jxand (([110, 111, 116] : List Int).getD (y3.toNat) 0) 255)
      refine jt_ite (fun c125_ => ?_) (fun c125_ => ?_)
      ·
        exact hc58 y2 y3 a (show (((3 - y3) * 1) + 0).toNat ≤ n from by omega) hv hf (show 3 ≤ y2 from by omega) (show y2 ≤ 200 from by omega) (show 0 ≤ y3 from by omega) (show y3 ≤ 2 from by omega) (show 3 ≤ a 2 1 from by omega) (show y3 < 3 from by omega) (show 0 ≤ y3 from by omega) (show y2 = (a 2 2) + 3 from by omega) (show y2 ≤ a 2 1 from by omega) (show y2 ≤ 200 from by omega)
      ·
        exact cp_X8_takesWord_r1000_56 E d hd a0 b0 hv0 a hv hf (show 3 ≤ a 2 1 from by omega)
    ·
      refine jt_ite (fun c126_ => ?_) (fun c126_ => ?_)
      ·
        refine jt_grd (by omega) ?_
        have h127_ := iv_get hv (k := 3) (j := y2.toNat) (l := 0) (u := 255) rfl
        have h128_ : a 3 (y2.toNat) = a0 3 (y2.toNat) := hf 3 (y2.toNat) rfl
        have h129_ := iv_get hv0 (k := 3) (j := y2.toNat) (l := 0) (u := 255) rfl
        refine jt_ite (fun c130_ => ?_) (fun c130_ => ?_)
        ·
          exact cp_X8_takesWord_r1000_96 E d hd a0 b0 hv0 y2 a hv hf (show 3 ≤ y2 from by omega) (show y2 ≤ 200 from by omega) (show 3 ≤ a 2 1 from by omega) (show y2 = (a 2 2) + 3 from by omega) (show y2 ≤ a 2 1 from by omega) (show y2 ≤ 200 from by omega)
        ·
          exact cp_X8_takesWord_r1000_83 E d hd a0 b0 hv0 y2 a hv hf (show 3 ≤ y2 from by omega) (show y2 ≤ 199 from by omega) (show 4 ≤ a 2 1 from by omega) (show y2 = (a 2 2) + 3 from by omega) (show y2 ≤ a 2 1 from by omega) (show y2 ≤ 200 from by omega)
      ·
        exact cp_X8_takesWord_r1000_96 E d hd a0 b0 hv0 y2 a hv hf (show 3 ≤ y2 from by omega) (show y2 ≤ 200 from by omega) (show 3 ≤ a 2 1 from by omega) (show y2 = (a 2 2) + 3 from by omega) (show y2 ≤ a 2 1 from by omega) (show y2 ≤ 200 from by omega)
  exact ⟨hc58, hc29⟩
theorem sp_X8_takesWord_r1000 (E : jxE) (d : Nat) (hd : Nat.ble 5 d = true) (a0 b0 : Nat → Nat → Int) (hv0 : iv a0) : jt (jxC E d 128 [.inr (.inr (.inl 2)), .inr (.inr (.inl 1000))] (jxSH, a0, b0)) (jQ_X8_takesWord_r1000 a0 b0) := by
  obtain ⟨d, rfl⟩ := jd_succ hd
  refine jt_eq (bq_X8_takesWord_r1000 E d a0 b0) ?_
  refine jt_eI (eq_J0_length_8abf5_r1000 E d (jd_le hd rfl) a0 b0) ?_
  refine jt_eI (eq_X8_isFaulty E d (jd_le hd rfl) a0 b0) ?_
  have h131_ := f_X8_isFaulty_eq a0 b0
  refine jt_ite (fun c132_ => ?_) (fun c132_ => ?_)
  ·
    have h133_ := iv_get hv0 (k := 2) (j := 1) (l := 0) (u := 200) rfl
    have h134_ := iv_get hv0 (k := 2) (j := 2) (l := 0) (u := 200) rfl
    have h135_ := ff_J0_length_8abf5_r1000 a0 b0
    have h136_ : jxw ((a0 2 2) + (f_J0_length_8abf5_r1000 a0 b0)) = (a0 2 2) + (f_J0_length_8abf5_r1000 a0 b0) := jxw_id (by omega) (by omega)
    refine jt_ite (fun c137_ => ?_) (fun c137_ => ?_)
    ·
      exact jt_rI ⟨hv0, (jfr_rf _ _), rfl, (show (0 ≤ 0 ∧ 0 ≤ 1) from by omega), (show ((¬ a0 2 3 = 0 ∨ a0 2 1 ≤ a0 2 2) → 0 = 0) from by omega), (show (0 = 0 → a0 2 2 = a0 2 2) from by omega)⟩
    ·
      exact (cp_X8_takesWord_r1000_29 E d hd a0 b0 hv0 _).2 (jxw ((a0 2 2) + (f_J0_length_8abf5_r1000 a0 b0))) 0 a0 (Nat.le_refl _) hv0 (jfr_rf _ _) (show 3 ≤ jxw ((a0 2 2) + (f_J0_length_8abf5_r1000 a0 b0)) from by omega) (show jxw ((a0 2 2) + (f_J0_length_8abf5_r1000 a0 b0)) ≤ 200 from by omega) (show 0 ≤ 0 from by omega) (show 0 ≤ 3 from by omega) (show 3 ≤ a0 2 1 from by omega) (show 0 ≤ 0 from by omega) (show jxw ((a0 2 2) + (f_J0_length_8abf5_r1000 a0 b0)) = (a0 2 2) + 3 from by omega) (show jxw ((a0 2 2) + (f_J0_length_8abf5_r1000 a0 b0)) ≤ a0 2 1 from by omega) (show jxw ((a0 2 2) + (f_J0_length_8abf5_r1000 a0 b0)) ≤ 200 from by omega)
  ·
    have h138_ := iv_get hv0 (k := 2) (j := 1) (l := 0) (u := 200) rfl
    have h139_ := iv_get hv0 (k := 2) (j := 2) (l := 0) (u := 200) rfl
    exact jt_rI ⟨hv0, (jfr_rf _ _), rfl, (show (0 ≤ 0 ∧ 0 ≤ 1) from by omega), (show ((¬ a0 2 3 = 0 ∨ a0 2 1 ≤ a0 2 2) → 0 = 0) from by omega), (show (0 = 0 → a0 2 2 = a0 2 2) from by omega)⟩
def jW_X8_takesWord_r1001 : List (Nat × Nat) := [(2, 2)]
abbrev jQ_X8_takesWord_r1001 (a0 b0 : Nat → Nat → Int) : List jxV → (Nat → Nat → Int) → (Nat → Nat → Int) → Prop := rI (fun r a b => (iv a) ∧ (jfr jW_X8_takesWord_r1001 a0 a) ∧ (b0 = b) ∧ ((0 ≤ r ∧ r ≤ 1)) ∧ (((¬ a0 2 3 = 0 ∨ a0 2 1 ≤ a0 2 2) → r = 0)) ∧ ((r = 0 → a 2 2 = a0 2 2)))
theorem cp_X8_takesWord_r1001_56 (E : jxE) (d : Nat) (hd : Nat.ble 5 (d + 1) = true) (a0 b0 : Nat → Nat → Int) (hv0 : iv a0) : ∀ (a : Nat → Nat → Int), iv a → jfr jW_X8_takesWord_r1001 a0 a → 4 ≤ a 2 1 → jt (jxX E d 128 56 [none, none, none, none] [] (jxSH, a, b0)) (jQ_X8_takesWord_r1001 a0 b0) := by
  intro a hv hf hi0
  refine jt_eq (bq_X8_takesWord_r1001_56 E d a b0) ?_
  have h140_ := iv_get hv (k := 2) (j := 1) (l := 0) (u := 200) rfl
  have h141_ : a 2 1 = a0 2 1 := hf 2 1 rfl
  have h142_ := iv_get hv0 (k := 2) (j := 1) (l := 0) (u := 200) rfl
  have h143_ := iv_get hv0 (k := 2) (j := 2) (l := 0) (u := 200) rfl
  have h144_ := iv_get hv (k := 2) (j := 2) (l := 0) (u := 200) rfl
  exact jt_rI ⟨hv, hf, rfl, (show (0 ≤ 0 ∧ 0 ≤ 1) from by omega), (show ((¬ a0 2 3 = 0 ∨ a0 2 1 ≤ a0 2 2) → 0 = 0) from by omega), (show (0 = 0 → a 2 2 = a0 2 2) from by omega)⟩
theorem cp_X8_takesWord_r1001_96 (E : jxE) (d : Nat) (hd : Nat.ble 5 (d + 1) = true) (a0 b0 : Nat → Nat → Int) (hv0 : iv a0) : ∀ (y2 : Int) (a : Nat → Nat → Int), iv a → jfr jW_X8_takesWord_r1001 a0 a → 4 ≤ y2 → y2 ≤ 200 → 4 ≤ a 2 1 → y2 = (a 2 2) + 4 → y2 ≤ a 2 1 → y2 ≤ 200 → jt (jxX E d 128 96 [some (.inr (.inr (.inl 2))), none, some (.inl y2), none] [] (jxSH, a, b0)) (jQ_X8_takesWord_r1001 a0 b0) := by
  intro y2 a hv hf hi0 hi1 hi2 hi3 hi4 hi5
  refine jt_eq (bq_X8_takesWord_r1001_96 E d y2 a b0) ?_
  have h145_ := iv_get hv (k := 2) (j := 1) (l := 0) (u := 200) rfl
  have h146_ : a 2 1 = a0 2 1 := hf 2 1 rfl
  have h147_ := iv_get hv0 (k := 2) (j := 1) (l := 0) (u := 200) rfl
  have h148_ := iv_get hv (k := 2) (j := 2) (l := 0) (u := 200) rfl
  have hv149_ : iv (jxu a 2 2 y2) := iv_put hv (l := 0) (u := 200) rfl (by omega) (by omega)
  refine jt_bV (sp_X8_skipBlanks E d (jd_le hd rfl) (jxu a 2 2 y2) b0 hv149_) (fun a150_ b150_ h150_ => ?_)
  obtain ⟨hv150_, hf150_, rfl, hq150_0⟩ := h150_
  have h151_ := iv_get hv150_ (k := 2) (j := 2) (l := 0) (u := 200) rfl
  have h152_ : (a 2 1 ≤ y2 → a150_ 2 2 = y2) := hq150_0
  have hf153_ : jfr jW_X8_takesWord_r1001 a0 (jxu a 2 2 y2) := jfr_put hf rfl
  have hf154_ : jfr jW_X8_takesWord_r1001 a0 a150_ := jfr_tr hf153_ hf150_ rfl
  have h155_ := iv_get hv0 (k := 2) (j := 2) (l := 0) (u := 200) rfl
  exact jt_rI ⟨hv150_, hf154_, rfl, (show (0 ≤ 1 ∧ 1 ≤ 1) from by omega), (show ((¬ a0 2 3 = 0 ∨ a0 2 1 ≤ a0 2 2) → 1 = 0) from by omega), (show (1 = 0 → a150_ 2 2 = a0 2 2) from by omega)⟩
theorem cp_X8_takesWord_r1001_83 (E : jxE) (d : Nat) (hd : Nat.ble 5 (d + 1) = true) (a0 b0 : Nat → Nat → Int) (hv0 : iv a0) : ∀ (y2 : Int) (a : Nat → Nat → Int), iv a → jfr jW_X8_takesWord_r1001 a0 a → 4 ≤ y2 → y2 ≤ 199 → 5 ≤ a 2 1 → y2 = (a 2 2) + 4 → y2 ≤ a 2 1 → y2 ≤ 200 → jt (jxX E d 128 83 [some (.inr (.inr (.inl 2))), none, some (.inl y2), none] [] (jxSH, a, b0)) (jQ_X8_takesWord_r1001 a0 b0) := by
  intro y2 a hv hf hi0 hi1 hi2 hi3 hi4 hi5
  refine jt_eq (bq_X8_takesWord_r1001_83 E d y2 a b0) ?_
  have h156_ := iv_get hv (k := 2) (j := 1) (l := 0) (u := 200) rfl
  have h157_ : a 2 1 = a0 2 1 := hf 2 1 rfl
  have h158_ := iv_get hv0 (k := 2) (j := 1) (l := 0) (u := 200) rfl
  have h159_ := iv_get hv (k := 2) (j := 2) (l := 0) (u := 200) rfl
  refine jt_grd (by omega) ?_
  have h160_ := iv_get hv (k := 3) (j := y2.toNat) (l := 0) (u := 255) rfl
  have h161_ : a 3 (y2.toNat) = a0 3 (y2.toNat) := hf 3 (y2.toNat) rfl
  have h162_ := iv_get hv0 (k := 3) (j := y2.toNat) (l := 0) (u := 255) rfl
  refine jt_ite (fun c163_ => ?_) (fun c163_ => ?_)
  ·
    exact cp_X8_takesWord_r1001_96 E d hd a0 b0 hv0 y2 a hv hf (show 4 ≤ y2 from by omega) (show y2 ≤ 200 from by omega) (show 4 ≤ a 2 1 from by omega) (show y2 = (a 2 2) + 4 from by omega) (show y2 ≤ a 2 1 from by omega) (show y2 ≤ 200 from by omega)
  ·
    have h164_ := iv_get hv0 (k := 2) (j := 2) (l := 0) (u := 200) rfl
    exact jt_rI ⟨hv, hf, rfl, (show (0 ≤ 0 ∧ 0 ≤ 1) from by omega), (show ((¬ a0 2 3 = 0 ∨ a0 2 1 ≤ a0 2 2) → 0 = 0) from by omega), (show (0 = 0 → a 2 2 = a0 2 2) from by omega)⟩
theorem cp_X8_takesWord_r1001_29 (E : jxE) (d : Nat) (hd : Nat.ble 5 (d + 1) = true) (a0 b0 : Nat → Nat → Int) (hv0 : iv a0) : ∀ n : Nat, (∀ (y2 y3 : Int) (a : Nat → Nat → Int), (((4 - y3) * 1) + 0).toNat ≤ n → iv a → jfr jW_X8_takesWord_r1001 a0 a → 4 ≤ y2 → y2 ≤ 200 → 0 ≤ y3 → y3 ≤ 3 → 4 ≤ a 2 1 → y3 < 4 → 0 ≤ y3 → y2 = (a 2 2) + 4 → y2 ≤ a 2 1 → y2 ≤ 200 → jt (jxX E d 128 58 [some (.inr (.inr (.inl 2))), some (.inr (.inr (.inl 1001))), some (.inl y2), some (.inl y3)] [] (jxSH, a, b0)) (jQ_X8_takesWord_r1001 a0 b0)) ∧ (∀ (y2 y3 : Int) (a : Nat → Nat → Int), (((4 - y3) * 1) + 0).toNat ≤ n → iv a → jfr jW_X8_takesWord_r1001 a0 a → 4 ≤ y2 → y2 ≤ 200 → 0 ≤ y3 → y3 ≤ 4 → 4 ≤ a 2 1 → 0 ≤ y3 → y2 = (a 2 2) + 4 → y2 ≤ a 2 1 → y2 ≤ 200 → jt (jxX E d 128 29 [some (.inr (.inr (.inl 2))), some (.inr (.inr (.inl 1001))), some (.inl y2), some (.inl y3)] [] (jxSH, a, b0)) (jQ_X8_takesWord_r1001 a0 b0)) := by
  refine jx_ind fun n ih => ?_
  have ih58 : ∀ (y2 y3 : Int) (a : Nat → Nat → Int), (((4 - y3) * 1) + 0).toNat < n → iv a → jfr jW_X8_takesWord_r1001 a0 a → 4 ≤ y2 → y2 ≤ 200 → 0 ≤ y3 → y3 ≤ 3 → 4 ≤ a 2 1 → y3 < 4 → 0 ≤ y3 → y2 = (a 2 2) + 4 → y2 ≤ a 2 1 → y2 ≤ 200 → jt (jxX E d 128 58 [some (.inr (.inr (.inl 2))), some (.inr (.inr (.inl 1001))), some (.inl y2), some (.inl y3)] [] (jxSH, a, b0)) (jQ_X8_takesWord_r1001 a0 b0) := fun y2 y3 a hlt i0 i1 i2 i3 i4 i5 i6 i7 i8 i9 i10 i11 => (ih _ hlt).1 y2 y3 a (Nat.le_refl _) i0 i1 i2 i3 i4 i5 i6 i7 i8 i9 i10 i11
  have ih29 : ∀ (y2 y3 : Int) (a : Nat → Nat → Int), (((4 - y3) * 1) + 0).toNat < n → iv a → jfr jW_X8_takesWord_r1001 a0 a → 4 ≤ y2 → y2 ≤ 200 → 0 ≤ y3 → y3 ≤ 4 → 4 ≤ a 2 1 → 0 ≤ y3 → y2 = (a 2 2) + 4 → y2 ≤ a 2 1 → y2 ≤ 200 → jt (jxX E d 128 29 [some (.inr (.inr (.inl 2))), some (.inr (.inr (.inl 1001))), some (.inl y2), some (.inl y3)] [] (jxSH, a, b0)) (jQ_X8_takesWord_r1001 a0 b0) := fun y2 y3 a hlt i0 i1 i2 i3 i4 i5 i6 i7 i8 i9 i10 => (ih _ hlt).2 y2 y3 a (Nat.le_refl _) i0 i1 i2 i3 i4 i5 i6 i7 i8 i9 i10
  have hc58 : ∀ (y2 y3 : Int) (a : Nat → Nat → Int), (((4 - y3) * 1) + 0).toNat ≤ n → iv a → jfr jW_X8_takesWord_r1001 a0 a → 4 ≤ y2 → y2 ≤ 200 → 0 ≤ y3 → y3 ≤ 3 → 4 ≤ a 2 1 → y3 < 4 → 0 ≤ y3 → y2 = (a 2 2) + 4 → y2 ≤ a 2 1 → y2 ≤ 200 → jt (jxX E d 128 58 [some (.inr (.inr (.inl 2))), some (.inr (.inr (.inl 1001))), some (.inl y2), some (.inl y3)] [] (jxSH, a, b0)) (jQ_X8_takesWord_r1001 a0 b0) := by
    intro y2 y3 a hm hv hf hi0 hi1 hi2 hi3 hi4 hi5 hi6 hi7 hi8 hi9
    refine jt_eq (bq_X8_takesWord_r1001_58 E d y2 y3 a b0) ?_
    have h165_ := iv_get hv (k := 2) (j := 1) (l := 0) (u := 200) rfl
    have h166_ : a 2 1 = a0 2 1 := hf 2 1 rfl
    have h167_ := iv_get hv0 (k := 2) (j := 1) (l := 0) (u := 200) rfl
    have h168_ := iv_get hv (k := 2) (j := 2) (l := 0) (u := 200) rfl
    have h169_ : jxw (y3 + 1) = y3 + 1 := jxw_id (by omega) (by omega)
    exact ih29 y2 (jxw (y3 + 1)) a (show (((4 - (jxw (y3 + 1))) * 1) + 0).toNat < n from by omega) hv hf (show 4 ≤ y2 from by omega) (show y2 ≤ 200 from by omega) (show 0 ≤ jxw (y3 + 1) from by omega) (show jxw (y3 + 1) ≤ 4 from by omega) (show 4 ≤ a 2 1 from by omega) (show 0 ≤ jxw (y3 + 1) from by omega) (show y2 = (a 2 2) + 4 from by omega) (show y2 ≤ a 2 1 from by omega) (show y2 ≤ 200 from by omega)
  have hc29 : ∀ (y2 y3 : Int) (a : Nat → Nat → Int), (((4 - y3) * 1) + 0).toNat ≤ n → iv a → jfr jW_X8_takesWord_r1001 a0 a → 4 ≤ y2 → y2 ≤ 200 → 0 ≤ y3 → y3 ≤ 4 → 4 ≤ a 2 1 → 0 ≤ y3 → y2 = (a 2 2) + 4 → y2 ≤ a 2 1 → y2 ≤ 200 → jt (jxX E d 128 29 [some (.inr (.inr (.inl 2))), some (.inr (.inr (.inl 1001))), some (.inl y2), some (.inl y3)] [] (jxSH, a, b0)) (jQ_X8_takesWord_r1001 a0 b0) := by
    intro y2 y3 a hm hv hf hi0 hi1 hi2 hi3 hi4 hi5 hi6 hi7 hi8
    refine jt_eq (bq_X8_takesWord_r1001_29 E d y2 y3 a b0) ?_
    have h170_ := iv_get hv (k := 2) (j := 1) (l := 0) (u := 200) rfl
    have h171_ : a 2 1 = a0 2 1 := hf 2 1 rfl
    have h172_ := iv_get hv0 (k := 2) (j := 1) (l := 0) (u := 200) rfl
    have h173_ := iv_get hv (k := 2) (j := 2) (l := 0) (u := 200) rfl
    refine jt_eI (eq_J0_length_8abf5_r1001 E d (jd_le hd rfl) a b0) ?_
    have h174_ := ff_J0_length_8abf5_r1001 a b0
    refine jt_ite (fun c175_ => ?_) (fun c175_ => ?_)
    ·
      have h176_ : jxw ((a 2 2) + y3) = (a 2 2) + y3 := jxw_id (by omega) (by omega)
      refine jt_grd (by omega) ?_
      refine jt_eI (eq_J0_charAt_5068e_r1001 E d (jd_le hd rfl) y3 a b0 (show (0 ≤ y3 ∧ y3 < 4) from by omega)) ?_
      have h177_ := iv_get hv (k := 3) (j := (jxw ((a 2 2) + y3)).toNat) (l := 0) (u := 255) rfl
      have h178_ : a 3 ((jxw ((a 2 2) + y3)).toNat) = a0 3 ((jxw ((a 2 2) + y3)).toNat) := hf 3 ((jxw ((a 2 2) + y3)).toNat) rfl
      have h179_ := iv_get hv0 (k := 3) (j := (jxw ((a 2 2) + y3)).toNat) (l := 0) (u := 255) rfl
      have h180_ := f_J0_charAt_5068e_r1001_eq a b0 y3
      have h181_ := f_J0_isLatin1_aae02_r1001_eq a b0
      have h182_ := f_J1_charAt_3b067_r2001_eq a b0 y3
      have h183_ := jxand_r (([108, 97, 110, 100] : List Int).getD (y3.toNat) 0) 255 (by decide) (by decide)
      have h184_ := jxi2c_b (jxand (([108, 97, 110, 100] : List Int).getD (y3.toNat) 0) 255)
      refine jt_ite (fun c185_ => ?_) (fun c185_ => ?_)
      ·
        exact hc58 y2 y3 a (show (((4 - y3) * 1) + 0).toNat ≤ n from by omega) hv hf (show 4 ≤ y2 from by omega) (show y2 ≤ 200 from by omega) (show 0 ≤ y3 from by omega) (show y3 ≤ 3 from by omega) (show 4 ≤ a 2 1 from by omega) (show y3 < 4 from by omega) (show 0 ≤ y3 from by omega) (show y2 = (a 2 2) + 4 from by omega) (show y2 ≤ a 2 1 from by omega) (show y2 ≤ 200 from by omega)
      ·
        exact cp_X8_takesWord_r1001_56 E d hd a0 b0 hv0 a hv hf (show 4 ≤ a 2 1 from by omega)
    ·
      refine jt_ite (fun c186_ => ?_) (fun c186_ => ?_)
      ·
        refine jt_grd (by omega) ?_
        have h187_ := iv_get hv (k := 3) (j := y2.toNat) (l := 0) (u := 255) rfl
        have h188_ : a 3 (y2.toNat) = a0 3 (y2.toNat) := hf 3 (y2.toNat) rfl
        have h189_ := iv_get hv0 (k := 3) (j := y2.toNat) (l := 0) (u := 255) rfl
        refine jt_ite (fun c190_ => ?_) (fun c190_ => ?_)
        ·
          exact cp_X8_takesWord_r1001_96 E d hd a0 b0 hv0 y2 a hv hf (show 4 ≤ y2 from by omega) (show y2 ≤ 200 from by omega) (show 4 ≤ a 2 1 from by omega) (show y2 = (a 2 2) + 4 from by omega) (show y2 ≤ a 2 1 from by omega) (show y2 ≤ 200 from by omega)
        ·
          exact cp_X8_takesWord_r1001_83 E d hd a0 b0 hv0 y2 a hv hf (show 4 ≤ y2 from by omega) (show y2 ≤ 199 from by omega) (show 5 ≤ a 2 1 from by omega) (show y2 = (a 2 2) + 4 from by omega) (show y2 ≤ a 2 1 from by omega) (show y2 ≤ 200 from by omega)
      ·
        exact cp_X8_takesWord_r1001_96 E d hd a0 b0 hv0 y2 a hv hf (show 4 ≤ y2 from by omega) (show y2 ≤ 200 from by omega) (show 4 ≤ a 2 1 from by omega) (show y2 = (a 2 2) + 4 from by omega) (show y2 ≤ a 2 1 from by omega) (show y2 ≤ 200 from by omega)
  exact ⟨hc58, hc29⟩
theorem sp_X8_takesWord_r1001 (E : jxE) (d : Nat) (hd : Nat.ble 5 d = true) (a0 b0 : Nat → Nat → Int) (hv0 : iv a0) : jt (jxC E d 128 [.inr (.inr (.inl 2)), .inr (.inr (.inl 1001))] (jxSH, a0, b0)) (jQ_X8_takesWord_r1001 a0 b0) := by
  obtain ⟨d, rfl⟩ := jd_succ hd
  refine jt_eq (bq_X8_takesWord_r1001 E d a0 b0) ?_
  refine jt_eI (eq_J0_length_8abf5_r1001 E d (jd_le hd rfl) a0 b0) ?_
  refine jt_eI (eq_X8_isFaulty E d (jd_le hd rfl) a0 b0) ?_
  have h191_ := f_X8_isFaulty_eq a0 b0
  refine jt_ite (fun c192_ => ?_) (fun c192_ => ?_)
  ·
    have h193_ := iv_get hv0 (k := 2) (j := 1) (l := 0) (u := 200) rfl
    have h194_ := iv_get hv0 (k := 2) (j := 2) (l := 0) (u := 200) rfl
    have h195_ := ff_J0_length_8abf5_r1001 a0 b0
    have h196_ : jxw ((a0 2 2) + (f_J0_length_8abf5_r1001 a0 b0)) = (a0 2 2) + (f_J0_length_8abf5_r1001 a0 b0) := jxw_id (by omega) (by omega)
    refine jt_ite (fun c197_ => ?_) (fun c197_ => ?_)
    ·
      exact jt_rI ⟨hv0, (jfr_rf _ _), rfl, (show (0 ≤ 0 ∧ 0 ≤ 1) from by omega), (show ((¬ a0 2 3 = 0 ∨ a0 2 1 ≤ a0 2 2) → 0 = 0) from by omega), (show (0 = 0 → a0 2 2 = a0 2 2) from by omega)⟩
    ·
      exact (cp_X8_takesWord_r1001_29 E d hd a0 b0 hv0 _).2 (jxw ((a0 2 2) + (f_J0_length_8abf5_r1001 a0 b0))) 0 a0 (Nat.le_refl _) hv0 (jfr_rf _ _) (show 4 ≤ jxw ((a0 2 2) + (f_J0_length_8abf5_r1001 a0 b0)) from by omega) (show jxw ((a0 2 2) + (f_J0_length_8abf5_r1001 a0 b0)) ≤ 200 from by omega) (show 0 ≤ 0 from by omega) (show 0 ≤ 4 from by omega) (show 4 ≤ a0 2 1 from by omega) (show 0 ≤ 0 from by omega) (show jxw ((a0 2 2) + (f_J0_length_8abf5_r1001 a0 b0)) = (a0 2 2) + 4 from by omega) (show jxw ((a0 2 2) + (f_J0_length_8abf5_r1001 a0 b0)) ≤ a0 2 1 from by omega) (show jxw ((a0 2 2) + (f_J0_length_8abf5_r1001 a0 b0)) ≤ 200 from by omega)
  ·
    have h198_ := iv_get hv0 (k := 2) (j := 1) (l := 0) (u := 200) rfl
    have h199_ := iv_get hv0 (k := 2) (j := 2) (l := 0) (u := 200) rfl
    exact jt_rI ⟨hv0, (jfr_rf _ _), rfl, (show (0 ≤ 0 ∧ 0 ≤ 1) from by omega), (show ((¬ a0 2 3 = 0 ∨ a0 2 1 ≤ a0 2 2) → 0 = 0) from by omega), (show (0 = 0 → a0 2 2 = a0 2 2) from by omega)⟩
def jW_X8_takesWord_r1002 : List (Nat × Nat) := [(2, 2)]
abbrev jQ_X8_takesWord_r1002 (a0 b0 : Nat → Nat → Int) : List jxV → (Nat → Nat → Int) → (Nat → Nat → Int) → Prop := rI (fun r a b => (iv a) ∧ (jfr jW_X8_takesWord_r1002 a0 a) ∧ (b0 = b) ∧ ((0 ≤ r ∧ r ≤ 1)) ∧ (((¬ a0 2 3 = 0 ∨ a0 2 1 ≤ a0 2 2) → r = 0)) ∧ ((r = 0 → a 2 2 = a0 2 2)))
theorem cp_X8_takesWord_r1002_56 (E : jxE) (d : Nat) (hd : Nat.ble 5 (d + 1) = true) (a0 b0 : Nat → Nat → Int) (hv0 : iv a0) : ∀ (a : Nat → Nat → Int), iv a → jfr jW_X8_takesWord_r1002 a0 a → 6 ≤ a 2 1 → jt (jxX E d 128 56 [none, none, none, none] [] (jxSH, a, b0)) (jQ_X8_takesWord_r1002 a0 b0) := by
  intro a hv hf hi0
  refine jt_eq (bq_X8_takesWord_r1002_56 E d a b0) ?_
  have h200_ := iv_get hv (k := 2) (j := 1) (l := 0) (u := 200) rfl
  have h201_ : a 2 1 = a0 2 1 := hf 2 1 rfl
  have h202_ := iv_get hv0 (k := 2) (j := 1) (l := 0) (u := 200) rfl
  have h203_ := iv_get hv0 (k := 2) (j := 2) (l := 0) (u := 200) rfl
  have h204_ := iv_get hv (k := 2) (j := 2) (l := 0) (u := 200) rfl
  exact jt_rI ⟨hv, hf, rfl, (show (0 ≤ 0 ∧ 0 ≤ 1) from by omega), (show ((¬ a0 2 3 = 0 ∨ a0 2 1 ≤ a0 2 2) → 0 = 0) from by omega), (show (0 = 0 → a 2 2 = a0 2 2) from by omega)⟩
theorem cp_X8_takesWord_r1002_96 (E : jxE) (d : Nat) (hd : Nat.ble 5 (d + 1) = true) (a0 b0 : Nat → Nat → Int) (hv0 : iv a0) : ∀ (y2 : Int) (a : Nat → Nat → Int), iv a → jfr jW_X8_takesWord_r1002 a0 a → 6 ≤ y2 → y2 ≤ 200 → 6 ≤ a 2 1 → y2 = (a 2 2) + 6 → y2 ≤ a 2 1 → y2 ≤ 200 → jt (jxX E d 128 96 [some (.inr (.inr (.inl 2))), none, some (.inl y2), none] [] (jxSH, a, b0)) (jQ_X8_takesWord_r1002 a0 b0) := by
  intro y2 a hv hf hi0 hi1 hi2 hi3 hi4 hi5
  refine jt_eq (bq_X8_takesWord_r1002_96 E d y2 a b0) ?_
  have h205_ := iv_get hv (k := 2) (j := 1) (l := 0) (u := 200) rfl
  have h206_ : a 2 1 = a0 2 1 := hf 2 1 rfl
  have h207_ := iv_get hv0 (k := 2) (j := 1) (l := 0) (u := 200) rfl
  have h208_ := iv_get hv (k := 2) (j := 2) (l := 0) (u := 200) rfl
  have hv209_ : iv (jxu a 2 2 y2) := iv_put hv (l := 0) (u := 200) rfl (by omega) (by omega)
  refine jt_bV (sp_X8_skipBlanks E d (jd_le hd rfl) (jxu a 2 2 y2) b0 hv209_) (fun a210_ b210_ h210_ => ?_)
  obtain ⟨hv210_, hf210_, rfl, hq210_0⟩ := h210_
  have h211_ := iv_get hv210_ (k := 2) (j := 2) (l := 0) (u := 200) rfl
  have h212_ : (a 2 1 ≤ y2 → a210_ 2 2 = y2) := hq210_0
  have hf213_ : jfr jW_X8_takesWord_r1002 a0 (jxu a 2 2 y2) := jfr_put hf rfl
  have hf214_ : jfr jW_X8_takesWord_r1002 a0 a210_ := jfr_tr hf213_ hf210_ rfl
  have h215_ := iv_get hv0 (k := 2) (j := 2) (l := 0) (u := 200) rfl
  exact jt_rI ⟨hv210_, hf214_, rfl, (show (0 ≤ 1 ∧ 1 ≤ 1) from by omega), (show ((¬ a0 2 3 = 0 ∨ a0 2 1 ≤ a0 2 2) → 1 = 0) from by omega), (show (1 = 0 → a210_ 2 2 = a0 2 2) from by omega)⟩
theorem cp_X8_takesWord_r1002_83 (E : jxE) (d : Nat) (hd : Nat.ble 5 (d + 1) = true) (a0 b0 : Nat → Nat → Int) (hv0 : iv a0) : ∀ (y2 : Int) (a : Nat → Nat → Int), iv a → jfr jW_X8_takesWord_r1002 a0 a → 6 ≤ y2 → y2 ≤ 199 → 7 ≤ a 2 1 → y2 = (a 2 2) + 6 → y2 ≤ a 2 1 → y2 ≤ 200 → jt (jxX E d 128 83 [some (.inr (.inr (.inl 2))), none, some (.inl y2), none] [] (jxSH, a, b0)) (jQ_X8_takesWord_r1002 a0 b0) := by
  intro y2 a hv hf hi0 hi1 hi2 hi3 hi4 hi5
  refine jt_eq (bq_X8_takesWord_r1002_83 E d y2 a b0) ?_
  have h216_ := iv_get hv (k := 2) (j := 1) (l := 0) (u := 200) rfl
  have h217_ : a 2 1 = a0 2 1 := hf 2 1 rfl
  have h218_ := iv_get hv0 (k := 2) (j := 1) (l := 0) (u := 200) rfl
  have h219_ := iv_get hv (k := 2) (j := 2) (l := 0) (u := 200) rfl
  refine jt_grd (by omega) ?_
  have h220_ := iv_get hv (k := 3) (j := y2.toNat) (l := 0) (u := 255) rfl
  have h221_ : a 3 (y2.toNat) = a0 3 (y2.toNat) := hf 3 (y2.toNat) rfl
  have h222_ := iv_get hv0 (k := 3) (j := y2.toNat) (l := 0) (u := 255) rfl
  refine jt_ite (fun c223_ => ?_) (fun c223_ => ?_)
  ·
    exact cp_X8_takesWord_r1002_96 E d hd a0 b0 hv0 y2 a hv hf (show 6 ≤ y2 from by omega) (show y2 ≤ 200 from by omega) (show 6 ≤ a 2 1 from by omega) (show y2 = (a 2 2) + 6 from by omega) (show y2 ≤ a 2 1 from by omega) (show y2 ≤ 200 from by omega)
  ·
    have h224_ := iv_get hv0 (k := 2) (j := 2) (l := 0) (u := 200) rfl
    exact jt_rI ⟨hv, hf, rfl, (show (0 ≤ 0 ∧ 0 ≤ 1) from by omega), (show ((¬ a0 2 3 = 0 ∨ a0 2 1 ≤ a0 2 2) → 0 = 0) from by omega), (show (0 = 0 → a 2 2 = a0 2 2) from by omega)⟩
theorem cp_X8_takesWord_r1002_29 (E : jxE) (d : Nat) (hd : Nat.ble 5 (d + 1) = true) (a0 b0 : Nat → Nat → Int) (hv0 : iv a0) : ∀ n : Nat, (∀ (y2 y3 : Int) (a : Nat → Nat → Int), (((6 - y3) * 1) + 0).toNat ≤ n → iv a → jfr jW_X8_takesWord_r1002 a0 a → 6 ≤ y2 → y2 ≤ 200 → 0 ≤ y3 → y3 ≤ 5 → 6 ≤ a 2 1 → y3 < 6 → 0 ≤ y3 → y2 = (a 2 2) + 6 → y2 ≤ a 2 1 → y2 ≤ 200 → jt (jxX E d 128 58 [some (.inr (.inr (.inl 2))), some (.inr (.inr (.inl 1002))), some (.inl y2), some (.inl y3)] [] (jxSH, a, b0)) (jQ_X8_takesWord_r1002 a0 b0)) ∧ (∀ (y2 y3 : Int) (a : Nat → Nat → Int), (((6 - y3) * 1) + 0).toNat ≤ n → iv a → jfr jW_X8_takesWord_r1002 a0 a → 6 ≤ y2 → y2 ≤ 200 → 0 ≤ y3 → y3 ≤ 6 → 6 ≤ a 2 1 → 0 ≤ y3 → y2 = (a 2 2) + 6 → y2 ≤ a 2 1 → y2 ≤ 200 → jt (jxX E d 128 29 [some (.inr (.inr (.inl 2))), some (.inr (.inr (.inl 1002))), some (.inl y2), some (.inl y3)] [] (jxSH, a, b0)) (jQ_X8_takesWord_r1002 a0 b0)) := by
  refine jx_ind fun n ih => ?_
  have ih58 : ∀ (y2 y3 : Int) (a : Nat → Nat → Int), (((6 - y3) * 1) + 0).toNat < n → iv a → jfr jW_X8_takesWord_r1002 a0 a → 6 ≤ y2 → y2 ≤ 200 → 0 ≤ y3 → y3 ≤ 5 → 6 ≤ a 2 1 → y3 < 6 → 0 ≤ y3 → y2 = (a 2 2) + 6 → y2 ≤ a 2 1 → y2 ≤ 200 → jt (jxX E d 128 58 [some (.inr (.inr (.inl 2))), some (.inr (.inr (.inl 1002))), some (.inl y2), some (.inl y3)] [] (jxSH, a, b0)) (jQ_X8_takesWord_r1002 a0 b0) := fun y2 y3 a hlt i0 i1 i2 i3 i4 i5 i6 i7 i8 i9 i10 i11 => (ih _ hlt).1 y2 y3 a (Nat.le_refl _) i0 i1 i2 i3 i4 i5 i6 i7 i8 i9 i10 i11
  have ih29 : ∀ (y2 y3 : Int) (a : Nat → Nat → Int), (((6 - y3) * 1) + 0).toNat < n → iv a → jfr jW_X8_takesWord_r1002 a0 a → 6 ≤ y2 → y2 ≤ 200 → 0 ≤ y3 → y3 ≤ 6 → 6 ≤ a 2 1 → 0 ≤ y3 → y2 = (a 2 2) + 6 → y2 ≤ a 2 1 → y2 ≤ 200 → jt (jxX E d 128 29 [some (.inr (.inr (.inl 2))), some (.inr (.inr (.inl 1002))), some (.inl y2), some (.inl y3)] [] (jxSH, a, b0)) (jQ_X8_takesWord_r1002 a0 b0) := fun y2 y3 a hlt i0 i1 i2 i3 i4 i5 i6 i7 i8 i9 i10 => (ih _ hlt).2 y2 y3 a (Nat.le_refl _) i0 i1 i2 i3 i4 i5 i6 i7 i8 i9 i10
  have hc58 : ∀ (y2 y3 : Int) (a : Nat → Nat → Int), (((6 - y3) * 1) + 0).toNat ≤ n → iv a → jfr jW_X8_takesWord_r1002 a0 a → 6 ≤ y2 → y2 ≤ 200 → 0 ≤ y3 → y3 ≤ 5 → 6 ≤ a 2 1 → y3 < 6 → 0 ≤ y3 → y2 = (a 2 2) + 6 → y2 ≤ a 2 1 → y2 ≤ 200 → jt (jxX E d 128 58 [some (.inr (.inr (.inl 2))), some (.inr (.inr (.inl 1002))), some (.inl y2), some (.inl y3)] [] (jxSH, a, b0)) (jQ_X8_takesWord_r1002 a0 b0) := by
    intro y2 y3 a hm hv hf hi0 hi1 hi2 hi3 hi4 hi5 hi6 hi7 hi8 hi9
    refine jt_eq (bq_X8_takesWord_r1002_58 E d y2 y3 a b0) ?_
    have h225_ := iv_get hv (k := 2) (j := 1) (l := 0) (u := 200) rfl
    have h226_ : a 2 1 = a0 2 1 := hf 2 1 rfl
    have h227_ := iv_get hv0 (k := 2) (j := 1) (l := 0) (u := 200) rfl
    have h228_ := iv_get hv (k := 2) (j := 2) (l := 0) (u := 200) rfl
    have h229_ : jxw (y3 + 1) = y3 + 1 := jxw_id (by omega) (by omega)
    exact ih29 y2 (jxw (y3 + 1)) a (show (((6 - (jxw (y3 + 1))) * 1) + 0).toNat < n from by omega) hv hf (show 6 ≤ y2 from by omega) (show y2 ≤ 200 from by omega) (show 0 ≤ jxw (y3 + 1) from by omega) (show jxw (y3 + 1) ≤ 6 from by omega) (show 6 ≤ a 2 1 from by omega) (show 0 ≤ jxw (y3 + 1) from by omega) (show y2 = (a 2 2) + 6 from by omega) (show y2 ≤ a 2 1 from by omega) (show y2 ≤ 200 from by omega)
  have hc29 : ∀ (y2 y3 : Int) (a : Nat → Nat → Int), (((6 - y3) * 1) + 0).toNat ≤ n → iv a → jfr jW_X8_takesWord_r1002 a0 a → 6 ≤ y2 → y2 ≤ 200 → 0 ≤ y3 → y3 ≤ 6 → 6 ≤ a 2 1 → 0 ≤ y3 → y2 = (a 2 2) + 6 → y2 ≤ a 2 1 → y2 ≤ 200 → jt (jxX E d 128 29 [some (.inr (.inr (.inl 2))), some (.inr (.inr (.inl 1002))), some (.inl y2), some (.inl y3)] [] (jxSH, a, b0)) (jQ_X8_takesWord_r1002 a0 b0) := by
    intro y2 y3 a hm hv hf hi0 hi1 hi2 hi3 hi4 hi5 hi6 hi7 hi8
    refine jt_eq (bq_X8_takesWord_r1002_29 E d y2 y3 a b0) ?_
    have h230_ := iv_get hv (k := 2) (j := 1) (l := 0) (u := 200) rfl
    have h231_ : a 2 1 = a0 2 1 := hf 2 1 rfl
    have h232_ := iv_get hv0 (k := 2) (j := 1) (l := 0) (u := 200) rfl
    have h233_ := iv_get hv (k := 2) (j := 2) (l := 0) (u := 200) rfl
    refine jt_eI (eq_J0_length_8abf5_r1002 E d (jd_le hd rfl) a b0) ?_
    have h234_ := ff_J0_length_8abf5_r1002 a b0
    refine jt_ite (fun c235_ => ?_) (fun c235_ => ?_)
    ·
      have h236_ : jxw ((a 2 2) + y3) = (a 2 2) + y3 := jxw_id (by omega) (by omega)
      refine jt_grd (by omega) ?_
      refine jt_eI (eq_J0_charAt_5068e_r1002 E d (jd_le hd rfl) y3 a b0 (show (0 ≤ y3 ∧ y3 < 6) from by omega)) ?_
      have h237_ := iv_get hv (k := 3) (j := (jxw ((a 2 2) + y3)).toNat) (l := 0) (u := 255) rfl
      have h238_ : a 3 ((jxw ((a 2 2) + y3)).toNat) = a0 3 ((jxw ((a 2 2) + y3)).toNat) := hf 3 ((jxw ((a 2 2) + y3)).toNat) rfl
      have h239_ := iv_get hv0 (k := 3) (j := (jxw ((a 2 2) + y3)).toNat) (l := 0) (u := 255) rfl
      have h240_ := f_J0_charAt_5068e_r1002_eq a b0 y3
      have h241_ := f_J0_isLatin1_aae02_r1002_eq a b0
      have h242_ := f_J1_charAt_3b067_r2002_eq a b0 y3
      have h243_ := jxand_r (([116, 111, 110, 103, 117, 101] : List Int).getD (y3.toNat) 0) 255 (by decide) (by decide)
      have h244_ := jxi2c_b (jxand (([116, 111, 110, 103, 117, 101] : List Int).getD (y3.toNat) 0) 255)
      refine jt_ite (fun c245_ => ?_) (fun c245_ => ?_)
      ·
        exact hc58 y2 y3 a (show (((6 - y3) * 1) + 0).toNat ≤ n from by omega) hv hf (show 6 ≤ y2 from by omega) (show y2 ≤ 200 from by omega) (show 0 ≤ y3 from by omega) (show y3 ≤ 5 from by omega) (show 6 ≤ a 2 1 from by omega) (show y3 < 6 from by omega) (show 0 ≤ y3 from by omega) (show y2 = (a 2 2) + 6 from by omega) (show y2 ≤ a 2 1 from by omega) (show y2 ≤ 200 from by omega)
      ·
        exact cp_X8_takesWord_r1002_56 E d hd a0 b0 hv0 a hv hf (show 6 ≤ a 2 1 from by omega)
    ·
      refine jt_ite (fun c246_ => ?_) (fun c246_ => ?_)
      ·
        refine jt_grd (by omega) ?_
        have h247_ := iv_get hv (k := 3) (j := y2.toNat) (l := 0) (u := 255) rfl
        have h248_ : a 3 (y2.toNat) = a0 3 (y2.toNat) := hf 3 (y2.toNat) rfl
        have h249_ := iv_get hv0 (k := 3) (j := y2.toNat) (l := 0) (u := 255) rfl
        refine jt_ite (fun c250_ => ?_) (fun c250_ => ?_)
        ·
          exact cp_X8_takesWord_r1002_96 E d hd a0 b0 hv0 y2 a hv hf (show 6 ≤ y2 from by omega) (show y2 ≤ 200 from by omega) (show 6 ≤ a 2 1 from by omega) (show y2 = (a 2 2) + 6 from by omega) (show y2 ≤ a 2 1 from by omega) (show y2 ≤ 200 from by omega)
        ·
          exact cp_X8_takesWord_r1002_83 E d hd a0 b0 hv0 y2 a hv hf (show 6 ≤ y2 from by omega) (show y2 ≤ 199 from by omega) (show 7 ≤ a 2 1 from by omega) (show y2 = (a 2 2) + 6 from by omega) (show y2 ≤ a 2 1 from by omega) (show y2 ≤ 200 from by omega)
      ·
        exact cp_X8_takesWord_r1002_96 E d hd a0 b0 hv0 y2 a hv hf (show 6 ≤ y2 from by omega) (show y2 ≤ 200 from by omega) (show 6 ≤ a 2 1 from by omega) (show y2 = (a 2 2) + 6 from by omega) (show y2 ≤ a 2 1 from by omega) (show y2 ≤ 200 from by omega)
  exact ⟨hc58, hc29⟩
theorem sp_X8_takesWord_r1002 (E : jxE) (d : Nat) (hd : Nat.ble 5 d = true) (a0 b0 : Nat → Nat → Int) (hv0 : iv a0) : jt (jxC E d 128 [.inr (.inr (.inl 2)), .inr (.inr (.inl 1002))] (jxSH, a0, b0)) (jQ_X8_takesWord_r1002 a0 b0) := by
  obtain ⟨d, rfl⟩ := jd_succ hd
  refine jt_eq (bq_X8_takesWord_r1002 E d a0 b0) ?_
  refine jt_eI (eq_J0_length_8abf5_r1002 E d (jd_le hd rfl) a0 b0) ?_
  refine jt_eI (eq_X8_isFaulty E d (jd_le hd rfl) a0 b0) ?_
  have h251_ := f_X8_isFaulty_eq a0 b0
  refine jt_ite (fun c252_ => ?_) (fun c252_ => ?_)
  ·
    have h253_ := iv_get hv0 (k := 2) (j := 1) (l := 0) (u := 200) rfl
    have h254_ := iv_get hv0 (k := 2) (j := 2) (l := 0) (u := 200) rfl
    have h255_ := ff_J0_length_8abf5_r1002 a0 b0
    have h256_ : jxw ((a0 2 2) + (f_J0_length_8abf5_r1002 a0 b0)) = (a0 2 2) + (f_J0_length_8abf5_r1002 a0 b0) := jxw_id (by omega) (by omega)
    refine jt_ite (fun c257_ => ?_) (fun c257_ => ?_)
    ·
      exact jt_rI ⟨hv0, (jfr_rf _ _), rfl, (show (0 ≤ 0 ∧ 0 ≤ 1) from by omega), (show ((¬ a0 2 3 = 0 ∨ a0 2 1 ≤ a0 2 2) → 0 = 0) from by omega), (show (0 = 0 → a0 2 2 = a0 2 2) from by omega)⟩
    ·
      exact (cp_X8_takesWord_r1002_29 E d hd a0 b0 hv0 _).2 (jxw ((a0 2 2) + (f_J0_length_8abf5_r1002 a0 b0))) 0 a0 (Nat.le_refl _) hv0 (jfr_rf _ _) (show 6 ≤ jxw ((a0 2 2) + (f_J0_length_8abf5_r1002 a0 b0)) from by omega) (show jxw ((a0 2 2) + (f_J0_length_8abf5_r1002 a0 b0)) ≤ 200 from by omega) (show 0 ≤ 0 from by omega) (show 0 ≤ 6 from by omega) (show 6 ≤ a0 2 1 from by omega) (show 0 ≤ 0 from by omega) (show jxw ((a0 2 2) + (f_J0_length_8abf5_r1002 a0 b0)) = (a0 2 2) + 6 from by omega) (show jxw ((a0 2 2) + (f_J0_length_8abf5_r1002 a0 b0)) ≤ a0 2 1 from by omega) (show jxw ((a0 2 2) + (f_J0_length_8abf5_r1002 a0 b0)) ≤ 200 from by omega)
  ·
    have h258_ := iv_get hv0 (k := 2) (j := 1) (l := 0) (u := 200) rfl
    have h259_ := iv_get hv0 (k := 2) (j := 2) (l := 0) (u := 200) rfl
    exact jt_rI ⟨hv0, (jfr_rf _ _), rfl, (show (0 ≤ 0 ∧ 0 ≤ 1) from by omega), (show ((¬ a0 2 3 = 0 ∨ a0 2 1 ≤ a0 2 2) → 0 = 0) from by omega), (show (0 = 0 → a0 2 2 = a0 2 2) from by omega)⟩
def jW_X8_takesWord_r1003 : List (Nat × Nat) := [(2, 2)]
abbrev jQ_X8_takesWord_r1003 (a0 b0 : Nat → Nat → Int) : List jxV → (Nat → Nat → Int) → (Nat → Nat → Int) → Prop := rI (fun r a b => (iv a) ∧ (jfr jW_X8_takesWord_r1003 a0 a) ∧ (b0 = b) ∧ ((0 ≤ r ∧ r ≤ 1)) ∧ (((¬ a0 2 3 = 0 ∨ a0 2 1 ≤ a0 2 2) → r = 0)) ∧ ((r = 0 → a 2 2 = a0 2 2)))
theorem cp_X8_takesWord_r1003_56 (E : jxE) (d : Nat) (hd : Nat.ble 5 (d + 1) = true) (a0 b0 : Nat → Nat → Int) (hv0 : iv a0) : ∀ (a : Nat → Nat → Int), iv a → jfr jW_X8_takesWord_r1003 a0 a → 6 ≤ a 2 1 → jt (jxX E d 128 56 [none, none, none, none] [] (jxSH, a, b0)) (jQ_X8_takesWord_r1003 a0 b0) := by
  intro a hv hf hi0
  refine jt_eq (bq_X8_takesWord_r1003_56 E d a b0) ?_
  have h260_ := iv_get hv (k := 2) (j := 1) (l := 0) (u := 200) rfl
  have h261_ : a 2 1 = a0 2 1 := hf 2 1 rfl
  have h262_ := iv_get hv0 (k := 2) (j := 1) (l := 0) (u := 200) rfl
  have h263_ := iv_get hv0 (k := 2) (j := 2) (l := 0) (u := 200) rfl
  have h264_ := iv_get hv (k := 2) (j := 2) (l := 0) (u := 200) rfl
  exact jt_rI ⟨hv, hf, rfl, (show (0 ≤ 0 ∧ 0 ≤ 1) from by omega), (show ((¬ a0 2 3 = 0 ∨ a0 2 1 ≤ a0 2 2) → 0 = 0) from by omega), (show (0 = 0 → a 2 2 = a0 2 2) from by omega)⟩
theorem cp_X8_takesWord_r1003_96 (E : jxE) (d : Nat) (hd : Nat.ble 5 (d + 1) = true) (a0 b0 : Nat → Nat → Int) (hv0 : iv a0) : ∀ (y2 : Int) (a : Nat → Nat → Int), iv a → jfr jW_X8_takesWord_r1003 a0 a → 6 ≤ y2 → y2 ≤ 200 → 6 ≤ a 2 1 → y2 = (a 2 2) + 6 → y2 ≤ a 2 1 → y2 ≤ 200 → jt (jxX E d 128 96 [some (.inr (.inr (.inl 2))), none, some (.inl y2), none] [] (jxSH, a, b0)) (jQ_X8_takesWord_r1003 a0 b0) := by
  intro y2 a hv hf hi0 hi1 hi2 hi3 hi4 hi5
  refine jt_eq (bq_X8_takesWord_r1003_96 E d y2 a b0) ?_
  have h265_ := iv_get hv (k := 2) (j := 1) (l := 0) (u := 200) rfl
  have h266_ : a 2 1 = a0 2 1 := hf 2 1 rfl
  have h267_ := iv_get hv0 (k := 2) (j := 1) (l := 0) (u := 200) rfl
  have h268_ := iv_get hv (k := 2) (j := 2) (l := 0) (u := 200) rfl
  have hv269_ : iv (jxu a 2 2 y2) := iv_put hv (l := 0) (u := 200) rfl (by omega) (by omega)
  refine jt_bV (sp_X8_skipBlanks E d (jd_le hd rfl) (jxu a 2 2 y2) b0 hv269_) (fun a270_ b270_ h270_ => ?_)
  obtain ⟨hv270_, hf270_, rfl, hq270_0⟩ := h270_
  have h271_ := iv_get hv270_ (k := 2) (j := 2) (l := 0) (u := 200) rfl
  have h272_ : (a 2 1 ≤ y2 → a270_ 2 2 = y2) := hq270_0
  have hf273_ : jfr jW_X8_takesWord_r1003 a0 (jxu a 2 2 y2) := jfr_put hf rfl
  have hf274_ : jfr jW_X8_takesWord_r1003 a0 a270_ := jfr_tr hf273_ hf270_ rfl
  have h275_ := iv_get hv0 (k := 2) (j := 2) (l := 0) (u := 200) rfl
  exact jt_rI ⟨hv270_, hf274_, rfl, (show (0 ≤ 1 ∧ 1 ≤ 1) from by omega), (show ((¬ a0 2 3 = 0 ∨ a0 2 1 ≤ a0 2 2) → 1 = 0) from by omega), (show (1 = 0 → a270_ 2 2 = a0 2 2) from by omega)⟩
theorem cp_X8_takesWord_r1003_83 (E : jxE) (d : Nat) (hd : Nat.ble 5 (d + 1) = true) (a0 b0 : Nat → Nat → Int) (hv0 : iv a0) : ∀ (y2 : Int) (a : Nat → Nat → Int), iv a → jfr jW_X8_takesWord_r1003 a0 a → 6 ≤ y2 → y2 ≤ 199 → 7 ≤ a 2 1 → y2 = (a 2 2) + 6 → y2 ≤ a 2 1 → y2 ≤ 200 → jt (jxX E d 128 83 [some (.inr (.inr (.inl 2))), none, some (.inl y2), none] [] (jxSH, a, b0)) (jQ_X8_takesWord_r1003 a0 b0) := by
  intro y2 a hv hf hi0 hi1 hi2 hi3 hi4 hi5
  refine jt_eq (bq_X8_takesWord_r1003_83 E d y2 a b0) ?_
  have h276_ := iv_get hv (k := 2) (j := 1) (l := 0) (u := 200) rfl
  have h277_ : a 2 1 = a0 2 1 := hf 2 1 rfl
  have h278_ := iv_get hv0 (k := 2) (j := 1) (l := 0) (u := 200) rfl
  have h279_ := iv_get hv (k := 2) (j := 2) (l := 0) (u := 200) rfl
  refine jt_grd (by omega) ?_
  have h280_ := iv_get hv (k := 3) (j := y2.toNat) (l := 0) (u := 255) rfl
  have h281_ : a 3 (y2.toNat) = a0 3 (y2.toNat) := hf 3 (y2.toNat) rfl
  have h282_ := iv_get hv0 (k := 3) (j := y2.toNat) (l := 0) (u := 255) rfl
  refine jt_ite (fun c283_ => ?_) (fun c283_ => ?_)
  ·
    exact cp_X8_takesWord_r1003_96 E d hd a0 b0 hv0 y2 a hv hf (show 6 ≤ y2 from by omega) (show y2 ≤ 200 from by omega) (show 6 ≤ a 2 1 from by omega) (show y2 = (a 2 2) + 6 from by omega) (show y2 ≤ a 2 1 from by omega) (show y2 ≤ 200 from by omega)
  ·
    have h284_ := iv_get hv0 (k := 2) (j := 2) (l := 0) (u := 200) rfl
    exact jt_rI ⟨hv, hf, rfl, (show (0 ≤ 0 ∧ 0 ≤ 1) from by omega), (show ((¬ a0 2 3 = 0 ∨ a0 2 1 ≤ a0 2 2) → 0 = 0) from by omega), (show (0 = 0 → a 2 2 = a0 2 2) from by omega)⟩
theorem cp_X8_takesWord_r1003_29 (E : jxE) (d : Nat) (hd : Nat.ble 5 (d + 1) = true) (a0 b0 : Nat → Nat → Int) (hv0 : iv a0) : ∀ n : Nat, (∀ (y2 y3 : Int) (a : Nat → Nat → Int), (((6 - y3) * 1) + 0).toNat ≤ n → iv a → jfr jW_X8_takesWord_r1003 a0 a → 6 ≤ y2 → y2 ≤ 200 → 0 ≤ y3 → y3 ≤ 5 → 6 ≤ a 2 1 → y3 < 6 → 0 ≤ y3 → y2 = (a 2 2) + 6 → y2 ≤ a 2 1 → y2 ≤ 200 → jt (jxX E d 128 58 [some (.inr (.inr (.inl 2))), some (.inr (.inr (.inl 1003))), some (.inl y2), some (.inl y3)] [] (jxSH, a, b0)) (jQ_X8_takesWord_r1003 a0 b0)) ∧ (∀ (y2 y3 : Int) (a : Nat → Nat → Int), (((6 - y3) * 1) + 0).toNat ≤ n → iv a → jfr jW_X8_takesWord_r1003 a0 a → 6 ≤ y2 → y2 ≤ 200 → 0 ≤ y3 → y3 ≤ 6 → 6 ≤ a 2 1 → 0 ≤ y3 → y2 = (a 2 2) + 6 → y2 ≤ a 2 1 → y2 ≤ 200 → jt (jxX E d 128 29 [some (.inr (.inr (.inl 2))), some (.inr (.inr (.inl 1003))), some (.inl y2), some (.inl y3)] [] (jxSH, a, b0)) (jQ_X8_takesWord_r1003 a0 b0)) := by
  refine jx_ind fun n ih => ?_
  have ih58 : ∀ (y2 y3 : Int) (a : Nat → Nat → Int), (((6 - y3) * 1) + 0).toNat < n → iv a → jfr jW_X8_takesWord_r1003 a0 a → 6 ≤ y2 → y2 ≤ 200 → 0 ≤ y3 → y3 ≤ 5 → 6 ≤ a 2 1 → y3 < 6 → 0 ≤ y3 → y2 = (a 2 2) + 6 → y2 ≤ a 2 1 → y2 ≤ 200 → jt (jxX E d 128 58 [some (.inr (.inr (.inl 2))), some (.inr (.inr (.inl 1003))), some (.inl y2), some (.inl y3)] [] (jxSH, a, b0)) (jQ_X8_takesWord_r1003 a0 b0) := fun y2 y3 a hlt i0 i1 i2 i3 i4 i5 i6 i7 i8 i9 i10 i11 => (ih _ hlt).1 y2 y3 a (Nat.le_refl _) i0 i1 i2 i3 i4 i5 i6 i7 i8 i9 i10 i11
  have ih29 : ∀ (y2 y3 : Int) (a : Nat → Nat → Int), (((6 - y3) * 1) + 0).toNat < n → iv a → jfr jW_X8_takesWord_r1003 a0 a → 6 ≤ y2 → y2 ≤ 200 → 0 ≤ y3 → y3 ≤ 6 → 6 ≤ a 2 1 → 0 ≤ y3 → y2 = (a 2 2) + 6 → y2 ≤ a 2 1 → y2 ≤ 200 → jt (jxX E d 128 29 [some (.inr (.inr (.inl 2))), some (.inr (.inr (.inl 1003))), some (.inl y2), some (.inl y3)] [] (jxSH, a, b0)) (jQ_X8_takesWord_r1003 a0 b0) := fun y2 y3 a hlt i0 i1 i2 i3 i4 i5 i6 i7 i8 i9 i10 => (ih _ hlt).2 y2 y3 a (Nat.le_refl _) i0 i1 i2 i3 i4 i5 i6 i7 i8 i9 i10
  have hc58 : ∀ (y2 y3 : Int) (a : Nat → Nat → Int), (((6 - y3) * 1) + 0).toNat ≤ n → iv a → jfr jW_X8_takesWord_r1003 a0 a → 6 ≤ y2 → y2 ≤ 200 → 0 ≤ y3 → y3 ≤ 5 → 6 ≤ a 2 1 → y3 < 6 → 0 ≤ y3 → y2 = (a 2 2) + 6 → y2 ≤ a 2 1 → y2 ≤ 200 → jt (jxX E d 128 58 [some (.inr (.inr (.inl 2))), some (.inr (.inr (.inl 1003))), some (.inl y2), some (.inl y3)] [] (jxSH, a, b0)) (jQ_X8_takesWord_r1003 a0 b0) := by
    intro y2 y3 a hm hv hf hi0 hi1 hi2 hi3 hi4 hi5 hi6 hi7 hi8 hi9
    refine jt_eq (bq_X8_takesWord_r1003_58 E d y2 y3 a b0) ?_
    have h285_ := iv_get hv (k := 2) (j := 1) (l := 0) (u := 200) rfl
    have h286_ : a 2 1 = a0 2 1 := hf 2 1 rfl
    have h287_ := iv_get hv0 (k := 2) (j := 1) (l := 0) (u := 200) rfl
    have h288_ := iv_get hv (k := 2) (j := 2) (l := 0) (u := 200) rfl
    have h289_ : jxw (y3 + 1) = y3 + 1 := jxw_id (by omega) (by omega)
    exact ih29 y2 (jxw (y3 + 1)) a (show (((6 - (jxw (y3 + 1))) * 1) + 0).toNat < n from by omega) hv hf (show 6 ≤ y2 from by omega) (show y2 ≤ 200 from by omega) (show 0 ≤ jxw (y3 + 1) from by omega) (show jxw (y3 + 1) ≤ 6 from by omega) (show 6 ≤ a 2 1 from by omega) (show 0 ≤ jxw (y3 + 1) from by omega) (show y2 = (a 2 2) + 6 from by omega) (show y2 ≤ a 2 1 from by omega) (show y2 ≤ 200 from by omega)
  have hc29 : ∀ (y2 y3 : Int) (a : Nat → Nat → Int), (((6 - y3) * 1) + 0).toNat ≤ n → iv a → jfr jW_X8_takesWord_r1003 a0 a → 6 ≤ y2 → y2 ≤ 200 → 0 ≤ y3 → y3 ≤ 6 → 6 ≤ a 2 1 → 0 ≤ y3 → y2 = (a 2 2) + 6 → y2 ≤ a 2 1 → y2 ≤ 200 → jt (jxX E d 128 29 [some (.inr (.inr (.inl 2))), some (.inr (.inr (.inl 1003))), some (.inl y2), some (.inl y3)] [] (jxSH, a, b0)) (jQ_X8_takesWord_r1003 a0 b0) := by
    intro y2 y3 a hm hv hf hi0 hi1 hi2 hi3 hi4 hi5 hi6 hi7 hi8
    refine jt_eq (bq_X8_takesWord_r1003_29 E d y2 y3 a b0) ?_
    have h290_ := iv_get hv (k := 2) (j := 1) (l := 0) (u := 200) rfl
    have h291_ : a 2 1 = a0 2 1 := hf 2 1 rfl
    have h292_ := iv_get hv0 (k := 2) (j := 1) (l := 0) (u := 200) rfl
    have h293_ := iv_get hv (k := 2) (j := 2) (l := 0) (u := 200) rfl
    refine jt_eI (eq_J0_length_8abf5_r1003 E d (jd_le hd rfl) a b0) ?_
    have h294_ := ff_J0_length_8abf5_r1003 a b0
    refine jt_ite (fun c295_ => ?_) (fun c295_ => ?_)
    ·
      have h296_ : jxw ((a 2 2) + y3) = (a 2 2) + y3 := jxw_id (by omega) (by omega)
      refine jt_grd (by omega) ?_
      refine jt_eI (eq_J0_charAt_5068e_r1003 E d (jd_le hd rfl) y3 a b0 (show (0 ≤ y3 ∧ y3 < 6) from by omega)) ?_
      have h297_ := iv_get hv (k := 3) (j := (jxw ((a 2 2) + y3)).toNat) (l := 0) (u := 255) rfl
      have h298_ : a 3 ((jxw ((a 2 2) + y3)).toNat) = a0 3 ((jxw ((a 2 2) + y3)).toNat) := hf 3 ((jxw ((a 2 2) + y3)).toNat) rfl
      have h299_ := iv_get hv0 (k := 3) (j := (jxw ((a 2 2) + y3)).toNat) (l := 0) (u := 255) rfl
      have h300_ := f_J0_charAt_5068e_r1003_eq a b0 y3
      have h301_ := f_J0_isLatin1_aae02_r1003_eq a b0
      have h302_ := f_J1_charAt_3b067_r2003_eq a b0 y3
      have h303_ := jxand_r (([115, 104, 97, 114, 101, 100] : List Int).getD (y3.toNat) 0) 255 (by decide) (by decide)
      have h304_ := jxi2c_b (jxand (([115, 104, 97, 114, 101, 100] : List Int).getD (y3.toNat) 0) 255)
      refine jt_ite (fun c305_ => ?_) (fun c305_ => ?_)
      ·
        exact hc58 y2 y3 a (show (((6 - y3) * 1) + 0).toNat ≤ n from by omega) hv hf (show 6 ≤ y2 from by omega) (show y2 ≤ 200 from by omega) (show 0 ≤ y3 from by omega) (show y3 ≤ 5 from by omega) (show 6 ≤ a 2 1 from by omega) (show y3 < 6 from by omega) (show 0 ≤ y3 from by omega) (show y2 = (a 2 2) + 6 from by omega) (show y2 ≤ a 2 1 from by omega) (show y2 ≤ 200 from by omega)
      ·
        exact cp_X8_takesWord_r1003_56 E d hd a0 b0 hv0 a hv hf (show 6 ≤ a 2 1 from by omega)
    ·
      refine jt_ite (fun c306_ => ?_) (fun c306_ => ?_)
      ·
        refine jt_grd (by omega) ?_
        have h307_ := iv_get hv (k := 3) (j := y2.toNat) (l := 0) (u := 255) rfl
        have h308_ : a 3 (y2.toNat) = a0 3 (y2.toNat) := hf 3 (y2.toNat) rfl
        have h309_ := iv_get hv0 (k := 3) (j := y2.toNat) (l := 0) (u := 255) rfl
        refine jt_ite (fun c310_ => ?_) (fun c310_ => ?_)
        ·
          exact cp_X8_takesWord_r1003_96 E d hd a0 b0 hv0 y2 a hv hf (show 6 ≤ y2 from by omega) (show y2 ≤ 200 from by omega) (show 6 ≤ a 2 1 from by omega) (show y2 = (a 2 2) + 6 from by omega) (show y2 ≤ a 2 1 from by omega) (show y2 ≤ 200 from by omega)
        ·
          exact cp_X8_takesWord_r1003_83 E d hd a0 b0 hv0 y2 a hv hf (show 6 ≤ y2 from by omega) (show y2 ≤ 199 from by omega) (show 7 ≤ a 2 1 from by omega) (show y2 = (a 2 2) + 6 from by omega) (show y2 ≤ a 2 1 from by omega) (show y2 ≤ 200 from by omega)
      ·
        exact cp_X8_takesWord_r1003_96 E d hd a0 b0 hv0 y2 a hv hf (show 6 ≤ y2 from by omega) (show y2 ≤ 200 from by omega) (show 6 ≤ a 2 1 from by omega) (show y2 = (a 2 2) + 6 from by omega) (show y2 ≤ a 2 1 from by omega) (show y2 ≤ 200 from by omega)
  exact ⟨hc58, hc29⟩
theorem sp_X8_takesWord_r1003 (E : jxE) (d : Nat) (hd : Nat.ble 5 d = true) (a0 b0 : Nat → Nat → Int) (hv0 : iv a0) : jt (jxC E d 128 [.inr (.inr (.inl 2)), .inr (.inr (.inl 1003))] (jxSH, a0, b0)) (jQ_X8_takesWord_r1003 a0 b0) := by
  obtain ⟨d, rfl⟩ := jd_succ hd
  refine jt_eq (bq_X8_takesWord_r1003 E d a0 b0) ?_
  refine jt_eI (eq_J0_length_8abf5_r1003 E d (jd_le hd rfl) a0 b0) ?_
  refine jt_eI (eq_X8_isFaulty E d (jd_le hd rfl) a0 b0) ?_
  have h311_ := f_X8_isFaulty_eq a0 b0
  refine jt_ite (fun c312_ => ?_) (fun c312_ => ?_)
  ·
    have h313_ := iv_get hv0 (k := 2) (j := 1) (l := 0) (u := 200) rfl
    have h314_ := iv_get hv0 (k := 2) (j := 2) (l := 0) (u := 200) rfl
    have h315_ := ff_J0_length_8abf5_r1003 a0 b0
    have h316_ : jxw ((a0 2 2) + (f_J0_length_8abf5_r1003 a0 b0)) = (a0 2 2) + (f_J0_length_8abf5_r1003 a0 b0) := jxw_id (by omega) (by omega)
    refine jt_ite (fun c317_ => ?_) (fun c317_ => ?_)
    ·
      exact jt_rI ⟨hv0, (jfr_rf _ _), rfl, (show (0 ≤ 0 ∧ 0 ≤ 1) from by omega), (show ((¬ a0 2 3 = 0 ∨ a0 2 1 ≤ a0 2 2) → 0 = 0) from by omega), (show (0 = 0 → a0 2 2 = a0 2 2) from by omega)⟩
    ·
      exact (cp_X8_takesWord_r1003_29 E d hd a0 b0 hv0 _).2 (jxw ((a0 2 2) + (f_J0_length_8abf5_r1003 a0 b0))) 0 a0 (Nat.le_refl _) hv0 (jfr_rf _ _) (show 6 ≤ jxw ((a0 2 2) + (f_J0_length_8abf5_r1003 a0 b0)) from by omega) (show jxw ((a0 2 2) + (f_J0_length_8abf5_r1003 a0 b0)) ≤ 200 from by omega) (show 0 ≤ 0 from by omega) (show 0 ≤ 6 from by omega) (show 6 ≤ a0 2 1 from by omega) (show 0 ≤ 0 from by omega) (show jxw ((a0 2 2) + (f_J0_length_8abf5_r1003 a0 b0)) = (a0 2 2) + 6 from by omega) (show jxw ((a0 2 2) + (f_J0_length_8abf5_r1003 a0 b0)) ≤ a0 2 1 from by omega) (show jxw ((a0 2 2) + (f_J0_length_8abf5_r1003 a0 b0)) ≤ 200 from by omega)
  ·
    have h318_ := iv_get hv0 (k := 2) (j := 1) (l := 0) (u := 200) rfl
    have h319_ := iv_get hv0 (k := 2) (j := 2) (l := 0) (u := 200) rfl
    exact jt_rI ⟨hv0, (jfr_rf _ _), rfl, (show (0 ≤ 0 ∧ 0 ≤ 1) from by omega), (show ((¬ a0 2 3 = 0 ∨ a0 2 1 ≤ a0 2 2) → 0 = 0) from by omega), (show (0 = 0 → a0 2 2 = a0 2 2) from by omega)⟩
def jW_X8_takesWord_r1004 : List (Nat × Nat) := [(2, 2)]
abbrev jQ_X8_takesWord_r1004 (a0 b0 : Nat → Nat → Int) : List jxV → (Nat → Nat → Int) → (Nat → Nat → Int) → Prop := rI (fun r a b => (iv a) ∧ (jfr jW_X8_takesWord_r1004 a0 a) ∧ (b0 = b) ∧ ((0 ≤ r ∧ r ≤ 1)) ∧ (((¬ a0 2 3 = 0 ∨ a0 2 1 ≤ a0 2 2) → r = 0)) ∧ ((r = 0 → a 2 2 = a0 2 2)))
theorem cp_X8_takesWord_r1004_56 (E : jxE) (d : Nat) (hd : Nat.ble 5 (d + 1) = true) (a0 b0 : Nat → Nat → Int) (hv0 : iv a0) : ∀ (a : Nat → Nat → Int), iv a → jfr jW_X8_takesWord_r1004 a0 a → 3 ≤ a 2 1 → jt (jxX E d 128 56 [none, none, none, none] [] (jxSH, a, b0)) (jQ_X8_takesWord_r1004 a0 b0) := by
  intro a hv hf hi0
  refine jt_eq (bq_X8_takesWord_r1004_56 E d a b0) ?_
  have h320_ := iv_get hv (k := 2) (j := 1) (l := 0) (u := 200) rfl
  have h321_ : a 2 1 = a0 2 1 := hf 2 1 rfl
  have h322_ := iv_get hv0 (k := 2) (j := 1) (l := 0) (u := 200) rfl
  have h323_ := iv_get hv0 (k := 2) (j := 2) (l := 0) (u := 200) rfl
  have h324_ := iv_get hv (k := 2) (j := 2) (l := 0) (u := 200) rfl
  exact jt_rI ⟨hv, hf, rfl, (show (0 ≤ 0 ∧ 0 ≤ 1) from by omega), (show ((¬ a0 2 3 = 0 ∨ a0 2 1 ≤ a0 2 2) → 0 = 0) from by omega), (show (0 = 0 → a 2 2 = a0 2 2) from by omega)⟩
theorem cp_X8_takesWord_r1004_96 (E : jxE) (d : Nat) (hd : Nat.ble 5 (d + 1) = true) (a0 b0 : Nat → Nat → Int) (hv0 : iv a0) : ∀ (y2 : Int) (a : Nat → Nat → Int), iv a → jfr jW_X8_takesWord_r1004 a0 a → 3 ≤ y2 → y2 ≤ 200 → 3 ≤ a 2 1 → y2 = (a 2 2) + 3 → y2 ≤ a 2 1 → y2 ≤ 200 → jt (jxX E d 128 96 [some (.inr (.inr (.inl 2))), none, some (.inl y2), none] [] (jxSH, a, b0)) (jQ_X8_takesWord_r1004 a0 b0) := by
  intro y2 a hv hf hi0 hi1 hi2 hi3 hi4 hi5
  refine jt_eq (bq_X8_takesWord_r1004_96 E d y2 a b0) ?_
  have h325_ := iv_get hv (k := 2) (j := 1) (l := 0) (u := 200) rfl
  have h326_ : a 2 1 = a0 2 1 := hf 2 1 rfl
  have h327_ := iv_get hv0 (k := 2) (j := 1) (l := 0) (u := 200) rfl
  have h328_ := iv_get hv (k := 2) (j := 2) (l := 0) (u := 200) rfl
  have hv329_ : iv (jxu a 2 2 y2) := iv_put hv (l := 0) (u := 200) rfl (by omega) (by omega)
  refine jt_bV (sp_X8_skipBlanks E d (jd_le hd rfl) (jxu a 2 2 y2) b0 hv329_) (fun a330_ b330_ h330_ => ?_)
  obtain ⟨hv330_, hf330_, rfl, hq330_0⟩ := h330_
  have h331_ := iv_get hv330_ (k := 2) (j := 2) (l := 0) (u := 200) rfl
  have h332_ : (a 2 1 ≤ y2 → a330_ 2 2 = y2) := hq330_0
  have hf333_ : jfr jW_X8_takesWord_r1004 a0 (jxu a 2 2 y2) := jfr_put hf rfl
  have hf334_ : jfr jW_X8_takesWord_r1004 a0 a330_ := jfr_tr hf333_ hf330_ rfl
  have h335_ := iv_get hv0 (k := 2) (j := 2) (l := 0) (u := 200) rfl
  exact jt_rI ⟨hv330_, hf334_, rfl, (show (0 ≤ 1 ∧ 1 ≤ 1) from by omega), (show ((¬ a0 2 3 = 0 ∨ a0 2 1 ≤ a0 2 2) → 1 = 0) from by omega), (show (1 = 0 → a330_ 2 2 = a0 2 2) from by omega)⟩
theorem cp_X8_takesWord_r1004_83 (E : jxE) (d : Nat) (hd : Nat.ble 5 (d + 1) = true) (a0 b0 : Nat → Nat → Int) (hv0 : iv a0) : ∀ (y2 : Int) (a : Nat → Nat → Int), iv a → jfr jW_X8_takesWord_r1004 a0 a → 3 ≤ y2 → y2 ≤ 199 → 4 ≤ a 2 1 → y2 = (a 2 2) + 3 → y2 ≤ a 2 1 → y2 ≤ 200 → jt (jxX E d 128 83 [some (.inr (.inr (.inl 2))), none, some (.inl y2), none] [] (jxSH, a, b0)) (jQ_X8_takesWord_r1004 a0 b0) := by
  intro y2 a hv hf hi0 hi1 hi2 hi3 hi4 hi5
  refine jt_eq (bq_X8_takesWord_r1004_83 E d y2 a b0) ?_
  have h336_ := iv_get hv (k := 2) (j := 1) (l := 0) (u := 200) rfl
  have h337_ : a 2 1 = a0 2 1 := hf 2 1 rfl
  have h338_ := iv_get hv0 (k := 2) (j := 1) (l := 0) (u := 200) rfl
  have h339_ := iv_get hv (k := 2) (j := 2) (l := 0) (u := 200) rfl
  refine jt_grd (by omega) ?_
  have h340_ := iv_get hv (k := 3) (j := y2.toNat) (l := 0) (u := 255) rfl
  have h341_ : a 3 (y2.toNat) = a0 3 (y2.toNat) := hf 3 (y2.toNat) rfl
  have h342_ := iv_get hv0 (k := 3) (j := y2.toNat) (l := 0) (u := 255) rfl
  refine jt_ite (fun c343_ => ?_) (fun c343_ => ?_)
  ·
    exact cp_X8_takesWord_r1004_96 E d hd a0 b0 hv0 y2 a hv hf (show 3 ≤ y2 from by omega) (show y2 ≤ 200 from by omega) (show 3 ≤ a 2 1 from by omega) (show y2 = (a 2 2) + 3 from by omega) (show y2 ≤ a 2 1 from by omega) (show y2 ≤ 200 from by omega)
  ·
    have h344_ := iv_get hv0 (k := 2) (j := 2) (l := 0) (u := 200) rfl
    exact jt_rI ⟨hv, hf, rfl, (show (0 ≤ 0 ∧ 0 ≤ 1) from by omega), (show ((¬ a0 2 3 = 0 ∨ a0 2 1 ≤ a0 2 2) → 0 = 0) from by omega), (show (0 = 0 → a 2 2 = a0 2 2) from by omega)⟩
theorem cp_X8_takesWord_r1004_29 (E : jxE) (d : Nat) (hd : Nat.ble 5 (d + 1) = true) (a0 b0 : Nat → Nat → Int) (hv0 : iv a0) : ∀ n : Nat, (∀ (y2 y3 : Int) (a : Nat → Nat → Int), (((3 - y3) * 1) + 0).toNat ≤ n → iv a → jfr jW_X8_takesWord_r1004 a0 a → 3 ≤ y2 → y2 ≤ 200 → 0 ≤ y3 → y3 ≤ 2 → 3 ≤ a 2 1 → y3 < 3 → 0 ≤ y3 → y2 = (a 2 2) + 3 → y2 ≤ a 2 1 → y2 ≤ 200 → jt (jxX E d 128 58 [some (.inr (.inr (.inl 2))), some (.inr (.inr (.inl 1004))), some (.inl y2), some (.inl y3)] [] (jxSH, a, b0)) (jQ_X8_takesWord_r1004 a0 b0)) ∧ (∀ (y2 y3 : Int) (a : Nat → Nat → Int), (((3 - y3) * 1) + 0).toNat ≤ n → iv a → jfr jW_X8_takesWord_r1004 a0 a → 3 ≤ y2 → y2 ≤ 200 → 0 ≤ y3 → y3 ≤ 3 → 3 ≤ a 2 1 → 0 ≤ y3 → y2 = (a 2 2) + 3 → y2 ≤ a 2 1 → y2 ≤ 200 → jt (jxX E d 128 29 [some (.inr (.inr (.inl 2))), some (.inr (.inr (.inl 1004))), some (.inl y2), some (.inl y3)] [] (jxSH, a, b0)) (jQ_X8_takesWord_r1004 a0 b0)) := by
  refine jx_ind fun n ih => ?_
  have ih58 : ∀ (y2 y3 : Int) (a : Nat → Nat → Int), (((3 - y3) * 1) + 0).toNat < n → iv a → jfr jW_X8_takesWord_r1004 a0 a → 3 ≤ y2 → y2 ≤ 200 → 0 ≤ y3 → y3 ≤ 2 → 3 ≤ a 2 1 → y3 < 3 → 0 ≤ y3 → y2 = (a 2 2) + 3 → y2 ≤ a 2 1 → y2 ≤ 200 → jt (jxX E d 128 58 [some (.inr (.inr (.inl 2))), some (.inr (.inr (.inl 1004))), some (.inl y2), some (.inl y3)] [] (jxSH, a, b0)) (jQ_X8_takesWord_r1004 a0 b0) := fun y2 y3 a hlt i0 i1 i2 i3 i4 i5 i6 i7 i8 i9 i10 i11 => (ih _ hlt).1 y2 y3 a (Nat.le_refl _) i0 i1 i2 i3 i4 i5 i6 i7 i8 i9 i10 i11
  have ih29 : ∀ (y2 y3 : Int) (a : Nat → Nat → Int), (((3 - y3) * 1) + 0).toNat < n → iv a → jfr jW_X8_takesWord_r1004 a0 a → 3 ≤ y2 → y2 ≤ 200 → 0 ≤ y3 → y3 ≤ 3 → 3 ≤ a 2 1 → 0 ≤ y3 → y2 = (a 2 2) + 3 → y2 ≤ a 2 1 → y2 ≤ 200 → jt (jxX E d 128 29 [some (.inr (.inr (.inl 2))), some (.inr (.inr (.inl 1004))), some (.inl y2), some (.inl y3)] [] (jxSH, a, b0)) (jQ_X8_takesWord_r1004 a0 b0) := fun y2 y3 a hlt i0 i1 i2 i3 i4 i5 i6 i7 i8 i9 i10 => (ih _ hlt).2 y2 y3 a (Nat.le_refl _) i0 i1 i2 i3 i4 i5 i6 i7 i8 i9 i10
  have hc58 : ∀ (y2 y3 : Int) (a : Nat → Nat → Int), (((3 - y3) * 1) + 0).toNat ≤ n → iv a → jfr jW_X8_takesWord_r1004 a0 a → 3 ≤ y2 → y2 ≤ 200 → 0 ≤ y3 → y3 ≤ 2 → 3 ≤ a 2 1 → y3 < 3 → 0 ≤ y3 → y2 = (a 2 2) + 3 → y2 ≤ a 2 1 → y2 ≤ 200 → jt (jxX E d 128 58 [some (.inr (.inr (.inl 2))), some (.inr (.inr (.inl 1004))), some (.inl y2), some (.inl y3)] [] (jxSH, a, b0)) (jQ_X8_takesWord_r1004 a0 b0) := by
    intro y2 y3 a hm hv hf hi0 hi1 hi2 hi3 hi4 hi5 hi6 hi7 hi8 hi9
    refine jt_eq (bq_X8_takesWord_r1004_58 E d y2 y3 a b0) ?_
    have h345_ := iv_get hv (k := 2) (j := 1) (l := 0) (u := 200) rfl
    have h346_ : a 2 1 = a0 2 1 := hf 2 1 rfl
    have h347_ := iv_get hv0 (k := 2) (j := 1) (l := 0) (u := 200) rfl
    have h348_ := iv_get hv (k := 2) (j := 2) (l := 0) (u := 200) rfl
    have h349_ : jxw (y3 + 1) = y3 + 1 := jxw_id (by omega) (by omega)
    exact ih29 y2 (jxw (y3 + 1)) a (show (((3 - (jxw (y3 + 1))) * 1) + 0).toNat < n from by omega) hv hf (show 3 ≤ y2 from by omega) (show y2 ≤ 200 from by omega) (show 0 ≤ jxw (y3 + 1) from by omega) (show jxw (y3 + 1) ≤ 3 from by omega) (show 3 ≤ a 2 1 from by omega) (show 0 ≤ jxw (y3 + 1) from by omega) (show y2 = (a 2 2) + 3 from by omega) (show y2 ≤ a 2 1 from by omega) (show y2 ≤ 200 from by omega)
  have hc29 : ∀ (y2 y3 : Int) (a : Nat → Nat → Int), (((3 - y3) * 1) + 0).toNat ≤ n → iv a → jfr jW_X8_takesWord_r1004 a0 a → 3 ≤ y2 → y2 ≤ 200 → 0 ≤ y3 → y3 ≤ 3 → 3 ≤ a 2 1 → 0 ≤ y3 → y2 = (a 2 2) + 3 → y2 ≤ a 2 1 → y2 ≤ 200 → jt (jxX E d 128 29 [some (.inr (.inr (.inl 2))), some (.inr (.inr (.inl 1004))), some (.inl y2), some (.inl y3)] [] (jxSH, a, b0)) (jQ_X8_takesWord_r1004 a0 b0) := by
    intro y2 y3 a hm hv hf hi0 hi1 hi2 hi3 hi4 hi5 hi6 hi7 hi8
    refine jt_eq (bq_X8_takesWord_r1004_29 E d y2 y3 a b0) ?_
    have h350_ := iv_get hv (k := 2) (j := 1) (l := 0) (u := 200) rfl
    have h351_ : a 2 1 = a0 2 1 := hf 2 1 rfl
    have h352_ := iv_get hv0 (k := 2) (j := 1) (l := 0) (u := 200) rfl
    have h353_ := iv_get hv (k := 2) (j := 2) (l := 0) (u := 200) rfl
    refine jt_eI (eq_J0_length_8abf5_r1004 E d (jd_le hd rfl) a b0) ?_
    have h354_ := ff_J0_length_8abf5_r1004 a b0
    refine jt_ite (fun c355_ => ?_) (fun c355_ => ?_)
    ·
      have h356_ : jxw ((a 2 2) + y3) = (a 2 2) + y3 := jxw_id (by omega) (by omega)
      refine jt_grd (by omega) ?_
      refine jt_eI (eq_J0_charAt_5068e_r1004 E d (jd_le hd rfl) y3 a b0 (show (0 ≤ y3 ∧ y3 < 3) from by omega)) ?_
      have h357_ := iv_get hv (k := 3) (j := (jxw ((a 2 2) + y3)).toNat) (l := 0) (u := 255) rfl
      have h358_ : a 3 ((jxw ((a 2 2) + y3)).toNat) = a0 3 ((jxw ((a 2 2) + y3)).toNat) := hf 3 ((jxw ((a 2 2) + y3)).toNat) rfl
      have h359_ := iv_get hv0 (k := 3) (j := (jxw ((a 2 2) + y3)).toNat) (l := 0) (u := 255) rfl
      have h360_ := f_J0_charAt_5068e_r1004_eq a b0 y3
      have h361_ := f_J0_isLatin1_aae02_r1004_eq a b0
      have h362_ := f_J1_charAt_3b067_r2004_eq a b0 y3
      have h363_ := jxand_r (([102, 97, 114] : List Int).getD (y3.toNat) 0) 255 (by decide) (by decide)
      have h364_ := jxi2c_b (jxand (([102, 97, 114] : List Int).getD (y3.toNat) 0) 255)
      refine jt_ite (fun c365_ => ?_) (fun c365_ => ?_)
      ·
        exact hc58 y2 y3 a (show (((3 - y3) * 1) + 0).toNat ≤ n from by omega) hv hf (show 3 ≤ y2 from by omega) (show y2 ≤ 200 from by omega) (show 0 ≤ y3 from by omega) (show y3 ≤ 2 from by omega) (show 3 ≤ a 2 1 from by omega) (show y3 < 3 from by omega) (show 0 ≤ y3 from by omega) (show y2 = (a 2 2) + 3 from by omega) (show y2 ≤ a 2 1 from by omega) (show y2 ≤ 200 from by omega)
      ·
        exact cp_X8_takesWord_r1004_56 E d hd a0 b0 hv0 a hv hf (show 3 ≤ a 2 1 from by omega)
    ·
      refine jt_ite (fun c366_ => ?_) (fun c366_ => ?_)
      ·
        refine jt_grd (by omega) ?_
        have h367_ := iv_get hv (k := 3) (j := y2.toNat) (l := 0) (u := 255) rfl
        have h368_ : a 3 (y2.toNat) = a0 3 (y2.toNat) := hf 3 (y2.toNat) rfl
        have h369_ := iv_get hv0 (k := 3) (j := y2.toNat) (l := 0) (u := 255) rfl
        refine jt_ite (fun c370_ => ?_) (fun c370_ => ?_)
        ·
          exact cp_X8_takesWord_r1004_96 E d hd a0 b0 hv0 y2 a hv hf (show 3 ≤ y2 from by omega) (show y2 ≤ 200 from by omega) (show 3 ≤ a 2 1 from by omega) (show y2 = (a 2 2) + 3 from by omega) (show y2 ≤ a 2 1 from by omega) (show y2 ≤ 200 from by omega)
        ·
          exact cp_X8_takesWord_r1004_83 E d hd a0 b0 hv0 y2 a hv hf (show 3 ≤ y2 from by omega) (show y2 ≤ 199 from by omega) (show 4 ≤ a 2 1 from by omega) (show y2 = (a 2 2) + 3 from by omega) (show y2 ≤ a 2 1 from by omega) (show y2 ≤ 200 from by omega)
      ·
        exact cp_X8_takesWord_r1004_96 E d hd a0 b0 hv0 y2 a hv hf (show 3 ≤ y2 from by omega) (show y2 ≤ 200 from by omega) (show 3 ≤ a 2 1 from by omega) (show y2 = (a 2 2) + 3 from by omega) (show y2 ≤ a 2 1 from by omega) (show y2 ≤ 200 from by omega)
  exact ⟨hc58, hc29⟩
theorem sp_X8_takesWord_r1004 (E : jxE) (d : Nat) (hd : Nat.ble 5 d = true) (a0 b0 : Nat → Nat → Int) (hv0 : iv a0) : jt (jxC E d 128 [.inr (.inr (.inl 2)), .inr (.inr (.inl 1004))] (jxSH, a0, b0)) (jQ_X8_takesWord_r1004 a0 b0) := by
  obtain ⟨d, rfl⟩ := jd_succ hd
  refine jt_eq (bq_X8_takesWord_r1004 E d a0 b0) ?_
  refine jt_eI (eq_J0_length_8abf5_r1004 E d (jd_le hd rfl) a0 b0) ?_
  refine jt_eI (eq_X8_isFaulty E d (jd_le hd rfl) a0 b0) ?_
  have h371_ := f_X8_isFaulty_eq a0 b0
  refine jt_ite (fun c372_ => ?_) (fun c372_ => ?_)
  ·
    have h373_ := iv_get hv0 (k := 2) (j := 1) (l := 0) (u := 200) rfl
    have h374_ := iv_get hv0 (k := 2) (j := 2) (l := 0) (u := 200) rfl
    have h375_ := ff_J0_length_8abf5_r1004 a0 b0
    have h376_ : jxw ((a0 2 2) + (f_J0_length_8abf5_r1004 a0 b0)) = (a0 2 2) + (f_J0_length_8abf5_r1004 a0 b0) := jxw_id (by omega) (by omega)
    refine jt_ite (fun c377_ => ?_) (fun c377_ => ?_)
    ·
      exact jt_rI ⟨hv0, (jfr_rf _ _), rfl, (show (0 ≤ 0 ∧ 0 ≤ 1) from by omega), (show ((¬ a0 2 3 = 0 ∨ a0 2 1 ≤ a0 2 2) → 0 = 0) from by omega), (show (0 = 0 → a0 2 2 = a0 2 2) from by omega)⟩
    ·
      exact (cp_X8_takesWord_r1004_29 E d hd a0 b0 hv0 _).2 (jxw ((a0 2 2) + (f_J0_length_8abf5_r1004 a0 b0))) 0 a0 (Nat.le_refl _) hv0 (jfr_rf _ _) (show 3 ≤ jxw ((a0 2 2) + (f_J0_length_8abf5_r1004 a0 b0)) from by omega) (show jxw ((a0 2 2) + (f_J0_length_8abf5_r1004 a0 b0)) ≤ 200 from by omega) (show 0 ≤ 0 from by omega) (show 0 ≤ 3 from by omega) (show 3 ≤ a0 2 1 from by omega) (show 0 ≤ 0 from by omega) (show jxw ((a0 2 2) + (f_J0_length_8abf5_r1004 a0 b0)) = (a0 2 2) + 3 from by omega) (show jxw ((a0 2 2) + (f_J0_length_8abf5_r1004 a0 b0)) ≤ a0 2 1 from by omega) (show jxw ((a0 2 2) + (f_J0_length_8abf5_r1004 a0 b0)) ≤ 200 from by omega)
  ·
    have h378_ := iv_get hv0 (k := 2) (j := 1) (l := 0) (u := 200) rfl
    have h379_ := iv_get hv0 (k := 2) (j := 2) (l := 0) (u := 200) rfl
    exact jt_rI ⟨hv0, (jfr_rf _ _), rfl, (show (0 ≤ 0 ∧ 0 ≤ 1) from by omega), (show ((¬ a0 2 3 = 0 ∨ a0 2 1 ≤ a0 2 2) → 0 = 0) from by omega), (show (0 = 0 → a0 2 2 = a0 2 2) from by omega)⟩
def jW_X8_takesWord_r1005 : List (Nat × Nat) := [(2, 2)]
abbrev jQ_X8_takesWord_r1005 (a0 b0 : Nat → Nat → Int) : List jxV → (Nat → Nat → Int) → (Nat → Nat → Int) → Prop := rI (fun r a b => (iv a) ∧ (jfr jW_X8_takesWord_r1005 a0 a) ∧ (b0 = b) ∧ ((0 ≤ r ∧ r ≤ 1)) ∧ (((¬ a0 2 3 = 0 ∨ a0 2 1 ≤ a0 2 2) → r = 0)) ∧ ((r = 0 → a 2 2 = a0 2 2)))
theorem cp_X8_takesWord_r1005_56 (E : jxE) (d : Nat) (hd : Nat.ble 5 (d + 1) = true) (a0 b0 : Nat → Nat → Int) (hv0 : iv a0) : ∀ (a : Nat → Nat → Int), iv a → jfr jW_X8_takesWord_r1005 a0 a → 4 ≤ a 2 1 → jt (jxX E d 128 56 [none, none, none, none] [] (jxSH, a, b0)) (jQ_X8_takesWord_r1005 a0 b0) := by
  intro a hv hf hi0
  refine jt_eq (bq_X8_takesWord_r1005_56 E d a b0) ?_
  have h380_ := iv_get hv (k := 2) (j := 1) (l := 0) (u := 200) rfl
  have h381_ : a 2 1 = a0 2 1 := hf 2 1 rfl
  have h382_ := iv_get hv0 (k := 2) (j := 1) (l := 0) (u := 200) rfl
  have h383_ := iv_get hv0 (k := 2) (j := 2) (l := 0) (u := 200) rfl
  have h384_ := iv_get hv (k := 2) (j := 2) (l := 0) (u := 200) rfl
  exact jt_rI ⟨hv, hf, rfl, (show (0 ≤ 0 ∧ 0 ≤ 1) from by omega), (show ((¬ a0 2 3 = 0 ∨ a0 2 1 ≤ a0 2 2) → 0 = 0) from by omega), (show (0 = 0 → a 2 2 = a0 2 2) from by omega)⟩
theorem cp_X8_takesWord_r1005_96 (E : jxE) (d : Nat) (hd : Nat.ble 5 (d + 1) = true) (a0 b0 : Nat → Nat → Int) (hv0 : iv a0) : ∀ (y2 : Int) (a : Nat → Nat → Int), iv a → jfr jW_X8_takesWord_r1005 a0 a → 4 ≤ y2 → y2 ≤ 200 → 4 ≤ a 2 1 → y2 = (a 2 2) + 4 → y2 ≤ a 2 1 → y2 ≤ 200 → jt (jxX E d 128 96 [some (.inr (.inr (.inl 2))), none, some (.inl y2), none] [] (jxSH, a, b0)) (jQ_X8_takesWord_r1005 a0 b0) := by
  intro y2 a hv hf hi0 hi1 hi2 hi3 hi4 hi5
  refine jt_eq (bq_X8_takesWord_r1005_96 E d y2 a b0) ?_
  have h385_ := iv_get hv (k := 2) (j := 1) (l := 0) (u := 200) rfl
  have h386_ : a 2 1 = a0 2 1 := hf 2 1 rfl
  have h387_ := iv_get hv0 (k := 2) (j := 1) (l := 0) (u := 200) rfl
  have h388_ := iv_get hv (k := 2) (j := 2) (l := 0) (u := 200) rfl
  have hv389_ : iv (jxu a 2 2 y2) := iv_put hv (l := 0) (u := 200) rfl (by omega) (by omega)
  refine jt_bV (sp_X8_skipBlanks E d (jd_le hd rfl) (jxu a 2 2 y2) b0 hv389_) (fun a390_ b390_ h390_ => ?_)
  obtain ⟨hv390_, hf390_, rfl, hq390_0⟩ := h390_
  have h391_ := iv_get hv390_ (k := 2) (j := 2) (l := 0) (u := 200) rfl
  have h392_ : (a 2 1 ≤ y2 → a390_ 2 2 = y2) := hq390_0
  have hf393_ : jfr jW_X8_takesWord_r1005 a0 (jxu a 2 2 y2) := jfr_put hf rfl
  have hf394_ : jfr jW_X8_takesWord_r1005 a0 a390_ := jfr_tr hf393_ hf390_ rfl
  have h395_ := iv_get hv0 (k := 2) (j := 2) (l := 0) (u := 200) rfl
  exact jt_rI ⟨hv390_, hf394_, rfl, (show (0 ≤ 1 ∧ 1 ≤ 1) from by omega), (show ((¬ a0 2 3 = 0 ∨ a0 2 1 ≤ a0 2 2) → 1 = 0) from by omega), (show (1 = 0 → a390_ 2 2 = a0 2 2) from by omega)⟩
theorem cp_X8_takesWord_r1005_83 (E : jxE) (d : Nat) (hd : Nat.ble 5 (d + 1) = true) (a0 b0 : Nat → Nat → Int) (hv0 : iv a0) : ∀ (y2 : Int) (a : Nat → Nat → Int), iv a → jfr jW_X8_takesWord_r1005 a0 a → 4 ≤ y2 → y2 ≤ 199 → 5 ≤ a 2 1 → y2 = (a 2 2) + 4 → y2 ≤ a 2 1 → y2 ≤ 200 → jt (jxX E d 128 83 [some (.inr (.inr (.inl 2))), none, some (.inl y2), none] [] (jxSH, a, b0)) (jQ_X8_takesWord_r1005 a0 b0) := by
  intro y2 a hv hf hi0 hi1 hi2 hi3 hi4 hi5
  refine jt_eq (bq_X8_takesWord_r1005_83 E d y2 a b0) ?_
  have h396_ := iv_get hv (k := 2) (j := 1) (l := 0) (u := 200) rfl
  have h397_ : a 2 1 = a0 2 1 := hf 2 1 rfl
  have h398_ := iv_get hv0 (k := 2) (j := 1) (l := 0) (u := 200) rfl
  have h399_ := iv_get hv (k := 2) (j := 2) (l := 0) (u := 200) rfl
  refine jt_grd (by omega) ?_
  have h400_ := iv_get hv (k := 3) (j := y2.toNat) (l := 0) (u := 255) rfl
  have h401_ : a 3 (y2.toNat) = a0 3 (y2.toNat) := hf 3 (y2.toNat) rfl
  have h402_ := iv_get hv0 (k := 3) (j := y2.toNat) (l := 0) (u := 255) rfl
  refine jt_ite (fun c403_ => ?_) (fun c403_ => ?_)
  ·
    exact cp_X8_takesWord_r1005_96 E d hd a0 b0 hv0 y2 a hv hf (show 4 ≤ y2 from by omega) (show y2 ≤ 200 from by omega) (show 4 ≤ a 2 1 from by omega) (show y2 = (a 2 2) + 4 from by omega) (show y2 ≤ a 2 1 from by omega) (show y2 ≤ 200 from by omega)
  ·
    have h404_ := iv_get hv0 (k := 2) (j := 2) (l := 0) (u := 200) rfl
    exact jt_rI ⟨hv, hf, rfl, (show (0 ≤ 0 ∧ 0 ≤ 1) from by omega), (show ((¬ a0 2 3 = 0 ∨ a0 2 1 ≤ a0 2 2) → 0 = 0) from by omega), (show (0 = 0 → a 2 2 = a0 2 2) from by omega)⟩
theorem cp_X8_takesWord_r1005_29 (E : jxE) (d : Nat) (hd : Nat.ble 5 (d + 1) = true) (a0 b0 : Nat → Nat → Int) (hv0 : iv a0) : ∀ n : Nat, (∀ (y2 y3 : Int) (a : Nat → Nat → Int), (((4 - y3) * 1) + 0).toNat ≤ n → iv a → jfr jW_X8_takesWord_r1005 a0 a → 4 ≤ y2 → y2 ≤ 200 → 0 ≤ y3 → y3 ≤ 3 → 4 ≤ a 2 1 → y3 < 4 → 0 ≤ y3 → y2 = (a 2 2) + 4 → y2 ≤ a 2 1 → y2 ≤ 200 → jt (jxX E d 128 58 [some (.inr (.inr (.inl 2))), some (.inr (.inr (.inl 1005))), some (.inl y2), some (.inl y3)] [] (jxSH, a, b0)) (jQ_X8_takesWord_r1005 a0 b0)) ∧ (∀ (y2 y3 : Int) (a : Nat → Nat → Int), (((4 - y3) * 1) + 0).toNat ≤ n → iv a → jfr jW_X8_takesWord_r1005 a0 a → 4 ≤ y2 → y2 ≤ 200 → 0 ≤ y3 → y3 ≤ 4 → 4 ≤ a 2 1 → 0 ≤ y3 → y2 = (a 2 2) + 4 → y2 ≤ a 2 1 → y2 ≤ 200 → jt (jxX E d 128 29 [some (.inr (.inr (.inl 2))), some (.inr (.inr (.inl 1005))), some (.inl y2), some (.inl y3)] [] (jxSH, a, b0)) (jQ_X8_takesWord_r1005 a0 b0)) := by
  refine jx_ind fun n ih => ?_
  have ih58 : ∀ (y2 y3 : Int) (a : Nat → Nat → Int), (((4 - y3) * 1) + 0).toNat < n → iv a → jfr jW_X8_takesWord_r1005 a0 a → 4 ≤ y2 → y2 ≤ 200 → 0 ≤ y3 → y3 ≤ 3 → 4 ≤ a 2 1 → y3 < 4 → 0 ≤ y3 → y2 = (a 2 2) + 4 → y2 ≤ a 2 1 → y2 ≤ 200 → jt (jxX E d 128 58 [some (.inr (.inr (.inl 2))), some (.inr (.inr (.inl 1005))), some (.inl y2), some (.inl y3)] [] (jxSH, a, b0)) (jQ_X8_takesWord_r1005 a0 b0) := fun y2 y3 a hlt i0 i1 i2 i3 i4 i5 i6 i7 i8 i9 i10 i11 => (ih _ hlt).1 y2 y3 a (Nat.le_refl _) i0 i1 i2 i3 i4 i5 i6 i7 i8 i9 i10 i11
  have ih29 : ∀ (y2 y3 : Int) (a : Nat → Nat → Int), (((4 - y3) * 1) + 0).toNat < n → iv a → jfr jW_X8_takesWord_r1005 a0 a → 4 ≤ y2 → y2 ≤ 200 → 0 ≤ y3 → y3 ≤ 4 → 4 ≤ a 2 1 → 0 ≤ y3 → y2 = (a 2 2) + 4 → y2 ≤ a 2 1 → y2 ≤ 200 → jt (jxX E d 128 29 [some (.inr (.inr (.inl 2))), some (.inr (.inr (.inl 1005))), some (.inl y2), some (.inl y3)] [] (jxSH, a, b0)) (jQ_X8_takesWord_r1005 a0 b0) := fun y2 y3 a hlt i0 i1 i2 i3 i4 i5 i6 i7 i8 i9 i10 => (ih _ hlt).2 y2 y3 a (Nat.le_refl _) i0 i1 i2 i3 i4 i5 i6 i7 i8 i9 i10
  have hc58 : ∀ (y2 y3 : Int) (a : Nat → Nat → Int), (((4 - y3) * 1) + 0).toNat ≤ n → iv a → jfr jW_X8_takesWord_r1005 a0 a → 4 ≤ y2 → y2 ≤ 200 → 0 ≤ y3 → y3 ≤ 3 → 4 ≤ a 2 1 → y3 < 4 → 0 ≤ y3 → y2 = (a 2 2) + 4 → y2 ≤ a 2 1 → y2 ≤ 200 → jt (jxX E d 128 58 [some (.inr (.inr (.inl 2))), some (.inr (.inr (.inl 1005))), some (.inl y2), some (.inl y3)] [] (jxSH, a, b0)) (jQ_X8_takesWord_r1005 a0 b0) := by
    intro y2 y3 a hm hv hf hi0 hi1 hi2 hi3 hi4 hi5 hi6 hi7 hi8 hi9
    refine jt_eq (bq_X8_takesWord_r1005_58 E d y2 y3 a b0) ?_
    have h405_ := iv_get hv (k := 2) (j := 1) (l := 0) (u := 200) rfl
    have h406_ : a 2 1 = a0 2 1 := hf 2 1 rfl
    have h407_ := iv_get hv0 (k := 2) (j := 1) (l := 0) (u := 200) rfl
    have h408_ := iv_get hv (k := 2) (j := 2) (l := 0) (u := 200) rfl
    have h409_ : jxw (y3 + 1) = y3 + 1 := jxw_id (by omega) (by omega)
    exact ih29 y2 (jxw (y3 + 1)) a (show (((4 - (jxw (y3 + 1))) * 1) + 0).toNat < n from by omega) hv hf (show 4 ≤ y2 from by omega) (show y2 ≤ 200 from by omega) (show 0 ≤ jxw (y3 + 1) from by omega) (show jxw (y3 + 1) ≤ 4 from by omega) (show 4 ≤ a 2 1 from by omega) (show 0 ≤ jxw (y3 + 1) from by omega) (show y2 = (a 2 2) + 4 from by omega) (show y2 ≤ a 2 1 from by omega) (show y2 ≤ 200 from by omega)
  have hc29 : ∀ (y2 y3 : Int) (a : Nat → Nat → Int), (((4 - y3) * 1) + 0).toNat ≤ n → iv a → jfr jW_X8_takesWord_r1005 a0 a → 4 ≤ y2 → y2 ≤ 200 → 0 ≤ y3 → y3 ≤ 4 → 4 ≤ a 2 1 → 0 ≤ y3 → y2 = (a 2 2) + 4 → y2 ≤ a 2 1 → y2 ≤ 200 → jt (jxX E d 128 29 [some (.inr (.inr (.inl 2))), some (.inr (.inr (.inl 1005))), some (.inl y2), some (.inl y3)] [] (jxSH, a, b0)) (jQ_X8_takesWord_r1005 a0 b0) := by
    intro y2 y3 a hm hv hf hi0 hi1 hi2 hi3 hi4 hi5 hi6 hi7 hi8
    refine jt_eq (bq_X8_takesWord_r1005_29 E d y2 y3 a b0) ?_
    have h410_ := iv_get hv (k := 2) (j := 1) (l := 0) (u := 200) rfl
    have h411_ : a 2 1 = a0 2 1 := hf 2 1 rfl
    have h412_ := iv_get hv0 (k := 2) (j := 1) (l := 0) (u := 200) rfl
    have h413_ := iv_get hv (k := 2) (j := 2) (l := 0) (u := 200) rfl
    refine jt_eI (eq_J0_length_8abf5_r1005 E d (jd_le hd rfl) a b0) ?_
    have h414_ := ff_J0_length_8abf5_r1005 a b0
    refine jt_ite (fun c415_ => ?_) (fun c415_ => ?_)
    ·
      have h416_ : jxw ((a 2 2) + y3) = (a 2 2) + y3 := jxw_id (by omega) (by omega)
      refine jt_grd (by omega) ?_
      refine jt_eI (eq_J0_charAt_5068e_r1005 E d (jd_le hd rfl) y3 a b0 (show (0 ≤ y3 ∧ y3 < 4) from by omega)) ?_
      have h417_ := iv_get hv (k := 3) (j := (jxw ((a 2 2) + y3)).toNat) (l := 0) (u := 255) rfl
      have h418_ : a 3 ((jxw ((a 2 2) + y3)).toNat) = a0 3 ((jxw ((a 2 2) + y3)).toNat) := hf 3 ((jxw ((a 2 2) + y3)).toNat) rfl
      have h419_ := iv_get hv0 (k := 3) (j := (jxw ((a 2 2) + y3)).toNat) (l := 0) (u := 255) rfl
      have h420_ := f_J0_charAt_5068e_r1005_eq a b0 y3
      have h421_ := f_J0_isLatin1_aae02_r1005_eq a b0
      have h422_ := f_J1_charAt_3b067_r2005_eq a b0 y3
      have h423_ := jxand_r (([110, 101, 97, 114] : List Int).getD (y3.toNat) 0) 255 (by decide) (by decide)
      have h424_ := jxi2c_b (jxand (([110, 101, 97, 114] : List Int).getD (y3.toNat) 0) 255)
      refine jt_ite (fun c425_ => ?_) (fun c425_ => ?_)
      ·
        exact hc58 y2 y3 a (show (((4 - y3) * 1) + 0).toNat ≤ n from by omega) hv hf (show 4 ≤ y2 from by omega) (show y2 ≤ 200 from by omega) (show 0 ≤ y3 from by omega) (show y3 ≤ 3 from by omega) (show 4 ≤ a 2 1 from by omega) (show y3 < 4 from by omega) (show 0 ≤ y3 from by omega) (show y2 = (a 2 2) + 4 from by omega) (show y2 ≤ a 2 1 from by omega) (show y2 ≤ 200 from by omega)
      ·
        exact cp_X8_takesWord_r1005_56 E d hd a0 b0 hv0 a hv hf (show 4 ≤ a 2 1 from by omega)
    ·
      refine jt_ite (fun c426_ => ?_) (fun c426_ => ?_)
      ·
        refine jt_grd (by omega) ?_
        have h427_ := iv_get hv (k := 3) (j := y2.toNat) (l := 0) (u := 255) rfl
        have h428_ : a 3 (y2.toNat) = a0 3 (y2.toNat) := hf 3 (y2.toNat) rfl
        have h429_ := iv_get hv0 (k := 3) (j := y2.toNat) (l := 0) (u := 255) rfl
        refine jt_ite (fun c430_ => ?_) (fun c430_ => ?_)
        ·
          exact cp_X8_takesWord_r1005_96 E d hd a0 b0 hv0 y2 a hv hf (show 4 ≤ y2 from by omega) (show y2 ≤ 200 from by omega) (show 4 ≤ a 2 1 from by omega) (show y2 = (a 2 2) + 4 from by omega) (show y2 ≤ a 2 1 from by omega) (show y2 ≤ 200 from by omega)
        ·
          exact cp_X8_takesWord_r1005_83 E d hd a0 b0 hv0 y2 a hv hf (show 4 ≤ y2 from by omega) (show y2 ≤ 199 from by omega) (show 5 ≤ a 2 1 from by omega) (show y2 = (a 2 2) + 4 from by omega) (show y2 ≤ a 2 1 from by omega) (show y2 ≤ 200 from by omega)
      ·
        exact cp_X8_takesWord_r1005_96 E d hd a0 b0 hv0 y2 a hv hf (show 4 ≤ y2 from by omega) (show y2 ≤ 200 from by omega) (show 4 ≤ a 2 1 from by omega) (show y2 = (a 2 2) + 4 from by omega) (show y2 ≤ a 2 1 from by omega) (show y2 ≤ 200 from by omega)
  exact ⟨hc58, hc29⟩
theorem sp_X8_takesWord_r1005 (E : jxE) (d : Nat) (hd : Nat.ble 5 d = true) (a0 b0 : Nat → Nat → Int) (hv0 : iv a0) : jt (jxC E d 128 [.inr (.inr (.inl 2)), .inr (.inr (.inl 1005))] (jxSH, a0, b0)) (jQ_X8_takesWord_r1005 a0 b0) := by
  obtain ⟨d, rfl⟩ := jd_succ hd
  refine jt_eq (bq_X8_takesWord_r1005 E d a0 b0) ?_
  refine jt_eI (eq_J0_length_8abf5_r1005 E d (jd_le hd rfl) a0 b0) ?_
  refine jt_eI (eq_X8_isFaulty E d (jd_le hd rfl) a0 b0) ?_
  have h431_ := f_X8_isFaulty_eq a0 b0
  refine jt_ite (fun c432_ => ?_) (fun c432_ => ?_)
  ·
    have h433_ := iv_get hv0 (k := 2) (j := 1) (l := 0) (u := 200) rfl
    have h434_ := iv_get hv0 (k := 2) (j := 2) (l := 0) (u := 200) rfl
    have h435_ := ff_J0_length_8abf5_r1005 a0 b0
    have h436_ : jxw ((a0 2 2) + (f_J0_length_8abf5_r1005 a0 b0)) = (a0 2 2) + (f_J0_length_8abf5_r1005 a0 b0) := jxw_id (by omega) (by omega)
    refine jt_ite (fun c437_ => ?_) (fun c437_ => ?_)
    ·
      exact jt_rI ⟨hv0, (jfr_rf _ _), rfl, (show (0 ≤ 0 ∧ 0 ≤ 1) from by omega), (show ((¬ a0 2 3 = 0 ∨ a0 2 1 ≤ a0 2 2) → 0 = 0) from by omega), (show (0 = 0 → a0 2 2 = a0 2 2) from by omega)⟩
    ·
      exact (cp_X8_takesWord_r1005_29 E d hd a0 b0 hv0 _).2 (jxw ((a0 2 2) + (f_J0_length_8abf5_r1005 a0 b0))) 0 a0 (Nat.le_refl _) hv0 (jfr_rf _ _) (show 4 ≤ jxw ((a0 2 2) + (f_J0_length_8abf5_r1005 a0 b0)) from by omega) (show jxw ((a0 2 2) + (f_J0_length_8abf5_r1005 a0 b0)) ≤ 200 from by omega) (show 0 ≤ 0 from by omega) (show 0 ≤ 4 from by omega) (show 4 ≤ a0 2 1 from by omega) (show 0 ≤ 0 from by omega) (show jxw ((a0 2 2) + (f_J0_length_8abf5_r1005 a0 b0)) = (a0 2 2) + 4 from by omega) (show jxw ((a0 2 2) + (f_J0_length_8abf5_r1005 a0 b0)) ≤ a0 2 1 from by omega) (show jxw ((a0 2 2) + (f_J0_length_8abf5_r1005 a0 b0)) ≤ 200 from by omega)
  ·
    have h438_ := iv_get hv0 (k := 2) (j := 1) (l := 0) (u := 200) rfl
    have h439_ := iv_get hv0 (k := 2) (j := 2) (l := 0) (u := 200) rfl
    exact jt_rI ⟨hv0, (jfr_rf _ _), rfl, (show (0 ≤ 0 ∧ 0 ≤ 1) from by omega), (show ((¬ a0 2 3 = 0 ∨ a0 2 1 ≤ a0 2 2) → 0 = 0) from by omega), (show (0 = 0 → a0 2 2 = a0 2 2) from by omega)⟩
def jW_X8_takesWord_r1006 : List (Nat × Nat) := [(2, 2)]
abbrev jQ_X8_takesWord_r1006 (a0 b0 : Nat → Nat → Int) : List jxV → (Nat → Nat → Int) → (Nat → Nat → Int) → Prop := rI (fun r a b => (iv a) ∧ (jfr jW_X8_takesWord_r1006 a0 a) ∧ (b0 = b) ∧ ((0 ≤ r ∧ r ≤ 1)) ∧ (((¬ a0 2 3 = 0 ∨ a0 2 1 ≤ a0 2 2) → r = 0)) ∧ ((r = 0 → a 2 2 = a0 2 2)))
theorem cp_X8_takesWord_r1006_56 (E : jxE) (d : Nat) (hd : Nat.ble 5 (d + 1) = true) (a0 b0 : Nat → Nat → Int) (hv0 : iv a0) : ∀ (a : Nat → Nat → Int), iv a → jfr jW_X8_takesWord_r1006 a0 a → 3 ≤ a 2 1 → jt (jxX E d 128 56 [none, none, none, none] [] (jxSH, a, b0)) (jQ_X8_takesWord_r1006 a0 b0) := by
  intro a hv hf hi0
  refine jt_eq (bq_X8_takesWord_r1006_56 E d a b0) ?_
  have h440_ := iv_get hv (k := 2) (j := 1) (l := 0) (u := 200) rfl
  have h441_ : a 2 1 = a0 2 1 := hf 2 1 rfl
  have h442_ := iv_get hv0 (k := 2) (j := 1) (l := 0) (u := 200) rfl
  have h443_ := iv_get hv0 (k := 2) (j := 2) (l := 0) (u := 200) rfl
  have h444_ := iv_get hv (k := 2) (j := 2) (l := 0) (u := 200) rfl
  exact jt_rI ⟨hv, hf, rfl, (show (0 ≤ 0 ∧ 0 ≤ 1) from by omega), (show ((¬ a0 2 3 = 0 ∨ a0 2 1 ≤ a0 2 2) → 0 = 0) from by omega), (show (0 = 0 → a 2 2 = a0 2 2) from by omega)⟩
theorem cp_X8_takesWord_r1006_96 (E : jxE) (d : Nat) (hd : Nat.ble 5 (d + 1) = true) (a0 b0 : Nat → Nat → Int) (hv0 : iv a0) : ∀ (y2 : Int) (a : Nat → Nat → Int), iv a → jfr jW_X8_takesWord_r1006 a0 a → 3 ≤ y2 → y2 ≤ 200 → 3 ≤ a 2 1 → y2 = (a 2 2) + 3 → y2 ≤ a 2 1 → y2 ≤ 200 → jt (jxX E d 128 96 [some (.inr (.inr (.inl 2))), none, some (.inl y2), none] [] (jxSH, a, b0)) (jQ_X8_takesWord_r1006 a0 b0) := by
  intro y2 a hv hf hi0 hi1 hi2 hi3 hi4 hi5
  refine jt_eq (bq_X8_takesWord_r1006_96 E d y2 a b0) ?_
  have h445_ := iv_get hv (k := 2) (j := 1) (l := 0) (u := 200) rfl
  have h446_ : a 2 1 = a0 2 1 := hf 2 1 rfl
  have h447_ := iv_get hv0 (k := 2) (j := 1) (l := 0) (u := 200) rfl
  have h448_ := iv_get hv (k := 2) (j := 2) (l := 0) (u := 200) rfl
  have hv449_ : iv (jxu a 2 2 y2) := iv_put hv (l := 0) (u := 200) rfl (by omega) (by omega)
  refine jt_bV (sp_X8_skipBlanks E d (jd_le hd rfl) (jxu a 2 2 y2) b0 hv449_) (fun a450_ b450_ h450_ => ?_)
  obtain ⟨hv450_, hf450_, rfl, hq450_0⟩ := h450_
  have h451_ := iv_get hv450_ (k := 2) (j := 2) (l := 0) (u := 200) rfl
  have h452_ : (a 2 1 ≤ y2 → a450_ 2 2 = y2) := hq450_0
  have hf453_ : jfr jW_X8_takesWord_r1006 a0 (jxu a 2 2 y2) := jfr_put hf rfl
  have hf454_ : jfr jW_X8_takesWord_r1006 a0 a450_ := jfr_tr hf453_ hf450_ rfl
  have h455_ := iv_get hv0 (k := 2) (j := 2) (l := 0) (u := 200) rfl
  exact jt_rI ⟨hv450_, hf454_, rfl, (show (0 ≤ 1 ∧ 1 ≤ 1) from by omega), (show ((¬ a0 2 3 = 0 ∨ a0 2 1 ≤ a0 2 2) → 1 = 0) from by omega), (show (1 = 0 → a450_ 2 2 = a0 2 2) from by omega)⟩
theorem cp_X8_takesWord_r1006_83 (E : jxE) (d : Nat) (hd : Nat.ble 5 (d + 1) = true) (a0 b0 : Nat → Nat → Int) (hv0 : iv a0) : ∀ (y2 : Int) (a : Nat → Nat → Int), iv a → jfr jW_X8_takesWord_r1006 a0 a → 3 ≤ y2 → y2 ≤ 199 → 4 ≤ a 2 1 → y2 = (a 2 2) + 3 → y2 ≤ a 2 1 → y2 ≤ 200 → jt (jxX E d 128 83 [some (.inr (.inr (.inl 2))), none, some (.inl y2), none] [] (jxSH, a, b0)) (jQ_X8_takesWord_r1006 a0 b0) := by
  intro y2 a hv hf hi0 hi1 hi2 hi3 hi4 hi5
  refine jt_eq (bq_X8_takesWord_r1006_83 E d y2 a b0) ?_
  have h456_ := iv_get hv (k := 2) (j := 1) (l := 0) (u := 200) rfl
  have h457_ : a 2 1 = a0 2 1 := hf 2 1 rfl
  have h458_ := iv_get hv0 (k := 2) (j := 1) (l := 0) (u := 200) rfl
  have h459_ := iv_get hv (k := 2) (j := 2) (l := 0) (u := 200) rfl
  refine jt_grd (by omega) ?_
  have h460_ := iv_get hv (k := 3) (j := y2.toNat) (l := 0) (u := 255) rfl
  have h461_ : a 3 (y2.toNat) = a0 3 (y2.toNat) := hf 3 (y2.toNat) rfl
  have h462_ := iv_get hv0 (k := 3) (j := y2.toNat) (l := 0) (u := 255) rfl
  refine jt_ite (fun c463_ => ?_) (fun c463_ => ?_)
  ·
    exact cp_X8_takesWord_r1006_96 E d hd a0 b0 hv0 y2 a hv hf (show 3 ≤ y2 from by omega) (show y2 ≤ 200 from by omega) (show 3 ≤ a 2 1 from by omega) (show y2 = (a 2 2) + 3 from by omega) (show y2 ≤ a 2 1 from by omega) (show y2 ≤ 200 from by omega)
  ·
    have h464_ := iv_get hv0 (k := 2) (j := 2) (l := 0) (u := 200) rfl
    exact jt_rI ⟨hv, hf, rfl, (show (0 ≤ 0 ∧ 0 ≤ 1) from by omega), (show ((¬ a0 2 3 = 0 ∨ a0 2 1 ≤ a0 2 2) → 0 = 0) from by omega), (show (0 = 0 → a 2 2 = a0 2 2) from by omega)⟩
theorem cp_X8_takesWord_r1006_29 (E : jxE) (d : Nat) (hd : Nat.ble 5 (d + 1) = true) (a0 b0 : Nat → Nat → Int) (hv0 : iv a0) : ∀ n : Nat, (∀ (y2 y3 : Int) (a : Nat → Nat → Int), (((3 - y3) * 1) + 0).toNat ≤ n → iv a → jfr jW_X8_takesWord_r1006 a0 a → 3 ≤ y2 → y2 ≤ 200 → 0 ≤ y3 → y3 ≤ 2 → 3 ≤ a 2 1 → y3 < 3 → 0 ≤ y3 → y2 = (a 2 2) + 3 → y2 ≤ a 2 1 → y2 ≤ 200 → jt (jxX E d 128 58 [some (.inr (.inr (.inl 2))), some (.inr (.inr (.inl 1006))), some (.inl y2), some (.inl y3)] [] (jxSH, a, b0)) (jQ_X8_takesWord_r1006 a0 b0)) ∧ (∀ (y2 y3 : Int) (a : Nat → Nat → Int), (((3 - y3) * 1) + 0).toNat ≤ n → iv a → jfr jW_X8_takesWord_r1006 a0 a → 3 ≤ y2 → y2 ≤ 200 → 0 ≤ y3 → y3 ≤ 3 → 3 ≤ a 2 1 → 0 ≤ y3 → y2 = (a 2 2) + 3 → y2 ≤ a 2 1 → y2 ≤ 200 → jt (jxX E d 128 29 [some (.inr (.inr (.inl 2))), some (.inr (.inr (.inl 1006))), some (.inl y2), some (.inl y3)] [] (jxSH, a, b0)) (jQ_X8_takesWord_r1006 a0 b0)) := by
  refine jx_ind fun n ih => ?_
  have ih58 : ∀ (y2 y3 : Int) (a : Nat → Nat → Int), (((3 - y3) * 1) + 0).toNat < n → iv a → jfr jW_X8_takesWord_r1006 a0 a → 3 ≤ y2 → y2 ≤ 200 → 0 ≤ y3 → y3 ≤ 2 → 3 ≤ a 2 1 → y3 < 3 → 0 ≤ y3 → y2 = (a 2 2) + 3 → y2 ≤ a 2 1 → y2 ≤ 200 → jt (jxX E d 128 58 [some (.inr (.inr (.inl 2))), some (.inr (.inr (.inl 1006))), some (.inl y2), some (.inl y3)] [] (jxSH, a, b0)) (jQ_X8_takesWord_r1006 a0 b0) := fun y2 y3 a hlt i0 i1 i2 i3 i4 i5 i6 i7 i8 i9 i10 i11 => (ih _ hlt).1 y2 y3 a (Nat.le_refl _) i0 i1 i2 i3 i4 i5 i6 i7 i8 i9 i10 i11
  have ih29 : ∀ (y2 y3 : Int) (a : Nat → Nat → Int), (((3 - y3) * 1) + 0).toNat < n → iv a → jfr jW_X8_takesWord_r1006 a0 a → 3 ≤ y2 → y2 ≤ 200 → 0 ≤ y3 → y3 ≤ 3 → 3 ≤ a 2 1 → 0 ≤ y3 → y2 = (a 2 2) + 3 → y2 ≤ a 2 1 → y2 ≤ 200 → jt (jxX E d 128 29 [some (.inr (.inr (.inl 2))), some (.inr (.inr (.inl 1006))), some (.inl y2), some (.inl y3)] [] (jxSH, a, b0)) (jQ_X8_takesWord_r1006 a0 b0) := fun y2 y3 a hlt i0 i1 i2 i3 i4 i5 i6 i7 i8 i9 i10 => (ih _ hlt).2 y2 y3 a (Nat.le_refl _) i0 i1 i2 i3 i4 i5 i6 i7 i8 i9 i10
  have hc58 : ∀ (y2 y3 : Int) (a : Nat → Nat → Int), (((3 - y3) * 1) + 0).toNat ≤ n → iv a → jfr jW_X8_takesWord_r1006 a0 a → 3 ≤ y2 → y2 ≤ 200 → 0 ≤ y3 → y3 ≤ 2 → 3 ≤ a 2 1 → y3 < 3 → 0 ≤ y3 → y2 = (a 2 2) + 3 → y2 ≤ a 2 1 → y2 ≤ 200 → jt (jxX E d 128 58 [some (.inr (.inr (.inl 2))), some (.inr (.inr (.inl 1006))), some (.inl y2), some (.inl y3)] [] (jxSH, a, b0)) (jQ_X8_takesWord_r1006 a0 b0) := by
    intro y2 y3 a hm hv hf hi0 hi1 hi2 hi3 hi4 hi5 hi6 hi7 hi8 hi9
    refine jt_eq (bq_X8_takesWord_r1006_58 E d y2 y3 a b0) ?_
    have h465_ := iv_get hv (k := 2) (j := 1) (l := 0) (u := 200) rfl
    have h466_ : a 2 1 = a0 2 1 := hf 2 1 rfl
    have h467_ := iv_get hv0 (k := 2) (j := 1) (l := 0) (u := 200) rfl
    have h468_ := iv_get hv (k := 2) (j := 2) (l := 0) (u := 200) rfl
    have h469_ : jxw (y3 + 1) = y3 + 1 := jxw_id (by omega) (by omega)
    exact ih29 y2 (jxw (y3 + 1)) a (show (((3 - (jxw (y3 + 1))) * 1) + 0).toNat < n from by omega) hv hf (show 3 ≤ y2 from by omega) (show y2 ≤ 200 from by omega) (show 0 ≤ jxw (y3 + 1) from by omega) (show jxw (y3 + 1) ≤ 3 from by omega) (show 3 ≤ a 2 1 from by omega) (show 0 ≤ jxw (y3 + 1) from by omega) (show y2 = (a 2 2) + 3 from by omega) (show y2 ≤ a 2 1 from by omega) (show y2 ≤ 200 from by omega)
  have hc29 : ∀ (y2 y3 : Int) (a : Nat → Nat → Int), (((3 - y3) * 1) + 0).toNat ≤ n → iv a → jfr jW_X8_takesWord_r1006 a0 a → 3 ≤ y2 → y2 ≤ 200 → 0 ≤ y3 → y3 ≤ 3 → 3 ≤ a 2 1 → 0 ≤ y3 → y2 = (a 2 2) + 3 → y2 ≤ a 2 1 → y2 ≤ 200 → jt (jxX E d 128 29 [some (.inr (.inr (.inl 2))), some (.inr (.inr (.inl 1006))), some (.inl y2), some (.inl y3)] [] (jxSH, a, b0)) (jQ_X8_takesWord_r1006 a0 b0) := by
    intro y2 y3 a hm hv hf hi0 hi1 hi2 hi3 hi4 hi5 hi6 hi7 hi8
    refine jt_eq (bq_X8_takesWord_r1006_29 E d y2 y3 a b0) ?_
    have h470_ := iv_get hv (k := 2) (j := 1) (l := 0) (u := 200) rfl
    have h471_ : a 2 1 = a0 2 1 := hf 2 1 rfl
    have h472_ := iv_get hv0 (k := 2) (j := 1) (l := 0) (u := 200) rfl
    have h473_ := iv_get hv (k := 2) (j := 2) (l := 0) (u := 200) rfl
    refine jt_eI (eq_J0_length_8abf5_r1006 E d (jd_le hd rfl) a b0) ?_
    have h474_ := ff_J0_length_8abf5_r1006 a b0
    refine jt_ite (fun c475_ => ?_) (fun c475_ => ?_)
    ·
      have h476_ : jxw ((a 2 2) + y3) = (a 2 2) + y3 := jxw_id (by omega) (by omega)
      refine jt_grd (by omega) ?_
      refine jt_eI (eq_J0_charAt_5068e_r1006 E d (jd_le hd rfl) y3 a b0 (show (0 ≤ y3 ∧ y3 < 3) from by omega)) ?_
      have h477_ := iv_get hv (k := 3) (j := (jxw ((a 2 2) + y3)).toNat) (l := 0) (u := 255) rfl
      have h478_ : a 3 ((jxw ((a 2 2) + y3)).toNat) = a0 3 ((jxw ((a 2 2) + y3)).toNat) := hf 3 ((jxw ((a 2 2) + y3)).toNat) rfl
      have h479_ := iv_get hv0 (k := 3) (j := (jxw ((a 2 2) + y3)).toNat) (l := 0) (u := 255) rfl
      have h480_ := f_J0_charAt_5068e_r1006_eq a b0 y3
      have h481_ := f_J0_isLatin1_aae02_r1006_eq a b0
      have h482_ := f_J1_charAt_3b067_r2006_eq a b0 y3
      have h483_ := jxand_r (([111, 108, 100] : List Int).getD (y3.toNat) 0) 255 (by decide) (by decide)
      have h484_ := jxi2c_b (jxand (([111, 108, 100] : List Int).getD (y3.toNat) 0) 255)
      refine jt_ite (fun c485_ => ?_) (fun c485_ => ?_)
      ·
        exact hc58 y2 y3 a (show (((3 - y3) * 1) + 0).toNat ≤ n from by omega) hv hf (show 3 ≤ y2 from by omega) (show y2 ≤ 200 from by omega) (show 0 ≤ y3 from by omega) (show y3 ≤ 2 from by omega) (show 3 ≤ a 2 1 from by omega) (show y3 < 3 from by omega) (show 0 ≤ y3 from by omega) (show y2 = (a 2 2) + 3 from by omega) (show y2 ≤ a 2 1 from by omega) (show y2 ≤ 200 from by omega)
      ·
        exact cp_X8_takesWord_r1006_56 E d hd a0 b0 hv0 a hv hf (show 3 ≤ a 2 1 from by omega)
    ·
      refine jt_ite (fun c486_ => ?_) (fun c486_ => ?_)
      ·
        refine jt_grd (by omega) ?_
        have h487_ := iv_get hv (k := 3) (j := y2.toNat) (l := 0) (u := 255) rfl
        have h488_ : a 3 (y2.toNat) = a0 3 (y2.toNat) := hf 3 (y2.toNat) rfl
        have h489_ := iv_get hv0 (k := 3) (j := y2.toNat) (l := 0) (u := 255) rfl
        refine jt_ite (fun c490_ => ?_) (fun c490_ => ?_)
        ·
          exact cp_X8_takesWord_r1006_96 E d hd a0 b0 hv0 y2 a hv hf (show 3 ≤ y2 from by omega) (show y2 ≤ 200 from by omega) (show 3 ≤ a 2 1 from by omega) (show y2 = (a 2 2) + 3 from by omega) (show y2 ≤ a 2 1 from by omega) (show y2 ≤ 200 from by omega)
        ·
          exact cp_X8_takesWord_r1006_83 E d hd a0 b0 hv0 y2 a hv hf (show 3 ≤ y2 from by omega) (show y2 ≤ 199 from by omega) (show 4 ≤ a 2 1 from by omega) (show y2 = (a 2 2) + 3 from by omega) (show y2 ≤ a 2 1 from by omega) (show y2 ≤ 200 from by omega)
      ·
        exact cp_X8_takesWord_r1006_96 E d hd a0 b0 hv0 y2 a hv hf (show 3 ≤ y2 from by omega) (show y2 ≤ 200 from by omega) (show 3 ≤ a 2 1 from by omega) (show y2 = (a 2 2) + 3 from by omega) (show y2 ≤ a 2 1 from by omega) (show y2 ≤ 200 from by omega)
  exact ⟨hc58, hc29⟩
theorem sp_X8_takesWord_r1006 (E : jxE) (d : Nat) (hd : Nat.ble 5 d = true) (a0 b0 : Nat → Nat → Int) (hv0 : iv a0) : jt (jxC E d 128 [.inr (.inr (.inl 2)), .inr (.inr (.inl 1006))] (jxSH, a0, b0)) (jQ_X8_takesWord_r1006 a0 b0) := by
  obtain ⟨d, rfl⟩ := jd_succ hd
  refine jt_eq (bq_X8_takesWord_r1006 E d a0 b0) ?_
  refine jt_eI (eq_J0_length_8abf5_r1006 E d (jd_le hd rfl) a0 b0) ?_
  refine jt_eI (eq_X8_isFaulty E d (jd_le hd rfl) a0 b0) ?_
  have h491_ := f_X8_isFaulty_eq a0 b0
  refine jt_ite (fun c492_ => ?_) (fun c492_ => ?_)
  ·
    have h493_ := iv_get hv0 (k := 2) (j := 1) (l := 0) (u := 200) rfl
    have h494_ := iv_get hv0 (k := 2) (j := 2) (l := 0) (u := 200) rfl
    have h495_ := ff_J0_length_8abf5_r1006 a0 b0
    have h496_ : jxw ((a0 2 2) + (f_J0_length_8abf5_r1006 a0 b0)) = (a0 2 2) + (f_J0_length_8abf5_r1006 a0 b0) := jxw_id (by omega) (by omega)
    refine jt_ite (fun c497_ => ?_) (fun c497_ => ?_)
    ·
      exact jt_rI ⟨hv0, (jfr_rf _ _), rfl, (show (0 ≤ 0 ∧ 0 ≤ 1) from by omega), (show ((¬ a0 2 3 = 0 ∨ a0 2 1 ≤ a0 2 2) → 0 = 0) from by omega), (show (0 = 0 → a0 2 2 = a0 2 2) from by omega)⟩
    ·
      exact (cp_X8_takesWord_r1006_29 E d hd a0 b0 hv0 _).2 (jxw ((a0 2 2) + (f_J0_length_8abf5_r1006 a0 b0))) 0 a0 (Nat.le_refl _) hv0 (jfr_rf _ _) (show 3 ≤ jxw ((a0 2 2) + (f_J0_length_8abf5_r1006 a0 b0)) from by omega) (show jxw ((a0 2 2) + (f_J0_length_8abf5_r1006 a0 b0)) ≤ 200 from by omega) (show 0 ≤ 0 from by omega) (show 0 ≤ 3 from by omega) (show 3 ≤ a0 2 1 from by omega) (show 0 ≤ 0 from by omega) (show jxw ((a0 2 2) + (f_J0_length_8abf5_r1006 a0 b0)) = (a0 2 2) + 3 from by omega) (show jxw ((a0 2 2) + (f_J0_length_8abf5_r1006 a0 b0)) ≤ a0 2 1 from by omega) (show jxw ((a0 2 2) + (f_J0_length_8abf5_r1006 a0 b0)) ≤ 200 from by omega)
  ·
    have h498_ := iv_get hv0 (k := 2) (j := 1) (l := 0) (u := 200) rfl
    have h499_ := iv_get hv0 (k := 2) (j := 2) (l := 0) (u := 200) rfl
    exact jt_rI ⟨hv0, (jfr_rf _ _), rfl, (show (0 ≤ 0 ∧ 0 ≤ 1) from by omega), (show ((¬ a0 2 3 = 0 ∨ a0 2 1 ≤ a0 2 2) → 0 = 0) from by omega), (show (0 = 0 → a0 2 2 = a0 2 2) from by omega)⟩
def jW_X8_takesWord_r1007 : List (Nat × Nat) := [(2, 2)]
abbrev jQ_X8_takesWord_r1007 (a0 b0 : Nat → Nat → Int) : List jxV → (Nat → Nat → Int) → (Nat → Nat → Int) → Prop := rI (fun r a b => (iv a) ∧ (jfr jW_X8_takesWord_r1007 a0 a) ∧ (b0 = b) ∧ ((0 ≤ r ∧ r ≤ 1)) ∧ (((¬ a0 2 3 = 0 ∨ a0 2 1 ≤ a0 2 2) → r = 0)) ∧ ((r = 0 → a 2 2 = a0 2 2)))
theorem cp_X8_takesWord_r1007_56 (E : jxE) (d : Nat) (hd : Nat.ble 5 (d + 1) = true) (a0 b0 : Nat → Nat → Int) (hv0 : iv a0) : ∀ (a : Nat → Nat → Int), iv a → jfr jW_X8_takesWord_r1007 a0 a → 3 ≤ a 2 1 → jt (jxX E d 128 56 [none, none, none, none] [] (jxSH, a, b0)) (jQ_X8_takesWord_r1007 a0 b0) := by
  intro a hv hf hi0
  refine jt_eq (bq_X8_takesWord_r1007_56 E d a b0) ?_
  have h500_ := iv_get hv (k := 2) (j := 1) (l := 0) (u := 200) rfl
  have h501_ : a 2 1 = a0 2 1 := hf 2 1 rfl
  have h502_ := iv_get hv0 (k := 2) (j := 1) (l := 0) (u := 200) rfl
  have h503_ := iv_get hv0 (k := 2) (j := 2) (l := 0) (u := 200) rfl
  have h504_ := iv_get hv (k := 2) (j := 2) (l := 0) (u := 200) rfl
  exact jt_rI ⟨hv, hf, rfl, (show (0 ≤ 0 ∧ 0 ≤ 1) from by omega), (show ((¬ a0 2 3 = 0 ∨ a0 2 1 ≤ a0 2 2) → 0 = 0) from by omega), (show (0 = 0 → a 2 2 = a0 2 2) from by omega)⟩
theorem cp_X8_takesWord_r1007_96 (E : jxE) (d : Nat) (hd : Nat.ble 5 (d + 1) = true) (a0 b0 : Nat → Nat → Int) (hv0 : iv a0) : ∀ (y2 : Int) (a : Nat → Nat → Int), iv a → jfr jW_X8_takesWord_r1007 a0 a → 3 ≤ y2 → y2 ≤ 200 → 3 ≤ a 2 1 → y2 = (a 2 2) + 3 → y2 ≤ a 2 1 → y2 ≤ 200 → jt (jxX E d 128 96 [some (.inr (.inr (.inl 2))), none, some (.inl y2), none] [] (jxSH, a, b0)) (jQ_X8_takesWord_r1007 a0 b0) := by
  intro y2 a hv hf hi0 hi1 hi2 hi3 hi4 hi5
  refine jt_eq (bq_X8_takesWord_r1007_96 E d y2 a b0) ?_
  have h505_ := iv_get hv (k := 2) (j := 1) (l := 0) (u := 200) rfl
  have h506_ : a 2 1 = a0 2 1 := hf 2 1 rfl
  have h507_ := iv_get hv0 (k := 2) (j := 1) (l := 0) (u := 200) rfl
  have h508_ := iv_get hv (k := 2) (j := 2) (l := 0) (u := 200) rfl
  have hv509_ : iv (jxu a 2 2 y2) := iv_put hv (l := 0) (u := 200) rfl (by omega) (by omega)
  refine jt_bV (sp_X8_skipBlanks E d (jd_le hd rfl) (jxu a 2 2 y2) b0 hv509_) (fun a510_ b510_ h510_ => ?_)
  obtain ⟨hv510_, hf510_, rfl, hq510_0⟩ := h510_
  have h511_ := iv_get hv510_ (k := 2) (j := 2) (l := 0) (u := 200) rfl
  have h512_ : (a 2 1 ≤ y2 → a510_ 2 2 = y2) := hq510_0
  have hf513_ : jfr jW_X8_takesWord_r1007 a0 (jxu a 2 2 y2) := jfr_put hf rfl
  have hf514_ : jfr jW_X8_takesWord_r1007 a0 a510_ := jfr_tr hf513_ hf510_ rfl
  have h515_ := iv_get hv0 (k := 2) (j := 2) (l := 0) (u := 200) rfl
  exact jt_rI ⟨hv510_, hf514_, rfl, (show (0 ≤ 1 ∧ 1 ≤ 1) from by omega), (show ((¬ a0 2 3 = 0 ∨ a0 2 1 ≤ a0 2 2) → 1 = 0) from by omega), (show (1 = 0 → a510_ 2 2 = a0 2 2) from by omega)⟩
theorem cp_X8_takesWord_r1007_83 (E : jxE) (d : Nat) (hd : Nat.ble 5 (d + 1) = true) (a0 b0 : Nat → Nat → Int) (hv0 : iv a0) : ∀ (y2 : Int) (a : Nat → Nat → Int), iv a → jfr jW_X8_takesWord_r1007 a0 a → 3 ≤ y2 → y2 ≤ 199 → 4 ≤ a 2 1 → y2 = (a 2 2) + 3 → y2 ≤ a 2 1 → y2 ≤ 200 → jt (jxX E d 128 83 [some (.inr (.inr (.inl 2))), none, some (.inl y2), none] [] (jxSH, a, b0)) (jQ_X8_takesWord_r1007 a0 b0) := by
  intro y2 a hv hf hi0 hi1 hi2 hi3 hi4 hi5
  refine jt_eq (bq_X8_takesWord_r1007_83 E d y2 a b0) ?_
  have h516_ := iv_get hv (k := 2) (j := 1) (l := 0) (u := 200) rfl
  have h517_ : a 2 1 = a0 2 1 := hf 2 1 rfl
  have h518_ := iv_get hv0 (k := 2) (j := 1) (l := 0) (u := 200) rfl
  have h519_ := iv_get hv (k := 2) (j := 2) (l := 0) (u := 200) rfl
  refine jt_grd (by omega) ?_
  have h520_ := iv_get hv (k := 3) (j := y2.toNat) (l := 0) (u := 255) rfl
  have h521_ : a 3 (y2.toNat) = a0 3 (y2.toNat) := hf 3 (y2.toNat) rfl
  have h522_ := iv_get hv0 (k := 3) (j := y2.toNat) (l := 0) (u := 255) rfl
  refine jt_ite (fun c523_ => ?_) (fun c523_ => ?_)
  ·
    exact cp_X8_takesWord_r1007_96 E d hd a0 b0 hv0 y2 a hv hf (show 3 ≤ y2 from by omega) (show y2 ≤ 200 from by omega) (show 3 ≤ a 2 1 from by omega) (show y2 = (a 2 2) + 3 from by omega) (show y2 ≤ a 2 1 from by omega) (show y2 ≤ 200 from by omega)
  ·
    have h524_ := iv_get hv0 (k := 2) (j := 2) (l := 0) (u := 200) rfl
    exact jt_rI ⟨hv, hf, rfl, (show (0 ≤ 0 ∧ 0 ≤ 1) from by omega), (show ((¬ a0 2 3 = 0 ∨ a0 2 1 ≤ a0 2 2) → 0 = 0) from by omega), (show (0 = 0 → a 2 2 = a0 2 2) from by omega)⟩
theorem cp_X8_takesWord_r1007_29 (E : jxE) (d : Nat) (hd : Nat.ble 5 (d + 1) = true) (a0 b0 : Nat → Nat → Int) (hv0 : iv a0) : ∀ n : Nat, (∀ (y2 y3 : Int) (a : Nat → Nat → Int), (((3 - y3) * 1) + 0).toNat ≤ n → iv a → jfr jW_X8_takesWord_r1007 a0 a → 3 ≤ y2 → y2 ≤ 200 → 0 ≤ y3 → y3 ≤ 2 → 3 ≤ a 2 1 → y3 < 3 → 0 ≤ y3 → y2 = (a 2 2) + 3 → y2 ≤ a 2 1 → y2 ≤ 200 → jt (jxX E d 128 58 [some (.inr (.inr (.inl 2))), some (.inr (.inr (.inl 1007))), some (.inl y2), some (.inl y3)] [] (jxSH, a, b0)) (jQ_X8_takesWord_r1007 a0 b0)) ∧ (∀ (y2 y3 : Int) (a : Nat → Nat → Int), (((3 - y3) * 1) + 0).toNat ≤ n → iv a → jfr jW_X8_takesWord_r1007 a0 a → 3 ≤ y2 → y2 ≤ 200 → 0 ≤ y3 → y3 ≤ 3 → 3 ≤ a 2 1 → 0 ≤ y3 → y2 = (a 2 2) + 3 → y2 ≤ a 2 1 → y2 ≤ 200 → jt (jxX E d 128 29 [some (.inr (.inr (.inl 2))), some (.inr (.inr (.inl 1007))), some (.inl y2), some (.inl y3)] [] (jxSH, a, b0)) (jQ_X8_takesWord_r1007 a0 b0)) := by
  refine jx_ind fun n ih => ?_
  have ih58 : ∀ (y2 y3 : Int) (a : Nat → Nat → Int), (((3 - y3) * 1) + 0).toNat < n → iv a → jfr jW_X8_takesWord_r1007 a0 a → 3 ≤ y2 → y2 ≤ 200 → 0 ≤ y3 → y3 ≤ 2 → 3 ≤ a 2 1 → y3 < 3 → 0 ≤ y3 → y2 = (a 2 2) + 3 → y2 ≤ a 2 1 → y2 ≤ 200 → jt (jxX E d 128 58 [some (.inr (.inr (.inl 2))), some (.inr (.inr (.inl 1007))), some (.inl y2), some (.inl y3)] [] (jxSH, a, b0)) (jQ_X8_takesWord_r1007 a0 b0) := fun y2 y3 a hlt i0 i1 i2 i3 i4 i5 i6 i7 i8 i9 i10 i11 => (ih _ hlt).1 y2 y3 a (Nat.le_refl _) i0 i1 i2 i3 i4 i5 i6 i7 i8 i9 i10 i11
  have ih29 : ∀ (y2 y3 : Int) (a : Nat → Nat → Int), (((3 - y3) * 1) + 0).toNat < n → iv a → jfr jW_X8_takesWord_r1007 a0 a → 3 ≤ y2 → y2 ≤ 200 → 0 ≤ y3 → y3 ≤ 3 → 3 ≤ a 2 1 → 0 ≤ y3 → y2 = (a 2 2) + 3 → y2 ≤ a 2 1 → y2 ≤ 200 → jt (jxX E d 128 29 [some (.inr (.inr (.inl 2))), some (.inr (.inr (.inl 1007))), some (.inl y2), some (.inl y3)] [] (jxSH, a, b0)) (jQ_X8_takesWord_r1007 a0 b0) := fun y2 y3 a hlt i0 i1 i2 i3 i4 i5 i6 i7 i8 i9 i10 => (ih _ hlt).2 y2 y3 a (Nat.le_refl _) i0 i1 i2 i3 i4 i5 i6 i7 i8 i9 i10
  have hc58 : ∀ (y2 y3 : Int) (a : Nat → Nat → Int), (((3 - y3) * 1) + 0).toNat ≤ n → iv a → jfr jW_X8_takesWord_r1007 a0 a → 3 ≤ y2 → y2 ≤ 200 → 0 ≤ y3 → y3 ≤ 2 → 3 ≤ a 2 1 → y3 < 3 → 0 ≤ y3 → y2 = (a 2 2) + 3 → y2 ≤ a 2 1 → y2 ≤ 200 → jt (jxX E d 128 58 [some (.inr (.inr (.inl 2))), some (.inr (.inr (.inl 1007))), some (.inl y2), some (.inl y3)] [] (jxSH, a, b0)) (jQ_X8_takesWord_r1007 a0 b0) := by
    intro y2 y3 a hm hv hf hi0 hi1 hi2 hi3 hi4 hi5 hi6 hi7 hi8 hi9
    refine jt_eq (bq_X8_takesWord_r1007_58 E d y2 y3 a b0) ?_
    have h525_ := iv_get hv (k := 2) (j := 1) (l := 0) (u := 200) rfl
    have h526_ : a 2 1 = a0 2 1 := hf 2 1 rfl
    have h527_ := iv_get hv0 (k := 2) (j := 1) (l := 0) (u := 200) rfl
    have h528_ := iv_get hv (k := 2) (j := 2) (l := 0) (u := 200) rfl
    have h529_ : jxw (y3 + 1) = y3 + 1 := jxw_id (by omega) (by omega)
    exact ih29 y2 (jxw (y3 + 1)) a (show (((3 - (jxw (y3 + 1))) * 1) + 0).toNat < n from by omega) hv hf (show 3 ≤ y2 from by omega) (show y2 ≤ 200 from by omega) (show 0 ≤ jxw (y3 + 1) from by omega) (show jxw (y3 + 1) ≤ 3 from by omega) (show 3 ≤ a 2 1 from by omega) (show 0 ≤ jxw (y3 + 1) from by omega) (show y2 = (a 2 2) + 3 from by omega) (show y2 ≤ a 2 1 from by omega) (show y2 ≤ 200 from by omega)
  have hc29 : ∀ (y2 y3 : Int) (a : Nat → Nat → Int), (((3 - y3) * 1) + 0).toNat ≤ n → iv a → jfr jW_X8_takesWord_r1007 a0 a → 3 ≤ y2 → y2 ≤ 200 → 0 ≤ y3 → y3 ≤ 3 → 3 ≤ a 2 1 → 0 ≤ y3 → y2 = (a 2 2) + 3 → y2 ≤ a 2 1 → y2 ≤ 200 → jt (jxX E d 128 29 [some (.inr (.inr (.inl 2))), some (.inr (.inr (.inl 1007))), some (.inl y2), some (.inl y3)] [] (jxSH, a, b0)) (jQ_X8_takesWord_r1007 a0 b0) := by
    intro y2 y3 a hm hv hf hi0 hi1 hi2 hi3 hi4 hi5 hi6 hi7 hi8
    refine jt_eq (bq_X8_takesWord_r1007_29 E d y2 y3 a b0) ?_
    have h530_ := iv_get hv (k := 2) (j := 1) (l := 0) (u := 200) rfl
    have h531_ : a 2 1 = a0 2 1 := hf 2 1 rfl
    have h532_ := iv_get hv0 (k := 2) (j := 1) (l := 0) (u := 200) rfl
    have h533_ := iv_get hv (k := 2) (j := 2) (l := 0) (u := 200) rfl
    refine jt_eI (eq_J0_length_8abf5_r1007 E d (jd_le hd rfl) a b0) ?_
    have h534_ := ff_J0_length_8abf5_r1007 a b0
    refine jt_ite (fun c535_ => ?_) (fun c535_ => ?_)
    ·
      have h536_ : jxw ((a 2 2) + y3) = (a 2 2) + y3 := jxw_id (by omega) (by omega)
      refine jt_grd (by omega) ?_
      refine jt_eI (eq_J0_charAt_5068e_r1007 E d (jd_le hd rfl) y3 a b0 (show (0 ≤ y3 ∧ y3 < 3) from by omega)) ?_
      have h537_ := iv_get hv (k := 3) (j := (jxw ((a 2 2) + y3)).toNat) (l := 0) (u := 255) rfl
      have h538_ : a 3 ((jxw ((a 2 2) + y3)).toNat) = a0 3 ((jxw ((a 2 2) + y3)).toNat) := hf 3 ((jxw ((a 2 2) + y3)).toNat) rfl
      have h539_ := iv_get hv0 (k := 3) (j := (jxw ((a 2 2) + y3)).toNat) (l := 0) (u := 255) rfl
      have h540_ := f_J0_charAt_5068e_r1007_eq a b0 y3
      have h541_ := f_J0_isLatin1_aae02_r1007_eq a b0
      have h542_ := f_J1_charAt_3b067_r2007_eq a b0 y3
      have h543_ := jxand_r (([97, 110, 121] : List Int).getD (y3.toNat) 0) 255 (by decide) (by decide)
      have h544_ := jxi2c_b (jxand (([97, 110, 121] : List Int).getD (y3.toNat) 0) 255)
      refine jt_ite (fun c545_ => ?_) (fun c545_ => ?_)
      ·
        exact hc58 y2 y3 a (show (((3 - y3) * 1) + 0).toNat ≤ n from by omega) hv hf (show 3 ≤ y2 from by omega) (show y2 ≤ 200 from by omega) (show 0 ≤ y3 from by omega) (show y3 ≤ 2 from by omega) (show 3 ≤ a 2 1 from by omega) (show y3 < 3 from by omega) (show 0 ≤ y3 from by omega) (show y2 = (a 2 2) + 3 from by omega) (show y2 ≤ a 2 1 from by omega) (show y2 ≤ 200 from by omega)
      ·
        exact cp_X8_takesWord_r1007_56 E d hd a0 b0 hv0 a hv hf (show 3 ≤ a 2 1 from by omega)
    ·
      refine jt_ite (fun c546_ => ?_) (fun c546_ => ?_)
      ·
        refine jt_grd (by omega) ?_
        have h547_ := iv_get hv (k := 3) (j := y2.toNat) (l := 0) (u := 255) rfl
        have h548_ : a 3 (y2.toNat) = a0 3 (y2.toNat) := hf 3 (y2.toNat) rfl
        have h549_ := iv_get hv0 (k := 3) (j := y2.toNat) (l := 0) (u := 255) rfl
        refine jt_ite (fun c550_ => ?_) (fun c550_ => ?_)
        ·
          exact cp_X8_takesWord_r1007_96 E d hd a0 b0 hv0 y2 a hv hf (show 3 ≤ y2 from by omega) (show y2 ≤ 200 from by omega) (show 3 ≤ a 2 1 from by omega) (show y2 = (a 2 2) + 3 from by omega) (show y2 ≤ a 2 1 from by omega) (show y2 ≤ 200 from by omega)
        ·
          exact cp_X8_takesWord_r1007_83 E d hd a0 b0 hv0 y2 a hv hf (show 3 ≤ y2 from by omega) (show y2 ≤ 199 from by omega) (show 4 ≤ a 2 1 from by omega) (show y2 = (a 2 2) + 3 from by omega) (show y2 ≤ a 2 1 from by omega) (show y2 ≤ 200 from by omega)
      ·
        exact cp_X8_takesWord_r1007_96 E d hd a0 b0 hv0 y2 a hv hf (show 3 ≤ y2 from by omega) (show y2 ≤ 200 from by omega) (show 3 ≤ a 2 1 from by omega) (show y2 = (a 2 2) + 3 from by omega) (show y2 ≤ a 2 1 from by omega) (show y2 ≤ 200 from by omega)
  exact ⟨hc58, hc29⟩
theorem sp_X8_takesWord_r1007 (E : jxE) (d : Nat) (hd : Nat.ble 5 d = true) (a0 b0 : Nat → Nat → Int) (hv0 : iv a0) : jt (jxC E d 128 [.inr (.inr (.inl 2)), .inr (.inr (.inl 1007))] (jxSH, a0, b0)) (jQ_X8_takesWord_r1007 a0 b0) := by
  obtain ⟨d, rfl⟩ := jd_succ hd
  refine jt_eq (bq_X8_takesWord_r1007 E d a0 b0) ?_
  refine jt_eI (eq_J0_length_8abf5_r1007 E d (jd_le hd rfl) a0 b0) ?_
  refine jt_eI (eq_X8_isFaulty E d (jd_le hd rfl) a0 b0) ?_
  have h551_ := f_X8_isFaulty_eq a0 b0
  refine jt_ite (fun c552_ => ?_) (fun c552_ => ?_)
  ·
    have h553_ := iv_get hv0 (k := 2) (j := 1) (l := 0) (u := 200) rfl
    have h554_ := iv_get hv0 (k := 2) (j := 2) (l := 0) (u := 200) rfl
    have h555_ := ff_J0_length_8abf5_r1007 a0 b0
    have h556_ : jxw ((a0 2 2) + (f_J0_length_8abf5_r1007 a0 b0)) = (a0 2 2) + (f_J0_length_8abf5_r1007 a0 b0) := jxw_id (by omega) (by omega)
    refine jt_ite (fun c557_ => ?_) (fun c557_ => ?_)
    ·
      exact jt_rI ⟨hv0, (jfr_rf _ _), rfl, (show (0 ≤ 0 ∧ 0 ≤ 1) from by omega), (show ((¬ a0 2 3 = 0 ∨ a0 2 1 ≤ a0 2 2) → 0 = 0) from by omega), (show (0 = 0 → a0 2 2 = a0 2 2) from by omega)⟩
    ·
      exact (cp_X8_takesWord_r1007_29 E d hd a0 b0 hv0 _).2 (jxw ((a0 2 2) + (f_J0_length_8abf5_r1007 a0 b0))) 0 a0 (Nat.le_refl _) hv0 (jfr_rf _ _) (show 3 ≤ jxw ((a0 2 2) + (f_J0_length_8abf5_r1007 a0 b0)) from by omega) (show jxw ((a0 2 2) + (f_J0_length_8abf5_r1007 a0 b0)) ≤ 200 from by omega) (show 0 ≤ 0 from by omega) (show 0 ≤ 3 from by omega) (show 3 ≤ a0 2 1 from by omega) (show 0 ≤ 0 from by omega) (show jxw ((a0 2 2) + (f_J0_length_8abf5_r1007 a0 b0)) = (a0 2 2) + 3 from by omega) (show jxw ((a0 2 2) + (f_J0_length_8abf5_r1007 a0 b0)) ≤ a0 2 1 from by omega) (show jxw ((a0 2 2) + (f_J0_length_8abf5_r1007 a0 b0)) ≤ 200 from by omega)
  ·
    have h558_ := iv_get hv0 (k := 2) (j := 1) (l := 0) (u := 200) rfl
    have h559_ := iv_get hv0 (k := 2) (j := 2) (l := 0) (u := 200) rfl
    exact jt_rI ⟨hv0, (jfr_rf _ _), rfl, (show (0 ≤ 0 ∧ 0 ≤ 1) from by omega), (show ((¬ a0 2 3 = 0 ∨ a0 2 1 ≤ a0 2 2) → 0 = 0) from by omega), (show (0 = 0 → a0 2 2 = a0 2 2) from by omega)⟩
def jW_X8_takesWord_r1008 : List (Nat × Nat) := [(2, 2)]
abbrev jQ_X8_takesWord_r1008 (a0 b0 : Nat → Nat → Int) : List jxV → (Nat → Nat → Int) → (Nat → Nat → Int) → Prop := rI (fun r a b => (iv a) ∧ (jfr jW_X8_takesWord_r1008 a0 a) ∧ (b0 = b) ∧ ((0 ≤ r ∧ r ≤ 1)) ∧ (((¬ a0 2 3 = 0 ∨ a0 2 1 ≤ a0 2 2) → r = 0)) ∧ ((r = 0 → a 2 2 = a0 2 2)))
theorem cp_X8_takesWord_r1008_56 (E : jxE) (d : Nat) (hd : Nat.ble 5 (d + 1) = true) (a0 b0 : Nat → Nat → Int) (hv0 : iv a0) : ∀ (a : Nat → Nat → Int), iv a → jfr jW_X8_takesWord_r1008 a0 a → 3 ≤ a 2 1 → jt (jxX E d 128 56 [none, none, none, none] [] (jxSH, a, b0)) (jQ_X8_takesWord_r1008 a0 b0) := by
  intro a hv hf hi0
  refine jt_eq (bq_X8_takesWord_r1008_56 E d a b0) ?_
  have h560_ := iv_get hv (k := 2) (j := 1) (l := 0) (u := 200) rfl
  have h561_ : a 2 1 = a0 2 1 := hf 2 1 rfl
  have h562_ := iv_get hv0 (k := 2) (j := 1) (l := 0) (u := 200) rfl
  have h563_ := iv_get hv0 (k := 2) (j := 2) (l := 0) (u := 200) rfl
  have h564_ := iv_get hv (k := 2) (j := 2) (l := 0) (u := 200) rfl
  exact jt_rI ⟨hv, hf, rfl, (show (0 ≤ 0 ∧ 0 ≤ 1) from by omega), (show ((¬ a0 2 3 = 0 ∨ a0 2 1 ≤ a0 2 2) → 0 = 0) from by omega), (show (0 = 0 → a 2 2 = a0 2 2) from by omega)⟩
theorem cp_X8_takesWord_r1008_96 (E : jxE) (d : Nat) (hd : Nat.ble 5 (d + 1) = true) (a0 b0 : Nat → Nat → Int) (hv0 : iv a0) : ∀ (y2 : Int) (a : Nat → Nat → Int), iv a → jfr jW_X8_takesWord_r1008 a0 a → 3 ≤ y2 → y2 ≤ 200 → 3 ≤ a 2 1 → y2 = (a 2 2) + 3 → y2 ≤ a 2 1 → y2 ≤ 200 → jt (jxX E d 128 96 [some (.inr (.inr (.inl 2))), none, some (.inl y2), none] [] (jxSH, a, b0)) (jQ_X8_takesWord_r1008 a0 b0) := by
  intro y2 a hv hf hi0 hi1 hi2 hi3 hi4 hi5
  refine jt_eq (bq_X8_takesWord_r1008_96 E d y2 a b0) ?_
  have h565_ := iv_get hv (k := 2) (j := 1) (l := 0) (u := 200) rfl
  have h566_ : a 2 1 = a0 2 1 := hf 2 1 rfl
  have h567_ := iv_get hv0 (k := 2) (j := 1) (l := 0) (u := 200) rfl
  have h568_ := iv_get hv (k := 2) (j := 2) (l := 0) (u := 200) rfl
  have hv569_ : iv (jxu a 2 2 y2) := iv_put hv (l := 0) (u := 200) rfl (by omega) (by omega)
  refine jt_bV (sp_X8_skipBlanks E d (jd_le hd rfl) (jxu a 2 2 y2) b0 hv569_) (fun a570_ b570_ h570_ => ?_)
  obtain ⟨hv570_, hf570_, rfl, hq570_0⟩ := h570_
  have h571_ := iv_get hv570_ (k := 2) (j := 2) (l := 0) (u := 200) rfl
  have h572_ : (a 2 1 ≤ y2 → a570_ 2 2 = y2) := hq570_0
  have hf573_ : jfr jW_X8_takesWord_r1008 a0 (jxu a 2 2 y2) := jfr_put hf rfl
  have hf574_ : jfr jW_X8_takesWord_r1008 a0 a570_ := jfr_tr hf573_ hf570_ rfl
  have h575_ := iv_get hv0 (k := 2) (j := 2) (l := 0) (u := 200) rfl
  exact jt_rI ⟨hv570_, hf574_, rfl, (show (0 ≤ 1 ∧ 1 ≤ 1) from by omega), (show ((¬ a0 2 3 = 0 ∨ a0 2 1 ≤ a0 2 2) → 1 = 0) from by omega), (show (1 = 0 → a570_ 2 2 = a0 2 2) from by omega)⟩
theorem cp_X8_takesWord_r1008_83 (E : jxE) (d : Nat) (hd : Nat.ble 5 (d + 1) = true) (a0 b0 : Nat → Nat → Int) (hv0 : iv a0) : ∀ (y2 : Int) (a : Nat → Nat → Int), iv a → jfr jW_X8_takesWord_r1008 a0 a → 3 ≤ y2 → y2 ≤ 199 → 4 ≤ a 2 1 → y2 = (a 2 2) + 3 → y2 ≤ a 2 1 → y2 ≤ 200 → jt (jxX E d 128 83 [some (.inr (.inr (.inl 2))), none, some (.inl y2), none] [] (jxSH, a, b0)) (jQ_X8_takesWord_r1008 a0 b0) := by
  intro y2 a hv hf hi0 hi1 hi2 hi3 hi4 hi5
  refine jt_eq (bq_X8_takesWord_r1008_83 E d y2 a b0) ?_
  have h576_ := iv_get hv (k := 2) (j := 1) (l := 0) (u := 200) rfl
  have h577_ : a 2 1 = a0 2 1 := hf 2 1 rfl
  have h578_ := iv_get hv0 (k := 2) (j := 1) (l := 0) (u := 200) rfl
  have h579_ := iv_get hv (k := 2) (j := 2) (l := 0) (u := 200) rfl
  refine jt_grd (by omega) ?_
  have h580_ := iv_get hv (k := 3) (j := y2.toNat) (l := 0) (u := 255) rfl
  have h581_ : a 3 (y2.toNat) = a0 3 (y2.toNat) := hf 3 (y2.toNat) rfl
  have h582_ := iv_get hv0 (k := 3) (j := y2.toNat) (l := 0) (u := 255) rfl
  refine jt_ite (fun c583_ => ?_) (fun c583_ => ?_)
  ·
    exact cp_X8_takesWord_r1008_96 E d hd a0 b0 hv0 y2 a hv hf (show 3 ≤ y2 from by omega) (show y2 ≤ 200 from by omega) (show 3 ≤ a 2 1 from by omega) (show y2 = (a 2 2) + 3 from by omega) (show y2 ≤ a 2 1 from by omega) (show y2 ≤ 200 from by omega)
  ·
    have h584_ := iv_get hv0 (k := 2) (j := 2) (l := 0) (u := 200) rfl
    exact jt_rI ⟨hv, hf, rfl, (show (0 ≤ 0 ∧ 0 ≤ 1) from by omega), (show ((¬ a0 2 3 = 0 ∨ a0 2 1 ≤ a0 2 2) → 0 = 0) from by omega), (show (0 = 0 → a 2 2 = a0 2 2) from by omega)⟩
theorem cp_X8_takesWord_r1008_29 (E : jxE) (d : Nat) (hd : Nat.ble 5 (d + 1) = true) (a0 b0 : Nat → Nat → Int) (hv0 : iv a0) : ∀ n : Nat, (∀ (y2 y3 : Int) (a : Nat → Nat → Int), (((3 - y3) * 1) + 0).toNat ≤ n → iv a → jfr jW_X8_takesWord_r1008 a0 a → 3 ≤ y2 → y2 ≤ 200 → 0 ≤ y3 → y3 ≤ 2 → 3 ≤ a 2 1 → y3 < 3 → 0 ≤ y3 → y2 = (a 2 2) + 3 → y2 ≤ a 2 1 → y2 ≤ 200 → jt (jxX E d 128 58 [some (.inr (.inr (.inl 2))), some (.inr (.inr (.inl 1008))), some (.inl y2), some (.inl y3)] [] (jxSH, a, b0)) (jQ_X8_takesWord_r1008 a0 b0)) ∧ (∀ (y2 y3 : Int) (a : Nat → Nat → Int), (((3 - y3) * 1) + 0).toNat ≤ n → iv a → jfr jW_X8_takesWord_r1008 a0 a → 3 ≤ y2 → y2 ≤ 200 → 0 ≤ y3 → y3 ≤ 3 → 3 ≤ a 2 1 → 0 ≤ y3 → y2 = (a 2 2) + 3 → y2 ≤ a 2 1 → y2 ≤ 200 → jt (jxX E d 128 29 [some (.inr (.inr (.inl 2))), some (.inr (.inr (.inl 1008))), some (.inl y2), some (.inl y3)] [] (jxSH, a, b0)) (jQ_X8_takesWord_r1008 a0 b0)) := by
  refine jx_ind fun n ih => ?_
  have ih58 : ∀ (y2 y3 : Int) (a : Nat → Nat → Int), (((3 - y3) * 1) + 0).toNat < n → iv a → jfr jW_X8_takesWord_r1008 a0 a → 3 ≤ y2 → y2 ≤ 200 → 0 ≤ y3 → y3 ≤ 2 → 3 ≤ a 2 1 → y3 < 3 → 0 ≤ y3 → y2 = (a 2 2) + 3 → y2 ≤ a 2 1 → y2 ≤ 200 → jt (jxX E d 128 58 [some (.inr (.inr (.inl 2))), some (.inr (.inr (.inl 1008))), some (.inl y2), some (.inl y3)] [] (jxSH, a, b0)) (jQ_X8_takesWord_r1008 a0 b0) := fun y2 y3 a hlt i0 i1 i2 i3 i4 i5 i6 i7 i8 i9 i10 i11 => (ih _ hlt).1 y2 y3 a (Nat.le_refl _) i0 i1 i2 i3 i4 i5 i6 i7 i8 i9 i10 i11
  have ih29 : ∀ (y2 y3 : Int) (a : Nat → Nat → Int), (((3 - y3) * 1) + 0).toNat < n → iv a → jfr jW_X8_takesWord_r1008 a0 a → 3 ≤ y2 → y2 ≤ 200 → 0 ≤ y3 → y3 ≤ 3 → 3 ≤ a 2 1 → 0 ≤ y3 → y2 = (a 2 2) + 3 → y2 ≤ a 2 1 → y2 ≤ 200 → jt (jxX E d 128 29 [some (.inr (.inr (.inl 2))), some (.inr (.inr (.inl 1008))), some (.inl y2), some (.inl y3)] [] (jxSH, a, b0)) (jQ_X8_takesWord_r1008 a0 b0) := fun y2 y3 a hlt i0 i1 i2 i3 i4 i5 i6 i7 i8 i9 i10 => (ih _ hlt).2 y2 y3 a (Nat.le_refl _) i0 i1 i2 i3 i4 i5 i6 i7 i8 i9 i10
  have hc58 : ∀ (y2 y3 : Int) (a : Nat → Nat → Int), (((3 - y3) * 1) + 0).toNat ≤ n → iv a → jfr jW_X8_takesWord_r1008 a0 a → 3 ≤ y2 → y2 ≤ 200 → 0 ≤ y3 → y3 ≤ 2 → 3 ≤ a 2 1 → y3 < 3 → 0 ≤ y3 → y2 = (a 2 2) + 3 → y2 ≤ a 2 1 → y2 ≤ 200 → jt (jxX E d 128 58 [some (.inr (.inr (.inl 2))), some (.inr (.inr (.inl 1008))), some (.inl y2), some (.inl y3)] [] (jxSH, a, b0)) (jQ_X8_takesWord_r1008 a0 b0) := by
    intro y2 y3 a hm hv hf hi0 hi1 hi2 hi3 hi4 hi5 hi6 hi7 hi8 hi9
    refine jt_eq (bq_X8_takesWord_r1008_58 E d y2 y3 a b0) ?_
    have h585_ := iv_get hv (k := 2) (j := 1) (l := 0) (u := 200) rfl
    have h586_ : a 2 1 = a0 2 1 := hf 2 1 rfl
    have h587_ := iv_get hv0 (k := 2) (j := 1) (l := 0) (u := 200) rfl
    have h588_ := iv_get hv (k := 2) (j := 2) (l := 0) (u := 200) rfl
    have h589_ : jxw (y3 + 1) = y3 + 1 := jxw_id (by omega) (by omega)
    exact ih29 y2 (jxw (y3 + 1)) a (show (((3 - (jxw (y3 + 1))) * 1) + 0).toNat < n from by omega) hv hf (show 3 ≤ y2 from by omega) (show y2 ≤ 200 from by omega) (show 0 ≤ jxw (y3 + 1) from by omega) (show jxw (y3 + 1) ≤ 3 from by omega) (show 3 ≤ a 2 1 from by omega) (show 0 ≤ jxw (y3 + 1) from by omega) (show y2 = (a 2 2) + 3 from by omega) (show y2 ≤ a 2 1 from by omega) (show y2 ≤ 200 from by omega)
  have hc29 : ∀ (y2 y3 : Int) (a : Nat → Nat → Int), (((3 - y3) * 1) + 0).toNat ≤ n → iv a → jfr jW_X8_takesWord_r1008 a0 a → 3 ≤ y2 → y2 ≤ 200 → 0 ≤ y3 → y3 ≤ 3 → 3 ≤ a 2 1 → 0 ≤ y3 → y2 = (a 2 2) + 3 → y2 ≤ a 2 1 → y2 ≤ 200 → jt (jxX E d 128 29 [some (.inr (.inr (.inl 2))), some (.inr (.inr (.inl 1008))), some (.inl y2), some (.inl y3)] [] (jxSH, a, b0)) (jQ_X8_takesWord_r1008 a0 b0) := by
    intro y2 y3 a hm hv hf hi0 hi1 hi2 hi3 hi4 hi5 hi6 hi7 hi8
    refine jt_eq (bq_X8_takesWord_r1008_29 E d y2 y3 a b0) ?_
    have h590_ := iv_get hv (k := 2) (j := 1) (l := 0) (u := 200) rfl
    have h591_ : a 2 1 = a0 2 1 := hf 2 1 rfl
    have h592_ := iv_get hv0 (k := 2) (j := 1) (l := 0) (u := 200) rfl
    have h593_ := iv_get hv (k := 2) (j := 2) (l := 0) (u := 200) rfl
    refine jt_eI (eq_J0_length_8abf5_r1008 E d (jd_le hd rfl) a b0) ?_
    have h594_ := ff_J0_length_8abf5_r1008 a b0
    refine jt_ite (fun c595_ => ?_) (fun c595_ => ?_)
    ·
      have h596_ : jxw ((a 2 2) + y3) = (a 2 2) + y3 := jxw_id (by omega) (by omega)
      refine jt_grd (by omega) ?_
      refine jt_eI (eq_J0_charAt_5068e_r1008 E d (jd_le hd rfl) y3 a b0 (show (0 ≤ y3 ∧ y3 < 3) from by omega)) ?_
      have h597_ := iv_get hv (k := 3) (j := (jxw ((a 2 2) + y3)).toNat) (l := 0) (u := 255) rfl
      have h598_ : a 3 ((jxw ((a 2 2) + y3)).toNat) = a0 3 ((jxw ((a 2 2) + y3)).toNat) := hf 3 ((jxw ((a 2 2) + y3)).toNat) rfl
      have h599_ := iv_get hv0 (k := 3) (j := (jxw ((a 2 2) + y3)).toNat) (l := 0) (u := 255) rfl
      have h600_ := f_J0_charAt_5068e_r1008_eq a b0 y3
      have h601_ := f_J0_isLatin1_aae02_r1008_eq a b0
      have h602_ := f_J1_charAt_3b067_r2008_eq a b0 y3
      have h603_ := jxand_r (([97, 110, 100] : List Int).getD (y3.toNat) 0) 255 (by decide) (by decide)
      have h604_ := jxi2c_b (jxand (([97, 110, 100] : List Int).getD (y3.toNat) 0) 255)
      refine jt_ite (fun c605_ => ?_) (fun c605_ => ?_)
      ·
        exact hc58 y2 y3 a (show (((3 - y3) * 1) + 0).toNat ≤ n from by omega) hv hf (show 3 ≤ y2 from by omega) (show y2 ≤ 200 from by omega) (show 0 ≤ y3 from by omega) (show y3 ≤ 2 from by omega) (show 3 ≤ a 2 1 from by omega) (show y3 < 3 from by omega) (show 0 ≤ y3 from by omega) (show y2 = (a 2 2) + 3 from by omega) (show y2 ≤ a 2 1 from by omega) (show y2 ≤ 200 from by omega)
      ·
        exact cp_X8_takesWord_r1008_56 E d hd a0 b0 hv0 a hv hf (show 3 ≤ a 2 1 from by omega)
    ·
      refine jt_ite (fun c606_ => ?_) (fun c606_ => ?_)
      ·
        refine jt_grd (by omega) ?_
        have h607_ := iv_get hv (k := 3) (j := y2.toNat) (l := 0) (u := 255) rfl
        have h608_ : a 3 (y2.toNat) = a0 3 (y2.toNat) := hf 3 (y2.toNat) rfl
        have h609_ := iv_get hv0 (k := 3) (j := y2.toNat) (l := 0) (u := 255) rfl
        refine jt_ite (fun c610_ => ?_) (fun c610_ => ?_)
        ·
          exact cp_X8_takesWord_r1008_96 E d hd a0 b0 hv0 y2 a hv hf (show 3 ≤ y2 from by omega) (show y2 ≤ 200 from by omega) (show 3 ≤ a 2 1 from by omega) (show y2 = (a 2 2) + 3 from by omega) (show y2 ≤ a 2 1 from by omega) (show y2 ≤ 200 from by omega)
        ·
          exact cp_X8_takesWord_r1008_83 E d hd a0 b0 hv0 y2 a hv hf (show 3 ≤ y2 from by omega) (show y2 ≤ 199 from by omega) (show 4 ≤ a 2 1 from by omega) (show y2 = (a 2 2) + 3 from by omega) (show y2 ≤ a 2 1 from by omega) (show y2 ≤ 200 from by omega)
      ·
        exact cp_X8_takesWord_r1008_96 E d hd a0 b0 hv0 y2 a hv hf (show 3 ≤ y2 from by omega) (show y2 ≤ 200 from by omega) (show 3 ≤ a 2 1 from by omega) (show y2 = (a 2 2) + 3 from by omega) (show y2 ≤ a 2 1 from by omega) (show y2 ≤ 200 from by omega)
  exact ⟨hc58, hc29⟩
theorem sp_X8_takesWord_r1008 (E : jxE) (d : Nat) (hd : Nat.ble 5 d = true) (a0 b0 : Nat → Nat → Int) (hv0 : iv a0) : jt (jxC E d 128 [.inr (.inr (.inl 2)), .inr (.inr (.inl 1008))] (jxSH, a0, b0)) (jQ_X8_takesWord_r1008 a0 b0) := by
  obtain ⟨d, rfl⟩ := jd_succ hd
  refine jt_eq (bq_X8_takesWord_r1008 E d a0 b0) ?_
  refine jt_eI (eq_J0_length_8abf5_r1008 E d (jd_le hd rfl) a0 b0) ?_
  refine jt_eI (eq_X8_isFaulty E d (jd_le hd rfl) a0 b0) ?_
  have h611_ := f_X8_isFaulty_eq a0 b0
  refine jt_ite (fun c612_ => ?_) (fun c612_ => ?_)
  ·
    have h613_ := iv_get hv0 (k := 2) (j := 1) (l := 0) (u := 200) rfl
    have h614_ := iv_get hv0 (k := 2) (j := 2) (l := 0) (u := 200) rfl
    have h615_ := ff_J0_length_8abf5_r1008 a0 b0
    have h616_ : jxw ((a0 2 2) + (f_J0_length_8abf5_r1008 a0 b0)) = (a0 2 2) + (f_J0_length_8abf5_r1008 a0 b0) := jxw_id (by omega) (by omega)
    refine jt_ite (fun c617_ => ?_) (fun c617_ => ?_)
    ·
      exact jt_rI ⟨hv0, (jfr_rf _ _), rfl, (show (0 ≤ 0 ∧ 0 ≤ 1) from by omega), (show ((¬ a0 2 3 = 0 ∨ a0 2 1 ≤ a0 2 2) → 0 = 0) from by omega), (show (0 = 0 → a0 2 2 = a0 2 2) from by omega)⟩
    ·
      exact (cp_X8_takesWord_r1008_29 E d hd a0 b0 hv0 _).2 (jxw ((a0 2 2) + (f_J0_length_8abf5_r1008 a0 b0))) 0 a0 (Nat.le_refl _) hv0 (jfr_rf _ _) (show 3 ≤ jxw ((a0 2 2) + (f_J0_length_8abf5_r1008 a0 b0)) from by omega) (show jxw ((a0 2 2) + (f_J0_length_8abf5_r1008 a0 b0)) ≤ 200 from by omega) (show 0 ≤ 0 from by omega) (show 0 ≤ 3 from by omega) (show 3 ≤ a0 2 1 from by omega) (show 0 ≤ 0 from by omega) (show jxw ((a0 2 2) + (f_J0_length_8abf5_r1008 a0 b0)) = (a0 2 2) + 3 from by omega) (show jxw ((a0 2 2) + (f_J0_length_8abf5_r1008 a0 b0)) ≤ a0 2 1 from by omega) (show jxw ((a0 2 2) + (f_J0_length_8abf5_r1008 a0 b0)) ≤ 200 from by omega)
  ·
    have h618_ := iv_get hv0 (k := 2) (j := 1) (l := 0) (u := 200) rfl
    have h619_ := iv_get hv0 (k := 2) (j := 2) (l := 0) (u := 200) rfl
    exact jt_rI ⟨hv0, (jfr_rf _ _), rfl, (show (0 ≤ 0 ∧ 0 ≤ 1) from by omega), (show ((¬ a0 2 3 = 0 ∨ a0 2 1 ≤ a0 2 2) → 0 = 0) from by omega), (show (0 = 0 → a0 2 2 = a0 2 2) from by omega)⟩
def jW_X8_takesWord_r1009 : List (Nat × Nat) := [(2, 2)]
abbrev jQ_X8_takesWord_r1009 (a0 b0 : Nat → Nat → Int) : List jxV → (Nat → Nat → Int) → (Nat → Nat → Int) → Prop := rI (fun r a b => (iv a) ∧ (jfr jW_X8_takesWord_r1009 a0 a) ∧ (b0 = b) ∧ ((0 ≤ r ∧ r ≤ 1)) ∧ (((¬ a0 2 3 = 0 ∨ a0 2 1 ≤ a0 2 2) → r = 0)) ∧ ((r = 0 → a 2 2 = a0 2 2)))
theorem cp_X8_takesWord_r1009_56 (E : jxE) (d : Nat) (hd : Nat.ble 5 (d + 1) = true) (a0 b0 : Nat → Nat → Int) (hv0 : iv a0) : ∀ (a : Nat → Nat → Int), iv a → jfr jW_X8_takesWord_r1009 a0 a → 2 ≤ a 2 1 → jt (jxX E d 128 56 [none, none, none, none] [] (jxSH, a, b0)) (jQ_X8_takesWord_r1009 a0 b0) := by
  intro a hv hf hi0
  refine jt_eq (bq_X8_takesWord_r1009_56 E d a b0) ?_
  have h620_ := iv_get hv (k := 2) (j := 1) (l := 0) (u := 200) rfl
  have h621_ : a 2 1 = a0 2 1 := hf 2 1 rfl
  have h622_ := iv_get hv0 (k := 2) (j := 1) (l := 0) (u := 200) rfl
  have h623_ := iv_get hv0 (k := 2) (j := 2) (l := 0) (u := 200) rfl
  have h624_ := iv_get hv (k := 2) (j := 2) (l := 0) (u := 200) rfl
  exact jt_rI ⟨hv, hf, rfl, (show (0 ≤ 0 ∧ 0 ≤ 1) from by omega), (show ((¬ a0 2 3 = 0 ∨ a0 2 1 ≤ a0 2 2) → 0 = 0) from by omega), (show (0 = 0 → a 2 2 = a0 2 2) from by omega)⟩
theorem cp_X8_takesWord_r1009_96 (E : jxE) (d : Nat) (hd : Nat.ble 5 (d + 1) = true) (a0 b0 : Nat → Nat → Int) (hv0 : iv a0) : ∀ (y2 : Int) (a : Nat → Nat → Int), iv a → jfr jW_X8_takesWord_r1009 a0 a → 2 ≤ y2 → y2 ≤ 200 → 2 ≤ a 2 1 → y2 = (a 2 2) + 2 → y2 ≤ a 2 1 → y2 ≤ 200 → jt (jxX E d 128 96 [some (.inr (.inr (.inl 2))), none, some (.inl y2), none] [] (jxSH, a, b0)) (jQ_X8_takesWord_r1009 a0 b0) := by
  intro y2 a hv hf hi0 hi1 hi2 hi3 hi4 hi5
  refine jt_eq (bq_X8_takesWord_r1009_96 E d y2 a b0) ?_
  have h625_ := iv_get hv (k := 2) (j := 1) (l := 0) (u := 200) rfl
  have h626_ : a 2 1 = a0 2 1 := hf 2 1 rfl
  have h627_ := iv_get hv0 (k := 2) (j := 1) (l := 0) (u := 200) rfl
  have h628_ := iv_get hv (k := 2) (j := 2) (l := 0) (u := 200) rfl
  have hv629_ : iv (jxu a 2 2 y2) := iv_put hv (l := 0) (u := 200) rfl (by omega) (by omega)
  refine jt_bV (sp_X8_skipBlanks E d (jd_le hd rfl) (jxu a 2 2 y2) b0 hv629_) (fun a630_ b630_ h630_ => ?_)
  obtain ⟨hv630_, hf630_, rfl, hq630_0⟩ := h630_
  have h631_ := iv_get hv630_ (k := 2) (j := 2) (l := 0) (u := 200) rfl
  have h632_ : (a 2 1 ≤ y2 → a630_ 2 2 = y2) := hq630_0
  have hf633_ : jfr jW_X8_takesWord_r1009 a0 (jxu a 2 2 y2) := jfr_put hf rfl
  have hf634_ : jfr jW_X8_takesWord_r1009 a0 a630_ := jfr_tr hf633_ hf630_ rfl
  have h635_ := iv_get hv0 (k := 2) (j := 2) (l := 0) (u := 200) rfl
  exact jt_rI ⟨hv630_, hf634_, rfl, (show (0 ≤ 1 ∧ 1 ≤ 1) from by omega), (show ((¬ a0 2 3 = 0 ∨ a0 2 1 ≤ a0 2 2) → 1 = 0) from by omega), (show (1 = 0 → a630_ 2 2 = a0 2 2) from by omega)⟩
theorem cp_X8_takesWord_r1009_83 (E : jxE) (d : Nat) (hd : Nat.ble 5 (d + 1) = true) (a0 b0 : Nat → Nat → Int) (hv0 : iv a0) : ∀ (y2 : Int) (a : Nat → Nat → Int), iv a → jfr jW_X8_takesWord_r1009 a0 a → 2 ≤ y2 → y2 ≤ 199 → 3 ≤ a 2 1 → y2 = (a 2 2) + 2 → y2 ≤ a 2 1 → y2 ≤ 200 → jt (jxX E d 128 83 [some (.inr (.inr (.inl 2))), none, some (.inl y2), none] [] (jxSH, a, b0)) (jQ_X8_takesWord_r1009 a0 b0) := by
  intro y2 a hv hf hi0 hi1 hi2 hi3 hi4 hi5
  refine jt_eq (bq_X8_takesWord_r1009_83 E d y2 a b0) ?_
  have h636_ := iv_get hv (k := 2) (j := 1) (l := 0) (u := 200) rfl
  have h637_ : a 2 1 = a0 2 1 := hf 2 1 rfl
  have h638_ := iv_get hv0 (k := 2) (j := 1) (l := 0) (u := 200) rfl
  have h639_ := iv_get hv (k := 2) (j := 2) (l := 0) (u := 200) rfl
  refine jt_grd (by omega) ?_
  have h640_ := iv_get hv (k := 3) (j := y2.toNat) (l := 0) (u := 255) rfl
  have h641_ : a 3 (y2.toNat) = a0 3 (y2.toNat) := hf 3 (y2.toNat) rfl
  have h642_ := iv_get hv0 (k := 3) (j := y2.toNat) (l := 0) (u := 255) rfl
  refine jt_ite (fun c643_ => ?_) (fun c643_ => ?_)
  ·
    exact cp_X8_takesWord_r1009_96 E d hd a0 b0 hv0 y2 a hv hf (show 2 ≤ y2 from by omega) (show y2 ≤ 200 from by omega) (show 2 ≤ a 2 1 from by omega) (show y2 = (a 2 2) + 2 from by omega) (show y2 ≤ a 2 1 from by omega) (show y2 ≤ 200 from by omega)
  ·
    have h644_ := iv_get hv0 (k := 2) (j := 2) (l := 0) (u := 200) rfl
    exact jt_rI ⟨hv, hf, rfl, (show (0 ≤ 0 ∧ 0 ≤ 1) from by omega), (show ((¬ a0 2 3 = 0 ∨ a0 2 1 ≤ a0 2 2) → 0 = 0) from by omega), (show (0 = 0 → a 2 2 = a0 2 2) from by omega)⟩
theorem cp_X8_takesWord_r1009_29 (E : jxE) (d : Nat) (hd : Nat.ble 5 (d + 1) = true) (a0 b0 : Nat → Nat → Int) (hv0 : iv a0) : ∀ n : Nat, (∀ (y2 y3 : Int) (a : Nat → Nat → Int), (((2 - y3) * 1) + 0).toNat ≤ n → iv a → jfr jW_X8_takesWord_r1009 a0 a → 2 ≤ y2 → y2 ≤ 200 → 0 ≤ y3 → y3 ≤ 1 → 2 ≤ a 2 1 → y3 < 2 → 0 ≤ y3 → y2 = (a 2 2) + 2 → y2 ≤ a 2 1 → y2 ≤ 200 → jt (jxX E d 128 58 [some (.inr (.inr (.inl 2))), some (.inr (.inr (.inl 1009))), some (.inl y2), some (.inl y3)] [] (jxSH, a, b0)) (jQ_X8_takesWord_r1009 a0 b0)) ∧ (∀ (y2 y3 : Int) (a : Nat → Nat → Int), (((2 - y3) * 1) + 0).toNat ≤ n → iv a → jfr jW_X8_takesWord_r1009 a0 a → 2 ≤ y2 → y2 ≤ 200 → 0 ≤ y3 → y3 ≤ 2 → 2 ≤ a 2 1 → 0 ≤ y3 → y2 = (a 2 2) + 2 → y2 ≤ a 2 1 → y2 ≤ 200 → jt (jxX E d 128 29 [some (.inr (.inr (.inl 2))), some (.inr (.inr (.inl 1009))), some (.inl y2), some (.inl y3)] [] (jxSH, a, b0)) (jQ_X8_takesWord_r1009 a0 b0)) := by
  refine jx_ind fun n ih => ?_
  have ih58 : ∀ (y2 y3 : Int) (a : Nat → Nat → Int), (((2 - y3) * 1) + 0).toNat < n → iv a → jfr jW_X8_takesWord_r1009 a0 a → 2 ≤ y2 → y2 ≤ 200 → 0 ≤ y3 → y3 ≤ 1 → 2 ≤ a 2 1 → y3 < 2 → 0 ≤ y3 → y2 = (a 2 2) + 2 → y2 ≤ a 2 1 → y2 ≤ 200 → jt (jxX E d 128 58 [some (.inr (.inr (.inl 2))), some (.inr (.inr (.inl 1009))), some (.inl y2), some (.inl y3)] [] (jxSH, a, b0)) (jQ_X8_takesWord_r1009 a0 b0) := fun y2 y3 a hlt i0 i1 i2 i3 i4 i5 i6 i7 i8 i9 i10 i11 => (ih _ hlt).1 y2 y3 a (Nat.le_refl _) i0 i1 i2 i3 i4 i5 i6 i7 i8 i9 i10 i11
  have ih29 : ∀ (y2 y3 : Int) (a : Nat → Nat → Int), (((2 - y3) * 1) + 0).toNat < n → iv a → jfr jW_X8_takesWord_r1009 a0 a → 2 ≤ y2 → y2 ≤ 200 → 0 ≤ y3 → y3 ≤ 2 → 2 ≤ a 2 1 → 0 ≤ y3 → y2 = (a 2 2) + 2 → y2 ≤ a 2 1 → y2 ≤ 200 → jt (jxX E d 128 29 [some (.inr (.inr (.inl 2))), some (.inr (.inr (.inl 1009))), some (.inl y2), some (.inl y3)] [] (jxSH, a, b0)) (jQ_X8_takesWord_r1009 a0 b0) := fun y2 y3 a hlt i0 i1 i2 i3 i4 i5 i6 i7 i8 i9 i10 => (ih _ hlt).2 y2 y3 a (Nat.le_refl _) i0 i1 i2 i3 i4 i5 i6 i7 i8 i9 i10
  have hc58 : ∀ (y2 y3 : Int) (a : Nat → Nat → Int), (((2 - y3) * 1) + 0).toNat ≤ n → iv a → jfr jW_X8_takesWord_r1009 a0 a → 2 ≤ y2 → y2 ≤ 200 → 0 ≤ y3 → y3 ≤ 1 → 2 ≤ a 2 1 → y3 < 2 → 0 ≤ y3 → y2 = (a 2 2) + 2 → y2 ≤ a 2 1 → y2 ≤ 200 → jt (jxX E d 128 58 [some (.inr (.inr (.inl 2))), some (.inr (.inr (.inl 1009))), some (.inl y2), some (.inl y3)] [] (jxSH, a, b0)) (jQ_X8_takesWord_r1009 a0 b0) := by
    intro y2 y3 a hm hv hf hi0 hi1 hi2 hi3 hi4 hi5 hi6 hi7 hi8 hi9
    refine jt_eq (bq_X8_takesWord_r1009_58 E d y2 y3 a b0) ?_
    have h645_ := iv_get hv (k := 2) (j := 1) (l := 0) (u := 200) rfl
    have h646_ : a 2 1 = a0 2 1 := hf 2 1 rfl
    have h647_ := iv_get hv0 (k := 2) (j := 1) (l := 0) (u := 200) rfl
    have h648_ := iv_get hv (k := 2) (j := 2) (l := 0) (u := 200) rfl
    have h649_ : jxw (y3 + 1) = y3 + 1 := jxw_id (by omega) (by omega)
    exact ih29 y2 (jxw (y3 + 1)) a (show (((2 - (jxw (y3 + 1))) * 1) + 0).toNat < n from by omega) hv hf (show 2 ≤ y2 from by omega) (show y2 ≤ 200 from by omega) (show 0 ≤ jxw (y3 + 1) from by omega) (show jxw (y3 + 1) ≤ 2 from by omega) (show 2 ≤ a 2 1 from by omega) (show 0 ≤ jxw (y3 + 1) from by omega) (show y2 = (a 2 2) + 2 from by omega) (show y2 ≤ a 2 1 from by omega) (show y2 ≤ 200 from by omega)
  have hc29 : ∀ (y2 y3 : Int) (a : Nat → Nat → Int), (((2 - y3) * 1) + 0).toNat ≤ n → iv a → jfr jW_X8_takesWord_r1009 a0 a → 2 ≤ y2 → y2 ≤ 200 → 0 ≤ y3 → y3 ≤ 2 → 2 ≤ a 2 1 → 0 ≤ y3 → y2 = (a 2 2) + 2 → y2 ≤ a 2 1 → y2 ≤ 200 → jt (jxX E d 128 29 [some (.inr (.inr (.inl 2))), some (.inr (.inr (.inl 1009))), some (.inl y2), some (.inl y3)] [] (jxSH, a, b0)) (jQ_X8_takesWord_r1009 a0 b0) := by
    intro y2 y3 a hm hv hf hi0 hi1 hi2 hi3 hi4 hi5 hi6 hi7 hi8
    refine jt_eq (bq_X8_takesWord_r1009_29 E d y2 y3 a b0) ?_
    have h650_ := iv_get hv (k := 2) (j := 1) (l := 0) (u := 200) rfl
    have h651_ : a 2 1 = a0 2 1 := hf 2 1 rfl
    have h652_ := iv_get hv0 (k := 2) (j := 1) (l := 0) (u := 200) rfl
    have h653_ := iv_get hv (k := 2) (j := 2) (l := 0) (u := 200) rfl
    refine jt_eI (eq_J0_length_8abf5_r1009 E d (jd_le hd rfl) a b0) ?_
    have h654_ := ff_J0_length_8abf5_r1009 a b0
    refine jt_ite (fun c655_ => ?_) (fun c655_ => ?_)
    ·
      have h656_ : jxw ((a 2 2) + y3) = (a 2 2) + y3 := jxw_id (by omega) (by omega)
      refine jt_grd (by omega) ?_
      refine jt_eI (eq_J0_charAt_5068e_r1009 E d (jd_le hd rfl) y3 a b0 (show (0 ≤ y3 ∧ y3 < 2) from by omega)) ?_
      have h657_ := iv_get hv (k := 3) (j := (jxw ((a 2 2) + y3)).toNat) (l := 0) (u := 255) rfl
      have h658_ : a 3 ((jxw ((a 2 2) + y3)).toNat) = a0 3 ((jxw ((a 2 2) + y3)).toNat) := hf 3 ((jxw ((a 2 2) + y3)).toNat) rfl
      have h659_ := iv_get hv0 (k := 3) (j := (jxw ((a 2 2) + y3)).toNat) (l := 0) (u := 255) rfl
      have h660_ := f_J0_charAt_5068e_r1009_eq a b0 y3
      have h661_ := f_J0_isLatin1_aae02_r1009_eq a b0
      have h662_ := f_J1_charAt_3b067_r2009_eq a b0 y3
      have h663_ := jxand_r (([111, 114] : List Int).getD (y3.toNat) 0) 255 (by decide) (by decide)
      have h664_ := jxi2c_b (jxand (([111, 114] : List Int).getD (y3.toNat) 0) 255)
      refine jt_ite (fun c665_ => ?_) (fun c665_ => ?_)
      ·
        exact hc58 y2 y3 a (show (((2 - y3) * 1) + 0).toNat ≤ n from by omega) hv hf (show 2 ≤ y2 from by omega) (show y2 ≤ 200 from by omega) (show 0 ≤ y3 from by omega) (show y3 ≤ 1 from by omega) (show 2 ≤ a 2 1 from by omega) (show y3 < 2 from by omega) (show 0 ≤ y3 from by omega) (show y2 = (a 2 2) + 2 from by omega) (show y2 ≤ a 2 1 from by omega) (show y2 ≤ 200 from by omega)
      ·
        exact cp_X8_takesWord_r1009_56 E d hd a0 b0 hv0 a hv hf (show 2 ≤ a 2 1 from by omega)
    ·
      refine jt_ite (fun c666_ => ?_) (fun c666_ => ?_)
      ·
        refine jt_grd (by omega) ?_
        have h667_ := iv_get hv (k := 3) (j := y2.toNat) (l := 0) (u := 255) rfl
        have h668_ : a 3 (y2.toNat) = a0 3 (y2.toNat) := hf 3 (y2.toNat) rfl
        have h669_ := iv_get hv0 (k := 3) (j := y2.toNat) (l := 0) (u := 255) rfl
        refine jt_ite (fun c670_ => ?_) (fun c670_ => ?_)
        ·
          exact cp_X8_takesWord_r1009_96 E d hd a0 b0 hv0 y2 a hv hf (show 2 ≤ y2 from by omega) (show y2 ≤ 200 from by omega) (show 2 ≤ a 2 1 from by omega) (show y2 = (a 2 2) + 2 from by omega) (show y2 ≤ a 2 1 from by omega) (show y2 ≤ 200 from by omega)
        ·
          exact cp_X8_takesWord_r1009_83 E d hd a0 b0 hv0 y2 a hv hf (show 2 ≤ y2 from by omega) (show y2 ≤ 199 from by omega) (show 3 ≤ a 2 1 from by omega) (show y2 = (a 2 2) + 2 from by omega) (show y2 ≤ a 2 1 from by omega) (show y2 ≤ 200 from by omega)
      ·
        exact cp_X8_takesWord_r1009_96 E d hd a0 b0 hv0 y2 a hv hf (show 2 ≤ y2 from by omega) (show y2 ≤ 200 from by omega) (show 2 ≤ a 2 1 from by omega) (show y2 = (a 2 2) + 2 from by omega) (show y2 ≤ a 2 1 from by omega) (show y2 ≤ 200 from by omega)
  exact ⟨hc58, hc29⟩
theorem sp_X8_takesWord_r1009 (E : jxE) (d : Nat) (hd : Nat.ble 5 d = true) (a0 b0 : Nat → Nat → Int) (hv0 : iv a0) : jt (jxC E d 128 [.inr (.inr (.inl 2)), .inr (.inr (.inl 1009))] (jxSH, a0, b0)) (jQ_X8_takesWord_r1009 a0 b0) := by
  obtain ⟨d, rfl⟩ := jd_succ hd
  refine jt_eq (bq_X8_takesWord_r1009 E d a0 b0) ?_
  refine jt_eI (eq_J0_length_8abf5_r1009 E d (jd_le hd rfl) a0 b0) ?_
  refine jt_eI (eq_X8_isFaulty E d (jd_le hd rfl) a0 b0) ?_
  have h671_ := f_X8_isFaulty_eq a0 b0
  refine jt_ite (fun c672_ => ?_) (fun c672_ => ?_)
  ·
    have h673_ := iv_get hv0 (k := 2) (j := 1) (l := 0) (u := 200) rfl
    have h674_ := iv_get hv0 (k := 2) (j := 2) (l := 0) (u := 200) rfl
    have h675_ := ff_J0_length_8abf5_r1009 a0 b0
    have h676_ : jxw ((a0 2 2) + (f_J0_length_8abf5_r1009 a0 b0)) = (a0 2 2) + (f_J0_length_8abf5_r1009 a0 b0) := jxw_id (by omega) (by omega)
    refine jt_ite (fun c677_ => ?_) (fun c677_ => ?_)
    ·
      exact jt_rI ⟨hv0, (jfr_rf _ _), rfl, (show (0 ≤ 0 ∧ 0 ≤ 1) from by omega), (show ((¬ a0 2 3 = 0 ∨ a0 2 1 ≤ a0 2 2) → 0 = 0) from by omega), (show (0 = 0 → a0 2 2 = a0 2 2) from by omega)⟩
    ·
      exact (cp_X8_takesWord_r1009_29 E d hd a0 b0 hv0 _).2 (jxw ((a0 2 2) + (f_J0_length_8abf5_r1009 a0 b0))) 0 a0 (Nat.le_refl _) hv0 (jfr_rf _ _) (show 2 ≤ jxw ((a0 2 2) + (f_J0_length_8abf5_r1009 a0 b0)) from by omega) (show jxw ((a0 2 2) + (f_J0_length_8abf5_r1009 a0 b0)) ≤ 200 from by omega) (show 0 ≤ 0 from by omega) (show 0 ≤ 2 from by omega) (show 2 ≤ a0 2 1 from by omega) (show 0 ≤ 0 from by omega) (show jxw ((a0 2 2) + (f_J0_length_8abf5_r1009 a0 b0)) = (a0 2 2) + 2 from by omega) (show jxw ((a0 2 2) + (f_J0_length_8abf5_r1009 a0 b0)) ≤ a0 2 1 from by omega) (show jxw ((a0 2 2) + (f_J0_length_8abf5_r1009 a0 b0)) ≤ 200 from by omega)
  ·
    have h678_ := iv_get hv0 (k := 2) (j := 1) (l := 0) (u := 200) rfl
    have h679_ := iv_get hv0 (k := 2) (j := 2) (l := 0) (u := 200) rfl
    exact jt_rI ⟨hv0, (jfr_rf _ _), rfl, (show (0 ≤ 0 ∧ 0 ≤ 1) from by omega), (show ((¬ a0 2 3 = 0 ∨ a0 2 1 ≤ a0 2 2) → 0 = 0) from by omega), (show (0 = 0 → a0 2 2 = a0 2 2) from by omega)⟩
def jW_X8_takesWord_r1010 : List (Nat × Nat) := [(2, 2)]
abbrev jQ_X8_takesWord_r1010 (a0 b0 : Nat → Nat → Int) : List jxV → (Nat → Nat → Int) → (Nat → Nat → Int) → Prop := rI (fun r a b => (iv a) ∧ (jfr jW_X8_takesWord_r1010 a0 a) ∧ (b0 = b) ∧ ((0 ≤ r ∧ r ≤ 1)) ∧ (((¬ a0 2 3 = 0 ∨ a0 2 1 ≤ a0 2 2) → r = 0)) ∧ ((r = 0 → a 2 2 = a0 2 2)))
theorem cp_X8_takesWord_r1010_56 (E : jxE) (d : Nat) (hd : Nat.ble 5 (d + 1) = true) (a0 b0 : Nat → Nat → Int) (hv0 : iv a0) : ∀ (a : Nat → Nat → Int), iv a → jfr jW_X8_takesWord_r1010 a0 a → 5 ≤ a 2 1 → jt (jxX E d 128 56 [none, none, none, none] [] (jxSH, a, b0)) (jQ_X8_takesWord_r1010 a0 b0) := by
  intro a hv hf hi0
  refine jt_eq (bq_X8_takesWord_r1010_56 E d a b0) ?_
  have h680_ := iv_get hv (k := 2) (j := 1) (l := 0) (u := 200) rfl
  have h681_ : a 2 1 = a0 2 1 := hf 2 1 rfl
  have h682_ := iv_get hv0 (k := 2) (j := 1) (l := 0) (u := 200) rfl
  have h683_ := iv_get hv0 (k := 2) (j := 2) (l := 0) (u := 200) rfl
  have h684_ := iv_get hv (k := 2) (j := 2) (l := 0) (u := 200) rfl
  exact jt_rI ⟨hv, hf, rfl, (show (0 ≤ 0 ∧ 0 ≤ 1) from by omega), (show ((¬ a0 2 3 = 0 ∨ a0 2 1 ≤ a0 2 2) → 0 = 0) from by omega), (show (0 = 0 → a 2 2 = a0 2 2) from by omega)⟩
theorem cp_X8_takesWord_r1010_96 (E : jxE) (d : Nat) (hd : Nat.ble 5 (d + 1) = true) (a0 b0 : Nat → Nat → Int) (hv0 : iv a0) : ∀ (y2 : Int) (a : Nat → Nat → Int), iv a → jfr jW_X8_takesWord_r1010 a0 a → 5 ≤ y2 → y2 ≤ 200 → 5 ≤ a 2 1 → y2 = (a 2 2) + 5 → y2 ≤ a 2 1 → y2 ≤ 200 → jt (jxX E d 128 96 [some (.inr (.inr (.inl 2))), none, some (.inl y2), none] [] (jxSH, a, b0)) (jQ_X8_takesWord_r1010 a0 b0) := by
  intro y2 a hv hf hi0 hi1 hi2 hi3 hi4 hi5
  refine jt_eq (bq_X8_takesWord_r1010_96 E d y2 a b0) ?_
  have h685_ := iv_get hv (k := 2) (j := 1) (l := 0) (u := 200) rfl
  have h686_ : a 2 1 = a0 2 1 := hf 2 1 rfl
  have h687_ := iv_get hv0 (k := 2) (j := 1) (l := 0) (u := 200) rfl
  have h688_ := iv_get hv (k := 2) (j := 2) (l := 0) (u := 200) rfl
  have hv689_ : iv (jxu a 2 2 y2) := iv_put hv (l := 0) (u := 200) rfl (by omega) (by omega)
  refine jt_bV (sp_X8_skipBlanks E d (jd_le hd rfl) (jxu a 2 2 y2) b0 hv689_) (fun a690_ b690_ h690_ => ?_)
  obtain ⟨hv690_, hf690_, rfl, hq690_0⟩ := h690_
  have h691_ := iv_get hv690_ (k := 2) (j := 2) (l := 0) (u := 200) rfl
  have h692_ : (a 2 1 ≤ y2 → a690_ 2 2 = y2) := hq690_0
  have hf693_ : jfr jW_X8_takesWord_r1010 a0 (jxu a 2 2 y2) := jfr_put hf rfl
  have hf694_ : jfr jW_X8_takesWord_r1010 a0 a690_ := jfr_tr hf693_ hf690_ rfl
  have h695_ := iv_get hv0 (k := 2) (j := 2) (l := 0) (u := 200) rfl
  exact jt_rI ⟨hv690_, hf694_, rfl, (show (0 ≤ 1 ∧ 1 ≤ 1) from by omega), (show ((¬ a0 2 3 = 0 ∨ a0 2 1 ≤ a0 2 2) → 1 = 0) from by omega), (show (1 = 0 → a690_ 2 2 = a0 2 2) from by omega)⟩
theorem cp_X8_takesWord_r1010_83 (E : jxE) (d : Nat) (hd : Nat.ble 5 (d + 1) = true) (a0 b0 : Nat → Nat → Int) (hv0 : iv a0) : ∀ (y2 : Int) (a : Nat → Nat → Int), iv a → jfr jW_X8_takesWord_r1010 a0 a → 5 ≤ y2 → y2 ≤ 199 → 6 ≤ a 2 1 → y2 = (a 2 2) + 5 → y2 ≤ a 2 1 → y2 ≤ 200 → jt (jxX E d 128 83 [some (.inr (.inr (.inl 2))), none, some (.inl y2), none] [] (jxSH, a, b0)) (jQ_X8_takesWord_r1010 a0 b0) := by
  intro y2 a hv hf hi0 hi1 hi2 hi3 hi4 hi5
  refine jt_eq (bq_X8_takesWord_r1010_83 E d y2 a b0) ?_
  have h696_ := iv_get hv (k := 2) (j := 1) (l := 0) (u := 200) rfl
  have h697_ : a 2 1 = a0 2 1 := hf 2 1 rfl
  have h698_ := iv_get hv0 (k := 2) (j := 1) (l := 0) (u := 200) rfl
  have h699_ := iv_get hv (k := 2) (j := 2) (l := 0) (u := 200) rfl
  refine jt_grd (by omega) ?_
  have h700_ := iv_get hv (k := 3) (j := y2.toNat) (l := 0) (u := 255) rfl
  have h701_ : a 3 (y2.toNat) = a0 3 (y2.toNat) := hf 3 (y2.toNat) rfl
  have h702_ := iv_get hv0 (k := 3) (j := y2.toNat) (l := 0) (u := 255) rfl
  refine jt_ite (fun c703_ => ?_) (fun c703_ => ?_)
  ·
    exact cp_X8_takesWord_r1010_96 E d hd a0 b0 hv0 y2 a hv hf (show 5 ≤ y2 from by omega) (show y2 ≤ 200 from by omega) (show 5 ≤ a 2 1 from by omega) (show y2 = (a 2 2) + 5 from by omega) (show y2 ≤ a 2 1 from by omega) (show y2 ≤ 200 from by omega)
  ·
    have h704_ := iv_get hv0 (k := 2) (j := 2) (l := 0) (u := 200) rfl
    exact jt_rI ⟨hv, hf, rfl, (show (0 ≤ 0 ∧ 0 ≤ 1) from by omega), (show ((¬ a0 2 3 = 0 ∨ a0 2 1 ≤ a0 2 2) → 0 = 0) from by omega), (show (0 = 0 → a 2 2 = a0 2 2) from by omega)⟩
theorem cp_X8_takesWord_r1010_29 (E : jxE) (d : Nat) (hd : Nat.ble 5 (d + 1) = true) (a0 b0 : Nat → Nat → Int) (hv0 : iv a0) : ∀ n : Nat, (∀ (y2 y3 : Int) (a : Nat → Nat → Int), (((5 - y3) * 1) + 0).toNat ≤ n → iv a → jfr jW_X8_takesWord_r1010 a0 a → 5 ≤ y2 → y2 ≤ 200 → 0 ≤ y3 → y3 ≤ 4 → 5 ≤ a 2 1 → y3 < 5 → 0 ≤ y3 → y2 = (a 2 2) + 5 → y2 ≤ a 2 1 → y2 ≤ 200 → jt (jxX E d 128 58 [some (.inr (.inr (.inl 2))), some (.inr (.inr (.inl 1010))), some (.inl y2), some (.inl y3)] [] (jxSH, a, b0)) (jQ_X8_takesWord_r1010 a0 b0)) ∧ (∀ (y2 y3 : Int) (a : Nat → Nat → Int), (((5 - y3) * 1) + 0).toNat ≤ n → iv a → jfr jW_X8_takesWord_r1010 a0 a → 5 ≤ y2 → y2 ≤ 200 → 0 ≤ y3 → y3 ≤ 5 → 5 ≤ a 2 1 → 0 ≤ y3 → y2 = (a 2 2) + 5 → y2 ≤ a 2 1 → y2 ≤ 200 → jt (jxX E d 128 29 [some (.inr (.inr (.inl 2))), some (.inr (.inr (.inl 1010))), some (.inl y2), some (.inl y3)] [] (jxSH, a, b0)) (jQ_X8_takesWord_r1010 a0 b0)) := by
  refine jx_ind fun n ih => ?_
  have ih58 : ∀ (y2 y3 : Int) (a : Nat → Nat → Int), (((5 - y3) * 1) + 0).toNat < n → iv a → jfr jW_X8_takesWord_r1010 a0 a → 5 ≤ y2 → y2 ≤ 200 → 0 ≤ y3 → y3 ≤ 4 → 5 ≤ a 2 1 → y3 < 5 → 0 ≤ y3 → y2 = (a 2 2) + 5 → y2 ≤ a 2 1 → y2 ≤ 200 → jt (jxX E d 128 58 [some (.inr (.inr (.inl 2))), some (.inr (.inr (.inl 1010))), some (.inl y2), some (.inl y3)] [] (jxSH, a, b0)) (jQ_X8_takesWord_r1010 a0 b0) := fun y2 y3 a hlt i0 i1 i2 i3 i4 i5 i6 i7 i8 i9 i10 i11 => (ih _ hlt).1 y2 y3 a (Nat.le_refl _) i0 i1 i2 i3 i4 i5 i6 i7 i8 i9 i10 i11
  have ih29 : ∀ (y2 y3 : Int) (a : Nat → Nat → Int), (((5 - y3) * 1) + 0).toNat < n → iv a → jfr jW_X8_takesWord_r1010 a0 a → 5 ≤ y2 → y2 ≤ 200 → 0 ≤ y3 → y3 ≤ 5 → 5 ≤ a 2 1 → 0 ≤ y3 → y2 = (a 2 2) + 5 → y2 ≤ a 2 1 → y2 ≤ 200 → jt (jxX E d 128 29 [some (.inr (.inr (.inl 2))), some (.inr (.inr (.inl 1010))), some (.inl y2), some (.inl y3)] [] (jxSH, a, b0)) (jQ_X8_takesWord_r1010 a0 b0) := fun y2 y3 a hlt i0 i1 i2 i3 i4 i5 i6 i7 i8 i9 i10 => (ih _ hlt).2 y2 y3 a (Nat.le_refl _) i0 i1 i2 i3 i4 i5 i6 i7 i8 i9 i10
  have hc58 : ∀ (y2 y3 : Int) (a : Nat → Nat → Int), (((5 - y3) * 1) + 0).toNat ≤ n → iv a → jfr jW_X8_takesWord_r1010 a0 a → 5 ≤ y2 → y2 ≤ 200 → 0 ≤ y3 → y3 ≤ 4 → 5 ≤ a 2 1 → y3 < 5 → 0 ≤ y3 → y2 = (a 2 2) + 5 → y2 ≤ a 2 1 → y2 ≤ 200 → jt (jxX E d 128 58 [some (.inr (.inr (.inl 2))), some (.inr (.inr (.inl 1010))), some (.inl y2), some (.inl y3)] [] (jxSH, a, b0)) (jQ_X8_takesWord_r1010 a0 b0) := by
    intro y2 y3 a hm hv hf hi0 hi1 hi2 hi3 hi4 hi5 hi6 hi7 hi8 hi9
    refine jt_eq (bq_X8_takesWord_r1010_58 E d y2 y3 a b0) ?_
    have h705_ := iv_get hv (k := 2) (j := 1) (l := 0) (u := 200) rfl
    have h706_ : a 2 1 = a0 2 1 := hf 2 1 rfl
    have h707_ := iv_get hv0 (k := 2) (j := 1) (l := 0) (u := 200) rfl
    have h708_ := iv_get hv (k := 2) (j := 2) (l := 0) (u := 200) rfl
    have h709_ : jxw (y3 + 1) = y3 + 1 := jxw_id (by omega) (by omega)
    exact ih29 y2 (jxw (y3 + 1)) a (show (((5 - (jxw (y3 + 1))) * 1) + 0).toNat < n from by omega) hv hf (show 5 ≤ y2 from by omega) (show y2 ≤ 200 from by omega) (show 0 ≤ jxw (y3 + 1) from by omega) (show jxw (y3 + 1) ≤ 5 from by omega) (show 5 ≤ a 2 1 from by omega) (show 0 ≤ jxw (y3 + 1) from by omega) (show y2 = (a 2 2) + 5 from by omega) (show y2 ≤ a 2 1 from by omega) (show y2 ≤ 200 from by omega)
  have hc29 : ∀ (y2 y3 : Int) (a : Nat → Nat → Int), (((5 - y3) * 1) + 0).toNat ≤ n → iv a → jfr jW_X8_takesWord_r1010 a0 a → 5 ≤ y2 → y2 ≤ 200 → 0 ≤ y3 → y3 ≤ 5 → 5 ≤ a 2 1 → 0 ≤ y3 → y2 = (a 2 2) + 5 → y2 ≤ a 2 1 → y2 ≤ 200 → jt (jxX E d 128 29 [some (.inr (.inr (.inl 2))), some (.inr (.inr (.inl 1010))), some (.inl y2), some (.inl y3)] [] (jxSH, a, b0)) (jQ_X8_takesWord_r1010 a0 b0) := by
    intro y2 y3 a hm hv hf hi0 hi1 hi2 hi3 hi4 hi5 hi6 hi7 hi8
    refine jt_eq (bq_X8_takesWord_r1010_29 E d y2 y3 a b0) ?_
    have h710_ := iv_get hv (k := 2) (j := 1) (l := 0) (u := 200) rfl
    have h711_ : a 2 1 = a0 2 1 := hf 2 1 rfl
    have h712_ := iv_get hv0 (k := 2) (j := 1) (l := 0) (u := 200) rfl
    have h713_ := iv_get hv (k := 2) (j := 2) (l := 0) (u := 200) rfl
    refine jt_eI (eq_J0_length_8abf5_r1010 E d (jd_le hd rfl) a b0) ?_
    have h714_ := ff_J0_length_8abf5_r1010 a b0
    refine jt_ite (fun c715_ => ?_) (fun c715_ => ?_)
    ·
      have h716_ : jxw ((a 2 2) + y3) = (a 2 2) + y3 := jxw_id (by omega) (by omega)
      refine jt_grd (by omega) ?_
      refine jt_eI (eq_J0_charAt_5068e_r1010 E d (jd_le hd rfl) y3 a b0 (show (0 ≤ y3 ∧ y3 < 5) from by omega)) ?_
      have h717_ := iv_get hv (k := 3) (j := (jxw ((a 2 2) + y3)).toNat) (l := 0) (u := 255) rfl
      have h718_ : a 3 ((jxw ((a 2 2) + y3)).toNat) = a0 3 ((jxw ((a 2 2) + y3)).toNat) := hf 3 ((jxw ((a 2 2) + y3)).toNat) rfl
      have h719_ := iv_get hv0 (k := 3) (j := (jxw ((a 2 2) + y3)).toNat) (l := 0) (u := 255) rfl
      have h720_ := f_J0_charAt_5068e_r1010_eq a b0 y3
      have h721_ := f_J0_isLatin1_aae02_r1010_eq a b0
      have h722_ := f_J1_charAt_3b067_r2010_eq a b0 y3
      have h723_ := jxand_r (([117, 110, 100, 101, 114] : List Int).getD (y3.toNat) 0) 255 (by decide) (by decide)
      have h724_ := jxi2c_b (jxand (([117, 110, 100, 101, 114] : List Int).getD (y3.toNat) 0) 255)
      refine jt_ite (fun c725_ => ?_) (fun c725_ => ?_)
      ·
        exact hc58 y2 y3 a (show (((5 - y3) * 1) + 0).toNat ≤ n from by omega) hv hf (show 5 ≤ y2 from by omega) (show y2 ≤ 200 from by omega) (show 0 ≤ y3 from by omega) (show y3 ≤ 4 from by omega) (show 5 ≤ a 2 1 from by omega) (show y3 < 5 from by omega) (show 0 ≤ y3 from by omega) (show y2 = (a 2 2) + 5 from by omega) (show y2 ≤ a 2 1 from by omega) (show y2 ≤ 200 from by omega)
      ·
        exact cp_X8_takesWord_r1010_56 E d hd a0 b0 hv0 a hv hf (show 5 ≤ a 2 1 from by omega)
    ·
      refine jt_ite (fun c726_ => ?_) (fun c726_ => ?_)
      ·
        refine jt_grd (by omega) ?_
        have h727_ := iv_get hv (k := 3) (j := y2.toNat) (l := 0) (u := 255) rfl
        have h728_ : a 3 (y2.toNat) = a0 3 (y2.toNat) := hf 3 (y2.toNat) rfl
        have h729_ := iv_get hv0 (k := 3) (j := y2.toNat) (l := 0) (u := 255) rfl
        refine jt_ite (fun c730_ => ?_) (fun c730_ => ?_)
        ·
          exact cp_X8_takesWord_r1010_96 E d hd a0 b0 hv0 y2 a hv hf (show 5 ≤ y2 from by omega) (show y2 ≤ 200 from by omega) (show 5 ≤ a 2 1 from by omega) (show y2 = (a 2 2) + 5 from by omega) (show y2 ≤ a 2 1 from by omega) (show y2 ≤ 200 from by omega)
        ·
          exact cp_X8_takesWord_r1010_83 E d hd a0 b0 hv0 y2 a hv hf (show 5 ≤ y2 from by omega) (show y2 ≤ 199 from by omega) (show 6 ≤ a 2 1 from by omega) (show y2 = (a 2 2) + 5 from by omega) (show y2 ≤ a 2 1 from by omega) (show y2 ≤ 200 from by omega)
      ·
        exact cp_X8_takesWord_r1010_96 E d hd a0 b0 hv0 y2 a hv hf (show 5 ≤ y2 from by omega) (show y2 ≤ 200 from by omega) (show 5 ≤ a 2 1 from by omega) (show y2 = (a 2 2) + 5 from by omega) (show y2 ≤ a 2 1 from by omega) (show y2 ≤ 200 from by omega)
  exact ⟨hc58, hc29⟩
theorem sp_X8_takesWord_r1010 (E : jxE) (d : Nat) (hd : Nat.ble 5 d = true) (a0 b0 : Nat → Nat → Int) (hv0 : iv a0) : jt (jxC E d 128 [.inr (.inr (.inl 2)), .inr (.inr (.inl 1010))] (jxSH, a0, b0)) (jQ_X8_takesWord_r1010 a0 b0) := by
  obtain ⟨d, rfl⟩ := jd_succ hd
  refine jt_eq (bq_X8_takesWord_r1010 E d a0 b0) ?_
  refine jt_eI (eq_J0_length_8abf5_r1010 E d (jd_le hd rfl) a0 b0) ?_
  refine jt_eI (eq_X8_isFaulty E d (jd_le hd rfl) a0 b0) ?_
  have h731_ := f_X8_isFaulty_eq a0 b0
  refine jt_ite (fun c732_ => ?_) (fun c732_ => ?_)
  ·
    have h733_ := iv_get hv0 (k := 2) (j := 1) (l := 0) (u := 200) rfl
    have h734_ := iv_get hv0 (k := 2) (j := 2) (l := 0) (u := 200) rfl
    have h735_ := ff_J0_length_8abf5_r1010 a0 b0
    have h736_ : jxw ((a0 2 2) + (f_J0_length_8abf5_r1010 a0 b0)) = (a0 2 2) + (f_J0_length_8abf5_r1010 a0 b0) := jxw_id (by omega) (by omega)
    refine jt_ite (fun c737_ => ?_) (fun c737_ => ?_)
    ·
      exact jt_rI ⟨hv0, (jfr_rf _ _), rfl, (show (0 ≤ 0 ∧ 0 ≤ 1) from by omega), (show ((¬ a0 2 3 = 0 ∨ a0 2 1 ≤ a0 2 2) → 0 = 0) from by omega), (show (0 = 0 → a0 2 2 = a0 2 2) from by omega)⟩
    ·
      exact (cp_X8_takesWord_r1010_29 E d hd a0 b0 hv0 _).2 (jxw ((a0 2 2) + (f_J0_length_8abf5_r1010 a0 b0))) 0 a0 (Nat.le_refl _) hv0 (jfr_rf _ _) (show 5 ≤ jxw ((a0 2 2) + (f_J0_length_8abf5_r1010 a0 b0)) from by omega) (show jxw ((a0 2 2) + (f_J0_length_8abf5_r1010 a0 b0)) ≤ 200 from by omega) (show 0 ≤ 0 from by omega) (show 0 ≤ 5 from by omega) (show 5 ≤ a0 2 1 from by omega) (show 0 ≤ 0 from by omega) (show jxw ((a0 2 2) + (f_J0_length_8abf5_r1010 a0 b0)) = (a0 2 2) + 5 from by omega) (show jxw ((a0 2 2) + (f_J0_length_8abf5_r1010 a0 b0)) ≤ a0 2 1 from by omega) (show jxw ((a0 2 2) + (f_J0_length_8abf5_r1010 a0 b0)) ≤ 200 from by omega)
  ·
    have h738_ := iv_get hv0 (k := 2) (j := 1) (l := 0) (u := 200) rfl
    have h739_ := iv_get hv0 (k := 2) (j := 2) (l := 0) (u := 200) rfl
    exact jt_rI ⟨hv0, (jfr_rf _ _), rfl, (show (0 ≤ 0 ∧ 0 ≤ 1) from by omega), (show ((¬ a0 2 3 = 0 ∨ a0 2 1 ≤ a0 2 2) → 0 = 0) from by omega), (show (0 = 0 → a0 2 2 = a0 2 2) from by omega)⟩
def jW_X8_takesWord_r1011 : List (Nat × Nat) := [(2, 2)]
abbrev jQ_X8_takesWord_r1011 (a0 b0 : Nat → Nat → Int) : List jxV → (Nat → Nat → Int) → (Nat → Nat → Int) → Prop := rI (fun r a b => (iv a) ∧ (jfr jW_X8_takesWord_r1011 a0 a) ∧ (b0 = b) ∧ ((0 ≤ r ∧ r ≤ 1)) ∧ (((¬ a0 2 3 = 0 ∨ a0 2 1 ≤ a0 2 2) → r = 0)) ∧ ((r = 0 → a 2 2 = a0 2 2)))
theorem cp_X8_takesWord_r1011_56 (E : jxE) (d : Nat) (hd : Nat.ble 5 (d + 1) = true) (a0 b0 : Nat → Nat → Int) (hv0 : iv a0) : ∀ (a : Nat → Nat → Int), iv a → jfr jW_X8_takesWord_r1011 a0 a → 4 ≤ a 2 1 → jt (jxX E d 128 56 [none, none, none, none] [] (jxSH, a, b0)) (jQ_X8_takesWord_r1011 a0 b0) := by
  intro a hv hf hi0
  refine jt_eq (bq_X8_takesWord_r1011_56 E d a b0) ?_
  have h740_ := iv_get hv (k := 2) (j := 1) (l := 0) (u := 200) rfl
  have h741_ : a 2 1 = a0 2 1 := hf 2 1 rfl
  have h742_ := iv_get hv0 (k := 2) (j := 1) (l := 0) (u := 200) rfl
  have h743_ := iv_get hv0 (k := 2) (j := 2) (l := 0) (u := 200) rfl
  have h744_ := iv_get hv (k := 2) (j := 2) (l := 0) (u := 200) rfl
  exact jt_rI ⟨hv, hf, rfl, (show (0 ≤ 0 ∧ 0 ≤ 1) from by omega), (show ((¬ a0 2 3 = 0 ∨ a0 2 1 ≤ a0 2 2) → 0 = 0) from by omega), (show (0 = 0 → a 2 2 = a0 2 2) from by omega)⟩
theorem cp_X8_takesWord_r1011_96 (E : jxE) (d : Nat) (hd : Nat.ble 5 (d + 1) = true) (a0 b0 : Nat → Nat → Int) (hv0 : iv a0) : ∀ (y2 : Int) (a : Nat → Nat → Int), iv a → jfr jW_X8_takesWord_r1011 a0 a → 4 ≤ y2 → y2 ≤ 200 → 4 ≤ a 2 1 → y2 = (a 2 2) + 4 → y2 ≤ a 2 1 → y2 ≤ 200 → jt (jxX E d 128 96 [some (.inr (.inr (.inl 2))), none, some (.inl y2), none] [] (jxSH, a, b0)) (jQ_X8_takesWord_r1011 a0 b0) := by
  intro y2 a hv hf hi0 hi1 hi2 hi3 hi4 hi5
  refine jt_eq (bq_X8_takesWord_r1011_96 E d y2 a b0) ?_
  have h745_ := iv_get hv (k := 2) (j := 1) (l := 0) (u := 200) rfl
  have h746_ : a 2 1 = a0 2 1 := hf 2 1 rfl
  have h747_ := iv_get hv0 (k := 2) (j := 1) (l := 0) (u := 200) rfl
  have h748_ := iv_get hv (k := 2) (j := 2) (l := 0) (u := 200) rfl
  have hv749_ : iv (jxu a 2 2 y2) := iv_put hv (l := 0) (u := 200) rfl (by omega) (by omega)
  refine jt_bV (sp_X8_skipBlanks E d (jd_le hd rfl) (jxu a 2 2 y2) b0 hv749_) (fun a750_ b750_ h750_ => ?_)
  obtain ⟨hv750_, hf750_, rfl, hq750_0⟩ := h750_
  have h751_ := iv_get hv750_ (k := 2) (j := 2) (l := 0) (u := 200) rfl
  have h752_ : (a 2 1 ≤ y2 → a750_ 2 2 = y2) := hq750_0
  have hf753_ : jfr jW_X8_takesWord_r1011 a0 (jxu a 2 2 y2) := jfr_put hf rfl
  have hf754_ : jfr jW_X8_takesWord_r1011 a0 a750_ := jfr_tr hf753_ hf750_ rfl
  have h755_ := iv_get hv0 (k := 2) (j := 2) (l := 0) (u := 200) rfl
  exact jt_rI ⟨hv750_, hf754_, rfl, (show (0 ≤ 1 ∧ 1 ≤ 1) from by omega), (show ((¬ a0 2 3 = 0 ∨ a0 2 1 ≤ a0 2 2) → 1 = 0) from by omega), (show (1 = 0 → a750_ 2 2 = a0 2 2) from by omega)⟩
theorem cp_X8_takesWord_r1011_83 (E : jxE) (d : Nat) (hd : Nat.ble 5 (d + 1) = true) (a0 b0 : Nat → Nat → Int) (hv0 : iv a0) : ∀ (y2 : Int) (a : Nat → Nat → Int), iv a → jfr jW_X8_takesWord_r1011 a0 a → 4 ≤ y2 → y2 ≤ 199 → 5 ≤ a 2 1 → y2 = (a 2 2) + 4 → y2 ≤ a 2 1 → y2 ≤ 200 → jt (jxX E d 128 83 [some (.inr (.inr (.inl 2))), none, some (.inl y2), none] [] (jxSH, a, b0)) (jQ_X8_takesWord_r1011 a0 b0) := by
  intro y2 a hv hf hi0 hi1 hi2 hi3 hi4 hi5
  refine jt_eq (bq_X8_takesWord_r1011_83 E d y2 a b0) ?_
  have h756_ := iv_get hv (k := 2) (j := 1) (l := 0) (u := 200) rfl
  have h757_ : a 2 1 = a0 2 1 := hf 2 1 rfl
  have h758_ := iv_get hv0 (k := 2) (j := 1) (l := 0) (u := 200) rfl
  have h759_ := iv_get hv (k := 2) (j := 2) (l := 0) (u := 200) rfl
  refine jt_grd (by omega) ?_
  have h760_ := iv_get hv (k := 3) (j := y2.toNat) (l := 0) (u := 255) rfl
  have h761_ : a 3 (y2.toNat) = a0 3 (y2.toNat) := hf 3 (y2.toNat) rfl
  have h762_ := iv_get hv0 (k := 3) (j := y2.toNat) (l := 0) (u := 255) rfl
  refine jt_ite (fun c763_ => ?_) (fun c763_ => ?_)
  ·
    exact cp_X8_takesWord_r1011_96 E d hd a0 b0 hv0 y2 a hv hf (show 4 ≤ y2 from by omega) (show y2 ≤ 200 from by omega) (show 4 ≤ a 2 1 from by omega) (show y2 = (a 2 2) + 4 from by omega) (show y2 ≤ a 2 1 from by omega) (show y2 ≤ 200 from by omega)
  ·
    have h764_ := iv_get hv0 (k := 2) (j := 2) (l := 0) (u := 200) rfl
    exact jt_rI ⟨hv, hf, rfl, (show (0 ≤ 0 ∧ 0 ≤ 1) from by omega), (show ((¬ a0 2 3 = 0 ∨ a0 2 1 ≤ a0 2 2) → 0 = 0) from by omega), (show (0 = 0 → a 2 2 = a0 2 2) from by omega)⟩
theorem cp_X8_takesWord_r1011_29 (E : jxE) (d : Nat) (hd : Nat.ble 5 (d + 1) = true) (a0 b0 : Nat → Nat → Int) (hv0 : iv a0) : ∀ n : Nat, (∀ (y2 y3 : Int) (a : Nat → Nat → Int), (((4 - y3) * 1) + 0).toNat ≤ n → iv a → jfr jW_X8_takesWord_r1011 a0 a → 4 ≤ y2 → y2 ≤ 200 → 0 ≤ y3 → y3 ≤ 3 → 4 ≤ a 2 1 → y3 < 4 → 0 ≤ y3 → y2 = (a 2 2) + 4 → y2 ≤ a 2 1 → y2 ≤ 200 → jt (jxX E d 128 58 [some (.inr (.inr (.inl 2))), some (.inr (.inr (.inl 1011))), some (.inl y2), some (.inl y3)] [] (jxSH, a, b0)) (jQ_X8_takesWord_r1011 a0 b0)) ∧ (∀ (y2 y3 : Int) (a : Nat → Nat → Int), (((4 - y3) * 1) + 0).toNat ≤ n → iv a → jfr jW_X8_takesWord_r1011 a0 a → 4 ≤ y2 → y2 ≤ 200 → 0 ≤ y3 → y3 ≤ 4 → 4 ≤ a 2 1 → 0 ≤ y3 → y2 = (a 2 2) + 4 → y2 ≤ a 2 1 → y2 ≤ 200 → jt (jxX E d 128 29 [some (.inr (.inr (.inl 2))), some (.inr (.inr (.inl 1011))), some (.inl y2), some (.inl y3)] [] (jxSH, a, b0)) (jQ_X8_takesWord_r1011 a0 b0)) := by
  refine jx_ind fun n ih => ?_
  have ih58 : ∀ (y2 y3 : Int) (a : Nat → Nat → Int), (((4 - y3) * 1) + 0).toNat < n → iv a → jfr jW_X8_takesWord_r1011 a0 a → 4 ≤ y2 → y2 ≤ 200 → 0 ≤ y3 → y3 ≤ 3 → 4 ≤ a 2 1 → y3 < 4 → 0 ≤ y3 → y2 = (a 2 2) + 4 → y2 ≤ a 2 1 → y2 ≤ 200 → jt (jxX E d 128 58 [some (.inr (.inr (.inl 2))), some (.inr (.inr (.inl 1011))), some (.inl y2), some (.inl y3)] [] (jxSH, a, b0)) (jQ_X8_takesWord_r1011 a0 b0) := fun y2 y3 a hlt i0 i1 i2 i3 i4 i5 i6 i7 i8 i9 i10 i11 => (ih _ hlt).1 y2 y3 a (Nat.le_refl _) i0 i1 i2 i3 i4 i5 i6 i7 i8 i9 i10 i11
  have ih29 : ∀ (y2 y3 : Int) (a : Nat → Nat → Int), (((4 - y3) * 1) + 0).toNat < n → iv a → jfr jW_X8_takesWord_r1011 a0 a → 4 ≤ y2 → y2 ≤ 200 → 0 ≤ y3 → y3 ≤ 4 → 4 ≤ a 2 1 → 0 ≤ y3 → y2 = (a 2 2) + 4 → y2 ≤ a 2 1 → y2 ≤ 200 → jt (jxX E d 128 29 [some (.inr (.inr (.inl 2))), some (.inr (.inr (.inl 1011))), some (.inl y2), some (.inl y3)] [] (jxSH, a, b0)) (jQ_X8_takesWord_r1011 a0 b0) := fun y2 y3 a hlt i0 i1 i2 i3 i4 i5 i6 i7 i8 i9 i10 => (ih _ hlt).2 y2 y3 a (Nat.le_refl _) i0 i1 i2 i3 i4 i5 i6 i7 i8 i9 i10
  have hc58 : ∀ (y2 y3 : Int) (a : Nat → Nat → Int), (((4 - y3) * 1) + 0).toNat ≤ n → iv a → jfr jW_X8_takesWord_r1011 a0 a → 4 ≤ y2 → y2 ≤ 200 → 0 ≤ y3 → y3 ≤ 3 → 4 ≤ a 2 1 → y3 < 4 → 0 ≤ y3 → y2 = (a 2 2) + 4 → y2 ≤ a 2 1 → y2 ≤ 200 → jt (jxX E d 128 58 [some (.inr (.inr (.inl 2))), some (.inr (.inr (.inl 1011))), some (.inl y2), some (.inl y3)] [] (jxSH, a, b0)) (jQ_X8_takesWord_r1011 a0 b0) := by
    intro y2 y3 a hm hv hf hi0 hi1 hi2 hi3 hi4 hi5 hi6 hi7 hi8 hi9
    refine jt_eq (bq_X8_takesWord_r1011_58 E d y2 y3 a b0) ?_
    have h765_ := iv_get hv (k := 2) (j := 1) (l := 0) (u := 200) rfl
    have h766_ : a 2 1 = a0 2 1 := hf 2 1 rfl
    have h767_ := iv_get hv0 (k := 2) (j := 1) (l := 0) (u := 200) rfl
    have h768_ := iv_get hv (k := 2) (j := 2) (l := 0) (u := 200) rfl
    have h769_ : jxw (y3 + 1) = y3 + 1 := jxw_id (by omega) (by omega)
    exact ih29 y2 (jxw (y3 + 1)) a (show (((4 - (jxw (y3 + 1))) * 1) + 0).toNat < n from by omega) hv hf (show 4 ≤ y2 from by omega) (show y2 ≤ 200 from by omega) (show 0 ≤ jxw (y3 + 1) from by omega) (show jxw (y3 + 1) ≤ 4 from by omega) (show 4 ≤ a 2 1 from by omega) (show 0 ≤ jxw (y3 + 1) from by omega) (show y2 = (a 2 2) + 4 from by omega) (show y2 ≤ a 2 1 from by omega) (show y2 ≤ 200 from by omega)
  have hc29 : ∀ (y2 y3 : Int) (a : Nat → Nat → Int), (((4 - y3) * 1) + 0).toNat ≤ n → iv a → jfr jW_X8_takesWord_r1011 a0 a → 4 ≤ y2 → y2 ≤ 200 → 0 ≤ y3 → y3 ≤ 4 → 4 ≤ a 2 1 → 0 ≤ y3 → y2 = (a 2 2) + 4 → y2 ≤ a 2 1 → y2 ≤ 200 → jt (jxX E d 128 29 [some (.inr (.inr (.inl 2))), some (.inr (.inr (.inl 1011))), some (.inl y2), some (.inl y3)] [] (jxSH, a, b0)) (jQ_X8_takesWord_r1011 a0 b0) := by
    intro y2 y3 a hm hv hf hi0 hi1 hi2 hi3 hi4 hi5 hi6 hi7 hi8
    refine jt_eq (bq_X8_takesWord_r1011_29 E d y2 y3 a b0) ?_
    have h770_ := iv_get hv (k := 2) (j := 1) (l := 0) (u := 200) rfl
    have h771_ : a 2 1 = a0 2 1 := hf 2 1 rfl
    have h772_ := iv_get hv0 (k := 2) (j := 1) (l := 0) (u := 200) rfl
    have h773_ := iv_get hv (k := 2) (j := 2) (l := 0) (u := 200) rfl
    refine jt_eI (eq_J0_length_8abf5_r1011 E d (jd_le hd rfl) a b0) ?_
    have h774_ := ff_J0_length_8abf5_r1011 a b0
    refine jt_ite (fun c775_ => ?_) (fun c775_ => ?_)
    ·
      have h776_ : jxw ((a 2 2) + y3) = (a 2 2) + y3 := jxw_id (by omega) (by omega)
      refine jt_grd (by omega) ?_
      refine jt_eI (eq_J0_charAt_5068e_r1011 E d (jd_le hd rfl) y3 a b0 (show (0 ≤ y3 ∧ y3 < 4) from by omega)) ?_
      have h777_ := iv_get hv (k := 3) (j := (jxw ((a 2 2) + y3)).toNat) (l := 0) (u := 255) rfl
      have h778_ : a 3 ((jxw ((a 2 2) + y3)).toNat) = a0 3 ((jxw ((a 2 2) + y3)).toNat) := hf 3 ((jxw ((a 2 2) + y3)).toNat) rfl
      have h779_ := iv_get hv0 (k := 3) (j := (jxw ((a 2 2) + y3)).toNat) (l := 0) (u := 255) rfl
      have h780_ := f_J0_charAt_5068e_r1011_eq a b0 y3
      have h781_ := f_J0_isLatin1_aae02_r1011_eq a b0
      have h782_ := f_J1_charAt_3b067_r2011_eq a b0 y3
      have h783_ := jxand_r (([109, 111, 114, 101] : List Int).getD (y3.toNat) 0) 255 (by decide) (by decide)
      have h784_ := jxi2c_b (jxand (([109, 111, 114, 101] : List Int).getD (y3.toNat) 0) 255)
      refine jt_ite (fun c785_ => ?_) (fun c785_ => ?_)
      ·
        exact hc58 y2 y3 a (show (((4 - y3) * 1) + 0).toNat ≤ n from by omega) hv hf (show 4 ≤ y2 from by omega) (show y2 ≤ 200 from by omega) (show 0 ≤ y3 from by omega) (show y3 ≤ 3 from by omega) (show 4 ≤ a 2 1 from by omega) (show y3 < 4 from by omega) (show 0 ≤ y3 from by omega) (show y2 = (a 2 2) + 4 from by omega) (show y2 ≤ a 2 1 from by omega) (show y2 ≤ 200 from by omega)
      ·
        exact cp_X8_takesWord_r1011_56 E d hd a0 b0 hv0 a hv hf (show 4 ≤ a 2 1 from by omega)
    ·
      refine jt_ite (fun c786_ => ?_) (fun c786_ => ?_)
      ·
        refine jt_grd (by omega) ?_
        have h787_ := iv_get hv (k := 3) (j := y2.toNat) (l := 0) (u := 255) rfl
        have h788_ : a 3 (y2.toNat) = a0 3 (y2.toNat) := hf 3 (y2.toNat) rfl
        have h789_ := iv_get hv0 (k := 3) (j := y2.toNat) (l := 0) (u := 255) rfl
        refine jt_ite (fun c790_ => ?_) (fun c790_ => ?_)
        ·
          exact cp_X8_takesWord_r1011_96 E d hd a0 b0 hv0 y2 a hv hf (show 4 ≤ y2 from by omega) (show y2 ≤ 200 from by omega) (show 4 ≤ a 2 1 from by omega) (show y2 = (a 2 2) + 4 from by omega) (show y2 ≤ a 2 1 from by omega) (show y2 ≤ 200 from by omega)
        ·
          exact cp_X8_takesWord_r1011_83 E d hd a0 b0 hv0 y2 a hv hf (show 4 ≤ y2 from by omega) (show y2 ≤ 199 from by omega) (show 5 ≤ a 2 1 from by omega) (show y2 = (a 2 2) + 4 from by omega) (show y2 ≤ a 2 1 from by omega) (show y2 ≤ 200 from by omega)
      ·
        exact cp_X8_takesWord_r1011_96 E d hd a0 b0 hv0 y2 a hv hf (show 4 ≤ y2 from by omega) (show y2 ≤ 200 from by omega) (show 4 ≤ a 2 1 from by omega) (show y2 = (a 2 2) + 4 from by omega) (show y2 ≤ a 2 1 from by omega) (show y2 ≤ 200 from by omega)
  exact ⟨hc58, hc29⟩
theorem sp_X8_takesWord_r1011 (E : jxE) (d : Nat) (hd : Nat.ble 5 d = true) (a0 b0 : Nat → Nat → Int) (hv0 : iv a0) : jt (jxC E d 128 [.inr (.inr (.inl 2)), .inr (.inr (.inl 1011))] (jxSH, a0, b0)) (jQ_X8_takesWord_r1011 a0 b0) := by
  obtain ⟨d, rfl⟩ := jd_succ hd
  refine jt_eq (bq_X8_takesWord_r1011 E d a0 b0) ?_
  refine jt_eI (eq_J0_length_8abf5_r1011 E d (jd_le hd rfl) a0 b0) ?_
  refine jt_eI (eq_X8_isFaulty E d (jd_le hd rfl) a0 b0) ?_
  have h791_ := f_X8_isFaulty_eq a0 b0
  refine jt_ite (fun c792_ => ?_) (fun c792_ => ?_)
  ·
    have h793_ := iv_get hv0 (k := 2) (j := 1) (l := 0) (u := 200) rfl
    have h794_ := iv_get hv0 (k := 2) (j := 2) (l := 0) (u := 200) rfl
    have h795_ := ff_J0_length_8abf5_r1011 a0 b0
    have h796_ : jxw ((a0 2 2) + (f_J0_length_8abf5_r1011 a0 b0)) = (a0 2 2) + (f_J0_length_8abf5_r1011 a0 b0) := jxw_id (by omega) (by omega)
    refine jt_ite (fun c797_ => ?_) (fun c797_ => ?_)
    ·
      exact jt_rI ⟨hv0, (jfr_rf _ _), rfl, (show (0 ≤ 0 ∧ 0 ≤ 1) from by omega), (show ((¬ a0 2 3 = 0 ∨ a0 2 1 ≤ a0 2 2) → 0 = 0) from by omega), (show (0 = 0 → a0 2 2 = a0 2 2) from by omega)⟩
    ·
      exact (cp_X8_takesWord_r1011_29 E d hd a0 b0 hv0 _).2 (jxw ((a0 2 2) + (f_J0_length_8abf5_r1011 a0 b0))) 0 a0 (Nat.le_refl _) hv0 (jfr_rf _ _) (show 4 ≤ jxw ((a0 2 2) + (f_J0_length_8abf5_r1011 a0 b0)) from by omega) (show jxw ((a0 2 2) + (f_J0_length_8abf5_r1011 a0 b0)) ≤ 200 from by omega) (show 0 ≤ 0 from by omega) (show 0 ≤ 4 from by omega) (show 4 ≤ a0 2 1 from by omega) (show 0 ≤ 0 from by omega) (show jxw ((a0 2 2) + (f_J0_length_8abf5_r1011 a0 b0)) = (a0 2 2) + 4 from by omega) (show jxw ((a0 2 2) + (f_J0_length_8abf5_r1011 a0 b0)) ≤ a0 2 1 from by omega) (show jxw ((a0 2 2) + (f_J0_length_8abf5_r1011 a0 b0)) ≤ 200 from by omega)
  ·
    have h798_ := iv_get hv0 (k := 2) (j := 1) (l := 0) (u := 200) rfl
    have h799_ := iv_get hv0 (k := 2) (j := 2) (l := 0) (u := 200) rfl
    exact jt_rI ⟨hv0, (jfr_rf _ _), rfl, (show (0 ≤ 0 ∧ 0 ≤ 1) from by omega), (show ((¬ a0 2 3 = 0 ∨ a0 2 1 ≤ a0 2 2) → 0 = 0) from by omega), (show (0 = 0 → a0 2 2 = a0 2 2) from by omega)⟩
def jW_X8_takesWord_r1012 : List (Nat × Nat) := [(2, 2)]
abbrev jQ_X8_takesWord_r1012 (a0 b0 : Nat → Nat → Int) : List jxV → (Nat → Nat → Int) → (Nat → Nat → Int) → Prop := rI (fun r a b => (iv a) ∧ (jfr jW_X8_takesWord_r1012 a0 a) ∧ (b0 = b) ∧ ((0 ≤ r ∧ r ≤ 1)) ∧ (((¬ a0 2 3 = 0 ∨ a0 2 1 ≤ a0 2 2) → r = 0)) ∧ ((r = 0 → a 2 2 = a0 2 2)))
theorem cp_X8_takesWord_r1012_56 (E : jxE) (d : Nat) (hd : Nat.ble 5 (d + 1) = true) (a0 b0 : Nat → Nat → Int) (hv0 : iv a0) : ∀ (a : Nat → Nat → Int), iv a → jfr jW_X8_takesWord_r1012 a0 a → 5 ≤ a 2 1 → jt (jxX E d 128 56 [none, none, none, none] [] (jxSH, a, b0)) (jQ_X8_takesWord_r1012 a0 b0) := by
  intro a hv hf hi0
  refine jt_eq (bq_X8_takesWord_r1012_56 E d a b0) ?_
  have h800_ := iv_get hv (k := 2) (j := 1) (l := 0) (u := 200) rfl
  have h801_ : a 2 1 = a0 2 1 := hf 2 1 rfl
  have h802_ := iv_get hv0 (k := 2) (j := 1) (l := 0) (u := 200) rfl
  have h803_ := iv_get hv0 (k := 2) (j := 2) (l := 0) (u := 200) rfl
  have h804_ := iv_get hv (k := 2) (j := 2) (l := 0) (u := 200) rfl
  exact jt_rI ⟨hv, hf, rfl, (show (0 ≤ 0 ∧ 0 ≤ 1) from by omega), (show ((¬ a0 2 3 = 0 ∨ a0 2 1 ≤ a0 2 2) → 0 = 0) from by omega), (show (0 = 0 → a 2 2 = a0 2 2) from by omega)⟩
theorem cp_X8_takesWord_r1012_96 (E : jxE) (d : Nat) (hd : Nat.ble 5 (d + 1) = true) (a0 b0 : Nat → Nat → Int) (hv0 : iv a0) : ∀ (y2 : Int) (a : Nat → Nat → Int), iv a → jfr jW_X8_takesWord_r1012 a0 a → 5 ≤ y2 → y2 ≤ 200 → 5 ≤ a 2 1 → y2 = (a 2 2) + 5 → y2 ≤ a 2 1 → y2 ≤ 200 → jt (jxX E d 128 96 [some (.inr (.inr (.inl 2))), none, some (.inl y2), none] [] (jxSH, a, b0)) (jQ_X8_takesWord_r1012 a0 b0) := by
  intro y2 a hv hf hi0 hi1 hi2 hi3 hi4 hi5
  refine jt_eq (bq_X8_takesWord_r1012_96 E d y2 a b0) ?_
  have h805_ := iv_get hv (k := 2) (j := 1) (l := 0) (u := 200) rfl
  have h806_ : a 2 1 = a0 2 1 := hf 2 1 rfl
  have h807_ := iv_get hv0 (k := 2) (j := 1) (l := 0) (u := 200) rfl
  have h808_ := iv_get hv (k := 2) (j := 2) (l := 0) (u := 200) rfl
  have hv809_ : iv (jxu a 2 2 y2) := iv_put hv (l := 0) (u := 200) rfl (by omega) (by omega)
  refine jt_bV (sp_X8_skipBlanks E d (jd_le hd rfl) (jxu a 2 2 y2) b0 hv809_) (fun a810_ b810_ h810_ => ?_)
  obtain ⟨hv810_, hf810_, rfl, hq810_0⟩ := h810_
  have h811_ := iv_get hv810_ (k := 2) (j := 2) (l := 0) (u := 200) rfl
  have h812_ : (a 2 1 ≤ y2 → a810_ 2 2 = y2) := hq810_0
  have hf813_ : jfr jW_X8_takesWord_r1012 a0 (jxu a 2 2 y2) := jfr_put hf rfl
  have hf814_ : jfr jW_X8_takesWord_r1012 a0 a810_ := jfr_tr hf813_ hf810_ rfl
  have h815_ := iv_get hv0 (k := 2) (j := 2) (l := 0) (u := 200) rfl
  exact jt_rI ⟨hv810_, hf814_, rfl, (show (0 ≤ 1 ∧ 1 ≤ 1) from by omega), (show ((¬ a0 2 3 = 0 ∨ a0 2 1 ≤ a0 2 2) → 1 = 0) from by omega), (show (1 = 0 → a810_ 2 2 = a0 2 2) from by omega)⟩
theorem cp_X8_takesWord_r1012_83 (E : jxE) (d : Nat) (hd : Nat.ble 5 (d + 1) = true) (a0 b0 : Nat → Nat → Int) (hv0 : iv a0) : ∀ (y2 : Int) (a : Nat → Nat → Int), iv a → jfr jW_X8_takesWord_r1012 a0 a → 5 ≤ y2 → y2 ≤ 199 → 6 ≤ a 2 1 → y2 = (a 2 2) + 5 → y2 ≤ a 2 1 → y2 ≤ 200 → jt (jxX E d 128 83 [some (.inr (.inr (.inl 2))), none, some (.inl y2), none] [] (jxSH, a, b0)) (jQ_X8_takesWord_r1012 a0 b0) := by
  intro y2 a hv hf hi0 hi1 hi2 hi3 hi4 hi5
  refine jt_eq (bq_X8_takesWord_r1012_83 E d y2 a b0) ?_
  have h816_ := iv_get hv (k := 2) (j := 1) (l := 0) (u := 200) rfl
  have h817_ : a 2 1 = a0 2 1 := hf 2 1 rfl
  have h818_ := iv_get hv0 (k := 2) (j := 1) (l := 0) (u := 200) rfl
  have h819_ := iv_get hv (k := 2) (j := 2) (l := 0) (u := 200) rfl
  refine jt_grd (by omega) ?_
  have h820_ := iv_get hv (k := 3) (j := y2.toNat) (l := 0) (u := 255) rfl
  have h821_ : a 3 (y2.toNat) = a0 3 (y2.toNat) := hf 3 (y2.toNat) rfl
  have h822_ := iv_get hv0 (k := 3) (j := y2.toNat) (l := 0) (u := 255) rfl
  refine jt_ite (fun c823_ => ?_) (fun c823_ => ?_)
  ·
    exact cp_X8_takesWord_r1012_96 E d hd a0 b0 hv0 y2 a hv hf (show 5 ≤ y2 from by omega) (show y2 ≤ 200 from by omega) (show 5 ≤ a 2 1 from by omega) (show y2 = (a 2 2) + 5 from by omega) (show y2 ≤ a 2 1 from by omega) (show y2 ≤ 200 from by omega)
  ·
    have h824_ := iv_get hv0 (k := 2) (j := 2) (l := 0) (u := 200) rfl
    exact jt_rI ⟨hv, hf, rfl, (show (0 ≤ 0 ∧ 0 ≤ 1) from by omega), (show ((¬ a0 2 3 = 0 ∨ a0 2 1 ≤ a0 2 2) → 0 = 0) from by omega), (show (0 = 0 → a 2 2 = a0 2 2) from by omega)⟩
theorem cp_X8_takesWord_r1012_29 (E : jxE) (d : Nat) (hd : Nat.ble 5 (d + 1) = true) (a0 b0 : Nat → Nat → Int) (hv0 : iv a0) : ∀ n : Nat, (∀ (y2 y3 : Int) (a : Nat → Nat → Int), (((5 - y3) * 1) + 0).toNat ≤ n → iv a → jfr jW_X8_takesWord_r1012 a0 a → 5 ≤ y2 → y2 ≤ 200 → 0 ≤ y3 → y3 ≤ 4 → 5 ≤ a 2 1 → y3 < 5 → 0 ≤ y3 → y2 = (a 2 2) + 5 → y2 ≤ a 2 1 → y2 ≤ 200 → jt (jxX E d 128 58 [some (.inr (.inr (.inl 2))), some (.inr (.inr (.inl 1012))), some (.inl y2), some (.inl y3)] [] (jxSH, a, b0)) (jQ_X8_takesWord_r1012 a0 b0)) ∧ (∀ (y2 y3 : Int) (a : Nat → Nat → Int), (((5 - y3) * 1) + 0).toNat ≤ n → iv a → jfr jW_X8_takesWord_r1012 a0 a → 5 ≤ y2 → y2 ≤ 200 → 0 ≤ y3 → y3 ≤ 5 → 5 ≤ a 2 1 → 0 ≤ y3 → y2 = (a 2 2) + 5 → y2 ≤ a 2 1 → y2 ≤ 200 → jt (jxX E d 128 29 [some (.inr (.inr (.inl 2))), some (.inr (.inr (.inl 1012))), some (.inl y2), some (.inl y3)] [] (jxSH, a, b0)) (jQ_X8_takesWord_r1012 a0 b0)) := by
  refine jx_ind fun n ih => ?_
  have ih58 : ∀ (y2 y3 : Int) (a : Nat → Nat → Int), (((5 - y3) * 1) + 0).toNat < n → iv a → jfr jW_X8_takesWord_r1012 a0 a → 5 ≤ y2 → y2 ≤ 200 → 0 ≤ y3 → y3 ≤ 4 → 5 ≤ a 2 1 → y3 < 5 → 0 ≤ y3 → y2 = (a 2 2) + 5 → y2 ≤ a 2 1 → y2 ≤ 200 → jt (jxX E d 128 58 [some (.inr (.inr (.inl 2))), some (.inr (.inr (.inl 1012))), some (.inl y2), some (.inl y3)] [] (jxSH, a, b0)) (jQ_X8_takesWord_r1012 a0 b0) := fun y2 y3 a hlt i0 i1 i2 i3 i4 i5 i6 i7 i8 i9 i10 i11 => (ih _ hlt).1 y2 y3 a (Nat.le_refl _) i0 i1 i2 i3 i4 i5 i6 i7 i8 i9 i10 i11
  have ih29 : ∀ (y2 y3 : Int) (a : Nat → Nat → Int), (((5 - y3) * 1) + 0).toNat < n → iv a → jfr jW_X8_takesWord_r1012 a0 a → 5 ≤ y2 → y2 ≤ 200 → 0 ≤ y3 → y3 ≤ 5 → 5 ≤ a 2 1 → 0 ≤ y3 → y2 = (a 2 2) + 5 → y2 ≤ a 2 1 → y2 ≤ 200 → jt (jxX E d 128 29 [some (.inr (.inr (.inl 2))), some (.inr (.inr (.inl 1012))), some (.inl y2), some (.inl y3)] [] (jxSH, a, b0)) (jQ_X8_takesWord_r1012 a0 b0) := fun y2 y3 a hlt i0 i1 i2 i3 i4 i5 i6 i7 i8 i9 i10 => (ih _ hlt).2 y2 y3 a (Nat.le_refl _) i0 i1 i2 i3 i4 i5 i6 i7 i8 i9 i10
  have hc58 : ∀ (y2 y3 : Int) (a : Nat → Nat → Int), (((5 - y3) * 1) + 0).toNat ≤ n → iv a → jfr jW_X8_takesWord_r1012 a0 a → 5 ≤ y2 → y2 ≤ 200 → 0 ≤ y3 → y3 ≤ 4 → 5 ≤ a 2 1 → y3 < 5 → 0 ≤ y3 → y2 = (a 2 2) + 5 → y2 ≤ a 2 1 → y2 ≤ 200 → jt (jxX E d 128 58 [some (.inr (.inr (.inl 2))), some (.inr (.inr (.inl 1012))), some (.inl y2), some (.inl y3)] [] (jxSH, a, b0)) (jQ_X8_takesWord_r1012 a0 b0) := by
    intro y2 y3 a hm hv hf hi0 hi1 hi2 hi3 hi4 hi5 hi6 hi7 hi8 hi9
    refine jt_eq (bq_X8_takesWord_r1012_58 E d y2 y3 a b0) ?_
    have h825_ := iv_get hv (k := 2) (j := 1) (l := 0) (u := 200) rfl
    have h826_ : a 2 1 = a0 2 1 := hf 2 1 rfl
    have h827_ := iv_get hv0 (k := 2) (j := 1) (l := 0) (u := 200) rfl
    have h828_ := iv_get hv (k := 2) (j := 2) (l := 0) (u := 200) rfl
    have h829_ : jxw (y3 + 1) = y3 + 1 := jxw_id (by omega) (by omega)
    exact ih29 y2 (jxw (y3 + 1)) a (show (((5 - (jxw (y3 + 1))) * 1) + 0).toNat < n from by omega) hv hf (show 5 ≤ y2 from by omega) (show y2 ≤ 200 from by omega) (show 0 ≤ jxw (y3 + 1) from by omega) (show jxw (y3 + 1) ≤ 5 from by omega) (show 5 ≤ a 2 1 from by omega) (show 0 ≤ jxw (y3 + 1) from by omega) (show y2 = (a 2 2) + 5 from by omega) (show y2 ≤ a 2 1 from by omega) (show y2 ≤ 200 from by omega)
  have hc29 : ∀ (y2 y3 : Int) (a : Nat → Nat → Int), (((5 - y3) * 1) + 0).toNat ≤ n → iv a → jfr jW_X8_takesWord_r1012 a0 a → 5 ≤ y2 → y2 ≤ 200 → 0 ≤ y3 → y3 ≤ 5 → 5 ≤ a 2 1 → 0 ≤ y3 → y2 = (a 2 2) + 5 → y2 ≤ a 2 1 → y2 ≤ 200 → jt (jxX E d 128 29 [some (.inr (.inr (.inl 2))), some (.inr (.inr (.inl 1012))), some (.inl y2), some (.inl y3)] [] (jxSH, a, b0)) (jQ_X8_takesWord_r1012 a0 b0) := by
    intro y2 y3 a hm hv hf hi0 hi1 hi2 hi3 hi4 hi5 hi6 hi7 hi8
    refine jt_eq (bq_X8_takesWord_r1012_29 E d y2 y3 a b0) ?_
    have h830_ := iv_get hv (k := 2) (j := 1) (l := 0) (u := 200) rfl
    have h831_ : a 2 1 = a0 2 1 := hf 2 1 rfl
    have h832_ := iv_get hv0 (k := 2) (j := 1) (l := 0) (u := 200) rfl
    have h833_ := iv_get hv (k := 2) (j := 2) (l := 0) (u := 200) rfl
    refine jt_eI (eq_J0_length_8abf5_r1012 E d (jd_le hd rfl) a b0) ?_
    have h834_ := ff_J0_length_8abf5_r1012 a b0
    refine jt_ite (fun c835_ => ?_) (fun c835_ => ?_)
    ·
      have h836_ : jxw ((a 2 2) + y3) = (a 2 2) + y3 := jxw_id (by omega) (by omega)
      refine jt_grd (by omega) ?_
      refine jt_eI (eq_J0_charAt_5068e_r1012 E d (jd_le hd rfl) y3 a b0 (show (0 ≤ y3 ∧ y3 < 5) from by omega)) ?_
      have h837_ := iv_get hv (k := 3) (j := (jxw ((a 2 2) + y3)).toNat) (l := 0) (u := 255) rfl
      have h838_ : a 3 ((jxw ((a 2 2) + y3)).toNat) = a0 3 ((jxw ((a 2 2) + y3)).toNat) := hf 3 ((jxw ((a 2 2) + y3)).toNat) rfl
      have h839_ := iv_get hv0 (k := 3) (j := (jxw ((a 2 2) + y3)).toNat) (l := 0) (u := 255) rfl
      have h840_ := f_J0_charAt_5068e_r1012_eq a b0 y3
      have h841_ := f_J0_isLatin1_aae02_r1012_eq a b0
      have h842_ := f_J1_charAt_3b067_r2012_eq a b0 y3
      have h843_ := jxand_r (([115, 108, 97, 99, 107] : List Int).getD (y3.toNat) 0) 255 (by decide) (by decide)
      have h844_ := jxi2c_b (jxand (([115, 108, 97, 99, 107] : List Int).getD (y3.toNat) 0) 255)
      refine jt_ite (fun c845_ => ?_) (fun c845_ => ?_)
      ·
        exact hc58 y2 y3 a (show (((5 - y3) * 1) + 0).toNat ≤ n from by omega) hv hf (show 5 ≤ y2 from by omega) (show y2 ≤ 200 from by omega) (show 0 ≤ y3 from by omega) (show y3 ≤ 4 from by omega) (show 5 ≤ a 2 1 from by omega) (show y3 < 5 from by omega) (show 0 ≤ y3 from by omega) (show y2 = (a 2 2) + 5 from by omega) (show y2 ≤ a 2 1 from by omega) (show y2 ≤ 200 from by omega)
      ·
        exact cp_X8_takesWord_r1012_56 E d hd a0 b0 hv0 a hv hf (show 5 ≤ a 2 1 from by omega)
    ·
      refine jt_ite (fun c846_ => ?_) (fun c846_ => ?_)
      ·
        refine jt_grd (by omega) ?_
        have h847_ := iv_get hv (k := 3) (j := y2.toNat) (l := 0) (u := 255) rfl
        have h848_ : a 3 (y2.toNat) = a0 3 (y2.toNat) := hf 3 (y2.toNat) rfl
        have h849_ := iv_get hv0 (k := 3) (j := y2.toNat) (l := 0) (u := 255) rfl
        refine jt_ite (fun c850_ => ?_) (fun c850_ => ?_)
        ·
          exact cp_X8_takesWord_r1012_96 E d hd a0 b0 hv0 y2 a hv hf (show 5 ≤ y2 from by omega) (show y2 ≤ 200 from by omega) (show 5 ≤ a 2 1 from by omega) (show y2 = (a 2 2) + 5 from by omega) (show y2 ≤ a 2 1 from by omega) (show y2 ≤ 200 from by omega)
        ·
          exact cp_X8_takesWord_r1012_83 E d hd a0 b0 hv0 y2 a hv hf (show 5 ≤ y2 from by omega) (show y2 ≤ 199 from by omega) (show 6 ≤ a 2 1 from by omega) (show y2 = (a 2 2) + 5 from by omega) (show y2 ≤ a 2 1 from by omega) (show y2 ≤ 200 from by omega)
      ·
        exact cp_X8_takesWord_r1012_96 E d hd a0 b0 hv0 y2 a hv hf (show 5 ≤ y2 from by omega) (show y2 ≤ 200 from by omega) (show 5 ≤ a 2 1 from by omega) (show y2 = (a 2 2) + 5 from by omega) (show y2 ≤ a 2 1 from by omega) (show y2 ≤ 200 from by omega)
  exact ⟨hc58, hc29⟩
theorem sp_X8_takesWord_r1012 (E : jxE) (d : Nat) (hd : Nat.ble 5 d = true) (a0 b0 : Nat → Nat → Int) (hv0 : iv a0) : jt (jxC E d 128 [.inr (.inr (.inl 2)), .inr (.inr (.inl 1012))] (jxSH, a0, b0)) (jQ_X8_takesWord_r1012 a0 b0) := by
  obtain ⟨d, rfl⟩ := jd_succ hd
  refine jt_eq (bq_X8_takesWord_r1012 E d a0 b0) ?_
  refine jt_eI (eq_J0_length_8abf5_r1012 E d (jd_le hd rfl) a0 b0) ?_
  refine jt_eI (eq_X8_isFaulty E d (jd_le hd rfl) a0 b0) ?_
  have h851_ := f_X8_isFaulty_eq a0 b0
  refine jt_ite (fun c852_ => ?_) (fun c852_ => ?_)
  ·
    have h853_ := iv_get hv0 (k := 2) (j := 1) (l := 0) (u := 200) rfl
    have h854_ := iv_get hv0 (k := 2) (j := 2) (l := 0) (u := 200) rfl
    have h855_ := ff_J0_length_8abf5_r1012 a0 b0
    have h856_ : jxw ((a0 2 2) + (f_J0_length_8abf5_r1012 a0 b0)) = (a0 2 2) + (f_J0_length_8abf5_r1012 a0 b0) := jxw_id (by omega) (by omega)
    refine jt_ite (fun c857_ => ?_) (fun c857_ => ?_)
    ·
      exact jt_rI ⟨hv0, (jfr_rf _ _), rfl, (show (0 ≤ 0 ∧ 0 ≤ 1) from by omega), (show ((¬ a0 2 3 = 0 ∨ a0 2 1 ≤ a0 2 2) → 0 = 0) from by omega), (show (0 = 0 → a0 2 2 = a0 2 2) from by omega)⟩
    ·
      exact (cp_X8_takesWord_r1012_29 E d hd a0 b0 hv0 _).2 (jxw ((a0 2 2) + (f_J0_length_8abf5_r1012 a0 b0))) 0 a0 (Nat.le_refl _) hv0 (jfr_rf _ _) (show 5 ≤ jxw ((a0 2 2) + (f_J0_length_8abf5_r1012 a0 b0)) from by omega) (show jxw ((a0 2 2) + (f_J0_length_8abf5_r1012 a0 b0)) ≤ 200 from by omega) (show 0 ≤ 0 from by omega) (show 0 ≤ 5 from by omega) (show 5 ≤ a0 2 1 from by omega) (show 0 ≤ 0 from by omega) (show jxw ((a0 2 2) + (f_J0_length_8abf5_r1012 a0 b0)) = (a0 2 2) + 5 from by omega) (show jxw ((a0 2 2) + (f_J0_length_8abf5_r1012 a0 b0)) ≤ a0 2 1 from by omega) (show jxw ((a0 2 2) + (f_J0_length_8abf5_r1012 a0 b0)) ≤ 200 from by omega)
  ·
    have h858_ := iv_get hv0 (k := 2) (j := 1) (l := 0) (u := 200) rfl
    have h859_ := iv_get hv0 (k := 2) (j := 2) (l := 0) (u := 200) rfl
    exact jt_rI ⟨hv0, (jfr_rf _ _), rfl, (show (0 ≤ 0 ∧ 0 ≤ 1) from by omega), (show ((¬ a0 2 3 = 0 ∨ a0 2 1 ≤ a0 2 2) → 0 = 0) from by omega), (show (0 = 0 → a0 2 2 = a0 2 2) from by omega)⟩
def jW_X8_takesWord_r1013 : List (Nat × Nat) := [(2, 2)]
abbrev jQ_X8_takesWord_r1013 (a0 b0 : Nat → Nat → Int) : List jxV → (Nat → Nat → Int) → (Nat → Nat → Int) → Prop := rI (fun r a b => (iv a) ∧ (jfr jW_X8_takesWord_r1013 a0 a) ∧ (b0 = b) ∧ ((0 ≤ r ∧ r ≤ 1)) ∧ (((¬ a0 2 3 = 0 ∨ a0 2 1 ≤ a0 2 2) → r = 0)) ∧ ((r = 0 → a 2 2 = a0 2 2)))
theorem cp_X8_takesWord_r1013_56 (E : jxE) (d : Nat) (hd : Nat.ble 5 (d + 1) = true) (a0 b0 : Nat → Nat → Int) (hv0 : iv a0) : ∀ (a : Nat → Nat → Int), iv a → jfr jW_X8_takesWord_r1013 a0 a → 4 ≤ a 2 1 → jt (jxX E d 128 56 [none, none, none, none] [] (jxSH, a, b0)) (jQ_X8_takesWord_r1013 a0 b0) := by
  intro a hv hf hi0
  refine jt_eq (bq_X8_takesWord_r1013_56 E d a b0) ?_
  have h860_ := iv_get hv (k := 2) (j := 1) (l := 0) (u := 200) rfl
  have h861_ : a 2 1 = a0 2 1 := hf 2 1 rfl
  have h862_ := iv_get hv0 (k := 2) (j := 1) (l := 0) (u := 200) rfl
  have h863_ := iv_get hv0 (k := 2) (j := 2) (l := 0) (u := 200) rfl
  have h864_ := iv_get hv (k := 2) (j := 2) (l := 0) (u := 200) rfl
  exact jt_rI ⟨hv, hf, rfl, (show (0 ≤ 0 ∧ 0 ≤ 1) from by omega), (show ((¬ a0 2 3 = 0 ∨ a0 2 1 ≤ a0 2 2) → 0 = 0) from by omega), (show (0 = 0 → a 2 2 = a0 2 2) from by omega)⟩
theorem cp_X8_takesWord_r1013_96 (E : jxE) (d : Nat) (hd : Nat.ble 5 (d + 1) = true) (a0 b0 : Nat → Nat → Int) (hv0 : iv a0) : ∀ (y2 : Int) (a : Nat → Nat → Int), iv a → jfr jW_X8_takesWord_r1013 a0 a → 4 ≤ y2 → y2 ≤ 200 → 4 ≤ a 2 1 → y2 = (a 2 2) + 4 → y2 ≤ a 2 1 → y2 ≤ 200 → jt (jxX E d 128 96 [some (.inr (.inr (.inl 2))), none, some (.inl y2), none] [] (jxSH, a, b0)) (jQ_X8_takesWord_r1013 a0 b0) := by
  intro y2 a hv hf hi0 hi1 hi2 hi3 hi4 hi5
  refine jt_eq (bq_X8_takesWord_r1013_96 E d y2 a b0) ?_
  have h865_ := iv_get hv (k := 2) (j := 1) (l := 0) (u := 200) rfl
  have h866_ : a 2 1 = a0 2 1 := hf 2 1 rfl
  have h867_ := iv_get hv0 (k := 2) (j := 1) (l := 0) (u := 200) rfl
  have h868_ := iv_get hv (k := 2) (j := 2) (l := 0) (u := 200) rfl
  have hv869_ : iv (jxu a 2 2 y2) := iv_put hv (l := 0) (u := 200) rfl (by omega) (by omega)
  refine jt_bV (sp_X8_skipBlanks E d (jd_le hd rfl) (jxu a 2 2 y2) b0 hv869_) (fun a870_ b870_ h870_ => ?_)
  obtain ⟨hv870_, hf870_, rfl, hq870_0⟩ := h870_
  have h871_ := iv_get hv870_ (k := 2) (j := 2) (l := 0) (u := 200) rfl
  have h872_ : (a 2 1 ≤ y2 → a870_ 2 2 = y2) := hq870_0
  have hf873_ : jfr jW_X8_takesWord_r1013 a0 (jxu a 2 2 y2) := jfr_put hf rfl
  have hf874_ : jfr jW_X8_takesWord_r1013 a0 a870_ := jfr_tr hf873_ hf870_ rfl
  have h875_ := iv_get hv0 (k := 2) (j := 2) (l := 0) (u := 200) rfl
  exact jt_rI ⟨hv870_, hf874_, rfl, (show (0 ≤ 1 ∧ 1 ≤ 1) from by omega), (show ((¬ a0 2 3 = 0 ∨ a0 2 1 ≤ a0 2 2) → 1 = 0) from by omega), (show (1 = 0 → a870_ 2 2 = a0 2 2) from by omega)⟩
theorem cp_X8_takesWord_r1013_83 (E : jxE) (d : Nat) (hd : Nat.ble 5 (d + 1) = true) (a0 b0 : Nat → Nat → Int) (hv0 : iv a0) : ∀ (y2 : Int) (a : Nat → Nat → Int), iv a → jfr jW_X8_takesWord_r1013 a0 a → 4 ≤ y2 → y2 ≤ 199 → 5 ≤ a 2 1 → y2 = (a 2 2) + 4 → y2 ≤ a 2 1 → y2 ≤ 200 → jt (jxX E d 128 83 [some (.inr (.inr (.inl 2))), none, some (.inl y2), none] [] (jxSH, a, b0)) (jQ_X8_takesWord_r1013 a0 b0) := by
  intro y2 a hv hf hi0 hi1 hi2 hi3 hi4 hi5
  refine jt_eq (bq_X8_takesWord_r1013_83 E d y2 a b0) ?_
  have h876_ := iv_get hv (k := 2) (j := 1) (l := 0) (u := 200) rfl
  have h877_ : a 2 1 = a0 2 1 := hf 2 1 rfl
  have h878_ := iv_get hv0 (k := 2) (j := 1) (l := 0) (u := 200) rfl
  have h879_ := iv_get hv (k := 2) (j := 2) (l := 0) (u := 200) rfl
  refine jt_grd (by omega) ?_
  have h880_ := iv_get hv (k := 3) (j := y2.toNat) (l := 0) (u := 255) rfl
  have h881_ : a 3 (y2.toNat) = a0 3 (y2.toNat) := hf 3 (y2.toNat) rfl
  have h882_ := iv_get hv0 (k := 3) (j := y2.toNat) (l := 0) (u := 255) rfl
  refine jt_ite (fun c883_ => ?_) (fun c883_ => ?_)
  ·
    exact cp_X8_takesWord_r1013_96 E d hd a0 b0 hv0 y2 a hv hf (show 4 ≤ y2 from by omega) (show y2 ≤ 200 from by omega) (show 4 ≤ a 2 1 from by omega) (show y2 = (a 2 2) + 4 from by omega) (show y2 ≤ a 2 1 from by omega) (show y2 ≤ 200 from by omega)
  ·
    have h884_ := iv_get hv0 (k := 2) (j := 2) (l := 0) (u := 200) rfl
    exact jt_rI ⟨hv, hf, rfl, (show (0 ≤ 0 ∧ 0 ≤ 1) from by omega), (show ((¬ a0 2 3 = 0 ∨ a0 2 1 ≤ a0 2 2) → 0 = 0) from by omega), (show (0 = 0 → a 2 2 = a0 2 2) from by omega)⟩
theorem cp_X8_takesWord_r1013_29 (E : jxE) (d : Nat) (hd : Nat.ble 5 (d + 1) = true) (a0 b0 : Nat → Nat → Int) (hv0 : iv a0) : ∀ n : Nat, (∀ (y2 y3 : Int) (a : Nat → Nat → Int), (((4 - y3) * 1) + 0).toNat ≤ n → iv a → jfr jW_X8_takesWord_r1013 a0 a → 4 ≤ y2 → y2 ≤ 200 → 0 ≤ y3 → y3 ≤ 3 → 4 ≤ a 2 1 → y3 < 4 → 0 ≤ y3 → y2 = (a 2 2) + 4 → y2 ≤ a 2 1 → y2 ≤ 200 → jt (jxX E d 128 58 [some (.inr (.inr (.inl 2))), some (.inr (.inr (.inl 1013))), some (.inl y2), some (.inl y3)] [] (jxSH, a, b0)) (jQ_X8_takesWord_r1013 a0 b0)) ∧ (∀ (y2 y3 : Int) (a : Nat → Nat → Int), (((4 - y3) * 1) + 0).toNat ≤ n → iv a → jfr jW_X8_takesWord_r1013 a0 a → 4 ≤ y2 → y2 ≤ 200 → 0 ≤ y3 → y3 ≤ 4 → 4 ≤ a 2 1 → 0 ≤ y3 → y2 = (a 2 2) + 4 → y2 ≤ a 2 1 → y2 ≤ 200 → jt (jxX E d 128 29 [some (.inr (.inr (.inl 2))), some (.inr (.inr (.inl 1013))), some (.inl y2), some (.inl y3)] [] (jxSH, a, b0)) (jQ_X8_takesWord_r1013 a0 b0)) := by
  refine jx_ind fun n ih => ?_
  have ih58 : ∀ (y2 y3 : Int) (a : Nat → Nat → Int), (((4 - y3) * 1) + 0).toNat < n → iv a → jfr jW_X8_takesWord_r1013 a0 a → 4 ≤ y2 → y2 ≤ 200 → 0 ≤ y3 → y3 ≤ 3 → 4 ≤ a 2 1 → y3 < 4 → 0 ≤ y3 → y2 = (a 2 2) + 4 → y2 ≤ a 2 1 → y2 ≤ 200 → jt (jxX E d 128 58 [some (.inr (.inr (.inl 2))), some (.inr (.inr (.inl 1013))), some (.inl y2), some (.inl y3)] [] (jxSH, a, b0)) (jQ_X8_takesWord_r1013 a0 b0) := fun y2 y3 a hlt i0 i1 i2 i3 i4 i5 i6 i7 i8 i9 i10 i11 => (ih _ hlt).1 y2 y3 a (Nat.le_refl _) i0 i1 i2 i3 i4 i5 i6 i7 i8 i9 i10 i11
  have ih29 : ∀ (y2 y3 : Int) (a : Nat → Nat → Int), (((4 - y3) * 1) + 0).toNat < n → iv a → jfr jW_X8_takesWord_r1013 a0 a → 4 ≤ y2 → y2 ≤ 200 → 0 ≤ y3 → y3 ≤ 4 → 4 ≤ a 2 1 → 0 ≤ y3 → y2 = (a 2 2) + 4 → y2 ≤ a 2 1 → y2 ≤ 200 → jt (jxX E d 128 29 [some (.inr (.inr (.inl 2))), some (.inr (.inr (.inl 1013))), some (.inl y2), some (.inl y3)] [] (jxSH, a, b0)) (jQ_X8_takesWord_r1013 a0 b0) := fun y2 y3 a hlt i0 i1 i2 i3 i4 i5 i6 i7 i8 i9 i10 => (ih _ hlt).2 y2 y3 a (Nat.le_refl _) i0 i1 i2 i3 i4 i5 i6 i7 i8 i9 i10
  have hc58 : ∀ (y2 y3 : Int) (a : Nat → Nat → Int), (((4 - y3) * 1) + 0).toNat ≤ n → iv a → jfr jW_X8_takesWord_r1013 a0 a → 4 ≤ y2 → y2 ≤ 200 → 0 ≤ y3 → y3 ≤ 3 → 4 ≤ a 2 1 → y3 < 4 → 0 ≤ y3 → y2 = (a 2 2) + 4 → y2 ≤ a 2 1 → y2 ≤ 200 → jt (jxX E d 128 58 [some (.inr (.inr (.inl 2))), some (.inr (.inr (.inl 1013))), some (.inl y2), some (.inl y3)] [] (jxSH, a, b0)) (jQ_X8_takesWord_r1013 a0 b0) := by
    intro y2 y3 a hm hv hf hi0 hi1 hi2 hi3 hi4 hi5 hi6 hi7 hi8 hi9
    refine jt_eq (bq_X8_takesWord_r1013_58 E d y2 y3 a b0) ?_
    have h885_ := iv_get hv (k := 2) (j := 1) (l := 0) (u := 200) rfl
    have h886_ : a 2 1 = a0 2 1 := hf 2 1 rfl
    have h887_ := iv_get hv0 (k := 2) (j := 1) (l := 0) (u := 200) rfl
    have h888_ := iv_get hv (k := 2) (j := 2) (l := 0) (u := 200) rfl
    have h889_ : jxw (y3 + 1) = y3 + 1 := jxw_id (by omega) (by omega)
    exact ih29 y2 (jxw (y3 + 1)) a (show (((4 - (jxw (y3 + 1))) * 1) + 0).toNat < n from by omega) hv hf (show 4 ≤ y2 from by omega) (show y2 ≤ 200 from by omega) (show 0 ≤ jxw (y3 + 1) from by omega) (show jxw (y3 + 1) ≤ 4 from by omega) (show 4 ≤ a 2 1 from by omega) (show 0 ≤ jxw (y3 + 1) from by omega) (show y2 = (a 2 2) + 4 from by omega) (show y2 ≤ a 2 1 from by omega) (show y2 ≤ 200 from by omega)
  have hc29 : ∀ (y2 y3 : Int) (a : Nat → Nat → Int), (((4 - y3) * 1) + 0).toNat ≤ n → iv a → jfr jW_X8_takesWord_r1013 a0 a → 4 ≤ y2 → y2 ≤ 200 → 0 ≤ y3 → y3 ≤ 4 → 4 ≤ a 2 1 → 0 ≤ y3 → y2 = (a 2 2) + 4 → y2 ≤ a 2 1 → y2 ≤ 200 → jt (jxX E d 128 29 [some (.inr (.inr (.inl 2))), some (.inr (.inr (.inl 1013))), some (.inl y2), some (.inl y3)] [] (jxSH, a, b0)) (jQ_X8_takesWord_r1013 a0 b0) := by
    intro y2 y3 a hm hv hf hi0 hi1 hi2 hi3 hi4 hi5 hi6 hi7 hi8
    refine jt_eq (bq_X8_takesWord_r1013_29 E d y2 y3 a b0) ?_
    have h890_ := iv_get hv (k := 2) (j := 1) (l := 0) (u := 200) rfl
    have h891_ : a 2 1 = a0 2 1 := hf 2 1 rfl
    have h892_ := iv_get hv0 (k := 2) (j := 1) (l := 0) (u := 200) rfl
    have h893_ := iv_get hv (k := 2) (j := 2) (l := 0) (u := 200) rfl
    refine jt_eI (eq_J0_length_8abf5_r1013 E d (jd_le hd rfl) a b0) ?_
    have h894_ := ff_J0_length_8abf5_r1013 a b0
    refine jt_ite (fun c895_ => ?_) (fun c895_ => ?_)
    ·
      have h896_ : jxw ((a 2 2) + y3) = (a 2 2) + y3 := jxw_id (by omega) (by omega)
      refine jt_grd (by omega) ?_
      refine jt_eI (eq_J0_charAt_5068e_r1013 E d (jd_le hd rfl) y3 a b0 (show (0 ≤ y3 ∧ y3 < 4) from by omega)) ?_
      have h897_ := iv_get hv (k := 3) (j := (jxw ((a 2 2) + y3)).toNat) (l := 0) (u := 255) rfl
      have h898_ : a 3 ((jxw ((a 2 2) + y3)).toNat) = a0 3 ((jxw ((a 2 2) + y3)).toNat) := hf 3 ((jxw ((a 2 2) + y3)).toNat) rfl
      have h899_ := iv_get hv0 (k := 3) (j := (jxw ((a 2 2) + y3)).toNat) (l := 0) (u := 255) rfl
      have h900_ := f_J0_charAt_5068e_r1013_eq a b0 y3
      have h901_ := f_J0_isLatin1_aae02_r1013_eq a b0
      have h902_ := f_J1_charAt_3b067_r2013_eq a b0 y3
      have h903_ := jxand_r (([108, 111, 115, 116] : List Int).getD (y3.toNat) 0) 255 (by decide) (by decide)
      have h904_ := jxi2c_b (jxand (([108, 111, 115, 116] : List Int).getD (y3.toNat) 0) 255)
      refine jt_ite (fun c905_ => ?_) (fun c905_ => ?_)
      ·
        exact hc58 y2 y3 a (show (((4 - y3) * 1) + 0).toNat ≤ n from by omega) hv hf (show 4 ≤ y2 from by omega) (show y2 ≤ 200 from by omega) (show 0 ≤ y3 from by omega) (show y3 ≤ 3 from by omega) (show 4 ≤ a 2 1 from by omega) (show y3 < 4 from by omega) (show 0 ≤ y3 from by omega) (show y2 = (a 2 2) + 4 from by omega) (show y2 ≤ a 2 1 from by omega) (show y2 ≤ 200 from by omega)
      ·
        exact cp_X8_takesWord_r1013_56 E d hd a0 b0 hv0 a hv hf (show 4 ≤ a 2 1 from by omega)
    ·
      refine jt_ite (fun c906_ => ?_) (fun c906_ => ?_)
      ·
        refine jt_grd (by omega) ?_
        have h907_ := iv_get hv (k := 3) (j := y2.toNat) (l := 0) (u := 255) rfl
        have h908_ : a 3 (y2.toNat) = a0 3 (y2.toNat) := hf 3 (y2.toNat) rfl
        have h909_ := iv_get hv0 (k := 3) (j := y2.toNat) (l := 0) (u := 255) rfl
        refine jt_ite (fun c910_ => ?_) (fun c910_ => ?_)
        ·
          exact cp_X8_takesWord_r1013_96 E d hd a0 b0 hv0 y2 a hv hf (show 4 ≤ y2 from by omega) (show y2 ≤ 200 from by omega) (show 4 ≤ a 2 1 from by omega) (show y2 = (a 2 2) + 4 from by omega) (show y2 ≤ a 2 1 from by omega) (show y2 ≤ 200 from by omega)
        ·
          exact cp_X8_takesWord_r1013_83 E d hd a0 b0 hv0 y2 a hv hf (show 4 ≤ y2 from by omega) (show y2 ≤ 199 from by omega) (show 5 ≤ a 2 1 from by omega) (show y2 = (a 2 2) + 4 from by omega) (show y2 ≤ a 2 1 from by omega) (show y2 ≤ 200 from by omega)
      ·
        exact cp_X8_takesWord_r1013_96 E d hd a0 b0 hv0 y2 a hv hf (show 4 ≤ y2 from by omega) (show y2 ≤ 200 from by omega) (show 4 ≤ a 2 1 from by omega) (show y2 = (a 2 2) + 4 from by omega) (show y2 ≤ a 2 1 from by omega) (show y2 ≤ 200 from by omega)
  exact ⟨hc58, hc29⟩
theorem sp_X8_takesWord_r1013 (E : jxE) (d : Nat) (hd : Nat.ble 5 d = true) (a0 b0 : Nat → Nat → Int) (hv0 : iv a0) : jt (jxC E d 128 [.inr (.inr (.inl 2)), .inr (.inr (.inl 1013))] (jxSH, a0, b0)) (jQ_X8_takesWord_r1013 a0 b0) := by
  obtain ⟨d, rfl⟩ := jd_succ hd
  refine jt_eq (bq_X8_takesWord_r1013 E d a0 b0) ?_
  refine jt_eI (eq_J0_length_8abf5_r1013 E d (jd_le hd rfl) a0 b0) ?_
  refine jt_eI (eq_X8_isFaulty E d (jd_le hd rfl) a0 b0) ?_
  have h911_ := f_X8_isFaulty_eq a0 b0
  refine jt_ite (fun c912_ => ?_) (fun c912_ => ?_)
  ·
    have h913_ := iv_get hv0 (k := 2) (j := 1) (l := 0) (u := 200) rfl
    have h914_ := iv_get hv0 (k := 2) (j := 2) (l := 0) (u := 200) rfl
    have h915_ := ff_J0_length_8abf5_r1013 a0 b0
    have h916_ : jxw ((a0 2 2) + (f_J0_length_8abf5_r1013 a0 b0)) = (a0 2 2) + (f_J0_length_8abf5_r1013 a0 b0) := jxw_id (by omega) (by omega)
    refine jt_ite (fun c917_ => ?_) (fun c917_ => ?_)
    ·
      exact jt_rI ⟨hv0, (jfr_rf _ _), rfl, (show (0 ≤ 0 ∧ 0 ≤ 1) from by omega), (show ((¬ a0 2 3 = 0 ∨ a0 2 1 ≤ a0 2 2) → 0 = 0) from by omega), (show (0 = 0 → a0 2 2 = a0 2 2) from by omega)⟩
    ·
      exact (cp_X8_takesWord_r1013_29 E d hd a0 b0 hv0 _).2 (jxw ((a0 2 2) + (f_J0_length_8abf5_r1013 a0 b0))) 0 a0 (Nat.le_refl _) hv0 (jfr_rf _ _) (show 4 ≤ jxw ((a0 2 2) + (f_J0_length_8abf5_r1013 a0 b0)) from by omega) (show jxw ((a0 2 2) + (f_J0_length_8abf5_r1013 a0 b0)) ≤ 200 from by omega) (show 0 ≤ 0 from by omega) (show 0 ≤ 4 from by omega) (show 4 ≤ a0 2 1 from by omega) (show 0 ≤ 0 from by omega) (show jxw ((a0 2 2) + (f_J0_length_8abf5_r1013 a0 b0)) = (a0 2 2) + 4 from by omega) (show jxw ((a0 2 2) + (f_J0_length_8abf5_r1013 a0 b0)) ≤ a0 2 1 from by omega) (show jxw ((a0 2 2) + (f_J0_length_8abf5_r1013 a0 b0)) ≤ 200 from by omega)
  ·
    have h918_ := iv_get hv0 (k := 2) (j := 1) (l := 0) (u := 200) rfl
    have h919_ := iv_get hv0 (k := 2) (j := 2) (l := 0) (u := 200) rfl
    exact jt_rI ⟨hv0, (jfr_rf _ _), rfl, (show (0 ≤ 0 ∧ 0 ≤ 1) from by omega), (show ((¬ a0 2 3 = 0 ∨ a0 2 1 ≤ a0 2 2) → 0 = 0) from by omega), (show (0 = 0 → a0 2 2 = a0 2 2) from by omega)⟩
def jW_X8_takesWord_r1014 : List (Nat × Nat) := [(2, 2)]
abbrev jQ_X8_takesWord_r1014 (a0 b0 : Nat → Nat → Int) : List jxV → (Nat → Nat → Int) → (Nat → Nat → Int) → Prop := rI (fun r a b => (iv a) ∧ (jfr jW_X8_takesWord_r1014 a0 a) ∧ (b0 = b) ∧ ((0 ≤ r ∧ r ≤ 1)) ∧ (((¬ a0 2 3 = 0 ∨ a0 2 1 ≤ a0 2 2) → r = 0)) ∧ ((r = 0 → a 2 2 = a0 2 2)))
theorem cp_X8_takesWord_r1014_56 (E : jxE) (d : Nat) (hd : Nat.ble 5 (d + 1) = true) (a0 b0 : Nat → Nat → Int) (hv0 : iv a0) : ∀ (a : Nat → Nat → Int), iv a → jfr jW_X8_takesWord_r1014 a0 a → 6 ≤ a 2 1 → jt (jxX E d 128 56 [none, none, none, none] [] (jxSH, a, b0)) (jQ_X8_takesWord_r1014 a0 b0) := by
  intro a hv hf hi0
  refine jt_eq (bq_X8_takesWord_r1014_56 E d a b0) ?_
  have h920_ := iv_get hv (k := 2) (j := 1) (l := 0) (u := 200) rfl
  have h921_ : a 2 1 = a0 2 1 := hf 2 1 rfl
  have h922_ := iv_get hv0 (k := 2) (j := 1) (l := 0) (u := 200) rfl
  have h923_ := iv_get hv0 (k := 2) (j := 2) (l := 0) (u := 200) rfl
  have h924_ := iv_get hv (k := 2) (j := 2) (l := 0) (u := 200) rfl
  exact jt_rI ⟨hv, hf, rfl, (show (0 ≤ 0 ∧ 0 ≤ 1) from by omega), (show ((¬ a0 2 3 = 0 ∨ a0 2 1 ≤ a0 2 2) → 0 = 0) from by omega), (show (0 = 0 → a 2 2 = a0 2 2) from by omega)⟩
theorem cp_X8_takesWord_r1014_96 (E : jxE) (d : Nat) (hd : Nat.ble 5 (d + 1) = true) (a0 b0 : Nat → Nat → Int) (hv0 : iv a0) : ∀ (y2 : Int) (a : Nat → Nat → Int), iv a → jfr jW_X8_takesWord_r1014 a0 a → 6 ≤ y2 → y2 ≤ 200 → 6 ≤ a 2 1 → y2 = (a 2 2) + 6 → y2 ≤ a 2 1 → y2 ≤ 200 → jt (jxX E d 128 96 [some (.inr (.inr (.inl 2))), none, some (.inl y2), none] [] (jxSH, a, b0)) (jQ_X8_takesWord_r1014 a0 b0) := by
  intro y2 a hv hf hi0 hi1 hi2 hi3 hi4 hi5
  refine jt_eq (bq_X8_takesWord_r1014_96 E d y2 a b0) ?_
  have h925_ := iv_get hv (k := 2) (j := 1) (l := 0) (u := 200) rfl
  have h926_ : a 2 1 = a0 2 1 := hf 2 1 rfl
  have h927_ := iv_get hv0 (k := 2) (j := 1) (l := 0) (u := 200) rfl
  have h928_ := iv_get hv (k := 2) (j := 2) (l := 0) (u := 200) rfl
  have hv929_ : iv (jxu a 2 2 y2) := iv_put hv (l := 0) (u := 200) rfl (by omega) (by omega)
  refine jt_bV (sp_X8_skipBlanks E d (jd_le hd rfl) (jxu a 2 2 y2) b0 hv929_) (fun a930_ b930_ h930_ => ?_)
  obtain ⟨hv930_, hf930_, rfl, hq930_0⟩ := h930_
  have h931_ := iv_get hv930_ (k := 2) (j := 2) (l := 0) (u := 200) rfl
  have h932_ : (a 2 1 ≤ y2 → a930_ 2 2 = y2) := hq930_0
  have hf933_ : jfr jW_X8_takesWord_r1014 a0 (jxu a 2 2 y2) := jfr_put hf rfl
  have hf934_ : jfr jW_X8_takesWord_r1014 a0 a930_ := jfr_tr hf933_ hf930_ rfl
  have h935_ := iv_get hv0 (k := 2) (j := 2) (l := 0) (u := 200) rfl
  exact jt_rI ⟨hv930_, hf934_, rfl, (show (0 ≤ 1 ∧ 1 ≤ 1) from by omega), (show ((¬ a0 2 3 = 0 ∨ a0 2 1 ≤ a0 2 2) → 1 = 0) from by omega), (show (1 = 0 → a930_ 2 2 = a0 2 2) from by omega)⟩
theorem cp_X8_takesWord_r1014_83 (E : jxE) (d : Nat) (hd : Nat.ble 5 (d + 1) = true) (a0 b0 : Nat → Nat → Int) (hv0 : iv a0) : ∀ (y2 : Int) (a : Nat → Nat → Int), iv a → jfr jW_X8_takesWord_r1014 a0 a → 6 ≤ y2 → y2 ≤ 199 → 7 ≤ a 2 1 → y2 = (a 2 2) + 6 → y2 ≤ a 2 1 → y2 ≤ 200 → jt (jxX E d 128 83 [some (.inr (.inr (.inl 2))), none, some (.inl y2), none] [] (jxSH, a, b0)) (jQ_X8_takesWord_r1014 a0 b0) := by
  intro y2 a hv hf hi0 hi1 hi2 hi3 hi4 hi5
  refine jt_eq (bq_X8_takesWord_r1014_83 E d y2 a b0) ?_
  have h936_ := iv_get hv (k := 2) (j := 1) (l := 0) (u := 200) rfl
  have h937_ : a 2 1 = a0 2 1 := hf 2 1 rfl
  have h938_ := iv_get hv0 (k := 2) (j := 1) (l := 0) (u := 200) rfl
  have h939_ := iv_get hv (k := 2) (j := 2) (l := 0) (u := 200) rfl
  refine jt_grd (by omega) ?_
  have h940_ := iv_get hv (k := 3) (j := y2.toNat) (l := 0) (u := 255) rfl
  have h941_ : a 3 (y2.toNat) = a0 3 (y2.toNat) := hf 3 (y2.toNat) rfl
  have h942_ := iv_get hv0 (k := 3) (j := y2.toNat) (l := 0) (u := 255) rfl
  refine jt_ite (fun c943_ => ?_) (fun c943_ => ?_)
  ·
    exact cp_X8_takesWord_r1014_96 E d hd a0 b0 hv0 y2 a hv hf (show 6 ≤ y2 from by omega) (show y2 ≤ 200 from by omega) (show 6 ≤ a 2 1 from by omega) (show y2 = (a 2 2) + 6 from by omega) (show y2 ≤ a 2 1 from by omega) (show y2 ≤ 200 from by omega)
  ·
    have h944_ := iv_get hv0 (k := 2) (j := 2) (l := 0) (u := 200) rfl
    exact jt_rI ⟨hv, hf, rfl, (show (0 ≤ 0 ∧ 0 ≤ 1) from by omega), (show ((¬ a0 2 3 = 0 ∨ a0 2 1 ≤ a0 2 2) → 0 = 0) from by omega), (show (0 = 0 → a 2 2 = a0 2 2) from by omega)⟩
theorem cp_X8_takesWord_r1014_29 (E : jxE) (d : Nat) (hd : Nat.ble 5 (d + 1) = true) (a0 b0 : Nat → Nat → Int) (hv0 : iv a0) : ∀ n : Nat, (∀ (y2 y3 : Int) (a : Nat → Nat → Int), (((6 - y3) * 1) + 0).toNat ≤ n → iv a → jfr jW_X8_takesWord_r1014 a0 a → 6 ≤ y2 → y2 ≤ 200 → 0 ≤ y3 → y3 ≤ 5 → 6 ≤ a 2 1 → y3 < 6 → 0 ≤ y3 → y2 = (a 2 2) + 6 → y2 ≤ a 2 1 → y2 ≤ 200 → jt (jxX E d 128 58 [some (.inr (.inr (.inl 2))), some (.inr (.inr (.inl 1014))), some (.inl y2), some (.inl y3)] [] (jxSH, a, b0)) (jQ_X8_takesWord_r1014 a0 b0)) ∧ (∀ (y2 y3 : Int) (a : Nat → Nat → Int), (((6 - y3) * 1) + 0).toNat ≤ n → iv a → jfr jW_X8_takesWord_r1014 a0 a → 6 ≤ y2 → y2 ≤ 200 → 0 ≤ y3 → y3 ≤ 6 → 6 ≤ a 2 1 → 0 ≤ y3 → y2 = (a 2 2) + 6 → y2 ≤ a 2 1 → y2 ≤ 200 → jt (jxX E d 128 29 [some (.inr (.inr (.inl 2))), some (.inr (.inr (.inl 1014))), some (.inl y2), some (.inl y3)] [] (jxSH, a, b0)) (jQ_X8_takesWord_r1014 a0 b0)) := by
  refine jx_ind fun n ih => ?_
  have ih58 : ∀ (y2 y3 : Int) (a : Nat → Nat → Int), (((6 - y3) * 1) + 0).toNat < n → iv a → jfr jW_X8_takesWord_r1014 a0 a → 6 ≤ y2 → y2 ≤ 200 → 0 ≤ y3 → y3 ≤ 5 → 6 ≤ a 2 1 → y3 < 6 → 0 ≤ y3 → y2 = (a 2 2) + 6 → y2 ≤ a 2 1 → y2 ≤ 200 → jt (jxX E d 128 58 [some (.inr (.inr (.inl 2))), some (.inr (.inr (.inl 1014))), some (.inl y2), some (.inl y3)] [] (jxSH, a, b0)) (jQ_X8_takesWord_r1014 a0 b0) := fun y2 y3 a hlt i0 i1 i2 i3 i4 i5 i6 i7 i8 i9 i10 i11 => (ih _ hlt).1 y2 y3 a (Nat.le_refl _) i0 i1 i2 i3 i4 i5 i6 i7 i8 i9 i10 i11
  have ih29 : ∀ (y2 y3 : Int) (a : Nat → Nat → Int), (((6 - y3) * 1) + 0).toNat < n → iv a → jfr jW_X8_takesWord_r1014 a0 a → 6 ≤ y2 → y2 ≤ 200 → 0 ≤ y3 → y3 ≤ 6 → 6 ≤ a 2 1 → 0 ≤ y3 → y2 = (a 2 2) + 6 → y2 ≤ a 2 1 → y2 ≤ 200 → jt (jxX E d 128 29 [some (.inr (.inr (.inl 2))), some (.inr (.inr (.inl 1014))), some (.inl y2), some (.inl y3)] [] (jxSH, a, b0)) (jQ_X8_takesWord_r1014 a0 b0) := fun y2 y3 a hlt i0 i1 i2 i3 i4 i5 i6 i7 i8 i9 i10 => (ih _ hlt).2 y2 y3 a (Nat.le_refl _) i0 i1 i2 i3 i4 i5 i6 i7 i8 i9 i10
  have hc58 : ∀ (y2 y3 : Int) (a : Nat → Nat → Int), (((6 - y3) * 1) + 0).toNat ≤ n → iv a → jfr jW_X8_takesWord_r1014 a0 a → 6 ≤ y2 → y2 ≤ 200 → 0 ≤ y3 → y3 ≤ 5 → 6 ≤ a 2 1 → y3 < 6 → 0 ≤ y3 → y2 = (a 2 2) + 6 → y2 ≤ a 2 1 → y2 ≤ 200 → jt (jxX E d 128 58 [some (.inr (.inr (.inl 2))), some (.inr (.inr (.inl 1014))), some (.inl y2), some (.inl y3)] [] (jxSH, a, b0)) (jQ_X8_takesWord_r1014 a0 b0) := by
    intro y2 y3 a hm hv hf hi0 hi1 hi2 hi3 hi4 hi5 hi6 hi7 hi8 hi9
    refine jt_eq (bq_X8_takesWord_r1014_58 E d y2 y3 a b0) ?_
    have h945_ := iv_get hv (k := 2) (j := 1) (l := 0) (u := 200) rfl
    have h946_ : a 2 1 = a0 2 1 := hf 2 1 rfl
    have h947_ := iv_get hv0 (k := 2) (j := 1) (l := 0) (u := 200) rfl
    have h948_ := iv_get hv (k := 2) (j := 2) (l := 0) (u := 200) rfl
    have h949_ : jxw (y3 + 1) = y3 + 1 := jxw_id (by omega) (by omega)
    exact ih29 y2 (jxw (y3 + 1)) a (show (((6 - (jxw (y3 + 1))) * 1) + 0).toNat < n from by omega) hv hf (show 6 ≤ y2 from by omega) (show y2 ≤ 200 from by omega) (show 0 ≤ jxw (y3 + 1) from by omega) (show jxw (y3 + 1) ≤ 6 from by omega) (show 6 ≤ a 2 1 from by omega) (show 0 ≤ jxw (y3 + 1) from by omega) (show y2 = (a 2 2) + 6 from by omega) (show y2 ≤ a 2 1 from by omega) (show y2 ≤ 200 from by omega)
  have hc29 : ∀ (y2 y3 : Int) (a : Nat → Nat → Int), (((6 - y3) * 1) + 0).toNat ≤ n → iv a → jfr jW_X8_takesWord_r1014 a0 a → 6 ≤ y2 → y2 ≤ 200 → 0 ≤ y3 → y3 ≤ 6 → 6 ≤ a 2 1 → 0 ≤ y3 → y2 = (a 2 2) + 6 → y2 ≤ a 2 1 → y2 ≤ 200 → jt (jxX E d 128 29 [some (.inr (.inr (.inl 2))), some (.inr (.inr (.inl 1014))), some (.inl y2), some (.inl y3)] [] (jxSH, a, b0)) (jQ_X8_takesWord_r1014 a0 b0) := by
    intro y2 y3 a hm hv hf hi0 hi1 hi2 hi3 hi4 hi5 hi6 hi7 hi8
    refine jt_eq (bq_X8_takesWord_r1014_29 E d y2 y3 a b0) ?_
    have h950_ := iv_get hv (k := 2) (j := 1) (l := 0) (u := 200) rfl
    have h951_ : a 2 1 = a0 2 1 := hf 2 1 rfl
    have h952_ := iv_get hv0 (k := 2) (j := 1) (l := 0) (u := 200) rfl
    have h953_ := iv_get hv (k := 2) (j := 2) (l := 0) (u := 200) rfl
    refine jt_eI (eq_J0_length_8abf5_r1014 E d (jd_le hd rfl) a b0) ?_
    have h954_ := ff_J0_length_8abf5_r1014 a b0
    refine jt_ite (fun c955_ => ?_) (fun c955_ => ?_)
    ·
      have h956_ : jxw ((a 2 2) + y3) = (a 2 2) + y3 := jxw_id (by omega) (by omega)
      refine jt_grd (by omega) ?_
      refine jt_eI (eq_J0_charAt_5068e_r1014 E d (jd_le hd rfl) y3 a b0 (show (0 ≤ y3 ∧ y3 < 6) from by omega)) ?_
      have h957_ := iv_get hv (k := 3) (j := (jxw ((a 2 2) + y3)).toNat) (l := 0) (u := 255) rfl
      have h958_ : a 3 ((jxw ((a 2 2) + y3)).toNat) = a0 3 ((jxw ((a 2 2) + y3)).toNat) := hf 3 ((jxw ((a 2 2) + y3)).toNat) rfl
      have h959_ := iv_get hv0 (k := 3) (j := (jxw ((a 2 2) + y3)).toNat) (l := 0) (u := 255) rfl
      have h960_ := f_J0_charAt_5068e_r1014_eq a b0 y3
      have h961_ := f_J0_isLatin1_aae02_r1014_eq a b0
      have h962_ := f_J1_charAt_3b067_r2014_eq a b0 y3
      have h963_ := jxand_r (([115, 116, 114, 105, 99, 116] : List Int).getD (y3.toNat) 0) 255 (by decide) (by decide)
      have h964_ := jxi2c_b (jxand (([115, 116, 114, 105, 99, 116] : List Int).getD (y3.toNat) 0) 255)
      refine jt_ite (fun c965_ => ?_) (fun c965_ => ?_)
      ·
        exact hc58 y2 y3 a (show (((6 - y3) * 1) + 0).toNat ≤ n from by omega) hv hf (show 6 ≤ y2 from by omega) (show y2 ≤ 200 from by omega) (show 0 ≤ y3 from by omega) (show y3 ≤ 5 from by omega) (show 6 ≤ a 2 1 from by omega) (show y3 < 6 from by omega) (show 0 ≤ y3 from by omega) (show y2 = (a 2 2) + 6 from by omega) (show y2 ≤ a 2 1 from by omega) (show y2 ≤ 200 from by omega)
      ·
        exact cp_X8_takesWord_r1014_56 E d hd a0 b0 hv0 a hv hf (show 6 ≤ a 2 1 from by omega)
    ·
      refine jt_ite (fun c966_ => ?_) (fun c966_ => ?_)
      ·
        refine jt_grd (by omega) ?_
        have h967_ := iv_get hv (k := 3) (j := y2.toNat) (l := 0) (u := 255) rfl
        have h968_ : a 3 (y2.toNat) = a0 3 (y2.toNat) := hf 3 (y2.toNat) rfl
        have h969_ := iv_get hv0 (k := 3) (j := y2.toNat) (l := 0) (u := 255) rfl
        refine jt_ite (fun c970_ => ?_) (fun c970_ => ?_)
        ·
          exact cp_X8_takesWord_r1014_96 E d hd a0 b0 hv0 y2 a hv hf (show 6 ≤ y2 from by omega) (show y2 ≤ 200 from by omega) (show 6 ≤ a 2 1 from by omega) (show y2 = (a 2 2) + 6 from by omega) (show y2 ≤ a 2 1 from by omega) (show y2 ≤ 200 from by omega)
        ·
          exact cp_X8_takesWord_r1014_83 E d hd a0 b0 hv0 y2 a hv hf (show 6 ≤ y2 from by omega) (show y2 ≤ 199 from by omega) (show 7 ≤ a 2 1 from by omega) (show y2 = (a 2 2) + 6 from by omega) (show y2 ≤ a 2 1 from by omega) (show y2 ≤ 200 from by omega)
      ·
        exact cp_X8_takesWord_r1014_96 E d hd a0 b0 hv0 y2 a hv hf (show 6 ≤ y2 from by omega) (show y2 ≤ 200 from by omega) (show 6 ≤ a 2 1 from by omega) (show y2 = (a 2 2) + 6 from by omega) (show y2 ≤ a 2 1 from by omega) (show y2 ≤ 200 from by omega)
  exact ⟨hc58, hc29⟩
theorem sp_X8_takesWord_r1014 (E : jxE) (d : Nat) (hd : Nat.ble 5 d = true) (a0 b0 : Nat → Nat → Int) (hv0 : iv a0) : jt (jxC E d 128 [.inr (.inr (.inl 2)), .inr (.inr (.inl 1014))] (jxSH, a0, b0)) (jQ_X8_takesWord_r1014 a0 b0) := by
  obtain ⟨d, rfl⟩ := jd_succ hd
  refine jt_eq (bq_X8_takesWord_r1014 E d a0 b0) ?_
  refine jt_eI (eq_J0_length_8abf5_r1014 E d (jd_le hd rfl) a0 b0) ?_
  refine jt_eI (eq_X8_isFaulty E d (jd_le hd rfl) a0 b0) ?_
  have h971_ := f_X8_isFaulty_eq a0 b0
  refine jt_ite (fun c972_ => ?_) (fun c972_ => ?_)
  ·
    have h973_ := iv_get hv0 (k := 2) (j := 1) (l := 0) (u := 200) rfl
    have h974_ := iv_get hv0 (k := 2) (j := 2) (l := 0) (u := 200) rfl
    have h975_ := ff_J0_length_8abf5_r1014 a0 b0
    have h976_ : jxw ((a0 2 2) + (f_J0_length_8abf5_r1014 a0 b0)) = (a0 2 2) + (f_J0_length_8abf5_r1014 a0 b0) := jxw_id (by omega) (by omega)
    refine jt_ite (fun c977_ => ?_) (fun c977_ => ?_)
    ·
      exact jt_rI ⟨hv0, (jfr_rf _ _), rfl, (show (0 ≤ 0 ∧ 0 ≤ 1) from by omega), (show ((¬ a0 2 3 = 0 ∨ a0 2 1 ≤ a0 2 2) → 0 = 0) from by omega), (show (0 = 0 → a0 2 2 = a0 2 2) from by omega)⟩
    ·
      exact (cp_X8_takesWord_r1014_29 E d hd a0 b0 hv0 _).2 (jxw ((a0 2 2) + (f_J0_length_8abf5_r1014 a0 b0))) 0 a0 (Nat.le_refl _) hv0 (jfr_rf _ _) (show 6 ≤ jxw ((a0 2 2) + (f_J0_length_8abf5_r1014 a0 b0)) from by omega) (show jxw ((a0 2 2) + (f_J0_length_8abf5_r1014 a0 b0)) ≤ 200 from by omega) (show 0 ≤ 0 from by omega) (show 0 ≤ 6 from by omega) (show 6 ≤ a0 2 1 from by omega) (show 0 ≤ 0 from by omega) (show jxw ((a0 2 2) + (f_J0_length_8abf5_r1014 a0 b0)) = (a0 2 2) + 6 from by omega) (show jxw ((a0 2 2) + (f_J0_length_8abf5_r1014 a0 b0)) ≤ a0 2 1 from by omega) (show jxw ((a0 2 2) + (f_J0_length_8abf5_r1014 a0 b0)) ≤ 200 from by omega)
  ·
    have h978_ := iv_get hv0 (k := 2) (j := 1) (l := 0) (u := 200) rfl
    have h979_ := iv_get hv0 (k := 2) (j := 2) (l := 0) (u := 200) rfl
    exact jt_rI ⟨hv0, (jfr_rf _ _), rfl, (show (0 ≤ 0 ∧ 0 ≤ 1) from by omega), (show ((¬ a0 2 3 = 0 ∨ a0 2 1 ≤ a0 2 2) → 0 = 0) from by omega), (show (0 = 0 → a0 2 2 = a0 2 2) from by omega)⟩
def jW_X8_takesWord_r1015 : List (Nat × Nat) := [(2, 2)]
abbrev jQ_X8_takesWord_r1015 (a0 b0 : Nat → Nat → Int) : List jxV → (Nat → Nat → Int) → (Nat → Nat → Int) → Prop := rI (fun r a b => (iv a) ∧ (jfr jW_X8_takesWord_r1015 a0 a) ∧ (b0 = b) ∧ ((0 ≤ r ∧ r ≤ 1)) ∧ (((¬ a0 2 3 = 0 ∨ a0 2 1 ≤ a0 2 2) → r = 0)) ∧ ((r = 0 → a 2 2 = a0 2 2)))
theorem cp_X8_takesWord_r1015_56 (E : jxE) (d : Nat) (hd : Nat.ble 5 (d + 1) = true) (a0 b0 : Nat → Nat → Int) (hv0 : iv a0) : ∀ (a : Nat → Nat → Int), iv a → jfr jW_X8_takesWord_r1015 a0 a → 4 ≤ a 2 1 → jt (jxX E d 128 56 [none, none, none, none] [] (jxSH, a, b0)) (jQ_X8_takesWord_r1015 a0 b0) := by
  intro a hv hf hi0
  refine jt_eq (bq_X8_takesWord_r1015_56 E d a b0) ?_
  have h980_ := iv_get hv (k := 2) (j := 1) (l := 0) (u := 200) rfl
  have h981_ : a 2 1 = a0 2 1 := hf 2 1 rfl
  have h982_ := iv_get hv0 (k := 2) (j := 1) (l := 0) (u := 200) rfl
  have h983_ := iv_get hv0 (k := 2) (j := 2) (l := 0) (u := 200) rfl
  have h984_ := iv_get hv (k := 2) (j := 2) (l := 0) (u := 200) rfl
  exact jt_rI ⟨hv, hf, rfl, (show (0 ≤ 0 ∧ 0 ≤ 1) from by omega), (show ((¬ a0 2 3 = 0 ∨ a0 2 1 ≤ a0 2 2) → 0 = 0) from by omega), (show (0 = 0 → a 2 2 = a0 2 2) from by omega)⟩
theorem cp_X8_takesWord_r1015_96 (E : jxE) (d : Nat) (hd : Nat.ble 5 (d + 1) = true) (a0 b0 : Nat → Nat → Int) (hv0 : iv a0) : ∀ (y2 : Int) (a : Nat → Nat → Int), iv a → jfr jW_X8_takesWord_r1015 a0 a → 4 ≤ y2 → y2 ≤ 200 → 4 ≤ a 2 1 → y2 = (a 2 2) + 4 → y2 ≤ a 2 1 → y2 ≤ 200 → jt (jxX E d 128 96 [some (.inr (.inr (.inl 2))), none, some (.inl y2), none] [] (jxSH, a, b0)) (jQ_X8_takesWord_r1015 a0 b0) := by
  intro y2 a hv hf hi0 hi1 hi2 hi3 hi4 hi5
  refine jt_eq (bq_X8_takesWord_r1015_96 E d y2 a b0) ?_
  have h985_ := iv_get hv (k := 2) (j := 1) (l := 0) (u := 200) rfl
  have h986_ : a 2 1 = a0 2 1 := hf 2 1 rfl
  have h987_ := iv_get hv0 (k := 2) (j := 1) (l := 0) (u := 200) rfl
  have h988_ := iv_get hv (k := 2) (j := 2) (l := 0) (u := 200) rfl
  have hv989_ : iv (jxu a 2 2 y2) := iv_put hv (l := 0) (u := 200) rfl (by omega) (by omega)
  refine jt_bV (sp_X8_skipBlanks E d (jd_le hd rfl) (jxu a 2 2 y2) b0 hv989_) (fun a990_ b990_ h990_ => ?_)
  obtain ⟨hv990_, hf990_, rfl, hq990_0⟩ := h990_
  have h991_ := iv_get hv990_ (k := 2) (j := 2) (l := 0) (u := 200) rfl
  have h992_ : (a 2 1 ≤ y2 → a990_ 2 2 = y2) := hq990_0
  have hf993_ : jfr jW_X8_takesWord_r1015 a0 (jxu a 2 2 y2) := jfr_put hf rfl
  have hf994_ : jfr jW_X8_takesWord_r1015 a0 a990_ := jfr_tr hf993_ hf990_ rfl
  have h995_ := iv_get hv0 (k := 2) (j := 2) (l := 0) (u := 200) rfl
  exact jt_rI ⟨hv990_, hf994_, rfl, (show (0 ≤ 1 ∧ 1 ≤ 1) from by omega), (show ((¬ a0 2 3 = 0 ∨ a0 2 1 ≤ a0 2 2) → 1 = 0) from by omega), (show (1 = 0 → a990_ 2 2 = a0 2 2) from by omega)⟩
theorem cp_X8_takesWord_r1015_83 (E : jxE) (d : Nat) (hd : Nat.ble 5 (d + 1) = true) (a0 b0 : Nat → Nat → Int) (hv0 : iv a0) : ∀ (y2 : Int) (a : Nat → Nat → Int), iv a → jfr jW_X8_takesWord_r1015 a0 a → 4 ≤ y2 → y2 ≤ 199 → 5 ≤ a 2 1 → y2 = (a 2 2) + 4 → y2 ≤ a 2 1 → y2 ≤ 200 → jt (jxX E d 128 83 [some (.inr (.inr (.inl 2))), none, some (.inl y2), none] [] (jxSH, a, b0)) (jQ_X8_takesWord_r1015 a0 b0) := by
  intro y2 a hv hf hi0 hi1 hi2 hi3 hi4 hi5
  refine jt_eq (bq_X8_takesWord_r1015_83 E d y2 a b0) ?_
  have h996_ := iv_get hv (k := 2) (j := 1) (l := 0) (u := 200) rfl
  have h997_ : a 2 1 = a0 2 1 := hf 2 1 rfl
  have h998_ := iv_get hv0 (k := 2) (j := 1) (l := 0) (u := 200) rfl
  have h999_ := iv_get hv (k := 2) (j := 2) (l := 0) (u := 200) rfl
  refine jt_grd (by omega) ?_
  have h1000_ := iv_get hv (k := 3) (j := y2.toNat) (l := 0) (u := 255) rfl
  have h1001_ : a 3 (y2.toNat) = a0 3 (y2.toNat) := hf 3 (y2.toNat) rfl
  have h1002_ := iv_get hv0 (k := 3) (j := y2.toNat) (l := 0) (u := 255) rfl
  refine jt_ite (fun c1003_ => ?_) (fun c1003_ => ?_)
  ·
    exact cp_X8_takesWord_r1015_96 E d hd a0 b0 hv0 y2 a hv hf (show 4 ≤ y2 from by omega) (show y2 ≤ 200 from by omega) (show 4 ≤ a 2 1 from by omega) (show y2 = (a 2 2) + 4 from by omega) (show y2 ≤ a 2 1 from by omega) (show y2 ≤ 200 from by omega)
  ·
    have h1004_ := iv_get hv0 (k := 2) (j := 2) (l := 0) (u := 200) rfl
    exact jt_rI ⟨hv, hf, rfl, (show (0 ≤ 0 ∧ 0 ≤ 1) from by omega), (show ((¬ a0 2 3 = 0 ∨ a0 2 1 ≤ a0 2 2) → 0 = 0) from by omega), (show (0 = 0 → a 2 2 = a0 2 2) from by omega)⟩
theorem cp_X8_takesWord_r1015_29 (E : jxE) (d : Nat) (hd : Nat.ble 5 (d + 1) = true) (a0 b0 : Nat → Nat → Int) (hv0 : iv a0) : ∀ n : Nat, (∀ (y2 y3 : Int) (a : Nat → Nat → Int), (((4 - y3) * 1) + 0).toNat ≤ n → iv a → jfr jW_X8_takesWord_r1015 a0 a → 4 ≤ y2 → y2 ≤ 200 → 0 ≤ y3 → y3 ≤ 3 → 4 ≤ a 2 1 → y3 < 4 → 0 ≤ y3 → y2 = (a 2 2) + 4 → y2 ≤ a 2 1 → y2 ≤ 200 → jt (jxX E d 128 58 [some (.inr (.inr (.inl 2))), some (.inr (.inr (.inl 1015))), some (.inl y2), some (.inl y3)] [] (jxSH, a, b0)) (jQ_X8_takesWord_r1015 a0 b0)) ∧ (∀ (y2 y3 : Int) (a : Nat → Nat → Int), (((4 - y3) * 1) + 0).toNat ≤ n → iv a → jfr jW_X8_takesWord_r1015 a0 a → 4 ≤ y2 → y2 ≤ 200 → 0 ≤ y3 → y3 ≤ 4 → 4 ≤ a 2 1 → 0 ≤ y3 → y2 = (a 2 2) + 4 → y2 ≤ a 2 1 → y2 ≤ 200 → jt (jxX E d 128 29 [some (.inr (.inr (.inl 2))), some (.inr (.inr (.inl 1015))), some (.inl y2), some (.inl y3)] [] (jxSH, a, b0)) (jQ_X8_takesWord_r1015 a0 b0)) := by
  refine jx_ind fun n ih => ?_
  have ih58 : ∀ (y2 y3 : Int) (a : Nat → Nat → Int), (((4 - y3) * 1) + 0).toNat < n → iv a → jfr jW_X8_takesWord_r1015 a0 a → 4 ≤ y2 → y2 ≤ 200 → 0 ≤ y3 → y3 ≤ 3 → 4 ≤ a 2 1 → y3 < 4 → 0 ≤ y3 → y2 = (a 2 2) + 4 → y2 ≤ a 2 1 → y2 ≤ 200 → jt (jxX E d 128 58 [some (.inr (.inr (.inl 2))), some (.inr (.inr (.inl 1015))), some (.inl y2), some (.inl y3)] [] (jxSH, a, b0)) (jQ_X8_takesWord_r1015 a0 b0) := fun y2 y3 a hlt i0 i1 i2 i3 i4 i5 i6 i7 i8 i9 i10 i11 => (ih _ hlt).1 y2 y3 a (Nat.le_refl _) i0 i1 i2 i3 i4 i5 i6 i7 i8 i9 i10 i11
  have ih29 : ∀ (y2 y3 : Int) (a : Nat → Nat → Int), (((4 - y3) * 1) + 0).toNat < n → iv a → jfr jW_X8_takesWord_r1015 a0 a → 4 ≤ y2 → y2 ≤ 200 → 0 ≤ y3 → y3 ≤ 4 → 4 ≤ a 2 1 → 0 ≤ y3 → y2 = (a 2 2) + 4 → y2 ≤ a 2 1 → y2 ≤ 200 → jt (jxX E d 128 29 [some (.inr (.inr (.inl 2))), some (.inr (.inr (.inl 1015))), some (.inl y2), some (.inl y3)] [] (jxSH, a, b0)) (jQ_X8_takesWord_r1015 a0 b0) := fun y2 y3 a hlt i0 i1 i2 i3 i4 i5 i6 i7 i8 i9 i10 => (ih _ hlt).2 y2 y3 a (Nat.le_refl _) i0 i1 i2 i3 i4 i5 i6 i7 i8 i9 i10
  have hc58 : ∀ (y2 y3 : Int) (a : Nat → Nat → Int), (((4 - y3) * 1) + 0).toNat ≤ n → iv a → jfr jW_X8_takesWord_r1015 a0 a → 4 ≤ y2 → y2 ≤ 200 → 0 ≤ y3 → y3 ≤ 3 → 4 ≤ a 2 1 → y3 < 4 → 0 ≤ y3 → y2 = (a 2 2) + 4 → y2 ≤ a 2 1 → y2 ≤ 200 → jt (jxX E d 128 58 [some (.inr (.inr (.inl 2))), some (.inr (.inr (.inl 1015))), some (.inl y2), some (.inl y3)] [] (jxSH, a, b0)) (jQ_X8_takesWord_r1015 a0 b0) := by
    intro y2 y3 a hm hv hf hi0 hi1 hi2 hi3 hi4 hi5 hi6 hi7 hi8 hi9
    refine jt_eq (bq_X8_takesWord_r1015_58 E d y2 y3 a b0) ?_
    have h1005_ := iv_get hv (k := 2) (j := 1) (l := 0) (u := 200) rfl
    have h1006_ : a 2 1 = a0 2 1 := hf 2 1 rfl
    have h1007_ := iv_get hv0 (k := 2) (j := 1) (l := 0) (u := 200) rfl
    have h1008_ := iv_get hv (k := 2) (j := 2) (l := 0) (u := 200) rfl
    have h1009_ : jxw (y3 + 1) = y3 + 1 := jxw_id (by omega) (by omega)
    exact ih29 y2 (jxw (y3 + 1)) a (show (((4 - (jxw (y3 + 1))) * 1) + 0).toNat < n from by omega) hv hf (show 4 ≤ y2 from by omega) (show y2 ≤ 200 from by omega) (show 0 ≤ jxw (y3 + 1) from by omega) (show jxw (y3 + 1) ≤ 4 from by omega) (show 4 ≤ a 2 1 from by omega) (show 0 ≤ jxw (y3 + 1) from by omega) (show y2 = (a 2 2) + 4 from by omega) (show y2 ≤ a 2 1 from by omega) (show y2 ≤ 200 from by omega)
  have hc29 : ∀ (y2 y3 : Int) (a : Nat → Nat → Int), (((4 - y3) * 1) + 0).toNat ≤ n → iv a → jfr jW_X8_takesWord_r1015 a0 a → 4 ≤ y2 → y2 ≤ 200 → 0 ≤ y3 → y3 ≤ 4 → 4 ≤ a 2 1 → 0 ≤ y3 → y2 = (a 2 2) + 4 → y2 ≤ a 2 1 → y2 ≤ 200 → jt (jxX E d 128 29 [some (.inr (.inr (.inl 2))), some (.inr (.inr (.inl 1015))), some (.inl y2), some (.inl y3)] [] (jxSH, a, b0)) (jQ_X8_takesWord_r1015 a0 b0) := by
    intro y2 y3 a hm hv hf hi0 hi1 hi2 hi3 hi4 hi5 hi6 hi7 hi8
    refine jt_eq (bq_X8_takesWord_r1015_29 E d y2 y3 a b0) ?_
    have h1010_ := iv_get hv (k := 2) (j := 1) (l := 0) (u := 200) rfl
    have h1011_ : a 2 1 = a0 2 1 := hf 2 1 rfl
    have h1012_ := iv_get hv0 (k := 2) (j := 1) (l := 0) (u := 200) rfl
    have h1013_ := iv_get hv (k := 2) (j := 2) (l := 0) (u := 200) rfl
    refine jt_eI (eq_J0_length_8abf5_r1015 E d (jd_le hd rfl) a b0) ?_
    have h1014_ := ff_J0_length_8abf5_r1015 a b0
    refine jt_ite (fun c1015_ => ?_) (fun c1015_ => ?_)
    ·
      have h1016_ : jxw ((a 2 2) + y3) = (a 2 2) + y3 := jxw_id (by omega) (by omega)
      refine jt_grd (by omega) ?_
      refine jt_eI (eq_J0_charAt_5068e_r1015 E d (jd_le hd rfl) y3 a b0 (show (0 ≤ y3 ∧ y3 < 4) from by omega)) ?_
      have h1017_ := iv_get hv (k := 3) (j := (jxw ((a 2 2) + y3)).toNat) (l := 0) (u := 255) rfl
      have h1018_ : a 3 ((jxw ((a 2 2) + y3)).toNat) = a0 3 ((jxw ((a 2 2) + y3)).toNat) := hf 3 ((jxw ((a 2 2) + y3)).toNat) rfl
      have h1019_ := iv_get hv0 (k := 3) (j := (jxw ((a 2 2) + y3)).toNat) (l := 0) (u := 255) rfl
      have h1020_ := f_J0_charAt_5068e_r1015_eq a b0 y3
      have h1021_ := f_J0_isLatin1_aae02_r1015_eq a b0
      have h1022_ := f_J1_charAt_3b067_r2015_eq a b0 y3
      have h1023_ := jxand_r (([122, 111, 110, 101] : List Int).getD (y3.toNat) 0) 255 (by decide) (by decide)
      have h1024_ := jxi2c_b (jxand (([122, 111, 110, 101] : List Int).getD (y3.toNat) 0) 255)
      refine jt_ite (fun c1025_ => ?_) (fun c1025_ => ?_)
      ·
        exact hc58 y2 y3 a (show (((4 - y3) * 1) + 0).toNat ≤ n from by omega) hv hf (show 4 ≤ y2 from by omega) (show y2 ≤ 200 from by omega) (show 0 ≤ y3 from by omega) (show y3 ≤ 3 from by omega) (show 4 ≤ a 2 1 from by omega) (show y3 < 4 from by omega) (show 0 ≤ y3 from by omega) (show y2 = (a 2 2) + 4 from by omega) (show y2 ≤ a 2 1 from by omega) (show y2 ≤ 200 from by omega)
      ·
        exact cp_X8_takesWord_r1015_56 E d hd a0 b0 hv0 a hv hf (show 4 ≤ a 2 1 from by omega)
    ·
      refine jt_ite (fun c1026_ => ?_) (fun c1026_ => ?_)
      ·
        refine jt_grd (by omega) ?_
        have h1027_ := iv_get hv (k := 3) (j := y2.toNat) (l := 0) (u := 255) rfl
        have h1028_ : a 3 (y2.toNat) = a0 3 (y2.toNat) := hf 3 (y2.toNat) rfl
        have h1029_ := iv_get hv0 (k := 3) (j := y2.toNat) (l := 0) (u := 255) rfl
        refine jt_ite (fun c1030_ => ?_) (fun c1030_ => ?_)
        ·
          exact cp_X8_takesWord_r1015_96 E d hd a0 b0 hv0 y2 a hv hf (show 4 ≤ y2 from by omega) (show y2 ≤ 200 from by omega) (show 4 ≤ a 2 1 from by omega) (show y2 = (a 2 2) + 4 from by omega) (show y2 ≤ a 2 1 from by omega) (show y2 ≤ 200 from by omega)
        ·
          exact cp_X8_takesWord_r1015_83 E d hd a0 b0 hv0 y2 a hv hf (show 4 ≤ y2 from by omega) (show y2 ≤ 199 from by omega) (show 5 ≤ a 2 1 from by omega) (show y2 = (a 2 2) + 4 from by omega) (show y2 ≤ a 2 1 from by omega) (show y2 ≤ 200 from by omega)
      ·
        exact cp_X8_takesWord_r1015_96 E d hd a0 b0 hv0 y2 a hv hf (show 4 ≤ y2 from by omega) (show y2 ≤ 200 from by omega) (show 4 ≤ a 2 1 from by omega) (show y2 = (a 2 2) + 4 from by omega) (show y2 ≤ a 2 1 from by omega) (show y2 ≤ 200 from by omega)
  exact ⟨hc58, hc29⟩
theorem sp_X8_takesWord_r1015 (E : jxE) (d : Nat) (hd : Nat.ble 5 d = true) (a0 b0 : Nat → Nat → Int) (hv0 : iv a0) : jt (jxC E d 128 [.inr (.inr (.inl 2)), .inr (.inr (.inl 1015))] (jxSH, a0, b0)) (jQ_X8_takesWord_r1015 a0 b0) := by
  obtain ⟨d, rfl⟩ := jd_succ hd
  refine jt_eq (bq_X8_takesWord_r1015 E d a0 b0) ?_
  refine jt_eI (eq_J0_length_8abf5_r1015 E d (jd_le hd rfl) a0 b0) ?_
  refine jt_eI (eq_X8_isFaulty E d (jd_le hd rfl) a0 b0) ?_
  have h1031_ := f_X8_isFaulty_eq a0 b0
  refine jt_ite (fun c1032_ => ?_) (fun c1032_ => ?_)
  ·
    have h1033_ := iv_get hv0 (k := 2) (j := 1) (l := 0) (u := 200) rfl
    have h1034_ := iv_get hv0 (k := 2) (j := 2) (l := 0) (u := 200) rfl
    have h1035_ := ff_J0_length_8abf5_r1015 a0 b0
    have h1036_ : jxw ((a0 2 2) + (f_J0_length_8abf5_r1015 a0 b0)) = (a0 2 2) + (f_J0_length_8abf5_r1015 a0 b0) := jxw_id (by omega) (by omega)
    refine jt_ite (fun c1037_ => ?_) (fun c1037_ => ?_)
    ·
      exact jt_rI ⟨hv0, (jfr_rf _ _), rfl, (show (0 ≤ 0 ∧ 0 ≤ 1) from by omega), (show ((¬ a0 2 3 = 0 ∨ a0 2 1 ≤ a0 2 2) → 0 = 0) from by omega), (show (0 = 0 → a0 2 2 = a0 2 2) from by omega)⟩
    ·
      exact (cp_X8_takesWord_r1015_29 E d hd a0 b0 hv0 _).2 (jxw ((a0 2 2) + (f_J0_length_8abf5_r1015 a0 b0))) 0 a0 (Nat.le_refl _) hv0 (jfr_rf _ _) (show 4 ≤ jxw ((a0 2 2) + (f_J0_length_8abf5_r1015 a0 b0)) from by omega) (show jxw ((a0 2 2) + (f_J0_length_8abf5_r1015 a0 b0)) ≤ 200 from by omega) (show 0 ≤ 0 from by omega) (show 0 ≤ 4 from by omega) (show 4 ≤ a0 2 1 from by omega) (show 0 ≤ 0 from by omega) (show jxw ((a0 2 2) + (f_J0_length_8abf5_r1015 a0 b0)) = (a0 2 2) + 4 from by omega) (show jxw ((a0 2 2) + (f_J0_length_8abf5_r1015 a0 b0)) ≤ a0 2 1 from by omega) (show jxw ((a0 2 2) + (f_J0_length_8abf5_r1015 a0 b0)) ≤ 200 from by omega)
  ·
    have h1038_ := iv_get hv0 (k := 2) (j := 1) (l := 0) (u := 200) rfl
    have h1039_ := iv_get hv0 (k := 2) (j := 2) (l := 0) (u := 200) rfl
    exact jt_rI ⟨hv0, (jfr_rf _ _), rfl, (show (0 ≤ 0 ∧ 0 ≤ 1) from by omega), (show ((¬ a0 2 3 = 0 ∨ a0 2 1 ≤ a0 2 2) → 0 = 0) from by omega), (show (0 = 0 → a0 2 2 = a0 2 2) from by omega)⟩
def jW_X12_see : List (Nat × Nat) := [(146, 23)]
abbrev jQ_X12_see (a0 b0 : Nat → Nat → Int) : List jxV → (Nat → Nat → Int) → (Nat → Nat → Int) → Prop := rI (fun r a b => (iv a) ∧ (jfr jW_X12_see a0 a) ∧ (b0 = b) ∧ (a0 146 23 ≤ a 146 23) ∧ (a 146 23 ≤ a0 146 22) ∧ (((r = 0 - 1 ∧ a 146 23 = a0 146 22) ∨ (((0 ≤ r ∧ r ≤ 255) ∧ a 146 23 < a0 146 22) ∧ ¬ a 164 ((a 146 23).toNat) = 32))) ∧ (((a0 146 23 < a0 146 22 ∧ ¬ a0 164 ((a0 146 23).toNat) = 32) → a 146 23 = a0 146 23)))
theorem cp_X12_see_38 (E : jxE) (d : Nat) (hd : Nat.ble 1 (d + 1) = true) (a0 b0 : Nat → Nat → Int) (hv0 : iv a0) (hp0 : a0 146 23 ≤ a0 146 22) : ∀ (a : Nat → Nat → Int), iv a → jfr jW_X12_see a0 a → a 146 23 ≤ a 146 22 → a0 146 23 ≤ a 146 23 → ((a0 146 23 < a0 146 22 ∧ ¬ a0 164 ((a0 146 23).toNat) = 32) → a 146 23 = a0 146 23) → (a 146 23 < a 146 22 → ¬ a 164 ((a 146 23).toNat) = 32) → jt (jxX E d 215 38 [some (.inr (.inr (.inl 146)))] [] (jxSH, a, b0)) (jQ_X12_see a0 b0) := by
  intro a hv hf hi0 hi1 hi2 hi3
  refine jt_eq (bq_X12_see_38 E d a b0) ?_
  have h1040_ := iv_get hv (k := 146) (j := 23) (l := 0) (u := 200) rfl
  have h1041_ := iv_get hv (k := 146) (j := 22) (l := 0) (u := 200) rfl
  have h1042_ : a 146 22 = a0 146 22 := hf 146 22 rfl
  have h1043_ := iv_get hv0 (k := 146) (j := 22) (l := 0) (u := 200) rfl
  have h1044_ := iv_get hv0 (k := 146) (j := 23) (l := 0) (u := 200) rfl
  have h1045_ := iv_get hv0 (k := 164) (j := (a0 146 23).toNat) (l := (-128)) (u := 127) rfl
  have h1046_ := iv_get hv (k := 164) (j := (a 146 23).toNat) (l := (-128)) (u := 127) rfl
  have h1047_ : a 164 ((a 146 23).toNat) = a0 164 ((a 146 23).toNat) := hf 164 ((a 146 23).toNat) rfl
  have h1048_ := iv_get hv0 (k := 164) (j := (a 146 23).toNat) (l := (-128)) (u := 127) rfl
  refine jt_ite (fun c1049_ => ?_) (fun c1049_ => ?_)
  ·
    refine jt_grd (by omega) ?_
    have h1050_ := jxand_r (a 164 ((a 146 23).toNat)) 255 (by decide) (by decide)
    exact jt_rI ⟨hv, hf, rfl, (show a0 146 23 ≤ a 146 23 from by omega), (show a 146 23 ≤ a0 146 22 from by omega), (show ((jxand (a 164 ((a 146 23).toNat)) 255 = 0 - 1 ∧ a 146 23 = a0 146 22) ∨ (((0 ≤ jxand (a 164 ((a 146 23).toNat)) 255 ∧ jxand (a 164 ((a 146 23).toNat)) 255 ≤ 255) ∧ a 146 23 < a0 146 22) ∧ ¬ a 164 ((a 146 23).toNat) = 32)) from by omega), (show ((a0 146 23 < a0 146 22 ∧ ¬ a0 164 ((a0 146 23).toNat) = 32) → a 146 23 = a0 146 23) from by omega)⟩
  ·
    exact jt_rI ⟨hv, hf, rfl, (show a0 146 23 ≤ a 146 23 from by omega), (show a 146 23 ≤ a0 146 22 from by omega), (show (((-1) = 0 - 1 ∧ a 146 23 = a0 146 22) ∨ (((0 ≤ (-1) ∧ (-1) ≤ 255) ∧ a 146 23 < a0 146 22) ∧ ¬ a 164 ((a 146 23).toNat) = 32)) from by omega), (show ((a0 146 23 < a0 146 22 ∧ ¬ a0 164 ((a0 146 23).toNat) = 32) → a 146 23 = a0 146 23) from by omega)⟩
theorem cp_X12_see_0 (E : jxE) (d : Nat) (hd : Nat.ble 1 (d + 1) = true) (a0 b0 : Nat → Nat → Int) (hv0 : iv a0) (hp0 : a0 146 23 ≤ a0 146 22) : ∀ n : Nat, (∀ (a : Nat → Nat → Int), ((((a 146 22) - (a 146 23)) * 2) + 1).toNat ≤ n → iv a → jfr jW_X12_see a0 a → 1 ≤ a 146 22 → 1 ≤ a 146 23 → a 146 23 ≤ a 146 22 → a0 146 23 ≤ a 146 23 → ((a0 146 23 < a0 146 22 ∧ ¬ a0 164 ((a0 146 23).toNat) = 32) → a 146 23 = a0 146 23) → jt (jxX E d 215 35 [some (.inr (.inr (.inl 146)))] [] (jxSH, a, b0)) (jQ_X12_see a0 b0)) ∧ (∀ (a : Nat → Nat → Int), ((((a 146 22) - (a 146 23)) * 2) + 0).toNat ≤ n → iv a → jfr jW_X12_see a0 a → 1 ≤ a 146 22 → 1 ≤ a 146 23 → a 146 23 ≤ a 146 22 → a0 146 23 ≤ a 146 23 → ((a0 146 23 < a0 146 22 ∧ ¬ a0 164 ((a0 146 23).toNat) = 32) → a 146 23 = a0 146 23) → jt (jxX E d 215 0 [some (.inr (.inr (.inl 146)))] [] (jxSH, a, b0)) (jQ_X12_see a0 b0)) := by
  refine jx_ind fun n ih => ?_
  have ih35 : ∀ (a : Nat → Nat → Int), ((((a 146 22) - (a 146 23)) * 2) + 1).toNat < n → iv a → jfr jW_X12_see a0 a → 1 ≤ a 146 22 → 1 ≤ a 146 23 → a 146 23 ≤ a 146 22 → a0 146 23 ≤ a 146 23 → ((a0 146 23 < a0 146 22 ∧ ¬ a0 164 ((a0 146 23).toNat) = 32) → a 146 23 = a0 146 23) → jt (jxX E d 215 35 [some (.inr (.inr (.inl 146)))] [] (jxSH, a, b0)) (jQ_X12_see a0 b0) := fun a hlt i0 i1 i2 i3 i4 i5 i6 => (ih _ hlt).1 a (Nat.le_refl _) i0 i1 i2 i3 i4 i5 i6
  have ih0 : ∀ (a : Nat → Nat → Int), ((((a 146 22) - (a 146 23)) * 2) + 0).toNat < n → iv a → jfr jW_X12_see a0 a → 1 ≤ a 146 22 → 1 ≤ a 146 23 → a 146 23 ≤ a 146 22 → a0 146 23 ≤ a 146 23 → ((a0 146 23 < a0 146 22 ∧ ¬ a0 164 ((a0 146 23).toNat) = 32) → a 146 23 = a0 146 23) → jt (jxX E d 215 0 [some (.inr (.inr (.inl 146)))] [] (jxSH, a, b0)) (jQ_X12_see a0 b0) := fun a hlt i0 i1 i2 i3 i4 i5 i6 => (ih _ hlt).2 a (Nat.le_refl _) i0 i1 i2 i3 i4 i5 i6
  have hc35 : ∀ (a : Nat → Nat → Int), ((((a 146 22) - (a 146 23)) * 2) + 1).toNat ≤ n → iv a → jfr jW_X12_see a0 a → 1 ≤ a 146 22 → 1 ≤ a 146 23 → a 146 23 ≤ a 146 22 → a0 146 23 ≤ a 146 23 → ((a0 146 23 < a0 146 22 ∧ ¬ a0 164 ((a0 146 23).toNat) = 32) → a 146 23 = a0 146 23) → jt (jxX E d 215 35 [some (.inr (.inr (.inl 146)))] [] (jxSH, a, b0)) (jQ_X12_see a0 b0) := by
    intro a hm hv hf hi0 hi1 hi2 hi3 hi4
    refine jt_eq (bq_X12_see_35 E d a b0) ?_
    have h1051_ := iv_get hv (k := 146) (j := 22) (l := 0) (u := 200) rfl
    have h1052_ : a 146 22 = a0 146 22 := hf 146 22 rfl
    have h1053_ := iv_get hv0 (k := 146) (j := 22) (l := 0) (u := 200) rfl
    have h1054_ := iv_get hv (k := 146) (j := 23) (l := 0) (u := 200) rfl
    have h1055_ := iv_get hv0 (k := 146) (j := 23) (l := 0) (u := 200) rfl
    have h1056_ := iv_get hv0 (k := 164) (j := (a0 146 23).toNat) (l := (-128)) (u := 127) rfl
    exact ih0 a (show ((((a 146 22) - (a 146 23)) * 2) + 0).toNat < n from by omega) hv hf (show 1 ≤ a 146 22 from by omega) (show 1 ≤ a 146 23 from by omega) (show a 146 23 ≤ a 146 22 from by omega) (show a0 146 23 ≤ a 146 23 from by omega) (show ((a0 146 23 < a0 146 22 ∧ ¬ a0 164 ((a0 146 23).toNat) = 32) → a 146 23 = a0 146 23) from by omega)
  have hc0 : ∀ (a : Nat → Nat → Int), ((((a 146 22) - (a 146 23)) * 2) + 0).toNat ≤ n → iv a → jfr jW_X12_see a0 a → 1 ≤ a 146 22 → 1 ≤ a 146 23 → a 146 23 ≤ a 146 22 → a0 146 23 ≤ a 146 23 → ((a0 146 23 < a0 146 22 ∧ ¬ a0 164 ((a0 146 23).toNat) = 32) → a 146 23 = a0 146 23) → jt (jxX E d 215 0 [some (.inr (.inr (.inl 146)))] [] (jxSH, a, b0)) (jQ_X12_see a0 b0) := by
    intro a hm hv hf hi0 hi1 hi2 hi3 hi4
    refine jt_eq (bq_X12_see_0 E d a b0) ?_
    have h1057_ := iv_get hv (k := 146) (j := 22) (l := 0) (u := 200) rfl
    have h1058_ : a 146 22 = a0 146 22 := hf 146 22 rfl
    have h1059_ := iv_get hv0 (k := 146) (j := 22) (l := 0) (u := 200) rfl
    have h1060_ := iv_get hv (k := 146) (j := 23) (l := 0) (u := 200) rfl
    have h1061_ := iv_get hv0 (k := 146) (j := 23) (l := 0) (u := 200) rfl
    have h1062_ := iv_get hv0 (k := 164) (j := (a0 146 23).toNat) (l := (-128)) (u := 127) rfl
    have hcg : a 146 23 = a0 146 23 → a 164 ((a 146 23).toNat) = a0 164 ((a0 146 23).toNat) := fun h => by rw [h]; exact hf 164 _ rfl
    refine jt_ite (fun c1063_ => ?_) (fun c1063_ => ?_)
    ·
      refine jt_grd (by omega) ?_
      have h1064_ := iv_get hv (k := 164) (j := (a 146 23).toNat) (l := (-128)) (u := 127) rfl
      have h1065_ : a 164 ((a 146 23).toNat) = a0 164 ((a 146 23).toNat) := hf 164 ((a 146 23).toNat) rfl
      have h1066_ := iv_get hv0 (k := 164) (j := (a 146 23).toNat) (l := (-128)) (u := 127) rfl
      refine jt_ite (fun c1067_ => ?_) (fun c1067_ => ?_)
      ·
        have h1069_ : jxw ((a 146 23) + 1) = (a 146 23) + 1 := jxw_id (by omega) (by omega)
        have hv1068_ : iv (jxu a 146 23 (jxw ((a 146 23) + 1))) := iv_put hv (l := 0) (u := 200) rfl (by omega) (by omega)
        have hf1070_ : jfr jW_X12_see a0 (jxu a 146 23 (jxw ((a 146 23) + 1))) := jfr_put hf rfl
        exact hc35 (jxu a 146 23 (jxw ((a 146 23) + 1))) (show ((((a 146 22) - (jxw ((a 146 23) + 1))) * 2) + 1).toNat ≤ n from by omega) hv1068_ hf1070_ (show 1 ≤ a 146 22 from by omega) (show 1 ≤ jxw ((a 146 23) + 1) from by omega) (show jxw ((a 146 23) + 1) ≤ a 146 22 from by omega) (show a0 146 23 ≤ jxw ((a 146 23) + 1) from by omega) (show ((a0 146 23 < a0 146 22 ∧ ¬ a0 164 ((a0 146 23).toNat) = 32) → jxw ((a 146 23) + 1) = a0 146 23) from by omega)
      ·
        exact cp_X12_see_38 E d hd a0 b0 hv0 hp0 a hv hf (show a 146 23 ≤ a 146 22 from by omega) (show a0 146 23 ≤ a 146 23 from by omega) (show ((a0 146 23 < a0 146 22 ∧ ¬ a0 164 ((a0 146 23).toNat) = 32) → a 146 23 = a0 146 23) from by omega) (show (a 146 23 < a 146 22 → ¬ a 164 ((a 146 23).toNat) = 32) from by omega)
    ·
      have h1071_ := iv_get hv (k := 164) (j := (a 146 23).toNat) (l := (-128)) (u := 127) rfl
      have h1072_ : a 164 ((a 146 23).toNat) = a0 164 ((a 146 23).toNat) := hf 164 ((a 146 23).toNat) rfl
      have h1073_ := iv_get hv0 (k := 164) (j := (a 146 23).toNat) (l := (-128)) (u := 127) rfl
      exact cp_X12_see_38 E d hd a0 b0 hv0 hp0 a hv hf (show a 146 23 ≤ a 146 22 from by omega) (show a0 146 23 ≤ a 146 23 from by omega) (show ((a0 146 23 < a0 146 22 ∧ ¬ a0 164 ((a0 146 23).toNat) = 32) → a 146 23 = a0 146 23) from by omega) (show (a 146 23 < a 146 22 → ¬ a 164 ((a 146 23).toNat) = 32) from by omega)
  exact ⟨hc35, hc0⟩
theorem sp_X12_see (E : jxE) (d : Nat) (hd : Nat.ble 1 d = true) (a0 b0 : Nat → Nat → Int) (hv0 : iv a0) (hp0 : a0 146 23 ≤ a0 146 22) : jt (jxC E d 215 [.inr (.inr (.inl 146))] (jxSH, a0, b0)) (jQ_X12_see a0 b0) := by
  obtain ⟨d, rfl⟩ := jd_succ hd
  refine jt_eq (bq_X12_see E d a0 b0) ?_
  have h1074_ := iv_get hv0 (k := 146) (j := 23) (l := 0) (u := 200) rfl
  have h1075_ := iv_get hv0 (k := 146) (j := 22) (l := 0) (u := 200) rfl
  refine jt_ite (fun c1076_ => ?_) (fun c1076_ => ?_)
  ·
    refine jt_grd (by omega) ?_
    have h1077_ := iv_get hv0 (k := 164) (j := (a0 146 23).toNat) (l := (-128)) (u := 127) rfl
    refine jt_ite (fun c1078_ => ?_) (fun c1078_ => ?_)
    ·
      have h1080_ : jxw ((a0 146 23) + 1) = (a0 146 23) + 1 := jxw_id (by omega) (by omega)
      have hv1079_ : iv (jxu a0 146 23 (jxw ((a0 146 23) + 1))) := iv_put hv0 (l := 0) (u := 200) rfl (by omega) (by omega)
      have hf1081_ : jfr jW_X12_see a0 (jxu a0 146 23 (jxw ((a0 146 23) + 1))) := jfr_put (jfr_rf _ _) rfl
      exact (cp_X12_see_0 E d hd a0 b0 hv0 hp0 _).1 (jxu a0 146 23 (jxw ((a0 146 23) + 1))) (Nat.le_refl _) hv1079_ hf1081_ (show 1 ≤ a0 146 22 from by omega) (show 1 ≤ jxw ((a0 146 23) + 1) from by omega) (show jxw ((a0 146 23) + 1) ≤ a0 146 22 from by omega) (show a0 146 23 ≤ jxw ((a0 146 23) + 1) from by omega) (show ((a0 146 23 < a0 146 22 ∧ ¬ a0 164 ((a0 146 23).toNat) = 32) → jxw ((a0 146 23) + 1) = a0 146 23) from by omega)
    ·
      exact cp_X12_see_38 E d hd a0 b0 hv0 hp0 a0 hv0 (jfr_rf _ _) (show a0 146 23 ≤ a0 146 22 from by omega) (show a0 146 23 ≤ a0 146 23 from by omega) (show ((a0 146 23 < a0 146 22 ∧ ¬ a0 164 ((a0 146 23).toNat) = 32) → a0 146 23 = a0 146 23) from by omega) (show (a0 146 23 < a0 146 22 → ¬ a0 164 ((a0 146 23).toNat) = 32) from by omega)
  ·
    have h1082_ := iv_get hv0 (k := 164) (j := (a0 146 23).toNat) (l := (-128)) (u := 127) rfl
    exact cp_X12_see_38 E d hd a0 b0 hv0 hp0 a0 hv0 (jfr_rf _ _) (show a0 146 23 ≤ a0 146 22 from by omega) (show a0 146 23 ≤ a0 146 23 from by omega) (show ((a0 146 23 < a0 146 22 ∧ ¬ a0 164 ((a0 146 23).toNat) = 32) → a0 146 23 = a0 146 23) from by omega) (show (a0 146 23 < a0 146 22 → ¬ a0 164 ((a0 146 23).toNat) = 32) from by omega)
def jW_X12_fails : List (Nat × Nat) := [(146, 24)]
abbrev jQ_X12_fails (x1 x2 : Int) (a0 b0 : Nat → Nat → Int) : List jxV → (Nat → Nat → Int) → (Nat → Nat → Int) → Prop := rI (fun r a b => (iv a) ∧ (jfr jW_X12_fails a0 a) ∧ (b0 = b) ∧ ((0 ≤ r ∧ r ≤ 1)) ∧ (r = 0) ∧ ((((((a0 146 24 = 0 ∧ 0 ≤ x2) ∧ x2 ≤ 200) ∧ 0 ≤ x1) ∧ x1 ≤ 7) → a 146 24 = (1 + (8 * x2)) + x1)) ∧ ((¬ a0 146 24 = 0 → a 146 24 = a0 146 24)))
theorem sp_X12_fails (E : jxE) (d : Nat) (hd : Nat.ble 1 d = true) (x1 x2 : Int) (a0 b0 : Nat → Nat → Int) (hv0 : iv a0) : jt (jxC E d 214 [.inr (.inr (.inl 146)), .inl x1, .inl x2] (jxSH, a0, b0)) (jQ_X12_fails x1 x2 a0 b0) := by
  obtain ⟨d, rfl⟩ := jd_succ hd
  refine jt_eq (bq_X12_fails E d x1 x2 a0 b0) ?_
  refine jt_ite (fun c1083_ => ?_) (fun c1083_ => ?_)
  ·
    have hv1084_ : iv (jxu a0 146 24 (jxw ((jxw (1 + (jxw (8 * x2)))) + x1))) := iv_putf hv0 rfl
    have hf1085_ : jfr jW_X12_fails a0 (jxu a0 146 24 (jxw ((jxw (1 + (jxw (8 * x2)))) + x1))) := jfr_put (jfr_rf _ _) rfl
    have h1086_ := jxw_im (8 * x2)
    have h1087_ := jxw_rg (8 * x2)
    have h1088_ := jxw_im (1 + (jxw (8 * x2)))
    have h1089_ := jxw_rg (1 + (jxw (8 * x2)))
    have h1090_ := jxw_im ((jxw (1 + (jxw (8 * x2)))) + x1)
    have h1091_ := jxw_rg ((jxw (1 + (jxw (8 * x2)))) + x1)
    exact jt_rI ⟨hv1084_, hf1085_, rfl, (show (0 ≤ 0 ∧ 0 ≤ 1) from by omega), (show 0 = 0 from by omega), (show (((((a0 146 24 = 0 ∧ 0 ≤ x2) ∧ x2 ≤ 200) ∧ 0 ≤ x1) ∧ x1 ≤ 7) → jxw ((jxw (1 + (jxw (8 * x2)))) + x1) = (1 + (8 * x2)) + x1) from by omega), (show (¬ a0 146 24 = 0 → jxw ((jxw (1 + (jxw (8 * x2)))) + x1) = a0 146 24) from by omega)⟩
  ·
    exact jt_rI ⟨hv0, (jfr_rf _ _), rfl, (show (0 ≤ 0 ∧ 0 ≤ 1) from by omega), (show 0 = 0 from by omega), (show (((((a0 146 24 = 0 ∧ 0 ≤ x2) ∧ x2 ≤ 200) ∧ 0 ≤ x1) ∧ x1 ≤ 7) → a0 146 24 = (1 + (8 * x2)) + x1) from by omega), (show (¬ a0 146 24 = 0 → a0 146 24 = a0 146 24) from by omega)⟩
def jW_X12_number : List (Nat × Nat) := [(146, 23), (146, 24), (146, 26), (146, 27)]
abbrev jQ_X12_number (x1 x2 : Int) (a0 b0 : Nat → Nat → Int) : List jxV → (Nat → Nat → Int) → (Nat → Nat → Int) → Prop := rI (fun r a b => (iv a) ∧ (jfr jW_X12_number a0 a) ∧ (b0 = b) ∧ ((0 ≤ r ∧ r ≤ 1)) ∧ (a0 146 23 ≤ a 146 23) ∧ (a 146 23 ≤ a0 146 22) ∧ ((r = 1 → (x1 ≤ a 146 26 ∧ a 146 26 ≤ x2))))
theorem cp_X12_number_144 (E : jxE) (d : Nat) (hd : Nat.ble 2 (d + 1) = true) (x1 x2 : Int) (a0 b0 : Nat → Nat → Int) (hv0 : iv a0) (hp0 : a0 146 23 ≤ a0 146 22) : ∀ (a : Nat → Nat → Int), iv a → jfr jW_X12_number a0 a → a 146 23 ≤ a 146 22 → a0 146 23 ≤ a 146 23 → jt (jxX E d 217 144 [some (.inr (.inr (.inl 146))), none, none, none, none, none] [] (jxSH, a, b0)) (jQ_X12_number x1 x2 a0 b0) := by
  intro a hv hf hi0 hi1
  refine jt_eq (bq_X12_number_144 E d a b0) ?_
  have h1092_ := iv_get hv (k := 146) (j := 23) (l := 0) (u := 200) rfl
  have h1093_ := iv_get hv (k := 146) (j := 22) (l := 0) (u := 200) rfl
  have h1094_ : a 146 22 = a0 146 22 := hf 146 22 rfl
  have h1095_ := iv_get hv0 (k := 146) (j := 22) (l := 0) (u := 200) rfl
  have h1096_ := iv_get hv0 (k := 146) (j := 23) (l := 0) (u := 200) rfl
  refine jt_bI (sp_X12_fails E d (jd_le hd rfl) 1 (a 146 27) a b0 hv) (fun r1097_ a1097_ b1097_ h1097_ => ?_)
  obtain ⟨hv1097_, hf1097_, rfl, hq1097_0, hq1097_1, hq1097_2, hq1097_3⟩ := h1097_
  refine jt_ite (fun c1098_ => ?_) (fun c1098_ => ?_)
  ·
    have hf1099_ : jfr jW_X12_number a0 a1097_ := jfr_tr hf hf1097_ rfl
    have h1100_ := iv_get hv1097_ (k := 146) (j := 23) (l := 0) (u := 200) rfl
    have h1101_ : a1097_ 146 23 = a 146 23 := hf1097_ 146 23 rfl
    have h1102_ := iv_get hv1097_ (k := 146) (j := 26) (l := 0) (u := 999) rfl
    have h1103_ : a1097_ 146 26 = a 146 26 := hf1097_ 146 26 rfl
    have h1104_ := iv_get hv (k := 146) (j := 26) (l := 0) (u := 999) rfl
    exact jt_rI ⟨hv1097_, hf1099_, rfl, (show (0 ≤ 0 ∧ 0 ≤ 1) from by omega), (show a0 146 23 ≤ a1097_ 146 23 from by omega), (show a1097_ 146 23 ≤ a0 146 22 from by omega), (show (0 = 1 → (x1 ≤ a1097_ 146 26 ∧ a1097_ 146 26 ≤ x2)) from by omega)⟩
  ·
    have hf1105_ : jfr jW_X12_number a0 a1097_ := jfr_tr hf hf1097_ rfl
    have h1106_ := iv_get hv1097_ (k := 146) (j := 23) (l := 0) (u := 200) rfl
    have h1107_ : a1097_ 146 23 = a 146 23 := hf1097_ 146 23 rfl
    have h1108_ := iv_get hv1097_ (k := 146) (j := 26) (l := 0) (u := 999) rfl
    have h1109_ : a1097_ 146 26 = a 146 26 := hf1097_ 146 26 rfl
    have h1110_ := iv_get hv (k := 146) (j := 26) (l := 0) (u := 999) rfl
    exact jt_rI ⟨hv1097_, hf1105_, rfl, (show (0 ≤ 1 ∧ 1 ≤ 1) from by omega), (show a0 146 23 ≤ a1097_ 146 23 from by omega), (show a1097_ 146 23 ≤ a0 146 22 from by omega), (show (1 = 1 → (x1 ≤ a1097_ 146 26 ∧ a1097_ 146 26 ≤ x2)) from by omega)⟩
theorem cp_X12_number_122 (E : jxE) (d : Nat) (hd : Nat.ble 2 (d + 1) = true) (x1 x2 : Int) (a0 b0 : Nat → Nat → Int) (hv0 : iv a0) (hp0 : a0 146 23 ≤ a0 146 22) : ∀ (y1 y2 y4 y5 : Int) (a : Nat → Nat → Int), iv a → jfr jW_X12_number a0 a → a 146 23 ≤ a 146 22 → a0 146 23 ≤ a 146 23 → y1 = x1 → y2 = x2 → 0 ≤ y5 → y5 ≤ 999 → jt (jxX E d 217 122 [some (.inr (.inr (.inl 146))), some (.inl y1), some (.inl y2), none, some (.inl y4), some (.inl y5)] [] (jxSH, a, b0)) (jQ_X12_number x1 x2 a0 b0) := by
  intro y1 y2 y4 y5 a hv hf hi0 hi1 hi2 hi3 hi4 hi5
  refine jt_eq (bq_X12_number_122 E d y1 y2 y4 y5 a b0) ?_
  have h1111_ := iv_get hv (k := 146) (j := 23) (l := 0) (u := 200) rfl
  have h1112_ := iv_get hv (k := 146) (j := 22) (l := 0) (u := 200) rfl
  have h1113_ : a 146 22 = a0 146 22 := hf 146 22 rfl
  have h1114_ := iv_get hv0 (k := 146) (j := 22) (l := 0) (u := 200) rfl
  have h1115_ := iv_get hv0 (k := 146) (j := 23) (l := 0) (u := 200) rfl
  refine jt_ite (fun c1116_ => ?_) (fun c1116_ => ?_)
  ·
    have hv1117_ : iv (jxu a 146 26 y5) := iv_put hv (l := 0) (u := 999) rfl (by omega) (by omega)
    have hf1118_ : jfr jW_X12_number a0 (jxu a 146 26 y5) := jfr_put hf rfl
    exact cp_X12_number_144 E d hd x1 x2 a0 b0 hv0 hp0 (jxu a 146 26 y5) hv1117_ hf1118_ (show a 146 23 ≤ a 146 22 from by omega) (show a0 146 23 ≤ a 146 23 from by omega)
  ·
    refine jt_eI (eq_X12_in E d (jd_le hd rfl) y5 y1 y2 (jxu a 146 26 y5) b0) ?_
    have h1119_ : f_X12_in (jxu a 146 26 y5) b0 y5 y1 y2 = (if y5 < y1 then 0 else (if y2 < y5 then 0 else 1)) := f_X12_in_eq (jxu a 146 26 y5) b0 y5 y1 y2
    refine jt_ite (fun c1120_ => ?_) (fun c1120_ => ?_)
    ·
      have hv1121_ : iv (jxu a 146 26 y5) := iv_put hv (l := 0) (u := 999) rfl (by omega) (by omega)
      have hf1122_ : jfr jW_X12_number a0 (jxu a 146 26 y5) := jfr_put hf rfl
      exact cp_X12_number_144 E d hd x1 x2 a0 b0 hv0 hp0 (jxu a 146 26 y5) hv1121_ hf1122_ (show a 146 23 ≤ a 146 22 from by omega) (show a0 146 23 ≤ a 146 23 from by omega)
    ·
      have hv1123_ : iv (jxu a 146 26 y5) := iv_put hv (l := 0) (u := 999) rfl (by omega) (by omega)
      have hf1124_ : jfr jW_X12_number a0 (jxu a 146 26 y5) := jfr_put hf rfl
      exact jt_rI ⟨hv1123_, hf1124_, rfl, (show (0 ≤ 1 ∧ 1 ≤ 1) from by omega), (show a0 146 23 ≤ a 146 23 from by omega), (show a 146 23 ≤ a0 146 22 from by omega), (show (1 = 1 → (x1 ≤ y5 ∧ y5 ≤ x2)) from by omega)⟩
theorem cp_X12_number_41 (E : jxE) (d : Nat) (hd : Nat.ble 2 (d + 1) = true) (x1 x2 : Int) (a0 b0 : Nat → Nat → Int) (hv0 : iv a0) (hp0 : a0 146 23 ≤ a0 146 22) : ∀ n : Nat, (∀ (y1 y2 y4 y5 : Int) (a : Nat → Nat → Int), ((((a 146 22) - (a 146 23)) * 1) + 0).toNat ≤ n → iv a → jfr jW_X12_number a0 a → 1 ≤ a 146 22 → a 146 23 ≤ 199 → a 146 23 ≤ a 146 22 → a0 146 23 ≤ a 146 23 → y1 = x1 → y2 = x2 → 0 ≤ y4 → y4 ≤ a 146 23 → 0 ≤ y5 → y5 ≤ 999 → (y4 ≤ 1 → y5 ≤ 99) → (y4 ≤ 0 → y5 ≤ 9) → a 146 23 < a 146 22 → jt (jxX E d 217 106 [some (.inr (.inr (.inl 146))), some (.inl y1), some (.inl y2), none, some (.inl y4), some (.inl y5)] [] (jxSH, a, b0)) (jQ_X12_number x1 x2 a0 b0)) ∧ (∀ (y1 y2 y4 y5 : Int) (a : Nat → Nat → Int), ((((a 146 22) - (a 146 23)) * 1) + 0).toNat ≤ n → iv a → jfr jW_X12_number a0 a → 1 ≤ a 146 22 → a 146 23 ≤ 199 → a 146 23 ≤ a 146 22 → a0 146 23 ≤ a 146 23 → y1 = x1 → y2 = x2 → 0 ≤ y4 → y4 ≤ a 146 23 → 0 ≤ y5 → y5 ≤ 999 → (y4 ≤ 2 → y5 ≤ 99) → (y4 ≤ 1 → y5 ≤ 9) → (y4 ≤ 0 → y5 ≤ 0) → a 146 23 < a 146 22 → 48 ≤ a 164 ((a 146 23).toNat) → a 164 ((a 146 23).toNat) ≤ 57 → jt (jxX E d 217 80 [some (.inr (.inr (.inl 146))), some (.inl y1), some (.inl y2), none, some (.inl y4), some (.inl y5)] [] (jxSH, a, b0)) (jQ_X12_number x1 x2 a0 b0)) ∧ (∀ (y1 y2 y4 y5 : Int) (a : Nat → Nat → Int), ((((a 146 22) - (a 146 23)) * 1) + 0).toNat ≤ n → iv a → jfr jW_X12_number a0 a → a 146 23 ≤ a 146 22 → a0 146 23 ≤ a 146 23 → y1 = x1 → y2 = x2 → 0 ≤ y4 → y4 ≤ a 146 23 → 0 ≤ y5 → y5 ≤ 999 → (y4 ≤ 2 → y5 ≤ 99) → (y4 ≤ 1 → y5 ≤ 9) → (y4 ≤ 0 → y5 ≤ 0) → jt (jxX E d 217 41 [some (.inr (.inr (.inl 146))), some (.inl y1), some (.inl y2), none, some (.inl y4), some (.inl y5)] [] (jxSH, a, b0)) (jQ_X12_number x1 x2 a0 b0)) := by
  refine jx_ind fun n ih => ?_
  have ih106 : ∀ (y1 y2 y4 y5 : Int) (a : Nat → Nat → Int), ((((a 146 22) - (a 146 23)) * 1) + 0).toNat < n → iv a → jfr jW_X12_number a0 a → 1 ≤ a 146 22 → a 146 23 ≤ 199 → a 146 23 ≤ a 146 22 → a0 146 23 ≤ a 146 23 → y1 = x1 → y2 = x2 → 0 ≤ y4 → y4 ≤ a 146 23 → 0 ≤ y5 → y5 ≤ 999 → (y4 ≤ 1 → y5 ≤ 99) → (y4 ≤ 0 → y5 ≤ 9) → a 146 23 < a 146 22 → jt (jxX E d 217 106 [some (.inr (.inr (.inl 146))), some (.inl y1), some (.inl y2), none, some (.inl y4), some (.inl y5)] [] (jxSH, a, b0)) (jQ_X12_number x1 x2 a0 b0) := fun y1 y2 y4 y5 a hlt i0 i1 i2 i3 i4 i5 i6 i7 i8 i9 i10 i11 i12 i13 i14 => (ih _ hlt).1 y1 y2 y4 y5 a (Nat.le_refl _) i0 i1 i2 i3 i4 i5 i6 i7 i8 i9 i10 i11 i12 i13 i14
  have ih80 : ∀ (y1 y2 y4 y5 : Int) (a : Nat → Nat → Int), ((((a 146 22) - (a 146 23)) * 1) + 0).toNat < n → iv a → jfr jW_X12_number a0 a → 1 ≤ a 146 22 → a 146 23 ≤ 199 → a 146 23 ≤ a 146 22 → a0 146 23 ≤ a 146 23 → y1 = x1 → y2 = x2 → 0 ≤ y4 → y4 ≤ a 146 23 → 0 ≤ y5 → y5 ≤ 999 → (y4 ≤ 2 → y5 ≤ 99) → (y4 ≤ 1 → y5 ≤ 9) → (y4 ≤ 0 → y5 ≤ 0) → a 146 23 < a 146 22 → 48 ≤ a 164 ((a 146 23).toNat) → a 164 ((a 146 23).toNat) ≤ 57 → jt (jxX E d 217 80 [some (.inr (.inr (.inl 146))), some (.inl y1), some (.inl y2), none, some (.inl y4), some (.inl y5)] [] (jxSH, a, b0)) (jQ_X12_number x1 x2 a0 b0) := fun y1 y2 y4 y5 a hlt i0 i1 i2 i3 i4 i5 i6 i7 i8 i9 i10 i11 i12 i13 i14 i15 i16 i17 => (ih _ hlt).2.1 y1 y2 y4 y5 a (Nat.le_refl _) i0 i1 i2 i3 i4 i5 i6 i7 i8 i9 i10 i11 i12 i13 i14 i15 i16 i17
  have ih41 : ∀ (y1 y2 y4 y5 : Int) (a : Nat → Nat → Int), ((((a 146 22) - (a 146 23)) * 1) + 0).toNat < n → iv a → jfr jW_X12_number a0 a → a 146 23 ≤ a 146 22 → a0 146 23 ≤ a 146 23 → y1 = x1 → y2 = x2 → 0 ≤ y4 → y4 ≤ a 146 23 → 0 ≤ y5 → y5 ≤ 999 → (y4 ≤ 2 → y5 ≤ 99) → (y4 ≤ 1 → y5 ≤ 9) → (y4 ≤ 0 → y5 ≤ 0) → jt (jxX E d 217 41 [some (.inr (.inr (.inl 146))), some (.inl y1), some (.inl y2), none, some (.inl y4), some (.inl y5)] [] (jxSH, a, b0)) (jQ_X12_number x1 x2 a0 b0) := fun y1 y2 y4 y5 a hlt i0 i1 i2 i3 i4 i5 i6 i7 i8 i9 i10 i11 i12 => (ih _ hlt).2.2 y1 y2 y4 y5 a (Nat.le_refl _) i0 i1 i2 i3 i4 i5 i6 i7 i8 i9 i10 i11 i12
  have hc106 : ∀ (y1 y2 y4 y5 : Int) (a : Nat → Nat → Int), ((((a 146 22) - (a 146 23)) * 1) + 0).toNat ≤ n → iv a → jfr jW_X12_number a0 a → 1 ≤ a 146 22 → a 146 23 ≤ 199 → a 146 23 ≤ a 146 22 → a0 146 23 ≤ a 146 23 → y1 = x1 → y2 = x2 → 0 ≤ y4 → y4 ≤ a 146 23 → 0 ≤ y5 → y5 ≤ 999 → (y4 ≤ 1 → y5 ≤ 99) → (y4 ≤ 0 → y5 ≤ 9) → a 146 23 < a 146 22 → jt (jxX E d 217 106 [some (.inr (.inr (.inl 146))), some (.inl y1), some (.inl y2), none, some (.inl y4), some (.inl y5)] [] (jxSH, a, b0)) (jQ_X12_number x1 x2 a0 b0) := by
    intro y1 y2 y4 y5 a hm hv hf hi0 hi1 hi2 hi3 hi4 hi5 hi6 hi7 hi8 hi9 hi10 hi11 hi12
    refine jt_eq (bq_X12_number_106 E d y1 y2 y4 y5 a b0) ?_
    have h1125_ := iv_get hv (k := 146) (j := 22) (l := 0) (u := 200) rfl
    have h1126_ : a 146 22 = a0 146 22 := hf 146 22 rfl
    have h1127_ := iv_get hv0 (k := 146) (j := 22) (l := 0) (u := 200) rfl
    have h1128_ := iv_get hv (k := 146) (j := 23) (l := 0) (u := 200) rfl
    have h1129_ := iv_get hv0 (k := 146) (j := 23) (l := 0) (u := 200) rfl
    have h1131_ : jxw ((a 146 23) + 1) = (a 146 23) + 1 := jxw_id (by omega) (by omega)
    have hv1130_ : iv (jxu a 146 23 (jxw ((a 146 23) + 1))) := iv_put hv (l := 0) (u := 200) rfl (by omega) (by omega)
    have hf1132_ : jfr jW_X12_number a0 (jxu a 146 23 (jxw ((a 146 23) + 1))) := jfr_put hf rfl
    have h1133_ := jxw_im (y4 + 1)
    have h1134_ := jxw_rg (y4 + 1)
    exact ih41 y1 y2 (jxw (y4 + 1)) y5 (jxu a 146 23 (jxw ((a 146 23) + 1))) (show ((((a 146 22) - (jxw ((a 146 23) + 1))) * 1) + 0).toNat < n from by omega) hv1130_ hf1132_ (show jxw ((a 146 23) + 1) ≤ a 146 22 from by omega) (show a0 146 23 ≤ jxw ((a 146 23) + 1) from by omega) (show y1 = x1 from by omega) (show y2 = x2 from by omega) (show 0 ≤ jxw (y4 + 1) from by omega) (show jxw (y4 + 1) ≤ jxw ((a 146 23) + 1) from by omega) (show 0 ≤ y5 from by omega) (show y5 ≤ 999 from by omega) (show (jxw (y4 + 1) ≤ 2 → y5 ≤ 99) from by omega) (show (jxw (y4 + 1) ≤ 1 → y5 ≤ 9) from by omega) (show (jxw (y4 + 1) ≤ 0 → y5 ≤ 0) from by omega)
  have hc80 : ∀ (y1 y2 y4 y5 : Int) (a : Nat → Nat → Int), ((((a 146 22) - (a 146 23)) * 1) + 0).toNat ≤ n → iv a → jfr jW_X12_number a0 a → 1 ≤ a 146 22 → a 146 23 ≤ 199 → a 146 23 ≤ a 146 22 → a0 146 23 ≤ a 146 23 → y1 = x1 → y2 = x2 → 0 ≤ y4 → y4 ≤ a 146 23 → 0 ≤ y5 → y5 ≤ 999 → (y4 ≤ 2 → y5 ≤ 99) → (y4 ≤ 1 → y5 ≤ 9) → (y4 ≤ 0 → y5 ≤ 0) → a 146 23 < a 146 22 → 48 ≤ a 164 ((a 146 23).toNat) → a 164 ((a 146 23).toNat) ≤ 57 → jt (jxX E d 217 80 [some (.inr (.inr (.inl 146))), some (.inl y1), some (.inl y2), none, some (.inl y4), some (.inl y5)] [] (jxSH, a, b0)) (jQ_X12_number x1 x2 a0 b0) := by
    intro y1 y2 y4 y5 a hm hv hf hi0 hi1 hi2 hi3 hi4 hi5 hi6 hi7 hi8 hi9 hi10 hi11 hi12 hi13 hi14 hi15
    refine jt_eq (bq_X12_number_80 E d y1 y2 y4 y5 a b0) ?_
    have h1135_ := iv_get hv (k := 146) (j := 22) (l := 0) (u := 200) rfl
    have h1136_ : a 146 22 = a0 146 22 := hf 146 22 rfl
    have h1137_ := iv_get hv0 (k := 146) (j := 22) (l := 0) (u := 200) rfl
    have h1138_ := iv_get hv (k := 146) (j := 23) (l := 0) (u := 200) rfl
    have h1139_ := iv_get hv0 (k := 146) (j := 23) (l := 0) (u := 200) rfl
    have h1140_ := iv_get hv (k := 164) (j := (a 146 23).toNat) (l := (-128)) (u := 127) rfl
    have h1141_ : a 164 ((a 146 23).toNat) = a0 164 ((a 146 23).toNat) := hf 164 ((a 146 23).toNat) rfl
    have h1142_ := iv_get hv0 (k := 164) (j := (a 146 23).toNat) (l := (-128)) (u := 127) rfl
    refine jt_ite (fun c1143_ => ?_) (fun c1143_ => ?_)
    ·
      refine jt_grd (by omega) ?_
      have h1144_ : jxw (10 * y5) = 10 * y5 := jxw_id (by omega) (by omega)
      have h1145_ : jxw ((jxw (10 * y5)) + (a 164 ((a 146 23).toNat))) = (jxw (10 * y5)) + (a 164 ((a 146 23).toNat)) := jxw_id (by omega) (by omega)
      have h1146_ : jxw ((jxw ((jxw (10 * y5)) + (a 164 ((a 146 23).toNat)))) - 48) = (jxw ((jxw (10 * y5)) + (a 164 ((a 146 23).toNat)))) - 48 := jxw_id (by omega) (by omega)
      exact hc106 y1 y2 y4 (jxw ((jxw ((jxw (10 * y5)) + (a 164 ((a 146 23).toNat)))) - 48)) a (show ((((a 146 22) - (a 146 23)) * 1) + 0).toNat ≤ n from by omega) hv hf (show 1 ≤ a 146 22 from by omega) (show a 146 23 ≤ 199 from by omega) (show a 146 23 ≤ a 146 22 from by omega) (show a0 146 23 ≤ a 146 23 from by omega) (show y1 = x1 from by omega) (show y2 = x2 from by omega) (show 0 ≤ y4 from by omega) (show y4 ≤ a 146 23 from by omega) (show 0 ≤ jxw ((jxw ((jxw (10 * y5)) + (a 164 ((a 146 23).toNat)))) - 48) from by omega) (show jxw ((jxw ((jxw (10 * y5)) + (a 164 ((a 146 23).toNat)))) - 48) ≤ 999 from by omega) (show (y4 ≤ 1 → jxw ((jxw ((jxw (10 * y5)) + (a 164 ((a 146 23).toNat)))) - 48) ≤ 99) from by omega) (show (y4 ≤ 0 → jxw ((jxw ((jxw (10 * y5)) + (a 164 ((a 146 23).toNat)))) - 48) ≤ 9) from by omega) (show a 146 23 < a 146 22 from by omega)
    ·
      exact hc106 y1 y2 y4 y5 a (show ((((a 146 22) - (a 146 23)) * 1) + 0).toNat ≤ n from by omega) hv hf (show 1 ≤ a 146 22 from by omega) (show a 146 23 ≤ 199 from by omega) (show a 146 23 ≤ a 146 22 from by omega) (show a0 146 23 ≤ a 146 23 from by omega) (show y1 = x1 from by omega) (show y2 = x2 from by omega) (show 0 ≤ y4 from by omega) (show y4 ≤ a 146 23 from by omega) (show 0 ≤ y5 from by omega) (show y5 ≤ 999 from by omega) (show (y4 ≤ 1 → y5 ≤ 99) from by omega) (show (y4 ≤ 0 → y5 ≤ 9) from by omega) (show a 146 23 < a 146 22 from by omega)
  have hc41 : ∀ (y1 y2 y4 y5 : Int) (a : Nat → Nat → Int), ((((a 146 22) - (a 146 23)) * 1) + 0).toNat ≤ n → iv a → jfr jW_X12_number a0 a → a 146 23 ≤ a 146 22 → a0 146 23 ≤ a 146 23 → y1 = x1 → y2 = x2 → 0 ≤ y4 → y4 ≤ a 146 23 → 0 ≤ y5 → y5 ≤ 999 → (y4 ≤ 2 → y5 ≤ 99) → (y4 ≤ 1 → y5 ≤ 9) → (y4 ≤ 0 → y5 ≤ 0) → jt (jxX E d 217 41 [some (.inr (.inr (.inl 146))), some (.inl y1), some (.inl y2), none, some (.inl y4), some (.inl y5)] [] (jxSH, a, b0)) (jQ_X12_number x1 x2 a0 b0) := by
    intro y1 y2 y4 y5 a hm hv hf hi0 hi1 hi2 hi3 hi4 hi5 hi6 hi7 hi8 hi9 hi10
    refine jt_eq (bq_X12_number_41 E d y1 y2 y4 y5 a b0) ?_
    have h1147_ := iv_get hv (k := 146) (j := 23) (l := 0) (u := 200) rfl
    have h1148_ := iv_get hv (k := 146) (j := 22) (l := 0) (u := 200) rfl
    have h1149_ : a 146 22 = a0 146 22 := hf 146 22 rfl
    have h1150_ := iv_get hv0 (k := 146) (j := 22) (l := 0) (u := 200) rfl
    have h1151_ := iv_get hv0 (k := 146) (j := 23) (l := 0) (u := 200) rfl
    refine jt_ite (fun c1152_ => ?_) (fun c1152_ => ?_)
    ·
      refine jt_grd (by omega) ?_
      have h1153_ := iv_get hv (k := 164) (j := (a 146 23).toNat) (l := (-128)) (u := 127) rfl
      have h1154_ : a 164 ((a 146 23).toNat) = a0 164 ((a 146 23).toNat) := hf 164 ((a 146 23).toNat) rfl
      have h1155_ := iv_get hv0 (k := 164) (j := (a 146 23).toNat) (l := (-128)) (u := 127) rfl
      refine jt_ite (fun c1156_ => ?_) (fun c1156_ => ?_)
      ·
        exact cp_X12_number_122 E d hd x1 x2 a0 b0 hv0 hp0 y1 y2 y4 y5 a hv hf (show a 146 23 ≤ a 146 22 from by omega) (show a0 146 23 ≤ a 146 23 from by omega) (show y1 = x1 from by omega) (show y2 = x2 from by omega) (show 0 ≤ y5 from by omega) (show y5 ≤ 999 from by omega)
      ·
        refine jt_grd (by omega) ?_
        refine jt_ite (fun c1157_ => ?_) (fun c1157_ => ?_)
        ·
          exact cp_X12_number_122 E d hd x1 x2 a0 b0 hv0 hp0 y1 y2 y4 y5 a hv hf (show a 146 23 ≤ a 146 22 from by omega) (show a0 146 23 ≤ a 146 23 from by omega) (show y1 = x1 from by omega) (show y2 = x2 from by omega) (show 0 ≤ y5 from by omega) (show y5 ≤ 999 from by omega)
        ·
          exact hc80 y1 y2 y4 y5 a (show ((((a 146 22) - (a 146 23)) * 1) + 0).toNat ≤ n from by omega) hv hf (show 1 ≤ a 146 22 from by omega) (show a 146 23 ≤ 199 from by omega) (show a 146 23 ≤ a 146 22 from by omega) (show a0 146 23 ≤ a 146 23 from by omega) (show y1 = x1 from by omega) (show y2 = x2 from by omega) (show 0 ≤ y4 from by omega) (show y4 ≤ a 146 23 from by omega) (show 0 ≤ y5 from by omega) (show y5 ≤ 999 from by omega) (show (y4 ≤ 2 → y5 ≤ 99) from by omega) (show (y4 ≤ 1 → y5 ≤ 9) from by omega) (show (y4 ≤ 0 → y5 ≤ 0) from by omega) (show a 146 23 < a 146 22 from by omega) (show 48 ≤ a 164 ((a 146 23).toNat) from by omega) (show a 164 ((a 146 23).toNat) ≤ 57 from by omega)
    ·
      exact cp_X12_number_122 E d hd x1 x2 a0 b0 hv0 hp0 y1 y2 y4 y5 a hv hf (show a 146 23 ≤ a 146 22 from by omega) (show a0 146 23 ≤ a 146 23 from by omega) (show y1 = x1 from by omega) (show y2 = x2 from by omega) (show 0 ≤ y5 from by omega) (show y5 ≤ 999 from by omega)
  exact ⟨hc106, hc80, hc41⟩
theorem cp_X12_number_38 (E : jxE) (d : Nat) (hd : Nat.ble 2 (d + 1) = true) (x1 x2 : Int) (a0 b0 : Nat → Nat → Int) (hv0 : iv a0) (hp0 : a0 146 23 ≤ a0 146 22) : ∀ (y1 y2 y4 : Int) (a : Nat → Nat → Int), iv a → jfr jW_X12_number a0 a → 0 ≤ y4 → y4 ≤ 0 → a 146 23 ≤ a 146 22 → a0 146 23 ≤ a 146 23 → y1 = x1 → y2 = x2 → y4 = 0 → jt (jxX E d 217 38 [some (.inr (.inr (.inl 146))), some (.inl y1), some (.inl y2), none, some (.inl y4), none] [] (jxSH, a, b0)) (jQ_X12_number x1 x2 a0 b0) := by
  intro y1 y2 y4 a hv hf hi0 hi1 hi2 hi3 hi4 hi5 hi6
  refine jt_eq (bq_X12_number_38 E d y1 y2 y4 a b0) ?_
  have h1158_ := iv_get hv (k := 146) (j := 23) (l := 0) (u := 200) rfl
  have h1159_ := iv_get hv (k := 146) (j := 22) (l := 0) (u := 200) rfl
  have h1160_ : a 146 22 = a0 146 22 := hf 146 22 rfl
  have h1161_ := iv_get hv0 (k := 146) (j := 22) (l := 0) (u := 200) rfl
  have h1162_ := iv_get hv0 (k := 146) (j := 23) (l := 0) (u := 200) rfl
  exact (cp_X12_number_41 E d hd x1 x2 a0 b0 hv0 hp0 _).2.2 y1 y2 y4 0 a (Nat.le_refl _) hv hf (show a 146 23 ≤ a 146 22 from by omega) (show a0 146 23 ≤ a 146 23 from by omega) (show y1 = x1 from by omega) (show y2 = x2 from by omega) (show 0 ≤ y4 from by omega) (show y4 ≤ a 146 23 from by omega) (show 0 ≤ 0 from by omega) (show 0 ≤ 999 from by omega) (show (y4 ≤ 2 → 0 ≤ 99) from by omega) (show (y4 ≤ 1 → 0 ≤ 9) from by omega) (show (y4 ≤ 0 → 0 ≤ 0) from by omega)
theorem sp_X12_number (E : jxE) (d : Nat) (hd : Nat.ble 2 d = true) (x1 x2 : Int) (a0 b0 : Nat → Nat → Int) (hv0 : iv a0) (hp0 : a0 146 23 ≤ a0 146 22) : jt (jxC E d 217 [.inr (.inr (.inl 146)), .inl x1, .inl x2] (jxSH, a0, b0)) (jQ_X12_number x1 x2 a0 b0) := by
  obtain ⟨d, rfl⟩ := jd_succ hd
  refine jt_eq (bq_X12_number E d x1 x2 a0 b0) ?_
  have h1163_ := iv_get hv0 (k := 146) (j := 23) (l := 0) (u := 200) rfl
  have h1164_ := iv_get hv0 (k := 146) (j := 22) (l := 0) (u := 200) rfl
  refine jt_bI (sp_X12_see E d (jd_le hd rfl) a0 b0 hv0 (show a0 146 23 ≤ a0 146 22 from by omega)) (fun r1165_ a1165_ b1165_ h1165_ => ?_)
  obtain ⟨hv1165_, hf1165_, rfl, hq1165_0, hq1165_1, hq1165_2, hq1165_3⟩ := h1165_
  have h1166_ := iv_get hv1165_ (k := 146) (j := 23) (l := 0) (u := 200) rfl
  have h1167_ := iv_get hv1165_ (k := 164) (j := (a1165_ 146 23).toNat) (l := (-128)) (u := 127) rfl
  have h1168_ : a1165_ 164 ((a1165_ 146 23).toNat) = a0 164 ((a1165_ 146 23).toNat) := hf1165_ 164 ((a1165_ 146 23).toNat) rfl
  have h1169_ := iv_get hv0 (k := 164) (j := (a1165_ 146 23).toNat) (l := (-128)) (u := 127) rfl
  have h1170_ := iv_get hv0 (k := 164) (j := (a0 146 23).toNat) (l := (-128)) (u := 127) rfl
  refine jt_ite (fun c1171_ => ?_) (fun c1171_ => ?_)
  ·
    refine jt_bI (sp_X12_fails E d (jd_le hd rfl) 0 (a1165_ 146 23) a1165_ b0 hv1165_) (fun r1172_ a1172_ b1172_ h1172_ => ?_)
    obtain ⟨hv1172_, hf1172_, rfl, hq1172_0, hq1172_1, hq1172_2, hq1172_3⟩ := h1172_
    have h1173_ : a1165_ 146 24 = a0 146 24 := hf1165_ 146 24 rfl
    refine jt_grd (by omega) ?_
    have hf1174_ : jfr jW_X12_number a0 a1165_ := jfr_tr (jfr_rf _ _) hf1165_ rfl
    have hf1175_ : jfr jW_X12_number a0 a1172_ := jfr_tr hf1174_ hf1172_ rfl
    have h1176_ := iv_get hv1172_ (k := 146) (j := 23) (l := 0) (u := 200) rfl
    have h1177_ : a1172_ 146 23 = a1165_ 146 23 := hf1172_ 146 23 rfl
    have h1178_ := iv_get hv1172_ (k := 146) (j := 26) (l := 0) (u := 999) rfl
    have h1179_ : a1172_ 146 26 = a1165_ 146 26 := hf1172_ 146 26 rfl
    have h1180_ := iv_get hv1165_ (k := 146) (j := 26) (l := 0) (u := 999) rfl
    have h1181_ : a1165_ 146 26 = a0 146 26 := hf1165_ 146 26 rfl
    have h1182_ := iv_get hv0 (k := 146) (j := 26) (l := 0) (u := 999) rfl
    exact jt_rI ⟨hv1172_, hf1175_, rfl, (show (0 ≤ r1172_ ∧ r1172_ ≤ 1) from by omega), (show a0 146 23 ≤ a1172_ 146 23 from by omega), (show a1172_ 146 23 ≤ a0 146 22 from by omega), (show (r1172_ = 1 → (x1 ≤ a1172_ 146 26 ∧ a1172_ 146 26 ≤ x2)) from by omega)⟩
  ·
    refine jt_ite (fun c1183_ => ?_) (fun c1183_ => ?_)
    ·
      refine jt_bI (sp_X12_fails E d (jd_le hd rfl) 0 (a1165_ 146 23) a1165_ b0 hv1165_) (fun r1184_ a1184_ b1184_ h1184_ => ?_)
      obtain ⟨hv1184_, hf1184_, rfl, hq1184_0, hq1184_1, hq1184_2, hq1184_3⟩ := h1184_
      have h1185_ : a1165_ 146 24 = a0 146 24 := hf1165_ 146 24 rfl
      refine jt_grd (by omega) ?_
      have hf1186_ : jfr jW_X12_number a0 a1165_ := jfr_tr (jfr_rf _ _) hf1165_ rfl
      have hf1187_ : jfr jW_X12_number a0 a1184_ := jfr_tr hf1186_ hf1184_ rfl
      have h1188_ := iv_get hv1184_ (k := 146) (j := 23) (l := 0) (u := 200) rfl
      have h1189_ : a1184_ 146 23 = a1165_ 146 23 := hf1184_ 146 23 rfl
      have h1190_ := iv_get hv1184_ (k := 146) (j := 26) (l := 0) (u := 999) rfl
      have h1191_ : a1184_ 146 26 = a1165_ 146 26 := hf1184_ 146 26 rfl
      have h1192_ := iv_get hv1165_ (k := 146) (j := 26) (l := 0) (u := 999) rfl
      have h1193_ : a1165_ 146 26 = a0 146 26 := hf1165_ 146 26 rfl
      have h1194_ := iv_get hv0 (k := 146) (j := 26) (l := 0) (u := 999) rfl
      exact jt_rI ⟨hv1184_, hf1187_, rfl, (show (0 ≤ r1184_ ∧ r1184_ ≤ 1) from by omega), (show a0 146 23 ≤ a1184_ 146 23 from by omega), (show a1184_ 146 23 ≤ a0 146 22 from by omega), (show (r1184_ = 1 → (x1 ≤ a1184_ 146 26 ∧ a1184_ 146 26 ≤ x2)) from by omega)⟩
    ·
      have hv1195_ : iv (jxu a1165_ 146 27 (a1165_ 146 23)) := iv_putf hv1165_ rfl
      have hf1196_ : jfr jW_X12_number a0 a1165_ := jfr_tr (jfr_rf _ _) hf1165_ rfl
      have hf1197_ : jfr jW_X12_number a0 (jxu a1165_ 146 27 (a1165_ 146 23)) := jfr_put hf1196_ rfl
      have h1198_ := iv_get hv1165_ (k := 146) (j := 22) (l := 0) (u := 200) rfl
      have h1199_ : a1165_ 146 22 = a0 146 22 := hf1165_ 146 22 rfl
      exact cp_X12_number_38 E d hd x1 x2 a0 b0 hv0 hp0 x1 x2 0 (jxu a1165_ 146 27 (a1165_ 146 23)) hv1195_ hf1197_ (show 0 ≤ 0 from by omega) (show 0 ≤ 0 from by omega) (show a1165_ 146 23 ≤ a1165_ 146 22 from by omega) (show a0 146 23 ≤ a1165_ 146 23 from by omega) (show x1 = x1 from by omega) (show x2 = x2 from by omega) (show 0 = 0 from by omega)
def jW_X12_wordHere : List (Nat × Nat) := [(146, 23), (146, 25)]
abbrev jQ_X12_wordHere (a0 b0 : Nat → Nat → Int) : List jxV → (Nat → Nat → Int) → (Nat → Nat → Int) → Prop := rI (fun r a b => (iv a) ∧ (jfr jW_X12_wordHere a0 a) ∧ (b0 = b) ∧ ((a 146 23) + (a 146 25) ≤ a 146 22) ∧ (a0 146 23 ≤ a 146 23) ∧ (0 - 1 ≤ r) ∧ (r ≤ 15) ∧ ((r = 2 → a 146 25 = 3)) ∧ ((0 ≤ r → 2 ≤ a 146 25)) ∧ (((a0 146 23 < a0 146 22 ∧ ¬ a0 164 ((a0 146 23).toNat) = 32) → a 146 23 = a0 146 23)))
theorem cp_X12_wordHere_79 (E : jxE) (d : Nat) (hd : Nat.ble 2 (d + 1) = true) (a0 b0 : Nat → Nat → Int) (hv0 : iv a0) (hp0 : a0 146 23 ≤ a0 146 22) : ∀ n : Nat, (∀ (y1 y2 y4 : Int) (a : Nat → Nat → Int), (((((16 - y1) * 17) + 0) + ((6 - y4) * 1)) + 0).toNat ≤ n → iv a → jfr jW_X12_wordHere a0 a → 0 ≤ y1 → y1 ≤ 15 → 1 ≤ y2 → y2 ≤ 6 → 0 ≤ y4 → y4 ≤ 5 → a 146 25 ≤ 6 → (a 146 23) + (a 146 25) ≤ a 146 22 → a0 146 23 ≤ a 146 23 → 2 ≤ y2 → (y1 = 2 → y2 = 3) → y2 = a 146 25 → y4 < y2 → ((a0 146 23 < a0 146 22 ∧ ¬ a0 164 ((a0 146 23).toNat) = 32) → a 146 23 = a0 146 23) → jt (jxX E d 216 176 [some (.inr (.inr (.inl 146))), some (.inl y1), some (.inl y2), none, some (.inl y4)] [] (jxSH, a, b0)) (jQ_X12_wordHere a0 b0)) ∧ (∀ (y1 y2 y4 : Int) (a : Nat → Nat → Int), (((((16 - y1) * 17) + 0) + ((6 - y4) * 1)) + 0).toNat ≤ n → iv a → jfr jW_X12_wordHere a0 a → 0 ≤ y1 → y1 ≤ 15 → 1 ≤ y2 → y2 ≤ 6 → 0 ≤ y4 → y4 ≤ 5 → a 146 25 ≤ 6 → (a 146 23) + (a 146 25) ≤ a 146 22 → a0 146 23 ≤ a 146 23 → 2 ≤ y2 → (y1 = 2 → y2 = 3) → y2 = a 146 25 → y4 < y2 → ((a0 146 23 < a0 146 22 ∧ ¬ a0 164 ((a0 146 23).toNat) = 32) → a 146 23 = a0 146 23) → jt (jxX E d 216 180 [some (.inr (.inr (.inl 146))), some (.inl y1), some (.inl y2), none, some (.inl y4)] [] (jxSH, a, b0)) (jQ_X12_wordHere a0 b0)) ∧ (∀ (y1 y2 y3 y4 : Int) (a : Nat → Nat → Int), (((((16 - y1) * 17) + 0) + ((6 - y4) * 1)) + 0).toNat ≤ n → iv a → jfr jW_X12_wordHere a0 a → 0 ≤ y1 → y1 ≤ 15 → 0 ≤ y2 → y2 ≤ 6 → 0 ≤ y3 → y3 ≤ 1 → 0 ≤ y4 → y4 ≤ 6 → a 146 25 ≤ 6 → (a 146 23) + (a 146 25) ≤ a 146 22 → a0 146 23 ≤ a 146 23 → 2 ≤ y2 → (y1 = 2 → y2 = 3) → (y3 = 0 ∨ y2 = a 146 25) → (y3 = 0 ∨ y3 = 1) → ((a0 146 23 < a0 146 22 ∧ ¬ a0 164 ((a0 146 23).toNat) = 32) → a 146 23 = a0 146 23) → jt (jxX E d 216 139 [some (.inr (.inr (.inl 146))), some (.inl y1), some (.inl y2), some (.inl y3), some (.inl y4)] [] (jxSH, a, b0)) (jQ_X12_wordHere a0 b0)) ∧ (∀ (y1 y2 : Int) (a : Nat → Nat → Int), (((16 - y1) * 17) + 8).toNat ≤ n → iv a → jfr jW_X12_wordHere a0 a → 0 ≤ y1 → y1 ≤ 15 → 0 ≤ y2 → y2 ≤ 6 → a 146 25 ≤ 6 → (a 146 23) + (a 146 25) ≤ a 146 22 → a0 146 23 ≤ a 146 23 → (y1 = 2 → y2 = 3) → 2 ≤ y2 → ((a0 146 23 < a0 146 22 ∧ ¬ a0 164 ((a0 146 23).toNat) = 32) → a 146 23 = a0 146 23) → jt (jxX E d 216 122 [some (.inr (.inr (.inl 146))), some (.inl y1), some (.inl y2), none, none] [] (jxSH, a, b0)) (jQ_X12_wordHere a0 b0)) ∧ (∀ (y1 y2 : Int) (a : Nat → Nat → Int), (((((16 - y1) * 17) + 8) + ((6 - y2) * 1)) + 0).toNat ≤ n → iv a → jfr jW_X12_wordHere a0 a → 0 ≤ y1 → y1 ≤ 15 → 0 ≤ y2 → y2 ≤ 6 → a 146 25 ≤ 6 → (a 146 23) + (a 146 25) ≤ a 146 22 → a0 146 23 ≤ a 146 23 → (y1 = 2 → y2 ≤ 3) → ((a0 146 23 < a0 146 22 ∧ ¬ a0 164 ((a0 146 23).toNat) = 32) → a 146 23 = a0 146 23) → jt (jxX E d 216 96 [some (.inr (.inr (.inl 146))), some (.inl y1), some (.inl y2), none, none] [] (jxSH, a, b0)) (jQ_X12_wordHere a0 b0)) ∧ (∀ (y1 : Int) (a : Nat → Nat → Int), (((16 - y1) * 17) + 16).toNat ≤ n → iv a → jfr jW_X12_wordHere a0 a → 0 ≤ y1 → y1 ≤ 16 → (a 146 23) + (a 146 25) ≤ a 146 22 → a0 146 23 ≤ a 146 23 → ((a0 146 23 < a0 146 22 ∧ ¬ a0 164 ((a0 146 23).toNat) = 32) → a 146 23 = a0 146 23) → jt (jxX E d 216 79 [some (.inr (.inr (.inl 146))), some (.inl y1), none, none, none] [] (jxSH, a, b0)) (jQ_X12_wordHere a0 b0)) := by
  refine jx_ind fun n ih => ?_
  have ih176 : ∀ (y1 y2 y4 : Int) (a : Nat → Nat → Int), (((((16 - y1) * 17) + 0) + ((6 - y4) * 1)) + 0).toNat < n → iv a → jfr jW_X12_wordHere a0 a → 0 ≤ y1 → y1 ≤ 15 → 1 ≤ y2 → y2 ≤ 6 → 0 ≤ y4 → y4 ≤ 5 → a 146 25 ≤ 6 → (a 146 23) + (a 146 25) ≤ a 146 22 → a0 146 23 ≤ a 146 23 → 2 ≤ y2 → (y1 = 2 → y2 = 3) → y2 = a 146 25 → y4 < y2 → ((a0 146 23 < a0 146 22 ∧ ¬ a0 164 ((a0 146 23).toNat) = 32) → a 146 23 = a0 146 23) → jt (jxX E d 216 176 [some (.inr (.inr (.inl 146))), some (.inl y1), some (.inl y2), none, some (.inl y4)] [] (jxSH, a, b0)) (jQ_X12_wordHere a0 b0) := fun y1 y2 y4 a hlt i0 i1 i2 i3 i4 i5 i6 i7 i8 i9 i10 i11 i12 i13 i14 i15 => (ih _ hlt).1 y1 y2 y4 a (Nat.le_refl _) i0 i1 i2 i3 i4 i5 i6 i7 i8 i9 i10 i11 i12 i13 i14 i15
  have ih180 : ∀ (y1 y2 y4 : Int) (a : Nat → Nat → Int), (((((16 - y1) * 17) + 0) + ((6 - y4) * 1)) + 0).toNat < n → iv a → jfr jW_X12_wordHere a0 a → 0 ≤ y1 → y1 ≤ 15 → 1 ≤ y2 → y2 ≤ 6 → 0 ≤ y4 → y4 ≤ 5 → a 146 25 ≤ 6 → (a 146 23) + (a 146 25) ≤ a 146 22 → a0 146 23 ≤ a 146 23 → 2 ≤ y2 → (y1 = 2 → y2 = 3) → y2 = a 146 25 → y4 < y2 → ((a0 146 23 < a0 146 22 ∧ ¬ a0 164 ((a0 146 23).toNat) = 32) → a 146 23 = a0 146 23) → jt (jxX E d 216 180 [some (.inr (.inr (.inl 146))), some (.inl y1), some (.inl y2), none, some (.inl y4)] [] (jxSH, a, b0)) (jQ_X12_wordHere a0 b0) := fun y1 y2 y4 a hlt i0 i1 i2 i3 i4 i5 i6 i7 i8 i9 i10 i11 i12 i13 i14 i15 => (ih _ hlt).2.1 y1 y2 y4 a (Nat.le_refl _) i0 i1 i2 i3 i4 i5 i6 i7 i8 i9 i10 i11 i12 i13 i14 i15
  have ih139 : ∀ (y1 y2 y3 y4 : Int) (a : Nat → Nat → Int), (((((16 - y1) * 17) + 0) + ((6 - y4) * 1)) + 0).toNat < n → iv a → jfr jW_X12_wordHere a0 a → 0 ≤ y1 → y1 ≤ 15 → 0 ≤ y2 → y2 ≤ 6 → 0 ≤ y3 → y3 ≤ 1 → 0 ≤ y4 → y4 ≤ 6 → a 146 25 ≤ 6 → (a 146 23) + (a 146 25) ≤ a 146 22 → a0 146 23 ≤ a 146 23 → 2 ≤ y2 → (y1 = 2 → y2 = 3) → (y3 = 0 ∨ y2 = a 146 25) → (y3 = 0 ∨ y3 = 1) → ((a0 146 23 < a0 146 22 ∧ ¬ a0 164 ((a0 146 23).toNat) = 32) → a 146 23 = a0 146 23) → jt (jxX E d 216 139 [some (.inr (.inr (.inl 146))), some (.inl y1), some (.inl y2), some (.inl y3), some (.inl y4)] [] (jxSH, a, b0)) (jQ_X12_wordHere a0 b0) := fun y1 y2 y3 y4 a hlt i0 i1 i2 i3 i4 i5 i6 i7 i8 i9 i10 i11 i12 i13 i14 i15 i16 i17 => (ih _ hlt).2.2.1 y1 y2 y3 y4 a (Nat.le_refl _) i0 i1 i2 i3 i4 i5 i6 i7 i8 i9 i10 i11 i12 i13 i14 i15 i16 i17
  have ih122 : ∀ (y1 y2 : Int) (a : Nat → Nat → Int), (((16 - y1) * 17) + 8).toNat < n → iv a → jfr jW_X12_wordHere a0 a → 0 ≤ y1 → y1 ≤ 15 → 0 ≤ y2 → y2 ≤ 6 → a 146 25 ≤ 6 → (a 146 23) + (a 146 25) ≤ a 146 22 → a0 146 23 ≤ a 146 23 → (y1 = 2 → y2 = 3) → 2 ≤ y2 → ((a0 146 23 < a0 146 22 ∧ ¬ a0 164 ((a0 146 23).toNat) = 32) → a 146 23 = a0 146 23) → jt (jxX E d 216 122 [some (.inr (.inr (.inl 146))), some (.inl y1), some (.inl y2), none, none] [] (jxSH, a, b0)) (jQ_X12_wordHere a0 b0) := fun y1 y2 a hlt i0 i1 i2 i3 i4 i5 i6 i7 i8 i9 i10 i11 => (ih _ hlt).2.2.2.1 y1 y2 a (Nat.le_refl _) i0 i1 i2 i3 i4 i5 i6 i7 i8 i9 i10 i11
  have ih96 : ∀ (y1 y2 : Int) (a : Nat → Nat → Int), (((((16 - y1) * 17) + 8) + ((6 - y2) * 1)) + 0).toNat < n → iv a → jfr jW_X12_wordHere a0 a → 0 ≤ y1 → y1 ≤ 15 → 0 ≤ y2 → y2 ≤ 6 → a 146 25 ≤ 6 → (a 146 23) + (a 146 25) ≤ a 146 22 → a0 146 23 ≤ a 146 23 → (y1 = 2 → y2 ≤ 3) → ((a0 146 23 < a0 146 22 ∧ ¬ a0 164 ((a0 146 23).toNat) = 32) → a 146 23 = a0 146 23) → jt (jxX E d 216 96 [some (.inr (.inr (.inl 146))), some (.inl y1), some (.inl y2), none, none] [] (jxSH, a, b0)) (jQ_X12_wordHere a0 b0) := fun y1 y2 a hlt i0 i1 i2 i3 i4 i5 i6 i7 i8 i9 i10 => (ih _ hlt).2.2.2.2.1 y1 y2 a (Nat.le_refl _) i0 i1 i2 i3 i4 i5 i6 i7 i8 i9 i10
  have ih79 : ∀ (y1 : Int) (a : Nat → Nat → Int), (((16 - y1) * 17) + 16).toNat < n → iv a → jfr jW_X12_wordHere a0 a → 0 ≤ y1 → y1 ≤ 16 → (a 146 23) + (a 146 25) ≤ a 146 22 → a0 146 23 ≤ a 146 23 → ((a0 146 23 < a0 146 22 ∧ ¬ a0 164 ((a0 146 23).toNat) = 32) → a 146 23 = a0 146 23) → jt (jxX E d 216 79 [some (.inr (.inr (.inl 146))), some (.inl y1), none, none, none] [] (jxSH, a, b0)) (jQ_X12_wordHere a0 b0) := fun y1 a hlt i0 i1 i2 i3 i4 i5 i6 => (ih _ hlt).2.2.2.2.2 y1 a (Nat.le_refl _) i0 i1 i2 i3 i4 i5 i6
  have hc176 : ∀ (y1 y2 y4 : Int) (a : Nat → Nat → Int), (((((16 - y1) * 17) + 0) + ((6 - y4) * 1)) + 0).toNat ≤ n → iv a → jfr jW_X12_wordHere a0 a → 0 ≤ y1 → y1 ≤ 15 → 1 ≤ y2 → y2 ≤ 6 → 0 ≤ y4 → y4 ≤ 5 → a 146 25 ≤ 6 → (a 146 23) + (a 146 25) ≤ a 146 22 → a0 146 23 ≤ a 146 23 → 2 ≤ y2 → (y1 = 2 → y2 = 3) → y2 = a 146 25 → y4 < y2 → ((a0 146 23 < a0 146 22 ∧ ¬ a0 164 ((a0 146 23).toNat) = 32) → a 146 23 = a0 146 23) → jt (jxX E d 216 176 [some (.inr (.inr (.inl 146))), some (.inl y1), some (.inl y2), none, some (.inl y4)] [] (jxSH, a, b0)) (jQ_X12_wordHere a0 b0) := by
    intro y1 y2 y4 a hm hv hf hi0 hi1 hi2 hi3 hi4 hi5 hi6 hi7 hi8 hi9 hi10 hi11 hi12 hi13
    refine jt_eq (bq_X12_wordHere_176 E d y1 y2 y4 a b0) ?_
    have h1200_ := iv_get hv (k := 146) (j := 25) (l := 0) (u := 200) rfl
    have h1201_ := iv_get hv (k := 146) (j := 23) (l := 0) (u := 200) rfl
    have h1202_ := iv_get hv (k := 146) (j := 22) (l := 0) (u := 200) rfl
    have h1203_ : a 146 22 = a0 146 22 := hf 146 22 rfl
    have h1204_ := iv_get hv0 (k := 146) (j := 22) (l := 0) (u := 200) rfl
    have h1205_ := iv_get hv0 (k := 146) (j := 23) (l := 0) (u := 200) rfl
    have h1206_ := iv_get hv0 (k := 164) (j := (a0 146 23).toNat) (l := (-128)) (u := 127) rfl
    have h1207_ : jxw (y4 + 1) = y4 + 1 := jxw_id (by omega) (by omega)
    exact ih139 y1 y2 1 (jxw (y4 + 1)) a (show (((((16 - y1) * 17) + 0) + ((6 - (jxw (y4 + 1))) * 1)) + 0).toNat < n from by omega) hv hf (show 0 ≤ y1 from by omega) (show y1 ≤ 15 from by omega) (show 0 ≤ y2 from by omega) (show y2 ≤ 6 from by omega) (show 0 ≤ 1 from by omega) (show 1 ≤ 1 from by omega) (show 0 ≤ jxw (y4 + 1) from by omega) (show jxw (y4 + 1) ≤ 6 from by omega) (show a 146 25 ≤ 6 from by omega) (show (a 146 23) + (a 146 25) ≤ a 146 22 from by omega) (show a0 146 23 ≤ a 146 23 from by omega) (show 2 ≤ y2 from by omega) (show (y1 = 2 → y2 = 3) from by omega) (show (1 = 0 ∨ y2 = a 146 25) from by omega) (show (1 = 0 ∨ 1 = 1) from by omega) (show ((a0 146 23 < a0 146 22 ∧ ¬ a0 164 ((a0 146 23).toNat) = 32) → a 146 23 = a0 146 23) from by omega)
  have hc180 : ∀ (y1 y2 y4 : Int) (a : Nat → Nat → Int), (((((16 - y1) * 17) + 0) + ((6 - y4) * 1)) + 0).toNat ≤ n → iv a → jfr jW_X12_wordHere a0 a → 0 ≤ y1 → y1 ≤ 15 → 1 ≤ y2 → y2 ≤ 6 → 0 ≤ y4 → y4 ≤ 5 → a 146 25 ≤ 6 → (a 146 23) + (a 146 25) ≤ a 146 22 → a0 146 23 ≤ a 146 23 → 2 ≤ y2 → (y1 = 2 → y2 = 3) → y2 = a 146 25 → y4 < y2 → ((a0 146 23 < a0 146 22 ∧ ¬ a0 164 ((a0 146 23).toNat) = 32) → a 146 23 = a0 146 23) → jt (jxX E d 216 180 [some (.inr (.inr (.inl 146))), some (.inl y1), some (.inl y2), none, some (.inl y4)] [] (jxSH, a, b0)) (jQ_X12_wordHere a0 b0) := by
    intro y1 y2 y4 a hm hv hf hi0 hi1 hi2 hi3 hi4 hi5 hi6 hi7 hi8 hi9 hi10 hi11 hi12 hi13
    refine jt_eq (bq_X12_wordHere_180 E d y1 y2 y4 a b0) ?_
    have h1208_ := iv_get hv (k := 146) (j := 25) (l := 0) (u := 200) rfl
    have h1209_ := iv_get hv (k := 146) (j := 23) (l := 0) (u := 200) rfl
    have h1210_ := iv_get hv (k := 146) (j := 22) (l := 0) (u := 200) rfl
    have h1211_ : a 146 22 = a0 146 22 := hf 146 22 rfl
    have h1212_ := iv_get hv0 (k := 146) (j := 22) (l := 0) (u := 200) rfl
    have h1213_ := iv_get hv0 (k := 146) (j := 23) (l := 0) (u := 200) rfl
    have h1214_ := iv_get hv0 (k := 164) (j := (a0 146 23).toNat) (l := (-128)) (u := 127) rfl
    have h1215_ : jxw (y4 + 1) = y4 + 1 := jxw_id (by omega) (by omega)
    exact ih139 y1 y2 0 (jxw (y4 + 1)) a (show (((((16 - y1) * 17) + 0) + ((6 - (jxw (y4 + 1))) * 1)) + 0).toNat < n from by omega) hv hf (show 0 ≤ y1 from by omega) (show y1 ≤ 15 from by omega) (show 0 ≤ y2 from by omega) (show y2 ≤ 6 from by omega) (show 0 ≤ 0 from by omega) (show 0 ≤ 1 from by omega) (show 0 ≤ jxw (y4 + 1) from by omega) (show jxw (y4 + 1) ≤ 6 from by omega) (show a 146 25 ≤ 6 from by omega) (show (a 146 23) + (a 146 25) ≤ a 146 22 from by omega) (show a0 146 23 ≤ a 146 23 from by omega) (show 2 ≤ y2 from by omega) (show (y1 = 2 → y2 = 3) from by omega) (show (0 = 0 ∨ y2 = a 146 25) from by omega) (show (0 = 0 ∨ 0 = 1) from by omega) (show ((a0 146 23 < a0 146 22 ∧ ¬ a0 164 ((a0 146 23).toNat) = 32) → a 146 23 = a0 146 23) from by omega)
  have hc139 : ∀ (y1 y2 y3 y4 : Int) (a : Nat → Nat → Int), (((((16 - y1) * 17) + 0) + ((6 - y4) * 1)) + 0).toNat ≤ n → iv a → jfr jW_X12_wordHere a0 a → 0 ≤ y1 → y1 ≤ 15 → 0 ≤ y2 → y2 ≤ 6 → 0 ≤ y3 → y3 ≤ 1 → 0 ≤ y4 → y4 ≤ 6 → a 146 25 ≤ 6 → (a 146 23) + (a 146 25) ≤ a 146 22 → a0 146 23 ≤ a 146 23 → 2 ≤ y2 → (y1 = 2 → y2 = 3) → (y3 = 0 ∨ y2 = a 146 25) → (y3 = 0 ∨ y3 = 1) → ((a0 146 23 < a0 146 22 ∧ ¬ a0 164 ((a0 146 23).toNat) = 32) → a 146 23 = a0 146 23) → jt (jxX E d 216 139 [some (.inr (.inr (.inl 146))), some (.inl y1), some (.inl y2), some (.inl y3), some (.inl y4)] [] (jxSH, a, b0)) (jQ_X12_wordHere a0 b0) := by
    intro y1 y2 y3 y4 a hm hv hf hi0 hi1 hi2 hi3 hi4 hi5 hi6 hi7 hi8 hi9 hi10 hi11 hi12 hi13 hi14 hi15
    refine jt_eq (bq_X12_wordHere_139 E d y1 y2 y3 y4 a b0) ?_
    have h1216_ := iv_get hv (k := 146) (j := 25) (l := 0) (u := 200) rfl
    have h1217_ := iv_get hv (k := 146) (j := 23) (l := 0) (u := 200) rfl
    have h1218_ := iv_get hv (k := 146) (j := 22) (l := 0) (u := 200) rfl
    have h1219_ : a 146 22 = a0 146 22 := hf 146 22 rfl
    have h1220_ := iv_get hv0 (k := 146) (j := 22) (l := 0) (u := 200) rfl
    have h1221_ := iv_get hv0 (k := 146) (j := 23) (l := 0) (u := 200) rfl
    have h1222_ := iv_get hv0 (k := 164) (j := (a0 146 23).toNat) (l := (-128)) (u := 127) rfl
    refine jt_ite (fun c1223_ => ?_) (fun c1223_ => ?_)
    ·
      refine jt_ite (fun c1224_ => ?_) (fun c1224_ => ?_)
      ·
        have h1225_ : jxw (y1 + 1) = y1 + 1 := jxw_id (by omega) (by omega)
        exact ih79 (jxw (y1 + 1)) a (show (((16 - (jxw (y1 + 1))) * 17) + 16).toNat < n from by omega) hv hf (show 0 ≤ jxw (y1 + 1) from by omega) (show jxw (y1 + 1) ≤ 16 from by omega) (show (a 146 23) + (a 146 25) ≤ a 146 22 from by omega) (show a0 146 23 ≤ a 146 23 from by omega) (show ((a0 146 23 < a0 146 22 ∧ ¬ a0 164 ((a0 146 23).toNat) = 32) → a 146 23 = a0 146 23) from by omega)
      ·
        exact jt_rI ⟨hv, hf, rfl, (show (a 146 23) + (a 146 25) ≤ a 146 22 from by omega), (show a0 146 23 ≤ a 146 23 from by omega), (show 0 - 1 ≤ y1 from by omega), (show y1 ≤ 15 from by omega), (show (y1 = 2 → a 146 25 = 3) from by omega), (show (0 ≤ y1 → 2 ≤ a 146 25) from by omega), (show ((a0 146 23 < a0 146 22 ∧ ¬ a0 164 ((a0 146 23).toNat) = 32) → a 146 23 = a0 146 23) from by omega)⟩
    ·
      refine jt_ite (fun c1226_ => ?_) (fun c1226_ => ?_)
      ·
        have h1227_ : jxw (6 * y1) = 6 * y1 := jxw_id (by omega) (by omega)
        have h1228_ : jxw ((jxw (6 * y1)) + y4) = (jxw (6 * y1)) + y4 := jxw_id (by omega) (by omega)
        refine jt_grd (by omega) ?_
        have h1229_ : jxw ((a 146 23) + y4) = (a 146 23) + y4 := jxw_id (by omega) (by omega)
        refine jt_grd (by omega) ?_
        have h1230_ := iv_wd hv ((jxw ((jxw (6 * y1)) + y4)).toNat)
        have h1231_ : a 165 ((jxw ((jxw (6 * y1)) + y4)).toNat) = a0 165 ((jxw ((jxw (6 * y1)) + y4)).toNat) := hf 165 ((jxw ((jxw (6 * y1)) + y4)).toNat) rfl
        have h1232_ := iv_wd hv0 ((jxw ((jxw (6 * y1)) + y4)).toNat)
        have h1233_ := iv_get hv (k := 164) (j := (jxw ((a 146 23) + y4)).toNat) (l := (-128)) (u := 127) rfl
        have h1234_ : a 164 ((jxw ((a 146 23) + y4)).toNat) = a0 164 ((jxw ((a 146 23) + y4)).toNat) := hf 164 ((jxw ((a 146 23) + y4)).toNat) rfl
        have h1235_ := iv_get hv0 (k := 164) (j := (jxw ((a 146 23) + y4)).toNat) (l := (-128)) (u := 127) rfl
        refine jt_ite (fun c1236_ => ?_) (fun c1236_ => ?_)
        ·
          exact hc176 y1 y2 y4 a (show (((((16 - y1) * 17) + 0) + ((6 - y4) * 1)) + 0).toNat ≤ n from by omega) hv hf (show 0 ≤ y1 from by omega) (show y1 ≤ 15 from by omega) (show 1 ≤ y2 from by omega) (show y2 ≤ 6 from by omega) (show 0 ≤ y4 from by omega) (show y4 ≤ 5 from by omega) (show a 146 25 ≤ 6 from by omega) (show (a 146 23) + (a 146 25) ≤ a 146 22 from by omega) (show a0 146 23 ≤ a 146 23 from by omega) (show 2 ≤ y2 from by omega) (show (y1 = 2 → y2 = 3) from by omega) (show y2 = a 146 25 from by omega) (show y4 < y2 from by omega) (show ((a0 146 23 < a0 146 22 ∧ ¬ a0 164 ((a0 146 23).toNat) = 32) → a 146 23 = a0 146 23) from by omega)
        ·
          exact hc180 y1 y2 y4 a (show (((((16 - y1) * 17) + 0) + ((6 - y4) * 1)) + 0).toNat ≤ n from by omega) hv hf (show 0 ≤ y1 from by omega) (show y1 ≤ 15 from by omega) (show 1 ≤ y2 from by omega) (show y2 ≤ 6 from by omega) (show 0 ≤ y4 from by omega) (show y4 ≤ 5 from by omega) (show a 146 25 ≤ 6 from by omega) (show (a 146 23) + (a 146 25) ≤ a 146 22 from by omega) (show a0 146 23 ≤ a 146 23 from by omega) (show 2 ≤ y2 from by omega) (show (y1 = 2 → y2 = 3) from by omega) (show y2 = a 146 25 from by omega) (show y4 < y2 from by omega) (show ((a0 146 23 < a0 146 22 ∧ ¬ a0 164 ((a0 146 23).toNat) = 32) → a 146 23 = a0 146 23) from by omega)
      ·
        refine jt_ite (fun c1237_ => ?_) (fun c1237_ => ?_)
        ·
          have h1238_ : jxw (y1 + 1) = y1 + 1 := jxw_id (by omega) (by omega)
          exact ih79 (jxw (y1 + 1)) a (show (((16 - (jxw (y1 + 1))) * 17) + 16).toNat < n from by omega) hv hf (show 0 ≤ jxw (y1 + 1) from by omega) (show jxw (y1 + 1) ≤ 16 from by omega) (show (a 146 23) + (a 146 25) ≤ a 146 22 from by omega) (show a0 146 23 ≤ a 146 23 from by omega) (show ((a0 146 23 < a0 146 22 ∧ ¬ a0 164 ((a0 146 23).toNat) = 32) → a 146 23 = a0 146 23) from by omega)
        ·
          exact jt_rI ⟨hv, hf, rfl, (show (a 146 23) + (a 146 25) ≤ a 146 22 from by omega), (show a0 146 23 ≤ a 146 23 from by omega), (show 0 - 1 ≤ y1 from by omega), (show y1 ≤ 15 from by omega), (show (y1 = 2 → a 146 25 = 3) from by omega), (show (0 ≤ y1 → 2 ≤ a 146 25) from by omega), (show ((a0 146 23 < a0 146 22 ∧ ¬ a0 164 ((a0 146 23).toNat) = 32) → a 146 23 = a0 146 23) from by omega)⟩
  have hc122 : ∀ (y1 y2 : Int) (a : Nat → Nat → Int), (((16 - y1) * 17) + 8).toNat ≤ n → iv a → jfr jW_X12_wordHere a0 a → 0 ≤ y1 → y1 ≤ 15 → 0 ≤ y2 → y2 ≤ 6 → a 146 25 ≤ 6 → (a 146 23) + (a 146 25) ≤ a 146 22 → a0 146 23 ≤ a 146 23 → (y1 = 2 → y2 = 3) → 2 ≤ y2 → ((a0 146 23 < a0 146 22 ∧ ¬ a0 164 ((a0 146 23).toNat) = 32) → a 146 23 = a0 146 23) → jt (jxX E d 216 122 [some (.inr (.inr (.inl 146))), some (.inl y1), some (.inl y2), none, none] [] (jxSH, a, b0)) (jQ_X12_wordHere a0 b0) := by
    intro y1 y2 a hm hv hf hi0 hi1 hi2 hi3 hi4 hi5 hi6 hi7 hi8 hi9
    refine jt_eq (bq_X12_wordHere_122 E d y1 y2 a b0) ?_
    have h1239_ := iv_get hv (k := 146) (j := 25) (l := 0) (u := 200) rfl
    have h1240_ := iv_get hv (k := 146) (j := 23) (l := 0) (u := 200) rfl
    have h1241_ := iv_get hv (k := 146) (j := 22) (l := 0) (u := 200) rfl
    have h1242_ : a 146 22 = a0 146 22 := hf 146 22 rfl
    have h1243_ := iv_get hv0 (k := 146) (j := 22) (l := 0) (u := 200) rfl
    have h1244_ := iv_get hv0 (k := 146) (j := 23) (l := 0) (u := 200) rfl
    have h1245_ := iv_get hv0 (k := 164) (j := (a0 146 23).toNat) (l := (-128)) (u := 127) rfl
    refine jt_ite (fun c1246_ => ?_) (fun c1246_ => ?_)
    ·
      exact hc139 y1 y2 1 0 a (show (((((16 - y1) * 17) + 0) + ((6 - 0) * 1)) + 0).toNat ≤ n from by omega) hv hf (show 0 ≤ y1 from by omega) (show y1 ≤ 15 from by omega) (show 0 ≤ y2 from by omega) (show y2 ≤ 6 from by omega) (show 0 ≤ 1 from by omega) (show 1 ≤ 1 from by omega) (show 0 ≤ 0 from by omega) (show 0 ≤ 6 from by omega) (show a 146 25 ≤ 6 from by omega) (show (a 146 23) + (a 146 25) ≤ a 146 22 from by omega) (show a0 146 23 ≤ a 146 23 from by omega) (show 2 ≤ y2 from by omega) (show (y1 = 2 → y2 = 3) from by omega) (show (1 = 0 ∨ y2 = a 146 25) from by omega) (show (1 = 0 ∨ 1 = 1) from by omega) (show ((a0 146 23 < a0 146 22 ∧ ¬ a0 164 ((a0 146 23).toNat) = 32) → a 146 23 = a0 146 23) from by omega)
    ·
      exact hc139 y1 y2 0 0 a (show (((((16 - y1) * 17) + 0) + ((6 - 0) * 1)) + 0).toNat ≤ n from by omega) hv hf (show 0 ≤ y1 from by omega) (show y1 ≤ 15 from by omega) (show 0 ≤ y2 from by omega) (show y2 ≤ 6 from by omega) (show 0 ≤ 0 from by omega) (show 0 ≤ 1 from by omega) (show 0 ≤ 0 from by omega) (show 0 ≤ 6 from by omega) (show a 146 25 ≤ 6 from by omega) (show (a 146 23) + (a 146 25) ≤ a 146 22 from by omega) (show a0 146 23 ≤ a 146 23 from by omega) (show 2 ≤ y2 from by omega) (show (y1 = 2 → y2 = 3) from by omega) (show (0 = 0 ∨ y2 = a 146 25) from by omega) (show (0 = 0 ∨ 0 = 1) from by omega) (show ((a0 146 23 < a0 146 22 ∧ ¬ a0 164 ((a0 146 23).toNat) = 32) → a 146 23 = a0 146 23) from by omega)
  have hc96 : ∀ (y1 y2 : Int) (a : Nat → Nat → Int), (((((16 - y1) * 17) + 8) + ((6 - y2) * 1)) + 0).toNat ≤ n → iv a → jfr jW_X12_wordHere a0 a → 0 ≤ y1 → y1 ≤ 15 → 0 ≤ y2 → y2 ≤ 6 → a 146 25 ≤ 6 → (a 146 23) + (a 146 25) ≤ a 146 22 → a0 146 23 ≤ a 146 23 → (y1 = 2 → y2 ≤ 3) → ((a0 146 23 < a0 146 22 ∧ ¬ a0 164 ((a0 146 23).toNat) = 32) → a 146 23 = a0 146 23) → jt (jxX E d 216 96 [some (.inr (.inr (.inl 146))), some (.inl y1), some (.inl y2), none, none] [] (jxSH, a, b0)) (jQ_X12_wordHere a0 b0) := by
    intro y1 y2 a hm hv hf hi0 hi1 hi2 hi3 hi4 hi5 hi6 hi7 hi8
    refine jt_eq (bq_X12_wordHere_96 E d y1 y2 a b0) ?_
    have h1247_ := iv_get hv (k := 146) (j := 25) (l := 0) (u := 200) rfl
    have h1248_ := iv_get hv (k := 146) (j := 23) (l := 0) (u := 200) rfl
    have h1249_ := iv_get hv (k := 146) (j := 22) (l := 0) (u := 200) rfl
    have h1250_ : a 146 22 = a0 146 22 := hf 146 22 rfl
    have h1251_ := iv_get hv0 (k := 146) (j := 22) (l := 0) (u := 200) rfl
    have h1252_ := iv_get hv0 (k := 146) (j := 23) (l := 0) (u := 200) rfl
    have h1253_ := iv_get hv0 (k := 164) (j := (a0 146 23).toNat) (l := (-128)) (u := 127) rfl
    have hw1 := wd_ne (y1 := y1) (y2 := y2) (by omega) (by omega)
    rw [← iv_wd hv] at hw1
    have hw2 : y1 = 2 → (y2 = 0 ∨ y2 = 1 ∨ y2 = 2) → ¬ a 165 ((jxw ((jxw (6 * y1)) + y2)).toNat) = 0 := by rintro rfl (rfl | rfl | rfl) <;> rw [iv_wd hv] <;> decide
    have hw3 : y1 = 2 → y2 = 3 → a 165 ((jxw ((jxw (6 * y1)) + y2)).toNat) = 0 := by rintro rfl rfl; rw [iv_wd hv]; decide
    refine jt_ite (fun c1254_ => ?_) (fun c1254_ => ?_)
    ·
      have h1255_ : jxw (6 * y1) = 6 * y1 := jxw_id (by omega) (by omega)
      have h1256_ : jxw ((jxw (6 * y1)) + y2) = (jxw (6 * y1)) + y2 := jxw_id (by omega) (by omega)
      refine jt_grd (by omega) ?_
      have h1257_ := iv_wd hv ((jxw ((jxw (6 * y1)) + y2)).toNat)
      have h1258_ : a 165 ((jxw ((jxw (6 * y1)) + y2)).toNat) = a0 165 ((jxw ((jxw (6 * y1)) + y2)).toNat) := hf 165 ((jxw ((jxw (6 * y1)) + y2)).toNat) rfl
      have h1259_ := iv_wd hv0 ((jxw ((jxw (6 * y1)) + y2)).toNat)
      refine jt_ite (fun c1260_ => ?_) (fun c1260_ => ?_)
      ·
        exact hc122 y1 y2 a (show (((16 - y1) * 17) + 8).toNat ≤ n from by omega) hv hf (show 0 ≤ y1 from by omega) (show y1 ≤ 15 from by omega) (show 0 ≤ y2 from by omega) (show y2 ≤ 6 from by omega) (show a 146 25 ≤ 6 from by omega) (show (a 146 23) + (a 146 25) ≤ a 146 22 from by omega) (show a0 146 23 ≤ a 146 23 from by omega) (show (y1 = 2 → y2 = 3) from by omega) (show 2 ≤ y2 from by omega) (show ((a0 146 23 < a0 146 22 ∧ ¬ a0 164 ((a0 146 23).toNat) = 32) → a 146 23 = a0 146 23) from by omega)
      ·
        have h1261_ : jxw (y2 + 1) = y2 + 1 := jxw_id (by omega) (by omega)
        exact ih96 y1 (jxw (y2 + 1)) a (show (((((16 - y1) * 17) + 8) + ((6 - (jxw (y2 + 1))) * 1)) + 0).toNat < n from by omega) hv hf (show 0 ≤ y1 from by omega) (show y1 ≤ 15 from by omega) (show 0 ≤ jxw (y2 + 1) from by omega) (show jxw (y2 + 1) ≤ 6 from by omega) (show a 146 25 ≤ 6 from by omega) (show (a 146 23) + (a 146 25) ≤ a 146 22 from by omega) (show a0 146 23 ≤ a 146 23 from by omega) (show (y1 = 2 → jxw (y2 + 1) ≤ 3) from by omega) (show ((a0 146 23 < a0 146 22 ∧ ¬ a0 164 ((a0 146 23).toNat) = 32) → a 146 23 = a0 146 23) from by omega)
    ·
      exact hc122 y1 y2 a (show (((16 - y1) * 17) + 8).toNat ≤ n from by omega) hv hf (show 0 ≤ y1 from by omega) (show y1 ≤ 15 from by omega) (show 0 ≤ y2 from by omega) (show y2 ≤ 6 from by omega) (show a 146 25 ≤ 6 from by omega) (show (a 146 23) + (a 146 25) ≤ a 146 22 from by omega) (show a0 146 23 ≤ a 146 23 from by omega) (show (y1 = 2 → y2 = 3) from by omega) (show 2 ≤ y2 from by omega) (show ((a0 146 23 < a0 146 22 ∧ ¬ a0 164 ((a0 146 23).toNat) = 32) → a 146 23 = a0 146 23) from by omega)
  have hc79 : ∀ (y1 : Int) (a : Nat → Nat → Int), (((16 - y1) * 17) + 16).toNat ≤ n → iv a → jfr jW_X12_wordHere a0 a → 0 ≤ y1 → y1 ≤ 16 → (a 146 23) + (a 146 25) ≤ a 146 22 → a0 146 23 ≤ a 146 23 → ((a0 146 23 < a0 146 22 ∧ ¬ a0 164 ((a0 146 23).toNat) = 32) → a 146 23 = a0 146 23) → jt (jxX E d 216 79 [some (.inr (.inr (.inl 146))), some (.inl y1), none, none, none] [] (jxSH, a, b0)) (jQ_X12_wordHere a0 b0) := by
    intro y1 a hm hv hf hi0 hi1 hi2 hi3 hi4
    refine jt_eq (bq_X12_wordHere_79 E d y1 a b0) ?_
    have h1262_ := iv_get hv (k := 146) (j := 23) (l := 0) (u := 200) rfl
    have h1263_ := iv_get hv (k := 146) (j := 25) (l := 0) (u := 200) rfl
    have h1264_ := iv_get hv (k := 146) (j := 22) (l := 0) (u := 200) rfl
    have h1265_ : a 146 22 = a0 146 22 := hf 146 22 rfl
    have h1266_ := iv_get hv0 (k := 146) (j := 22) (l := 0) (u := 200) rfl
    have h1267_ := iv_get hv0 (k := 146) (j := 23) (l := 0) (u := 200) rfl
    have h1268_ := iv_get hv0 (k := 164) (j := (a0 146 23).toNat) (l := (-128)) (u := 127) rfl
    refine jt_ite (fun c1269_ => ?_) (fun c1269_ => ?_)
    ·
      refine jt_ite (fun c1270_ => ?_) (fun c1270_ => ?_)
      ·
        exact jt_rI ⟨hv, hf, rfl, (show (a 146 23) + (a 146 25) ≤ a 146 22 from by omega), (show a0 146 23 ≤ a 146 23 from by omega), (show 0 - 1 ≤ (-1) from by omega), (show (-1) ≤ 15 from by omega), (show ((-1) = 2 → a 146 25 = 3) from by omega), (show (0 ≤ (-1) → 2 ≤ a 146 25) from by omega), (show ((a0 146 23 < a0 146 22 ∧ ¬ a0 164 ((a0 146 23).toNat) = 32) → a 146 23 = a0 146 23) from by omega)⟩
      ·
        exact hc96 y1 0 a (show (((((16 - y1) * 17) + 8) + ((6 - 0) * 1)) + 0).toNat ≤ n from by omega) hv hf (show 0 ≤ y1 from by omega) (show y1 ≤ 15 from by omega) (show 0 ≤ 0 from by omega) (show 0 ≤ 6 from by omega) (show a 146 25 ≤ 6 from by omega) (show (a 146 23) + (a 146 25) ≤ a 146 22 from by omega) (show a0 146 23 ≤ a 146 23 from by omega) (show (y1 = 2 → 0 ≤ 3) from by omega) (show ((a0 146 23 < a0 146 22 ∧ ¬ a0 164 ((a0 146 23).toNat) = 32) → a 146 23 = a0 146 23) from by omega)
    ·
      exact jt_rI ⟨hv, hf, rfl, (show (a 146 23) + (a 146 25) ≤ a 146 22 from by omega), (show a0 146 23 ≤ a 146 23 from by omega), (show 0 - 1 ≤ (-1) from by omega), (show (-1) ≤ 15 from by omega), (show ((-1) = 2 → a 146 25 = 3) from by omega), (show (0 ≤ (-1) → 2 ≤ a 146 25) from by omega), (show ((a0 146 23 < a0 146 22 ∧ ¬ a0 164 ((a0 146 23).toNat) = 32) → a 146 23 = a0 146 23) from by omega)⟩
  exact ⟨hc176, hc180, hc139, hc122, hc96, hc79⟩
theorem cp_X12_wordHere_77 (E : jxE) (d : Nat) (hd : Nat.ble 2 (d + 1) = true) (a0 b0 : Nat → Nat → Int) (hv0 : iv a0) (hp0 : a0 146 23 ≤ a0 146 22) : ∀ (a : Nat → Nat → Int), iv a → jfr jW_X12_wordHere a0 a → (a 146 23) + (a 146 25) ≤ a 146 22 → a0 146 23 ≤ a 146 23 → ((a0 146 23 < a0 146 22 ∧ ¬ a0 164 ((a0 146 23).toNat) = 32) → a 146 23 = a0 146 23) → jt (jxX E d 216 77 [some (.inr (.inr (.inl 146))), none, none, none, none] [] (jxSH, a, b0)) (jQ_X12_wordHere a0 b0) := by
  intro a hv hf hi0 hi1 hi2
  refine jt_eq (bq_X12_wordHere_77 E d a b0) ?_
  have h1271_ := iv_get hv (k := 146) (j := 23) (l := 0) (u := 200) rfl
  have h1272_ := iv_get hv (k := 146) (j := 25) (l := 0) (u := 200) rfl
  have h1273_ := iv_get hv (k := 146) (j := 22) (l := 0) (u := 200) rfl
  have h1274_ : a 146 22 = a0 146 22 := hf 146 22 rfl
  have h1275_ := iv_get hv0 (k := 146) (j := 22) (l := 0) (u := 200) rfl
  have h1276_ := iv_get hv0 (k := 146) (j := 23) (l := 0) (u := 200) rfl
  have h1277_ := iv_get hv0 (k := 164) (j := (a0 146 23).toNat) (l := (-128)) (u := 127) rfl
  exact (cp_X12_wordHere_79 E d hd a0 b0 hv0 hp0 _).2.2.2.2.2 0 a (Nat.le_refl _) hv hf (show 0 ≤ 0 from by omega) (show 0 ≤ 16 from by omega) (show (a 146 23) + (a 146 25) ≤ a 146 22 from by omega) (show a0 146 23 ≤ a 146 23 from by omega) (show ((a0 146 23 < a0 146 22 ∧ ¬ a0 164 ((a0 146 23).toNat) = 32) → a 146 23 = a0 146 23) from by omega)
theorem cp_X12_wordHere_10 (E : jxE) (d : Nat) (hd : Nat.ble 2 (d + 1) = true) (a0 b0 : Nat → Nat → Int) (hv0 : iv a0) (hp0 : a0 146 23 ≤ a0 146 22) : ∀ n : Nat, (∀ (a : Nat → Nat → Int), (((((a 146 22) - (a 146 23)) - (a 146 25)) * 2) + 1).toNat ≤ n → iv a → jfr jW_X12_wordHere a0 a → 1 ≤ a 146 22 → 1 ≤ a 146 25 → (a 146 23) + (a 146 25) ≤ a 146 22 → a0 146 23 ≤ a 146 23 → ((a0 146 23 < a0 146 22 ∧ ¬ a0 164 ((a0 146 23).toNat) = 32) → a 146 23 = a0 146 23) → jt (jxX E d 216 74 [some (.inr (.inr (.inl 146))), none, none, none, none] [] (jxSH, a, b0)) (jQ_X12_wordHere a0 b0)) ∧ (∀ (a : Nat → Nat → Int), (((((a 146 22) - (a 146 23)) - (a 146 25)) * 2) + 0).toNat ≤ n → iv a → jfr jW_X12_wordHere a0 a → 1 ≤ a 146 22 → (a 146 23) + (a 146 25) ≤ a 146 22 → a0 146 23 ≤ a 146 23 → (a 146 23) + (a 146 25) < a 146 22 → ((a0 146 23 < a0 146 22 ∧ ¬ a0 164 ((a0 146 23).toNat) = 32) → a 146 23 = a0 146 23) → jt (jxX E d 216 45 [some (.inr (.inr (.inl 146))), none, none, none, none] [] (jxSH, a, b0)) (jQ_X12_wordHere a0 b0)) ∧ (∀ (a : Nat → Nat → Int), (((((a 146 22) - (a 146 23)) - (a 146 25)) * 2) + 0).toNat ≤ n → iv a → jfr jW_X12_wordHere a0 a → (a 146 23) + (a 146 25) ≤ a 146 22 → a0 146 23 ≤ a 146 23 → ((a0 146 23 < a0 146 22 ∧ ¬ a0 164 ((a0 146 23).toNat) = 32) → a 146 23 = a0 146 23) → jt (jxX E d 216 10 [some (.inr (.inr (.inl 146))), none, none, none, none] [] (jxSH, a, b0)) (jQ_X12_wordHere a0 b0)) := by
  refine jx_ind fun n ih => ?_
  have ih74 : ∀ (a : Nat → Nat → Int), (((((a 146 22) - (a 146 23)) - (a 146 25)) * 2) + 1).toNat < n → iv a → jfr jW_X12_wordHere a0 a → 1 ≤ a 146 22 → 1 ≤ a 146 25 → (a 146 23) + (a 146 25) ≤ a 146 22 → a0 146 23 ≤ a 146 23 → ((a0 146 23 < a0 146 22 ∧ ¬ a0 164 ((a0 146 23).toNat) = 32) → a 146 23 = a0 146 23) → jt (jxX E d 216 74 [some (.inr (.inr (.inl 146))), none, none, none, none] [] (jxSH, a, b0)) (jQ_X12_wordHere a0 b0) := fun a hlt i0 i1 i2 i3 i4 i5 i6 => (ih _ hlt).1 a (Nat.le_refl _) i0 i1 i2 i3 i4 i5 i6
  have ih45 : ∀ (a : Nat → Nat → Int), (((((a 146 22) - (a 146 23)) - (a 146 25)) * 2) + 0).toNat < n → iv a → jfr jW_X12_wordHere a0 a → 1 ≤ a 146 22 → (a 146 23) + (a 146 25) ≤ a 146 22 → a0 146 23 ≤ a 146 23 → (a 146 23) + (a 146 25) < a 146 22 → ((a0 146 23 < a0 146 22 ∧ ¬ a0 164 ((a0 146 23).toNat) = 32) → a 146 23 = a0 146 23) → jt (jxX E d 216 45 [some (.inr (.inr (.inl 146))), none, none, none, none] [] (jxSH, a, b0)) (jQ_X12_wordHere a0 b0) := fun a hlt i0 i1 i2 i3 i4 i5 i6 => (ih _ hlt).2.1 a (Nat.le_refl _) i0 i1 i2 i3 i4 i5 i6
  have ih10 : ∀ (a : Nat → Nat → Int), (((((a 146 22) - (a 146 23)) - (a 146 25)) * 2) + 0).toNat < n → iv a → jfr jW_X12_wordHere a0 a → (a 146 23) + (a 146 25) ≤ a 146 22 → a0 146 23 ≤ a 146 23 → ((a0 146 23 < a0 146 22 ∧ ¬ a0 164 ((a0 146 23).toNat) = 32) → a 146 23 = a0 146 23) → jt (jxX E d 216 10 [some (.inr (.inr (.inl 146))), none, none, none, none] [] (jxSH, a, b0)) (jQ_X12_wordHere a0 b0) := fun a hlt i0 i1 i2 i3 i4 => (ih _ hlt).2.2 a (Nat.le_refl _) i0 i1 i2 i3 i4
  have hc74 : ∀ (a : Nat → Nat → Int), (((((a 146 22) - (a 146 23)) - (a 146 25)) * 2) + 1).toNat ≤ n → iv a → jfr jW_X12_wordHere a0 a → 1 ≤ a 146 22 → 1 ≤ a 146 25 → (a 146 23) + (a 146 25) ≤ a 146 22 → a0 146 23 ≤ a 146 23 → ((a0 146 23 < a0 146 22 ∧ ¬ a0 164 ((a0 146 23).toNat) = 32) → a 146 23 = a0 146 23) → jt (jxX E d 216 74 [some (.inr (.inr (.inl 146))), none, none, none, none] [] (jxSH, a, b0)) (jQ_X12_wordHere a0 b0) := by
    intro a hm hv hf hi0 hi1 hi2 hi3 hi4
    refine jt_eq (bq_X12_wordHere_74 E d a b0) ?_
    have h1278_ := iv_get hv (k := 146) (j := 22) (l := 0) (u := 200) rfl
    have h1279_ : a 146 22 = a0 146 22 := hf 146 22 rfl
    have h1280_ := iv_get hv0 (k := 146) (j := 22) (l := 0) (u := 200) rfl
    have h1281_ := iv_get hv (k := 146) (j := 25) (l := 0) (u := 200) rfl
    have h1282_ := iv_get hv (k := 146) (j := 23) (l := 0) (u := 200) rfl
    have h1283_ := iv_get hv0 (k := 146) (j := 23) (l := 0) (u := 200) rfl
    have h1284_ := iv_get hv0 (k := 164) (j := (a0 146 23).toNat) (l := (-128)) (u := 127) rfl
    exact ih10 a (show (((((a 146 22) - (a 146 23)) - (a 146 25)) * 2) + 0).toNat < n from by omega) hv hf (show (a 146 23) + (a 146 25) ≤ a 146 22 from by omega) (show a0 146 23 ≤ a 146 23 from by omega) (show ((a0 146 23 < a0 146 22 ∧ ¬ a0 164 ((a0 146 23).toNat) = 32) → a 146 23 = a0 146 23) from by omega)
  have hc45 : ∀ (a : Nat → Nat → Int), (((((a 146 22) - (a 146 23)) - (a 146 25)) * 2) + 0).toNat ≤ n → iv a → jfr jW_X12_wordHere a0 a → 1 ≤ a 146 22 → (a 146 23) + (a 146 25) ≤ a 146 22 → a0 146 23 ≤ a 146 23 → (a 146 23) + (a 146 25) < a 146 22 → ((a0 146 23 < a0 146 22 ∧ ¬ a0 164 ((a0 146 23).toNat) = 32) → a 146 23 = a0 146 23) → jt (jxX E d 216 45 [some (.inr (.inr (.inl 146))), none, none, none, none] [] (jxSH, a, b0)) (jQ_X12_wordHere a0 b0) := by
    intro a hm hv hf hi0 hi1 hi2 hi3 hi4
    refine jt_eq (bq_X12_wordHere_45 E d a b0) ?_
    have h1285_ := iv_get hv (k := 146) (j := 22) (l := 0) (u := 200) rfl
    have h1286_ : a 146 22 = a0 146 22 := hf 146 22 rfl
    have h1287_ := iv_get hv0 (k := 146) (j := 22) (l := 0) (u := 200) rfl
    have h1288_ := iv_get hv (k := 146) (j := 23) (l := 0) (u := 200) rfl
    have h1289_ := iv_get hv (k := 146) (j := 25) (l := 0) (u := 200) rfl
    have h1290_ := iv_get hv0 (k := 146) (j := 23) (l := 0) (u := 200) rfl
    have h1291_ := iv_get hv0 (k := 164) (j := (a0 146 23).toNat) (l := (-128)) (u := 127) rfl
    have h1292_ : jxw ((a 146 23) + (a 146 25)) = (a 146 23) + (a 146 25) := jxw_id (by omega) (by omega)
    refine jt_grd (by omega) ?_
    have h1293_ := iv_get hv (k := 164) (j := (jxw ((a 146 23) + (a 146 25))).toNat) (l := (-128)) (u := 127) rfl
    have h1294_ : a 164 ((jxw ((a 146 23) + (a 146 25))).toNat) = a0 164 ((jxw ((a 146 23) + (a 146 25))).toNat) := hf 164 ((jxw ((a 146 23) + (a 146 25))).toNat) rfl
    have h1295_ := iv_get hv0 (k := 164) (j := (jxw ((a 146 23) + (a 146 25))).toNat) (l := (-128)) (u := 127) rfl
    refine jt_ite (fun c1296_ => ?_) (fun c1296_ => ?_)
    ·
      exact cp_X12_wordHere_77 E d hd a0 b0 hv0 hp0 a hv hf (show (a 146 23) + (a 146 25) ≤ a 146 22 from by omega) (show a0 146 23 ≤ a 146 23 from by omega) (show ((a0 146 23 < a0 146 22 ∧ ¬ a0 164 ((a0 146 23).toNat) = 32) → a 146 23 = a0 146 23) from by omega)
    ·
      have h1298_ : jxw ((a 146 25) + 1) = (a 146 25) + 1 := jxw_id (by omega) (by omega)
      have hv1297_ : iv (jxu a 146 25 (jxw ((a 146 25) + 1))) := iv_put hv (l := 0) (u := 200) rfl (by omega) (by omega)
      have hf1299_ : jfr jW_X12_wordHere a0 (jxu a 146 25 (jxw ((a 146 25) + 1))) := jfr_put hf rfl
      exact hc74 (jxu a 146 25 (jxw ((a 146 25) + 1))) (show (((((a 146 22) - (a 146 23)) - (jxw ((a 146 25) + 1))) * 2) + 1).toNat ≤ n from by omega) hv1297_ hf1299_ (show 1 ≤ a 146 22 from by omega) (show 1 ≤ jxw ((a 146 25) + 1) from by omega) (show (a 146 23) + (jxw ((a 146 25) + 1)) ≤ a 146 22 from by omega) (show a0 146 23 ≤ a 146 23 from by omega) (show ((a0 146 23 < a0 146 22 ∧ ¬ a0 164 ((a0 146 23).toNat) = 32) → a 146 23 = a0 146 23) from by omega)
  have hc10 : ∀ (a : Nat → Nat → Int), (((((a 146 22) - (a 146 23)) - (a 146 25)) * 2) + 0).toNat ≤ n → iv a → jfr jW_X12_wordHere a0 a → (a 146 23) + (a 146 25) ≤ a 146 22 → a0 146 23 ≤ a 146 23 → ((a0 146 23 < a0 146 22 ∧ ¬ a0 164 ((a0 146 23).toNat) = 32) → a 146 23 = a0 146 23) → jt (jxX E d 216 10 [some (.inr (.inr (.inl 146))), none, none, none, none] [] (jxSH, a, b0)) (jQ_X12_wordHere a0 b0) := by
    intro a hm hv hf hi0 hi1 hi2
    refine jt_eq (bq_X12_wordHere_10 E d a b0) ?_
    have h1300_ := iv_get hv (k := 146) (j := 23) (l := 0) (u := 200) rfl
    have h1301_ := iv_get hv (k := 146) (j := 25) (l := 0) (u := 200) rfl
    have h1302_ := iv_get hv (k := 146) (j := 22) (l := 0) (u := 200) rfl
    have h1303_ : a 146 22 = a0 146 22 := hf 146 22 rfl
    have h1304_ := iv_get hv0 (k := 146) (j := 22) (l := 0) (u := 200) rfl
    have h1305_ := iv_get hv0 (k := 146) (j := 23) (l := 0) (u := 200) rfl
    have h1306_ := iv_get hv0 (k := 164) (j := (a0 146 23).toNat) (l := (-128)) (u := 127) rfl
    have h1307_ : jxw ((a 146 23) + (a 146 25)) = (a 146 23) + (a 146 25) := jxw_id (by omega) (by omega)
    refine jt_ite (fun c1308_ => ?_) (fun c1308_ => ?_)
    ·
      refine jt_grd (by omega) ?_
      have h1309_ := iv_get hv (k := 164) (j := (jxw ((a 146 23) + (a 146 25))).toNat) (l := (-128)) (u := 127) rfl
      have h1310_ : a 164 ((jxw ((a 146 23) + (a 146 25))).toNat) = a0 164 ((jxw ((a 146 23) + (a 146 25))).toNat) := hf 164 ((jxw ((a 146 23) + (a 146 25))).toNat) rfl
      have h1311_ := iv_get hv0 (k := 164) (j := (jxw ((a 146 23) + (a 146 25))).toNat) (l := (-128)) (u := 127) rfl
      refine jt_ite (fun c1312_ => ?_) (fun c1312_ => ?_)
      ·
        exact cp_X12_wordHere_77 E d hd a0 b0 hv0 hp0 a hv hf (show (a 146 23) + (a 146 25) ≤ a 146 22 from by omega) (show a0 146 23 ≤ a 146 23 from by omega) (show ((a0 146 23 < a0 146 22 ∧ ¬ a0 164 ((a0 146 23).toNat) = 32) → a 146 23 = a0 146 23) from by omega)
      ·
        exact hc45 a (show (((((a 146 22) - (a 146 23)) - (a 146 25)) * 2) + 0).toNat ≤ n from by omega) hv hf (show 1 ≤ a 146 22 from by omega) (show (a 146 23) + (a 146 25) ≤ a 146 22 from by omega) (show a0 146 23 ≤ a 146 23 from by omega) (show (a 146 23) + (a 146 25) < a 146 22 from by omega) (show ((a0 146 23 < a0 146 22 ∧ ¬ a0 164 ((a0 146 23).toNat) = 32) → a 146 23 = a0 146 23) from by omega)
    ·
      exact cp_X12_wordHere_77 E d hd a0 b0 hv0 hp0 a hv hf (show (a 146 23) + (a 146 25) ≤ a 146 22 from by omega) (show a0 146 23 ≤ a 146 23 from by omega) (show ((a0 146 23 < a0 146 22 ∧ ¬ a0 164 ((a0 146 23).toNat) = 32) → a 146 23 = a0 146 23) from by omega)
  exact ⟨hc74, hc45, hc10⟩
theorem sp_X12_wordHere (E : jxE) (d : Nat) (hd : Nat.ble 2 d = true) (a0 b0 : Nat → Nat → Int) (hv0 : iv a0) (hp0 : a0 146 23 ≤ a0 146 22) : jt (jxC E d 216 [.inr (.inr (.inl 146))] (jxSH, a0, b0)) (jQ_X12_wordHere a0 b0) := by
  obtain ⟨d, rfl⟩ := jd_succ hd
  refine jt_eq (bq_X12_wordHere E d a0 b0) ?_
  have h1313_ := iv_get hv0 (k := 146) (j := 23) (l := 0) (u := 200) rfl
  have h1314_ := iv_get hv0 (k := 146) (j := 22) (l := 0) (u := 200) rfl
  refine jt_bI (sp_X12_see E d (jd_le hd rfl) a0 b0 hv0 (show a0 146 23 ≤ a0 146 22 from by omega)) (fun r1315_ a1315_ b1315_ h1315_ => ?_)
  obtain ⟨hv1315_, hf1315_, rfl, hq1315_0, hq1315_1, hq1315_2, hq1315_3⟩ := h1315_
  have h1316_ := iv_get hv1315_ (k := 146) (j := 23) (l := 0) (u := 200) rfl
  have h1317_ := iv_get hv1315_ (k := 164) (j := (a1315_ 146 23).toNat) (l := (-128)) (u := 127) rfl
  have h1318_ : a1315_ 164 ((a1315_ 146 23).toNat) = a0 164 ((a1315_ 146 23).toNat) := hf1315_ 164 ((a1315_ 146 23).toNat) rfl
  have h1319_ := iv_get hv0 (k := 164) (j := (a1315_ 146 23).toNat) (l := (-128)) (u := 127) rfl
  have h1320_ := iv_get hv0 (k := 164) (j := (a0 146 23).toNat) (l := (-128)) (u := 127) rfl
  have hv1321_ : iv (jxu a1315_ 146 25 0) := iv_put hv1315_ (l := 0) (u := 200) rfl (by omega) (by omega)
  have hf1322_ : jfr jW_X12_wordHere a0 a1315_ := jfr_tr (jfr_rf _ _) hf1315_ rfl
  have hf1323_ : jfr jW_X12_wordHere a0 (jxu a1315_ 146 25 0) := jfr_put hf1322_ rfl
  have h1324_ := iv_get hv1315_ (k := 146) (j := 22) (l := 0) (u := 200) rfl
  have h1325_ : a1315_ 146 22 = a0 146 22 := hf1315_ 146 22 rfl
  exact (cp_X12_wordHere_10 E d hd a0 b0 hv0 hp0 _).2.2 (jxu a1315_ 146 25 0) (Nat.le_refl _) hv1321_ hf1323_ (show (a1315_ 146 23) + 0 ≤ a1315_ 146 22 from by omega) (show a0 146 23 ≤ a1315_ 146 23 from by omega) (show ((a0 146 23 < a0 146 22 ∧ ¬ a0 164 ((a0 146 23).toNat) = 32) → a1315_ 146 23 = a0 146 23) from by omega)
def jW_X12_writes : List (Nat × Nat) := [(146, 32), (168, 9999)]
abbrev jQ_X12_writes (x1 : Int) (a0 b0 : Nat → Nat → Int) : List jxV → (Nat → Nat → Int) → (Nat → Nat → Int) → Prop := rV (fun a b => (iv a) ∧ (jfr jW_X12_writes a0 a) ∧ (b0 = b) ∧ (a 146 32 = (a0 146 32) + 1) ∧ (a 168 (a0 146 32).toNat = x1) ∧ (∀ k, ¬ k = (a0 146 32).toNat → a 168 k = a0 168 k))
theorem sp_X12_writes (E : jxE) (d : Nat) (hd : Nat.ble 1 d = true) (x1 : Int) (a0 b0 : Nat → Nat → Int) (hv0 : iv a0) (hp0 : a0 146 32 < 64) : jt (jxC E d 218 [.inr (.inr (.inl 146)), .inl x1] (jxSH, a0, b0)) (jQ_X12_writes x1 a0 b0) := by
  obtain ⟨d, rfl⟩ := jd_succ hd
  refine jt_eq (bq_X12_writes E d x1 a0 b0) ?_
  have h1326_ := iv_get hv0 (k := 146) (j := 32) (l := 0) (u := 64) rfl
  refine jt_grd (by omega) ?_
  have hv1327_ : iv (jxu a0 168 ((a0 146 32).toNat) x1) := iv_putf hv0 rfl
  have h1329_ : jxw ((a0 146 32) + 1) = (a0 146 32) + 1 := jxw_id (by omega) (by omega)
  have hv1328_ : iv (jxu (jxu a0 168 ((a0 146 32).toNat) x1) 146 32 (jxw ((a0 146 32) + 1))) := iv_put hv1327_ (l := 0) (u := 64) rfl (by omega) (by omega)
  have hf1330_ : jfr jW_X12_writes a0 (jxu a0 168 ((a0 146 32).toNat) x1) := jfr_put (jfr_rf _ _) rfl
  have hf1331_ : jfr jW_X12_writes a0 (jxu (jxu a0 168 ((a0 146 32).toNat) x1) 146 32 (jxw ((a0 146 32) + 1))) := jfr_put hf1330_ rfl
  exact jt_rV ⟨hv1328_, hf1331_, rfl, (show jxw ((a0 146 32) + 1) = (a0 146 32) + 1 from by omega), (by simp [jxu]), (by intro k hk; simp [jxu, hk])⟩
def jWat : List (Nat × Nat) := [(146, 23), (146, 24), (146, 26), (146, 27), (146, 33)]
def jW_X12_atom : List (Nat × Nat) := [(146, 23), (146, 24), (146, 26), (146, 27), (146, 32), (146, 33), (168, 9999)]
abbrev jQ_X12_atom (x1 : Int) (a0 b0 : Nat → Nat → Int) : List jxV → (Nat → Nat → Int) → (Nat → Nat → Int) → Prop := rI (fun r a b => (iv a) ∧ (jfr jW_X12_atom a0 a) ∧ (b0 = b) ∧ ((0 ≤ r ∧ r ≤ 1)) ∧ (a0 146 23 ≤ a 146 23) ∧ (a 146 23 ≤ a 146 22) ∧ ((r = 1 → (a0 146 23) + 2 ≤ a 146 23)) ∧ (((r = 0 ∧ a 146 32 = a0 146 32) ∨ (r = 1 ∧ a 146 32 = (a0 146 32) + 1))) ∧ (r = 1 → 1024 ≤ a 168 (a0 146 32).toNat) ∧ (∀ k : Nat, (k : Int) < a0 146 32 → a 168 k = a0 168 k))
theorem cp_X12_atom_113 (E : jxE) (d : Nat) (hd : Nat.ble 3 (d + 1) = true) (x1 : Int) (a0 b0 : Nat → Nat → Int) (hv0 : iv a0) (hp0 : (a0 146 23) + (a0 146 25) ≤ a0 146 22) (hp1 : (0 ≤ x1 → 2 ≤ a0 146 25)) (hp2 : a0 146 32 < 64) (hp3 : x1 ≤ 15) (hp4 : 0 - 1 ≤ x1) : ∀ (y1 : Int) (a : Nat → Nat → Int), iv a → jfr jW_X12_atom a0 a → 3 ≤ y1 → y1 ≤ 9 → 1 ≤ a 146 33 → a 146 23 ≤ a 146 22 → (a0 146 23) + 2 ≤ a 146 23 → 3 ≤ y1 → y1 ≤ 9 → a 146 32 = a0 146 32 → (jfr jWat a0 a) → jt (jxX E d 220 113 [some (.inr (.inr (.inl 146))), some (.inl y1)] [] (jxSH, a, b0)) (jQ_X12_atom x1 a0 b0) := by
  intro y1 a hv hf hi0 hi1 hi2 hi3 hi4 hi5 hi6 hi7 hfat
  refine jt_eq (bq_X12_atom_113 E d y1 a b0) ?_
  have h1332_ := iv_get hv (k := 146) (j := 33) (l := 0) (u := 12) rfl
  have h1333_ := iv_get hv (k := 146) (j := 23) (l := 0) (u := 200) rfl
  have h1334_ := iv_get hv (k := 146) (j := 22) (l := 0) (u := 200) rfl
  have h1335_ : a 146 22 = a0 146 22 := hf 146 22 rfl
  have h1336_ := iv_get hv0 (k := 146) (j := 22) (l := 0) (u := 200) rfl
  have h1337_ := iv_get hv0 (k := 146) (j := 23) (l := 0) (u := 200) rfl
  have h1338_ := iv_get hv (k := 146) (j := 32) (l := 0) (u := 64) rfl
  have h1339_ := iv_get hv0 (k := 146) (j := 32) (l := 0) (u := 64) rfl
  refine jt_bV (sp_X12_writes E d (jd_le hd rfl) (jxw ((jxw (1024 * (jxw (1 + y1)))) + (a 146 26))) a b0 hv (show a 146 32 < 64 from by omega)) (fun a1340_ b1340_ h1340_ => ?_)
  obtain ⟨hv1340_, hf1340_, rfl, hq1340_0, hq1340_1, hq1340_2⟩ := h1340_
  have h1341_ := iv_get hv1340_ (k := 146) (j := 32) (l := 0) (u := 64) rfl
  have i26_1340 := iv_get hv (k := 146) (j := 26) (l := 0) (u := 999) rfl
  have hA1340 : jxw ((jxw (1024 * (jxw (1 + y1)))) + (a 146 26)) = 1024 * (1 + y1) + a 146 26 := by
    have := iv_get hv (k := 146) (j := 26) (l := 0) (u := 999) rfl
    rw [jxw_id (x := 1 + y1) (by omega) (by omega), jxw_id (x := 1024 * (1 + y1)) (by omega) (by omega), jxw_id (by omega) (by omega)]
  have hf1342_ : jfr jW_X12_atom a0 a1340_ := jfr_tr hf hf1340_ rfl
  have h1343_ := iv_get hv1340_ (k := 146) (j := 23) (l := 0) (u := 200) rfl
  have h1344_ : a1340_ 146 23 = a 146 23 := hf1340_ 146 23 rfl
  have h1345_ := iv_get hv1340_ (k := 146) (j := 22) (l := 0) (u := 200) rfl
  have h1346_ : a1340_ 146 22 = a 146 22 := hf1340_ 146 22 rfl
  exact jt_rI ⟨hv1340_, hf1342_, rfl, (show (0 ≤ 1 ∧ 1 ≤ 1) from by omega), (show a0 146 23 ≤ a1340_ 146 23 from by omega), (show a1340_ 146 23 ≤ a1340_ 146 22 from by omega), (show (1 = 1 → (a0 146 23) + 2 ≤ a1340_ 146 23) from by omega), (show ((1 = 0 ∧ a1340_ 146 32 = a0 146 32) ∨ (1 = 1 ∧ a1340_ 146 32 = (a0 146 32) + 1)) from by omega), (fun _ => by rw [show (a0 146 32).toNat = (a 146 32).toNat from (by omega), hq1340_1, hA1340]; omega), (fun k hk => by rw [hq1340_2 k (by omega)]; exact hfat 168 k rfl)⟩
theorem cp_X12_atom_105 (E : jxE) (d : Nat) (hd : Nat.ble 3 (d + 1) = true) (x1 : Int) (a0 b0 : Nat → Nat → Int) (hv0 : iv a0) (hp0 : (a0 146 23) + (a0 146 25) ≤ a0 146 22) (hp1 : (0 ≤ x1 → 2 ≤ a0 146 25)) (hp2 : a0 146 32 < 64) (hp3 : x1 ≤ 15) (hp4 : 0 - 1 ≤ x1) : ∀ (y1 s1 s2 : Int) (a : Nat → Nat → Int), iv a → jfr jW_X12_atom a0 a → 3 ≤ y1 → y1 ≤ 8 → 0 ≤ s1 → s1 ≤ 0 → 15 ≤ s2 → s2 ≤ 999 → 1 ≤ a 146 33 → a 146 23 ≤ a 146 22 → (a0 146 23) + 2 ≤ a 146 23 → 3 ≤ y1 → y1 ≤ 9 → a 146 32 = a0 146 32 → (jfr jWat a0 a) → jt (jxX E d 220 105 [some (.inr (.inr (.inl 146))), some (.inl y1)] [.inl s2, .inl s1, .inr (.inr (.inl 146))] (jxSH, a, b0)) (jQ_X12_atom x1 a0 b0) := by
  intro y1 s1 s2 a hv hf hi0 hi1 hi2 hi3 hi4 hi5 hi6 hi7 hi8 hi9 hi10 hi11 hfat
  refine jt_eq (bq_X12_atom_105 E d y1 s1 s2 a b0) ?_
  have h1347_ := iv_get hv (k := 146) (j := 33) (l := 0) (u := 12) rfl
  have h1348_ := iv_get hv (k := 146) (j := 23) (l := 0) (u := 200) rfl
  have h1349_ := iv_get hv (k := 146) (j := 22) (l := 0) (u := 200) rfl
  have h1350_ : a 146 22 = a0 146 22 := hf 146 22 rfl
  have h1351_ := iv_get hv0 (k := 146) (j := 22) (l := 0) (u := 200) rfl
  have h1352_ := iv_get hv0 (k := 146) (j := 23) (l := 0) (u := 200) rfl
  have h1353_ := iv_get hv (k := 146) (j := 32) (l := 0) (u := 64) rfl
  have h1354_ := iv_get hv0 (k := 146) (j := 32) (l := 0) (u := 64) rfl
  refine jt_bI (sp_X12_number E d (jd_le hd rfl) s1 s2 a b0 hv (show a 146 23 ≤ a 146 22 from by omega)) (fun r1355_ a1355_ b1355_ h1355_ => ?_)
  obtain ⟨hv1355_, hf1355_, rfl, hq1355_0, hq1355_1, hq1355_2, hq1355_3⟩ := h1355_
  have h1356_ := iv_get hv1355_ (k := 146) (j := 23) (l := 0) (u := 200) rfl
  have h1357_ := iv_get hv1355_ (k := 146) (j := 26) (l := 0) (u := 999) rfl
  refine jt_ite (fun c1358_ => ?_) (fun c1358_ => ?_)
  ·
    have hf1359_ : jfr jW_X12_atom a0 a1355_ := jfr_tr hf hf1355_ rfl
    have h1360_ := iv_get hv1355_ (k := 146) (j := 22) (l := 0) (u := 200) rfl
    have h1361_ : a1355_ 146 22 = a 146 22 := hf1355_ 146 22 rfl
    have h1362_ := iv_get hv1355_ (k := 146) (j := 32) (l := 0) (u := 64) rfl
    have h1363_ : a1355_ 146 32 = a 146 32 := hf1355_ 146 32 rfl
    have hf1364_ : jfr jWat a0 a1355_ := jfr_tr hfat hf1355_ rfl
    exact jt_rI ⟨hv1355_, hf1359_, rfl, (show (0 ≤ 0 ∧ 0 ≤ 1) from by omega), (show a0 146 23 ≤ a1355_ 146 23 from by omega), (show a1355_ 146 23 ≤ a1355_ 146 22 from by omega), (show (0 = 1 → (a0 146 23) + 2 ≤ a1355_ 146 23) from by omega), (show ((0 = 0 ∧ a1355_ 146 32 = a0 146 32) ∨ (0 = 1 ∧ a1355_ 146 32 = (a0 146 32) + 1)) from by omega), (fun h => by omega), (fun k _ => hf1364_ 168 k rfl)⟩
  ·
    have hf1365_ : jfr jW_X12_atom a0 a1355_ := jfr_tr hf hf1355_ rfl
    have h1366_ := iv_get hv1355_ (k := 146) (j := 33) (l := 0) (u := 12) rfl
    have h1367_ : a1355_ 146 33 = a 146 33 := hf1355_ 146 33 rfl
    have h1368_ := iv_get hv1355_ (k := 146) (j := 22) (l := 0) (u := 200) rfl
    have h1369_ : a1355_ 146 22 = a 146 22 := hf1355_ 146 22 rfl
    have h1370_ := iv_get hv1355_ (k := 146) (j := 32) (l := 0) (u := 64) rfl
    have h1371_ : a1355_ 146 32 = a 146 32 := hf1355_ 146 32 rfl
    have hf1372_ : jfr jWat a0 a1355_ := jfr_tr hfat hf1355_ rfl
    exact cp_X12_atom_113 E d hd x1 a0 b0 hv0 hp0 hp1 hp2 hp3 hp4 y1 a1355_ hv1355_ hf1365_ (show 3 ≤ y1 from by omega) (show y1 ≤ 9 from by omega) (show 1 ≤ a1355_ 146 33 from by omega) (show a1355_ 146 23 ≤ a1355_ 146 22 from by omega) (show (a0 146 23) + 2 ≤ a1355_ 146 23 from by omega) (show 3 ≤ y1 from by omega) (show y1 ≤ 9 from by omega) (show a1355_ 146 32 = a0 146 32 from by omega) hf1372_
theorem cp_X12_atom_79 (E : jxE) (d : Nat) (hd : Nat.ble 3 (d + 1) = true) (x1 : Int) (a0 b0 : Nat → Nat → Int) (hv0 : iv a0) (hp0 : (a0 146 23) + (a0 146 25) ≤ a0 146 22) (hp1 : (0 ≤ x1 → 2 ≤ a0 146 25)) (hp2 : a0 146 32 < 64) (hp3 : x1 ≤ 15) (hp4 : 0 - 1 ≤ x1) : ∀ (y1 : Int) (a : Nat → Nat → Int), iv a → jfr jW_X12_atom a0 a → 3 ≤ y1 → y1 ≤ 8 → 1 ≤ a 146 33 → a 146 23 ≤ a 146 22 → (a0 146 23) + 2 ≤ a 146 23 → 3 ≤ y1 → y1 ≤ 9 → a 146 32 = a0 146 32 → (jfr jWat a0 a) → jt (jxX E d 220 79 [some (.inr (.inr (.inl 146))), some (.inl y1)] [] (jxSH, a, b0)) (jQ_X12_atom x1 a0 b0) := by
  intro y1 a hv hf hi0 hi1 hi2 hi3 hi4 hi5 hi6 hi7 hfat
  refine jt_eq (bq_X12_atom_79 E d y1 a b0) ?_
  have h1373_ := iv_get hv (k := 146) (j := 33) (l := 0) (u := 12) rfl
  have h1374_ := iv_get hv (k := 146) (j := 23) (l := 0) (u := 200) rfl
  have h1375_ := iv_get hv (k := 146) (j := 22) (l := 0) (u := 200) rfl
  have h1376_ : a 146 22 = a0 146 22 := hf 146 22 rfl
  have h1377_ := iv_get hv0 (k := 146) (j := 22) (l := 0) (u := 200) rfl
  have h1378_ := iv_get hv0 (k := 146) (j := 23) (l := 0) (u := 200) rfl
  have h1379_ := iv_get hv (k := 146) (j := 32) (l := 0) (u := 64) rfl
  have h1380_ := iv_get hv0 (k := 146) (j := 32) (l := 0) (u := 64) rfl
  refine jt_ite (fun c1381_ => ?_) (fun c1381_ => ?_)
  ·
    refine jt_ite (fun c1382_ => ?_) (fun c1382_ => ?_)
    ·
      exact cp_X12_atom_105 E d hd x1 a0 b0 hv0 hp0 hp1 hp2 hp3 hp4 y1 0 999 a hv hf (show 3 ≤ y1 from by omega) (show y1 ≤ 8 from by omega) (show 0 ≤ 0 from by omega) (show 0 ≤ 0 from by omega) (show 15 ≤ 999 from by omega) (show 999 ≤ 999 from by omega) (show 1 ≤ a 146 33 from by omega) (show a 146 23 ≤ a 146 22 from by omega) (show (a0 146 23) + 2 ≤ a 146 23 from by omega) (show 3 ≤ y1 from by omega) (show y1 ≤ 9 from by omega) (show a 146 32 = a0 146 32 from by omega) hfat
    ·
      exact cp_X12_atom_105 E d hd x1 a0 b0 hv0 hp0 hp1 hp2 hp3 hp4 y1 0 99 a hv hf (show 3 ≤ y1 from by omega) (show y1 ≤ 8 from by omega) (show 0 ≤ 0 from by omega) (show 0 ≤ 0 from by omega) (show 15 ≤ 99 from by omega) (show 99 ≤ 999 from by omega) (show 1 ≤ a 146 33 from by omega) (show a 146 23 ≤ a 146 22 from by omega) (show (a0 146 23) + 2 ≤ a 146 23 from by omega) (show 3 ≤ y1 from by omega) (show y1 ≤ 9 from by omega) (show a 146 32 = a0 146 32 from by omega) hfat
  ·
    exact cp_X12_atom_105 E d hd x1 a0 b0 hv0 hp0 hp1 hp2 hp3 hp4 y1 0 15 a hv hf (show 3 ≤ y1 from by omega) (show y1 ≤ 8 from by omega) (show 0 ≤ 0 from by omega) (show 0 ≤ 0 from by omega) (show 15 ≤ 15 from by omega) (show 15 ≤ 999 from by omega) (show 1 ≤ a 146 33 from by omega) (show a 146 23 ≤ a 146 22 from by omega) (show (a0 146 23) + 2 ≤ a 146 23 from by omega) (show 3 ≤ y1 from by omega) (show y1 ≤ 9 from by omega) (show a 146 32 = a0 146 32 from by omega) hfat
theorem cp_X12_atom_53 (E : jxE) (d : Nat) (hd : Nat.ble 3 (d + 1) = true) (x1 : Int) (a0 b0 : Nat → Nat → Int) (hv0 : iv a0) (hp0 : (a0 146 23) + (a0 146 25) ≤ a0 146 22) (hp1 : (0 ≤ x1 → 2 ≤ a0 146 25)) (hp2 : a0 146 32 < 64) (hp3 : x1 ≤ 15) (hp4 : 0 - 1 ≤ x1) : ∀ (y1 : Int) (a : Nat → Nat → Int), iv a → jfr jW_X12_atom a0 a → 3 ≤ y1 → y1 ≤ 9 → a 146 33 ≤ 11 → a 146 23 ≤ a 146 22 → (a0 146 23) + 2 ≤ a 146 23 → 3 ≤ y1 → y1 ≤ 9 → a 146 32 = a0 146 32 → (jfr jWat a0 a) → jt (jxX E d 220 53 [some (.inr (.inr (.inl 146))), some (.inl y1)] [] (jxSH, a, b0)) (jQ_X12_atom x1 a0 b0) := by
  intro y1 a hv hf hi0 hi1 hi2 hi3 hi4 hi5 hi6 hi7 hfat
  refine jt_eq (bq_X12_atom_53 E d y1 a b0) ?_
  have h1383_ := iv_get hv (k := 146) (j := 33) (l := 0) (u := 12) rfl
  have h1384_ := iv_get hv (k := 146) (j := 23) (l := 0) (u := 200) rfl
  have h1385_ := iv_get hv (k := 146) (j := 22) (l := 0) (u := 200) rfl
  have h1386_ : a 146 22 = a0 146 22 := hf 146 22 rfl
  have h1387_ := iv_get hv0 (k := 146) (j := 22) (l := 0) (u := 200) rfl
  have h1388_ := iv_get hv0 (k := 146) (j := 23) (l := 0) (u := 200) rfl
  have h1389_ := iv_get hv (k := 146) (j := 32) (l := 0) (u := 64) rfl
  have h1390_ := iv_get hv0 (k := 146) (j := 32) (l := 0) (u := 64) rfl
  refine jt_ite (fun c1391_ => ?_) (fun c1391_ => ?_)
  ·
    have h1393_ : jxw ((a 146 33) + 1) = (a 146 33) + 1 := jxw_id (by omega) (by omega)
    have hv1392_ : iv (jxu a 146 33 (jxw ((a 146 33) + 1))) := iv_put hv (l := 0) (u := 12) rfl (by omega) (by omega)
    have hv1394_ : iv (jxu (jxu a 146 33 (jxw ((a 146 33) + 1))) 146 26 0) := iv_put hv1392_ (l := 0) (u := 999) rfl (by omega) (by omega)
    have hf1395_ : jfr jW_X12_atom a0 (jxu a 146 33 (jxw ((a 146 33) + 1))) := jfr_put hf rfl
    have hf1396_ : jfr jW_X12_atom a0 (jxu (jxu a 146 33 (jxw ((a 146 33) + 1))) 146 26 0) := jfr_put hf1395_ rfl
    have hf1397_ : jfr jWat a0 (jxu a 146 33 (jxw ((a 146 33) + 1))) := jfr_put hfat rfl
    have hf1398_ : jfr jWat a0 (jxu (jxu a 146 33 (jxw ((a 146 33) + 1))) 146 26 0) := jfr_put hf1397_ rfl
    exact cp_X12_atom_113 E d hd x1 a0 b0 hv0 hp0 hp1 hp2 hp3 hp4 y1 (jxu (jxu a 146 33 (jxw ((a 146 33) + 1))) 146 26 0) hv1394_ hf1396_ (show 3 ≤ y1 from by omega) (show y1 ≤ 9 from by omega) (show 1 ≤ jxw ((a 146 33) + 1) from by omega) (show a 146 23 ≤ a 146 22 from by omega) (show (a0 146 23) + 2 ≤ a 146 23 from by omega) (show 3 ≤ y1 from by omega) (show y1 ≤ 9 from by omega) (show a 146 32 = a0 146 32 from by omega) hf1398_
  ·
    refine jt_ite (fun c1399_ => ?_) (fun c1399_ => ?_)
    ·
      have h1401_ : jxw ((a 146 33) + 1) = (a 146 33) + 1 := jxw_id (by omega) (by omega)
      have hv1400_ : iv (jxu a 146 33 (jxw ((a 146 33) + 1))) := iv_put hv (l := 0) (u := 12) rfl (by omega) (by omega)
      have hv1402_ : iv (jxu (jxu a 146 33 (jxw ((a 146 33) + 1))) 146 26 0) := iv_put hv1400_ (l := 0) (u := 999) rfl (by omega) (by omega)
      have hf1403_ : jfr jW_X12_atom a0 (jxu a 146 33 (jxw ((a 146 33) + 1))) := jfr_put hf rfl
      have hf1404_ : jfr jW_X12_atom a0 (jxu (jxu a 146 33 (jxw ((a 146 33) + 1))) 146 26 0) := jfr_put hf1403_ rfl
      have hf1405_ : jfr jWat a0 (jxu a 146 33 (jxw ((a 146 33) + 1))) := jfr_put hfat rfl
      have hf1406_ : jfr jWat a0 (jxu (jxu a 146 33 (jxw ((a 146 33) + 1))) 146 26 0) := jfr_put hf1405_ rfl
      exact cp_X12_atom_113 E d hd x1 a0 b0 hv0 hp0 hp1 hp2 hp3 hp4 y1 (jxu (jxu a 146 33 (jxw ((a 146 33) + 1))) 146 26 0) hv1402_ hf1404_ (show 3 ≤ y1 from by omega) (show y1 ≤ 9 from by omega) (show 1 ≤ jxw ((a 146 33) + 1) from by omega) (show a 146 23 ≤ a 146 22 from by omega) (show (a0 146 23) + 2 ≤ a 146 23 from by omega) (show 3 ≤ y1 from by omega) (show y1 ≤ 9 from by omega) (show a 146 32 = a0 146 32 from by omega) hf1406_
    ·
      have h1408_ : jxw ((a 146 33) + 1) = (a 146 33) + 1 := jxw_id (by omega) (by omega)
      have hv1407_ : iv (jxu a 146 33 (jxw ((a 146 33) + 1))) := iv_put hv (l := 0) (u := 12) rfl (by omega) (by omega)
      have hv1409_ : iv (jxu (jxu a 146 33 (jxw ((a 146 33) + 1))) 146 26 0) := iv_put hv1407_ (l := 0) (u := 999) rfl (by omega) (by omega)
      have hf1410_ : jfr jW_X12_atom a0 (jxu a 146 33 (jxw ((a 146 33) + 1))) := jfr_put hf rfl
      have hf1411_ : jfr jW_X12_atom a0 (jxu (jxu a 146 33 (jxw ((a 146 33) + 1))) 146 26 0) := jfr_put hf1410_ rfl
      have hf1412_ : jfr jWat a0 (jxu a 146 33 (jxw ((a 146 33) + 1))) := jfr_put hfat rfl
      have hf1413_ : jfr jWat a0 (jxu (jxu a 146 33 (jxw ((a 146 33) + 1))) 146 26 0) := jfr_put hf1412_ rfl
      exact cp_X12_atom_79 E d hd x1 a0 b0 hv0 hp0 hp1 hp2 hp3 hp4 y1 (jxu (jxu a 146 33 (jxw ((a 146 33) + 1))) 146 26 0) hv1409_ hf1411_ (show 3 ≤ y1 from by omega) (show y1 ≤ 8 from by omega) (show 1 ≤ jxw ((a 146 33) + 1) from by omega) (show a 146 23 ≤ a 146 22 from by omega) (show (a0 146 23) + 2 ≤ a 146 23 from by omega) (show 3 ≤ y1 from by omega) (show y1 ≤ 9 from by omega) (show a 146 32 = a0 146 32 from by omega) hf1413_
theorem sp_X12_atom (E : jxE) (d : Nat) (hd : Nat.ble 3 d = true) (x1 : Int) (a0 b0 : Nat → Nat → Int) (hv0 : iv a0) (hp0 : (a0 146 23) + (a0 146 25) ≤ a0 146 22) (hp1 : (0 ≤ x1 → 2 ≤ a0 146 25)) (hp2 : a0 146 32 < 64) (hp3 : x1 ≤ 15) (hp4 : 0 - 1 ≤ x1) : jt (jxC E d 220 [.inr (.inr (.inl 146)), .inl x1] (jxSH, a0, b0)) (jQ_X12_atom x1 a0 b0) := by
  obtain ⟨d, rfl⟩ := jd_succ hd
  refine jt_eq (bq_X12_atom E d x1 a0 b0) ?_
  have h1414_ := iv_get hv0 (k := 146) (j := 23) (l := 0) (u := 200) rfl
  have h1415_ := iv_get hv0 (k := 146) (j := 25) (l := 0) (u := 200) rfl
  have h1416_ := iv_get hv0 (k := 146) (j := 22) (l := 0) (u := 200) rfl
  have h1417_ := iv_get hv0 (k := 146) (j := 32) (l := 0) (u := 64) rfl
  refine jt_ite (fun c1418_ => ?_) (fun c1418_ => ?_)
  ·
    refine jt_bI (sp_X12_fails E d (jd_le hd rfl) 0 (a0 146 23) a0 b0 hv0) (fun r1419_ a1419_ b1419_ h1419_ => ?_)
    obtain ⟨hv1419_, hf1419_, rfl, hq1419_0, hq1419_1, hq1419_2, hq1419_3⟩ := h1419_
    refine jt_grd (by omega) ?_
    have hf1420_ : jfr jW_X12_atom a0 a1419_ := jfr_tr (jfr_rf _ _) hf1419_ rfl
    have h1421_ := iv_get hv1419_ (k := 146) (j := 23) (l := 0) (u := 200) rfl
    have h1422_ : a1419_ 146 23 = a0 146 23 := hf1419_ 146 23 rfl
    have h1423_ := iv_get hv1419_ (k := 146) (j := 22) (l := 0) (u := 200) rfl
    have h1424_ : a1419_ 146 22 = a0 146 22 := hf1419_ 146 22 rfl
    have h1425_ := iv_get hv1419_ (k := 146) (j := 32) (l := 0) (u := 64) rfl
    have h1426_ : a1419_ 146 32 = a0 146 32 := hf1419_ 146 32 rfl
    have hf1427_ : jfr jWat a0 a1419_ := jfr_tr (jfr_rf _ _) hf1419_ rfl
    exact jt_rI ⟨hv1419_, hf1420_, rfl, (show (0 ≤ r1419_ ∧ r1419_ ≤ 1) from by omega), (show a0 146 23 ≤ a1419_ 146 23 from by omega), (show a1419_ 146 23 ≤ a1419_ 146 22 from by omega), (show (r1419_ = 1 → (a0 146 23) + 2 ≤ a1419_ 146 23) from by omega), (show ((r1419_ = 0 ∧ a1419_ 146 32 = a0 146 32) ∨ (r1419_ = 1 ∧ a1419_ 146 32 = (a0 146 32) + 1)) from by omega), (fun h => by omega), (fun k _ => hf1427_ 168 k rfl)⟩
  ·
    refine jt_ite (fun c1428_ => ?_) (fun c1428_ => ?_)
    ·
      refine jt_bI (sp_X12_fails E d (jd_le hd rfl) 0 (a0 146 23) a0 b0 hv0) (fun r1429_ a1429_ b1429_ h1429_ => ?_)
      obtain ⟨hv1429_, hf1429_, rfl, hq1429_0, hq1429_1, hq1429_2, hq1429_3⟩ := h1429_
      refine jt_grd (by omega) ?_
      have hf1430_ : jfr jW_X12_atom a0 a1429_ := jfr_tr (jfr_rf _ _) hf1429_ rfl
      have h1431_ := iv_get hv1429_ (k := 146) (j := 23) (l := 0) (u := 200) rfl
      have h1432_ : a1429_ 146 23 = a0 146 23 := hf1429_ 146 23 rfl
      have h1433_ := iv_get hv1429_ (k := 146) (j := 22) (l := 0) (u := 200) rfl
      have h1434_ : a1429_ 146 22 = a0 146 22 := hf1429_ 146 22 rfl
      have h1435_ := iv_get hv1429_ (k := 146) (j := 32) (l := 0) (u := 64) rfl
      have h1436_ : a1429_ 146 32 = a0 146 32 := hf1429_ 146 32 rfl
      have hf1437_ : jfr jWat a0 a1429_ := jfr_tr (jfr_rf _ _) hf1429_ rfl
      exact jt_rI ⟨hv1429_, hf1430_, rfl, (show (0 ≤ r1429_ ∧ r1429_ ≤ 1) from by omega), (show a0 146 23 ≤ a1429_ 146 23 from by omega), (show a1429_ 146 23 ≤ a1429_ 146 22 from by omega), (show (r1429_ = 1 → (a0 146 23) + 2 ≤ a1429_ 146 23) from by omega), (show ((r1429_ = 0 ∧ a1429_ 146 32 = a0 146 32) ∨ (r1429_ = 1 ∧ a1429_ 146 32 = (a0 146 32) + 1)) from by omega), (fun h => by omega), (fun k _ => hf1437_ 168 k rfl)⟩
    ·
      have h1438_ := iv_get hv0 (k := 146) (j := 33) (l := 0) (u := 12) rfl
      refine jt_ite (fun c1439_ => ?_) (fun c1439_ => ?_)
      ·
        refine jt_bI (sp_X12_fails E d (jd_le hd rfl) 2 (a0 146 23) a0 b0 hv0) (fun r1440_ a1440_ b1440_ h1440_ => ?_)
        obtain ⟨hv1440_, hf1440_, rfl, hq1440_0, hq1440_1, hq1440_2, hq1440_3⟩ := h1440_
        refine jt_grd (by omega) ?_
        have hf1441_ : jfr jW_X12_atom a0 a1440_ := jfr_tr (jfr_rf _ _) hf1440_ rfl
        have h1442_ := iv_get hv1440_ (k := 146) (j := 23) (l := 0) (u := 200) rfl
        have h1443_ : a1440_ 146 23 = a0 146 23 := hf1440_ 146 23 rfl
        have h1444_ := iv_get hv1440_ (k := 146) (j := 22) (l := 0) (u := 200) rfl
        have h1445_ : a1440_ 146 22 = a0 146 22 := hf1440_ 146 22 rfl
        have h1446_ := iv_get hv1440_ (k := 146) (j := 32) (l := 0) (u := 64) rfl
        have h1447_ : a1440_ 146 32 = a0 146 32 := hf1440_ 146 32 rfl
        have hf1448_ : jfr jWat a0 a1440_ := jfr_tr (jfr_rf _ _) hf1440_ rfl
        exact jt_rI ⟨hv1440_, hf1441_, rfl, (show (0 ≤ r1440_ ∧ r1440_ ≤ 1) from by omega), (show a0 146 23 ≤ a1440_ 146 23 from by omega), (show a1440_ 146 23 ≤ a1440_ 146 22 from by omega), (show (r1440_ = 1 → (a0 146 23) + 2 ≤ a1440_ 146 23) from by omega), (show ((r1440_ = 0 ∧ a1440_ 146 32 = a0 146 32) ∨ (r1440_ = 1 ∧ a1440_ 146 32 = (a0 146 32) + 1)) from by omega), (fun h => by omega), (fun k _ => hf1448_ 168 k rfl)⟩
      ·
        have h1450_ : jxw ((a0 146 23) + (a0 146 25)) = (a0 146 23) + (a0 146 25) := jxw_id (by omega) (by omega)
        have hv1449_ : iv (jxu a0 146 23 (jxw ((a0 146 23) + (a0 146 25)))) := iv_put hv0 (l := 0) (u := 200) rfl (by omega) (by omega)
        have hf1451_ : jfr jW_X12_atom a0 (jxu a0 146 23 (jxw ((a0 146 23) + (a0 146 25)))) := jfr_put (jfr_rf _ _) rfl
        have hf1452_ : jfr jWat a0 (jxu a0 146 23 (jxw ((a0 146 23) + (a0 146 25)))) := jfr_put (jfr_rf _ _) rfl
        exact cp_X12_atom_53 E d hd x1 a0 b0 hv0 hp0 hp1 hp2 hp3 hp4 x1 (jxu a0 146 23 (jxw ((a0 146 23) + (a0 146 25)))) hv1449_ hf1451_ (show 3 ≤ x1 from by omega) (show x1 ≤ 9 from by omega) (show a0 146 33 ≤ 11 from by omega) (show jxw ((a0 146 23) + (a0 146 25)) ≤ a0 146 22 from by omega) (show (a0 146 23) + 2 ≤ jxw ((a0 146 23) + (a0 146 25)) from by omega) (show 3 ≤ x1 from by omega) (show x1 ≤ 9 from by omega) (show a0 146 32 = a0 146 32 from by omega) hf1452_
def jW_X12_clause : List (Nat × Nat) := [(146, 23), (146, 24), (146, 25), (146, 26), (146, 27), (195, 9999)]
abbrev jQ_X12_clause (x1 : Int) (a0 b0 : Nat → Nat → Int) : List jxV → (Nat → Nat → Int) → (Nat → Nat → Int) → Prop := rI (fun r a b => (iv a) ∧ (jfr jW_X12_clause a0 a) ∧ (b0 = b) ∧ ((0 ≤ r ∧ r ≤ 1)) ∧ (a0 146 23 ≤ a 146 23) ∧ (a 146 23 ≤ a 146 22) ∧ ((r = 1 → (x1 < 12 ∧ (a0 146 23) + 2 ≤ a 146 23))) ∧ (((a0 146 22 = 0 ∧ a0 146 24 = 0) → (r = 0 ∧ a 146 24 = 1))))
theorem cp_X12_clause_155 (E : jxE) (d : Nat) (hd : Nat.ble 3 (d + 1) = true) (x1 : Int) (a0 b0 : Nat → Nat → Int) (hv0 : iv a0) (hp0 : a0 146 23 ≤ a0 146 22) (hp1 : 0 ≤ x1) (hp2 : x1 ≤ 12) : ∀ (a : Nat → Nat → Int), iv a → jfr jW_X12_clause a0 a → a0 146 23 ≤ a 146 23 → a 146 23 ≤ a 146 22 → 1 ≤ a0 146 22 → jt (jxX E d 281 155 [none, none, none, none, none] [] (jxSH, a, b0)) (jQ_X12_clause x1 a0 b0) := by
  intro a hv hf hi0 hi1 hi2
  refine jt_eq (bq_X12_clause_155 E d a b0) ?_
  have h1453_ := iv_get hv0 (k := 146) (j := 23) (l := 0) (u := 200) rfl
  have h1454_ := iv_get hv (k := 146) (j := 23) (l := 0) (u := 200) rfl
  have h1455_ := iv_get hv (k := 146) (j := 22) (l := 0) (u := 200) rfl
  have h1456_ : a 146 22 = a0 146 22 := hf 146 22 rfl
  have h1457_ := iv_get hv0 (k := 146) (j := 22) (l := 0) (u := 200) rfl
  exact jt_rI ⟨hv, hf, rfl, (show (0 ≤ 0 ∧ 0 ≤ 1) from by omega), (show a0 146 23 ≤ a 146 23 from by omega), (show a 146 23 ≤ a 146 22 from by omega), (show (0 = 1 → (x1 < 12 ∧ (a0 146 23) + 2 ≤ a 146 23)) from by omega), (show ((a0 146 22 = 0 ∧ a0 146 24 = 0) → (0 = 0 ∧ a 146 24 = 1)) from by omega)⟩
theorem cp_X12_clause_157 (E : jxE) (d : Nat) (hd : Nat.ble 3 (d + 1) = true) (x1 : Int) (a0 b0 : Nat → Nat → Int) (hv0 : iv a0) (hp0 : a0 146 23 ≤ a0 146 22) (hp1 : 0 ≤ x1) (hp2 : x1 ≤ 12) : ∀ (y1 : Int) (a : Nat → Nat → Int), iv a → jfr jW_X12_clause a0 a → 0 ≤ y1 → y1 ≤ 11 → a 146 23 ≤ a 146 22 → (a0 146 23) + 2 ≤ a 146 23 → y1 = x1 → y1 < 12 → 0 ≤ y1 → a 146 26 ≤ 900 → 1 ≤ a0 146 22 → jt (jxX E d 281 157 [some (.inr (.inr (.inl 146))), some (.inl y1), none, none, none] [] (jxSH, a, b0)) (jQ_X12_clause x1 a0 b0) := by
  intro y1 a hv hf hi0 hi1 hi2 hi3 hi4 hi5 hi6 hi7 hi8
  refine jt_eq (bq_X12_clause_157 E d y1 a b0) ?_
  have h1458_ := iv_get hv (k := 146) (j := 23) (l := 0) (u := 200) rfl
  have h1459_ := iv_get hv (k := 146) (j := 22) (l := 0) (u := 200) rfl
  have h1460_ : a 146 22 = a0 146 22 := hf 146 22 rfl
  have h1461_ := iv_get hv0 (k := 146) (j := 22) (l := 0) (u := 200) rfl
  have h1462_ := iv_get hv0 (k := 146) (j := 23) (l := 0) (u := 200) rfl
  have h1463_ := iv_get hv (k := 146) (j := 26) (l := 0) (u := 999) rfl
  have h1464_ : jxw (3 * y1) = 3 * y1 := jxw_id (by omega) (by omega)
  have h1465_ : jxw ((jxw (3 * y1)) + 2) = (jxw (3 * y1)) + 2 := jxw_id (by omega) (by omega)
  refine jt_grd (by omega) ?_
  have hv1466_ : iv (jxu a 195 ((jxw ((jxw (3 * y1)) + 2)).toNat) (a 146 26)) := iv_put hv (l := 0) (u := 900) rfl (by omega) (by omega)
  have hf1467_ : jfr jW_X12_clause a0 (jxu a 195 ((jxw ((jxw (3 * y1)) + 2)).toNat) (a 146 26)) := jfr_put hf rfl
  exact jt_rI ⟨hv1466_, hf1467_, rfl, (show (0 ≤ 1 ∧ 1 ≤ 1) from by omega), (show a0 146 23 ≤ a 146 23 from by omega), (show a 146 23 ≤ a 146 22 from by omega), (show (1 = 1 → (x1 < 12 ∧ (a0 146 23) + 2 ≤ a 146 23)) from by omega), (show ((a0 146 22 = 0 ∧ a0 146 24 = 0) → (1 = 0 ∧ a 146 24 = 1)) from by omega)⟩
theorem cp_X12_clause_130 (E : jxE) (d : Nat) (hd : Nat.ble 3 (d + 1) = true) (x1 : Int) (a0 b0 : Nat → Nat → Int) (hv0 : iv a0) (hp0 : a0 146 23 ≤ a0 146 22) (hp1 : 0 ≤ x1) (hp2 : x1 ≤ 12) : ∀ (y1 : Int) (a : Nat → Nat → Int), iv a → jfr jW_X12_clause a0 a → 0 ≤ y1 → y1 ≤ 11 → a 146 23 ≤ a 146 22 → (a0 146 23) + 2 ≤ a 146 23 → y1 = x1 → y1 < 12 → 0 ≤ y1 → a 146 26 ≤ 500 → 1 ≤ a0 146 22 → jt (jxX E d 281 130 [some (.inr (.inr (.inl 146))), some (.inl y1), none, none, none] [] (jxSH, a, b0)) (jQ_X12_clause x1 a0 b0) := by
  intro y1 a hv hf hi0 hi1 hi2 hi3 hi4 hi5 hi6 hi7 hi8
  refine jt_eq (bq_X12_clause_130 E d y1 a b0) ?_
  have h1468_ := iv_get hv (k := 146) (j := 23) (l := 0) (u := 200) rfl
  have h1469_ := iv_get hv (k := 146) (j := 22) (l := 0) (u := 200) rfl
  have h1470_ : a 146 22 = a0 146 22 := hf 146 22 rfl
  have h1471_ := iv_get hv0 (k := 146) (j := 22) (l := 0) (u := 200) rfl
  have h1472_ := iv_get hv0 (k := 146) (j := 23) (l := 0) (u := 200) rfl
  have h1473_ := iv_get hv (k := 146) (j := 26) (l := 0) (u := 999) rfl
  have h1474_ : jxw (3 * y1) = 3 * y1 := jxw_id (by omega) (by omega)
  have h1475_ : jxw ((jxw (3 * y1)) + 1) = (jxw (3 * y1)) + 1 := jxw_id (by omega) (by omega)
  refine jt_grd (by omega) ?_
  have hv1476_ : iv (jxu a 195 ((jxw ((jxw (3 * y1)) + 1)).toNat) (a 146 26)) := iv_put hv (l := 0) (u := 900) rfl (by omega) (by omega)
  refine jt_bI (sp_X12_number E d (jd_le hd rfl) 1 900 (jxu a 195 ((jxw ((jxw (3 * y1)) + 1)).toNat) (a 146 26)) b0 hv1476_ (show a 146 23 ≤ a 146 22 from by omega)) (fun r1477_ a1477_ b1477_ h1477_ => ?_)
  obtain ⟨hv1477_, hf1477_, rfl, hq1477_0, hq1477_1, hq1477_2, hq1477_3⟩ := h1477_
  have h1478_ := iv_get hv1477_ (k := 146) (j := 23) (l := 0) (u := 200) rfl
  have h1479_ : a 146 23 ≤ a1477_ 146 23 := hq1477_1
  have h1480_ : a1477_ 146 23 ≤ a 146 22 := hq1477_2
  have h1481_ := iv_get hv1477_ (k := 146) (j := 26) (l := 0) (u := 999) rfl
  have h1482_ : (r1477_ = 1 → (1 ≤ a1477_ 146 26 ∧ a1477_ 146 26 ≤ 900)) := hq1477_3
  refine jt_ite (fun c1483_ => ?_) (fun c1483_ => ?_)
  ·
    have hf1484_ : jfr jW_X12_clause a0 (jxu a 195 ((jxw ((jxw (3 * y1)) + 1)).toNat) (a 146 26)) := jfr_put hf rfl
    have hf1485_ : jfr jW_X12_clause a0 a1477_ := jfr_tr hf1484_ hf1477_ rfl
    have h1486_ := iv_get hv1477_ (k := 146) (j := 22) (l := 0) (u := 200) rfl
    have h1487_ : a1477_ 146 22 = a 146 22 := hf1477_ 146 22 rfl
    exact cp_X12_clause_155 E d hd x1 a0 b0 hv0 hp0 hp1 hp2 a1477_ hv1477_ hf1485_ (show a0 146 23 ≤ a1477_ 146 23 from by omega) (show a1477_ 146 23 ≤ a1477_ 146 22 from by omega) (show 1 ≤ a0 146 22 from by omega)
  ·
    have hf1488_ : jfr jW_X12_clause a0 (jxu a 195 ((jxw ((jxw (3 * y1)) + 1)).toNat) (a 146 26)) := jfr_put hf rfl
    have hf1489_ : jfr jW_X12_clause a0 a1477_ := jfr_tr hf1488_ hf1477_ rfl
    have h1490_ := iv_get hv1477_ (k := 146) (j := 22) (l := 0) (u := 200) rfl
    have h1491_ : a1477_ 146 22 = a 146 22 := hf1477_ 146 22 rfl
    exact cp_X12_clause_157 E d hd x1 a0 b0 hv0 hp0 hp1 hp2 y1 a1477_ hv1477_ hf1489_ (show 0 ≤ y1 from by omega) (show y1 ≤ 11 from by omega) (show a1477_ 146 23 ≤ a1477_ 146 22 from by omega) (show (a0 146 23) + 2 ≤ a1477_ 146 23 from by omega) (show y1 = x1 from by omega) (show y1 < 12 from by omega) (show 0 ≤ y1 from by omega) (show a1477_ 146 26 ≤ 900 from by omega) (show 1 ≤ a0 146 22 from by omega)
theorem cp_X12_clause_69 (E : jxE) (d : Nat) (hd : Nat.ble 3 (d + 1) = true) (x1 : Int) (a0 b0 : Nat → Nat → Int) (hv0 : iv a0) (hp0 : a0 146 23 ≤ a0 146 22) (hp1 : 0 ≤ x1) (hp2 : x1 ≤ 12) : ∀ n : Nat, (∀ (y1 y2 y3 y4 : Int) (a : Nat → Nat → Int), (((11 - y4) * 1) + 0).toNat ≤ n → iv a → jfr jW_X12_clause a0 a → 1 ≤ y1 → y1 ≤ 11 → 0 ≤ y2 → y2 ≤ 999 → 0 ≤ y3 → y3 ≤ 900 → 0 ≤ y4 → y4 ≤ 10 → a 146 23 ≤ a 146 22 → (a0 146 23) + 2 ≤ a 146 23 → y1 = x1 → y1 < 12 → 0 ≤ y1 → 0 ≤ y2 → y2 ≤ 3 → 0 ≤ y3 → y3 ≤ 900 → 0 ≤ y4 → y4 < y1 → 1 ≤ a0 146 22 → jt (jxX E d 281 100 [some (.inr (.inr (.inl 146))), some (.inl y1), some (.inl y2), some (.inl y3), some (.inl y4)] [] (jxSH, a, b0)) (jQ_X12_clause x1 a0 b0)) ∧ (∀ (y1 y2 y3 y4 : Int) (a : Nat → Nat → Int), (((11 - y4) * 1) + 0).toNat ≤ n → iv a → jfr jW_X12_clause a0 a → 0 ≤ y1 → y1 ≤ 11 → 0 ≤ y2 → y2 ≤ 999 → 0 ≤ y3 → y3 ≤ 900 → 0 ≤ y4 → y4 ≤ 11 → a 146 23 ≤ a 146 22 → (a0 146 23) + 2 ≤ a 146 23 → y1 = x1 → y1 < 12 → 0 ≤ y1 → 0 ≤ y2 → y2 ≤ 3 → 0 ≤ y3 → y3 ≤ 900 → 0 ≤ y4 → y4 ≤ y1 → 1 ≤ a0 146 22 → jt (jxX E d 281 69 [some (.inr (.inr (.inl 146))), some (.inl y1), some (.inl y2), some (.inl y3), some (.inl y4)] [] (jxSH, a, b0)) (jQ_X12_clause x1 a0 b0)) := by
  refine jx_ind fun n ih => ?_
  have ih100 : ∀ (y1 y2 y3 y4 : Int) (a : Nat → Nat → Int), (((11 - y4) * 1) + 0).toNat < n → iv a → jfr jW_X12_clause a0 a → 1 ≤ y1 → y1 ≤ 11 → 0 ≤ y2 → y2 ≤ 999 → 0 ≤ y3 → y3 ≤ 900 → 0 ≤ y4 → y4 ≤ 10 → a 146 23 ≤ a 146 22 → (a0 146 23) + 2 ≤ a 146 23 → y1 = x1 → y1 < 12 → 0 ≤ y1 → 0 ≤ y2 → y2 ≤ 3 → 0 ≤ y3 → y3 ≤ 900 → 0 ≤ y4 → y4 < y1 → 1 ≤ a0 146 22 → jt (jxX E d 281 100 [some (.inr (.inr (.inl 146))), some (.inl y1), some (.inl y2), some (.inl y3), some (.inl y4)] [] (jxSH, a, b0)) (jQ_X12_clause x1 a0 b0) := fun y1 y2 y3 y4 a hlt i0 i1 i2 i3 i4 i5 i6 i7 i8 i9 i10 i11 i12 i13 i14 i15 i16 i17 i18 i19 i20 i21 => (ih _ hlt).1 y1 y2 y3 y4 a (Nat.le_refl _) i0 i1 i2 i3 i4 i5 i6 i7 i8 i9 i10 i11 i12 i13 i14 i15 i16 i17 i18 i19 i20 i21
  have ih69 : ∀ (y1 y2 y3 y4 : Int) (a : Nat → Nat → Int), (((11 - y4) * 1) + 0).toNat < n → iv a → jfr jW_X12_clause a0 a → 0 ≤ y1 → y1 ≤ 11 → 0 ≤ y2 → y2 ≤ 999 → 0 ≤ y3 → y3 ≤ 900 → 0 ≤ y4 → y4 ≤ 11 → a 146 23 ≤ a 146 22 → (a0 146 23) + 2 ≤ a 146 23 → y1 = x1 → y1 < 12 → 0 ≤ y1 → 0 ≤ y2 → y2 ≤ 3 → 0 ≤ y3 → y3 ≤ 900 → 0 ≤ y4 → y4 ≤ y1 → 1 ≤ a0 146 22 → jt (jxX E d 281 69 [some (.inr (.inr (.inl 146))), some (.inl y1), some (.inl y2), some (.inl y3), some (.inl y4)] [] (jxSH, a, b0)) (jQ_X12_clause x1 a0 b0) := fun y1 y2 y3 y4 a hlt i0 i1 i2 i3 i4 i5 i6 i7 i8 i9 i10 i11 i12 i13 i14 i15 i16 i17 i18 i19 i20 i21 => (ih _ hlt).2 y1 y2 y3 y4 a (Nat.le_refl _) i0 i1 i2 i3 i4 i5 i6 i7 i8 i9 i10 i11 i12 i13 i14 i15 i16 i17 i18 i19 i20 i21
  have hc100 : ∀ (y1 y2 y3 y4 : Int) (a : Nat → Nat → Int), (((11 - y4) * 1) + 0).toNat ≤ n → iv a → jfr jW_X12_clause a0 a → 1 ≤ y1 → y1 ≤ 11 → 0 ≤ y2 → y2 ≤ 999 → 0 ≤ y3 → y3 ≤ 900 → 0 ≤ y4 → y4 ≤ 10 → a 146 23 ≤ a 146 22 → (a0 146 23) + 2 ≤ a 146 23 → y1 = x1 → y1 < 12 → 0 ≤ y1 → 0 ≤ y2 → y2 ≤ 3 → 0 ≤ y3 → y3 ≤ 900 → 0 ≤ y4 → y4 < y1 → 1 ≤ a0 146 22 → jt (jxX E d 281 100 [some (.inr (.inr (.inl 146))), some (.inl y1), some (.inl y2), some (.inl y3), some (.inl y4)] [] (jxSH, a, b0)) (jQ_X12_clause x1 a0 b0) := by
    intro y1 y2 y3 y4 a hm hv hf hi0 hi1 hi2 hi3 hi4 hi5 hi6 hi7 hi8 hi9 hi10 hi11 hi12 hi13 hi14 hi15 hi16 hi17 hi18 hi19
    refine jt_eq (bq_X12_clause_100 E d y1 y2 y3 y4 a b0) ?_
    have h1492_ := iv_get hv (k := 146) (j := 23) (l := 0) (u := 200) rfl
    have h1493_ := iv_get hv (k := 146) (j := 22) (l := 0) (u := 200) rfl
    have h1494_ : a 146 22 = a0 146 22 := hf 146 22 rfl
    have h1495_ := iv_get hv0 (k := 146) (j := 22) (l := 0) (u := 200) rfl
    have h1496_ := iv_get hv0 (k := 146) (j := 23) (l := 0) (u := 200) rfl
    have h1497_ : jxw (y4 + 1) = y4 + 1 := jxw_id (by omega) (by omega)
    exact ih69 y1 y2 y3 (jxw (y4 + 1)) a (show (((11 - (jxw (y4 + 1))) * 1) + 0).toNat < n from by omega) hv hf (show 0 ≤ y1 from by omega) (show y1 ≤ 11 from by omega) (show 0 ≤ y2 from by omega) (show y2 ≤ 999 from by omega) (show 0 ≤ y3 from by omega) (show y3 ≤ 900 from by omega) (show 0 ≤ jxw (y4 + 1) from by omega) (show jxw (y4 + 1) ≤ 11 from by omega) (show a 146 23 ≤ a 146 22 from by omega) (show (a0 146 23) + 2 ≤ a 146 23 from by omega) (show y1 = x1 from by omega) (show y1 < 12 from by omega) (show 0 ≤ y1 from by omega) (show 0 ≤ y2 from by omega) (show y2 ≤ 3 from by omega) (show 0 ≤ y3 from by omega) (show y3 ≤ 900 from by omega) (show 0 ≤ jxw (y4 + 1) from by omega) (show jxw (y4 + 1) ≤ y1 from by omega) (show 1 ≤ a0 146 22 from by omega)
  have hc69 : ∀ (y1 y2 y3 y4 : Int) (a : Nat → Nat → Int), (((11 - y4) * 1) + 0).toNat ≤ n → iv a → jfr jW_X12_clause a0 a → 0 ≤ y1 → y1 ≤ 11 → 0 ≤ y2 → y2 ≤ 999 → 0 ≤ y3 → y3 ≤ 900 → 0 ≤ y4 → y4 ≤ 11 → a 146 23 ≤ a 146 22 → (a0 146 23) + 2 ≤ a 146 23 → y1 = x1 → y1 < 12 → 0 ≤ y1 → 0 ≤ y2 → y2 ≤ 3 → 0 ≤ y3 → y3 ≤ 900 → 0 ≤ y4 → y4 ≤ y1 → 1 ≤ a0 146 22 → jt (jxX E d 281 69 [some (.inr (.inr (.inl 146))), some (.inl y1), some (.inl y2), some (.inl y3), some (.inl y4)] [] (jxSH, a, b0)) (jQ_X12_clause x1 a0 b0) := by
    intro y1 y2 y3 y4 a hm hv hf hi0 hi1 hi2 hi3 hi4 hi5 hi6 hi7 hi8 hi9 hi10 hi11 hi12 hi13 hi14 hi15 hi16 hi17 hi18 hi19
    refine jt_eq (bq_X12_clause_69 E d y1 y2 y3 y4 a b0) ?_
    have h1498_ := iv_get hv (k := 146) (j := 23) (l := 0) (u := 200) rfl
    have h1499_ := iv_get hv (k := 146) (j := 22) (l := 0) (u := 200) rfl
    have h1500_ : a 146 22 = a0 146 22 := hf 146 22 rfl
    have h1501_ := iv_get hv0 (k := 146) (j := 22) (l := 0) (u := 200) rfl
    have h1502_ := iv_get hv0 (k := 146) (j := 23) (l := 0) (u := 200) rfl
    refine jt_ite (fun c1503_ => ?_) (fun c1503_ => ?_)
    ·
      have h1504_ : jxw (3 * y4) = 3 * y4 := jxw_id (by omega) (by omega)
      refine jt_grd (by omega) ?_
      have h1505_ := iv_get hv (k := 195) (j := (jxw (3 * y4)).toNat) (l := 0) (u := 900) rfl
      refine jt_ite (fun c1506_ => ?_) (fun c1506_ => ?_)
      ·
        have h1507_ : jxw ((jxw (3 * y4)) + 1) = (jxw (3 * y4)) + 1 := jxw_id (by omega) (by omega)
        refine jt_grd (by omega) ?_
        have h1508_ := iv_get hv (k := 195) (j := (jxw ((jxw (3 * y4)) + 1)).toNat) (l := 0) (u := 900) rfl
        exact hc100 y1 y2 (a 195 ((jxw ((jxw (3 * y4)) + 1)).toNat)) y4 a (show (((11 - y4) * 1) + 0).toNat ≤ n from by omega) hv hf (show 1 ≤ y1 from by omega) (show y1 ≤ 11 from by omega) (show 0 ≤ y2 from by omega) (show y2 ≤ 999 from by omega) (show 0 ≤ a 195 ((jxw ((jxw (3 * y4)) + 1)).toNat) from by omega) (show a 195 ((jxw ((jxw (3 * y4)) + 1)).toNat) ≤ 900 from by omega) (show 0 ≤ y4 from by omega) (show y4 ≤ 10 from by omega) (show a 146 23 ≤ a 146 22 from by omega) (show (a0 146 23) + 2 ≤ a 146 23 from by omega) (show y1 = x1 from by omega) (show y1 < 12 from by omega) (show 0 ≤ y1 from by omega) (show 0 ≤ y2 from by omega) (show y2 ≤ 3 from by omega) (show 0 ≤ a 195 ((jxw ((jxw (3 * y4)) + 1)).toNat) from by omega) (show a 195 ((jxw ((jxw (3 * y4)) + 1)).toNat) ≤ 900 from by omega) (show 0 ≤ y4 from by omega) (show y4 < y1 from by omega) (show 1 ≤ a0 146 22 from by omega)
      ·
        exact hc100 y1 y2 y3 y4 a (show (((11 - y4) * 1) + 0).toNat ≤ n from by omega) hv hf (show 1 ≤ y1 from by omega) (show y1 ≤ 11 from by omega) (show 0 ≤ y2 from by omega) (show y2 ≤ 999 from by omega) (show 0 ≤ y3 from by omega) (show y3 ≤ 900 from by omega) (show 0 ≤ y4 from by omega) (show y4 ≤ 10 from by omega) (show a 146 23 ≤ a 146 22 from by omega) (show (a0 146 23) + 2 ≤ a 146 23 from by omega) (show y1 = x1 from by omega) (show y1 < 12 from by omega) (show 0 ≤ y1 from by omega) (show 0 ≤ y2 from by omega) (show y2 ≤ 3 from by omega) (show 0 ≤ y3 from by omega) (show y3 ≤ 900 from by omega) (show 0 ≤ y4 from by omega) (show y4 < y1 from by omega) (show 1 ≤ a0 146 22 from by omega)
    ·
      refine jt_bI (sp_X12_number E d (jd_le hd rfl) (jxw (y3 + 1)) 500 a b0 hv (show a 146 23 ≤ a 146 22 from by omega)) (fun r1509_ a1509_ b1509_ h1509_ => ?_)
      obtain ⟨hv1509_, hf1509_, rfl, hq1509_0, hq1509_1, hq1509_2, hq1509_3⟩ := h1509_
      have h1510_ := iv_get hv1509_ (k := 146) (j := 23) (l := 0) (u := 200) rfl
      have h1511_ : jxw (y3 + 1) = y3 + 1 := jxw_id (by omega) (by omega)
      have h1512_ := iv_get hv1509_ (k := 146) (j := 26) (l := 0) (u := 999) rfl
      refine jt_ite (fun c1513_ => ?_) (fun c1513_ => ?_)
      ·
        have hf1514_ : jfr jW_X12_clause a0 a1509_ := jfr_tr hf hf1509_ rfl
        have h1515_ := iv_get hv1509_ (k := 146) (j := 22) (l := 0) (u := 200) rfl
        have h1516_ : a1509_ 146 22 = a 146 22 := hf1509_ 146 22 rfl
        exact jt_rI ⟨hv1509_, hf1514_, rfl, (show (0 ≤ 0 ∧ 0 ≤ 1) from by omega), (show a0 146 23 ≤ a1509_ 146 23 from by omega), (show a1509_ 146 23 ≤ a1509_ 146 22 from by omega), (show (0 = 1 → (x1 < 12 ∧ (a0 146 23) + 2 ≤ a1509_ 146 23)) from by omega), (show ((a0 146 22 = 0 ∧ a0 146 24 = 0) → (0 = 0 ∧ a1509_ 146 24 = 1)) from by omega)⟩
      ·
        have h1517_ : jxw (3 * y1) = 3 * y1 := jxw_id (by omega) (by omega)
        refine jt_grd (by omega) ?_
        have hv1518_ : iv (jxu a1509_ 195 ((jxw (3 * y1)).toNat) y2) := iv_put hv1509_ (l := 0) (u := 900) rfl (by omega) (by omega)
        have hf1519_ : jfr jW_X12_clause a0 a1509_ := jfr_tr hf hf1509_ rfl
        have hf1520_ : jfr jW_X12_clause a0 (jxu a1509_ 195 ((jxw (3 * y1)).toNat) y2) := jfr_put hf1519_ rfl
        have h1521_ := iv_get hv1509_ (k := 146) (j := 22) (l := 0) (u := 200) rfl
        have h1522_ : a1509_ 146 22 = a 146 22 := hf1509_ 146 22 rfl
        exact cp_X12_clause_130 E d hd x1 a0 b0 hv0 hp0 hp1 hp2 y1 (jxu a1509_ 195 ((jxw (3 * y1)).toNat) y2) hv1518_ hf1520_ (show 0 ≤ y1 from by omega) (show y1 ≤ 11 from by omega) (show a1509_ 146 23 ≤ a1509_ 146 22 from by omega) (show (a0 146 23) + 2 ≤ a1509_ 146 23 from by omega) (show y1 = x1 from by omega) (show y1 < 12 from by omega) (show 0 ≤ y1 from by omega) (show a1509_ 146 26 ≤ 500 from by omega) (show 1 ≤ a0 146 22 from by omega)
  exact ⟨hc100, hc69⟩
theorem cp_X12_clause_48 (E : jxE) (d : Nat) (hd : Nat.ble 3 (d + 1) = true) (x1 : Int) (a0 b0 : Nat → Nat → Int) (hv0 : iv a0) (hp0 : a0 146 23 ≤ a0 146 22) (hp1 : 0 ≤ x1) (hp2 : x1 ≤ 12) : ∀ (y1 : Int) (a : Nat → Nat → Int), iv a → jfr jW_X12_clause a0 a → 0 ≤ y1 → y1 ≤ 11 → a 146 23 ≤ a 146 22 → (a0 146 23) + 2 ≤ a 146 23 → y1 = x1 → y1 < 12 → 0 ≤ y1 → 1 ≤ a0 146 22 → jt (jxX E d 281 48 [some (.inr (.inr (.inl 146))), some (.inl y1), none, none, none] [] (jxSH, a, b0)) (jQ_X12_clause x1 a0 b0) := by
  intro y1 a hv hf hi0 hi1 hi2 hi3 hi4 hi5 hi6 hi7
  refine jt_eq (bq_X12_clause_48 E d y1 a b0) ?_
  have h1523_ := iv_get hv (k := 146) (j := 23) (l := 0) (u := 200) rfl
  have h1524_ := iv_get hv (k := 146) (j := 22) (l := 0) (u := 200) rfl
  have h1525_ : a 146 22 = a0 146 22 := hf 146 22 rfl
  have h1526_ := iv_get hv0 (k := 146) (j := 22) (l := 0) (u := 200) rfl
  have h1527_ := iv_get hv0 (k := 146) (j := 23) (l := 0) (u := 200) rfl
  refine jt_bI (sp_X12_number E d (jd_le hd rfl) 0 3 a b0 hv (show a 146 23 ≤ a 146 22 from by omega)) (fun r1528_ a1528_ b1528_ h1528_ => ?_)
  obtain ⟨hv1528_, hf1528_, rfl, hq1528_0, hq1528_1, hq1528_2, hq1528_3⟩ := h1528_
  have h1529_ := iv_get hv1528_ (k := 146) (j := 23) (l := 0) (u := 200) rfl
  have h1530_ := iv_get hv1528_ (k := 146) (j := 26) (l := 0) (u := 999) rfl
  refine jt_ite (fun c1531_ => ?_) (fun c1531_ => ?_)
  ·
    have hf1532_ : jfr jW_X12_clause a0 a1528_ := jfr_tr hf hf1528_ rfl
    have h1533_ := iv_get hv1528_ (k := 146) (j := 22) (l := 0) (u := 200) rfl
    have h1534_ : a1528_ 146 22 = a 146 22 := hf1528_ 146 22 rfl
    exact jt_rI ⟨hv1528_, hf1532_, rfl, (show (0 ≤ 0 ∧ 0 ≤ 1) from by omega), (show a0 146 23 ≤ a1528_ 146 23 from by omega), (show a1528_ 146 23 ≤ a1528_ 146 22 from by omega), (show (0 = 1 → (x1 < 12 ∧ (a0 146 23) + 2 ≤ a1528_ 146 23)) from by omega), (show ((a0 146 22 = 0 ∧ a0 146 24 = 0) → (0 = 0 ∧ a1528_ 146 24 = 1)) from by omega)⟩
  ·
    have hf1535_ : jfr jW_X12_clause a0 a1528_ := jfr_tr hf hf1528_ rfl
    have h1536_ := iv_get hv1528_ (k := 146) (j := 22) (l := 0) (u := 200) rfl
    have h1537_ : a1528_ 146 22 = a 146 22 := hf1528_ 146 22 rfl
    exact (cp_X12_clause_69 E d hd x1 a0 b0 hv0 hp0 hp1 hp2 _).2 y1 (a1528_ 146 26) 0 0 a1528_ (Nat.le_refl _) hv1528_ hf1535_ (show 0 ≤ y1 from by omega) (show y1 ≤ 11 from by omega) (show 0 ≤ a1528_ 146 26 from by omega) (show a1528_ 146 26 ≤ 999 from by omega) (show 0 ≤ 0 from by omega) (show 0 ≤ 900 from by omega) (show 0 ≤ 0 from by omega) (show 0 ≤ 11 from by omega) (show a1528_ 146 23 ≤ a1528_ 146 22 from by omega) (show (a0 146 23) + 2 ≤ a1528_ 146 23 from by omega) (show y1 = x1 from by omega) (show y1 < 12 from by omega) (show 0 ≤ y1 from by omega) (show 0 ≤ a1528_ 146 26 from by omega) (show a1528_ 146 26 ≤ 3 from by omega) (show 0 ≤ 0 from by omega) (show 0 ≤ 900 from by omega) (show 0 ≤ 0 from by omega) (show 0 ≤ y1 from by omega) (show 1 ≤ a0 146 22 from by omega)
theorem sp_X12_clause (E : jxE) (d : Nat) (hd : Nat.ble 3 d = true) (x1 : Int) (a0 b0 : Nat → Nat → Int) (hv0 : iv a0) (hp0 : a0 146 23 ≤ a0 146 22) (hp1 : 0 ≤ x1) (hp2 : x1 ≤ 12) : jt (jxC E d 281 [.inr (.inr (.inl 146)), .inl x1] (jxSH, a0, b0)) (jQ_X12_clause x1 a0 b0) := by
  obtain ⟨d, rfl⟩ := jd_succ hd
  refine jt_eq (bq_X12_clause E d x1 a0 b0) ?_
  have h1538_ := iv_get hv0 (k := 146) (j := 23) (l := 0) (u := 200) rfl
  have h1539_ := iv_get hv0 (k := 146) (j := 22) (l := 0) (u := 200) rfl
  refine jt_bI (sp_X12_wordHere E d (jd_le hd rfl) a0 b0 hv0 (show a0 146 23 ≤ a0 146 22 from by omega)) (fun r1540_ a1540_ b1540_ h1540_ => ?_)
  obtain ⟨hv1540_, hf1540_, rfl, hq1540_0, hq1540_1, hq1540_2, hq1540_3, hq1540_4, hq1540_5, hq1540_6⟩ := h1540_
  have h1541_ := iv_get hv1540_ (k := 146) (j := 23) (l := 0) (u := 200) rfl
  have h1542_ := iv_get hv1540_ (k := 146) (j := 25) (l := 0) (u := 200) rfl
  have h1543_ := iv_get hv1540_ (k := 146) (j := 22) (l := 0) (u := 200) rfl
  have h1544_ : a1540_ 146 22 = a0 146 22 := hf1540_ 146 22 rfl
  have h1545_ := iv_get hv0 (k := 164) (j := (a0 146 23).toNat) (l := (-128)) (u := 127) rfl
  refine jt_ite (fun c1546_ => ?_) (fun c1546_ => ?_)
  ·
    refine jt_ite (fun c1547_ => ?_) (fun c1547_ => ?_)
    ·
      refine jt_bI (sp_X12_fails E d (jd_le hd rfl) 2 (a1540_ 146 23) a1540_ b0 hv1540_) (fun r1548_ a1548_ b1548_ h1548_ => ?_)
      obtain ⟨hv1548_, hf1548_, rfl, hq1548_0, hq1548_1, hq1548_2, hq1548_3⟩ := h1548_
      have h1549_ : a1540_ 146 24 = a0 146 24 := hf1540_ 146 24 rfl
      refine jt_grd (by omega) ?_
      have hf1550_ : jfr jW_X12_clause a0 a1540_ := jfr_tr (jfr_rf _ _) hf1540_ rfl
      have hf1551_ : jfr jW_X12_clause a0 a1548_ := jfr_tr hf1550_ hf1548_ rfl
      have h1552_ := iv_get hv1548_ (k := 146) (j := 23) (l := 0) (u := 200) rfl
      have h1553_ : a1548_ 146 23 = a1540_ 146 23 := hf1548_ 146 23 rfl
      have h1554_ := iv_get hv1548_ (k := 146) (j := 22) (l := 0) (u := 200) rfl
      have h1555_ : a1548_ 146 22 = a1540_ 146 22 := hf1548_ 146 22 rfl
      exact jt_rI ⟨hv1548_, hf1551_, rfl, (show (0 ≤ r1548_ ∧ r1548_ ≤ 1) from by omega), (show a0 146 23 ≤ a1548_ 146 23 from by omega), (show a1548_ 146 23 ≤ a1548_ 146 22 from by omega), (show (r1548_ = 1 → (x1 < 12 ∧ (a0 146 23) + 2 ≤ a1548_ 146 23)) from by omega), (show ((a0 146 22 = 0 ∧ a0 146 24 = 0) → (r1548_ = 0 ∧ a1548_ 146 24 = 1)) from by omega)⟩
    ·
      have h1557_ : jxw ((a1540_ 146 23) + (a1540_ 146 25)) = (a1540_ 146 23) + (a1540_ 146 25) := jxw_id (by omega) (by omega)
      have hv1556_ : iv (jxu a1540_ 146 23 (jxw ((a1540_ 146 23) + (a1540_ 146 25)))) := iv_put hv1540_ (l := 0) (u := 200) rfl (by omega) (by omega)
      have hf1558_ : jfr jW_X12_clause a0 a1540_ := jfr_tr (jfr_rf _ _) hf1540_ rfl
      have hf1559_ : jfr jW_X12_clause a0 (jxu a1540_ 146 23 (jxw ((a1540_ 146 23) + (a1540_ 146 25)))) := jfr_put hf1558_ rfl
      exact cp_X12_clause_48 E d hd x1 a0 b0 hv0 hp0 hp1 hp2 x1 (jxu a1540_ 146 23 (jxw ((a1540_ 146 23) + (a1540_ 146 25)))) hv1556_ hf1559_ (show 0 ≤ x1 from by omega) (show x1 ≤ 11 from by omega) (show jxw ((a1540_ 146 23) + (a1540_ 146 25)) ≤ a1540_ 146 22 from by omega) (show (a0 146 23) + 2 ≤ jxw ((a1540_ 146 23) + (a1540_ 146 25)) from by omega) (show x1 = x1 from by omega) (show x1 < 12 from by omega) (show 0 ≤ x1 from by omega) (show 1 ≤ a0 146 22 from by omega)
  ·
    refine jt_bI (sp_X12_fails E d (jd_le hd rfl) 0 (a1540_ 146 23) a1540_ b0 hv1540_) (fun r1560_ a1560_ b1560_ h1560_ => ?_)
    obtain ⟨hv1560_, hf1560_, rfl, hq1560_0, hq1560_1, hq1560_2, hq1560_3⟩ := h1560_
    have h1561_ : a1540_ 146 24 = a0 146 24 := hf1540_ 146 24 rfl
    refine jt_grd (by omega) ?_
    have hf1562_ : jfr jW_X12_clause a0 a1540_ := jfr_tr (jfr_rf _ _) hf1540_ rfl
    have hf1563_ : jfr jW_X12_clause a0 a1560_ := jfr_tr hf1562_ hf1560_ rfl
    have h1564_ := iv_get hv1560_ (k := 146) (j := 23) (l := 0) (u := 200) rfl
    have h1565_ : a1560_ 146 23 = a1540_ 146 23 := hf1560_ 146 23 rfl
    have h1566_ := iv_get hv1560_ (k := 146) (j := 22) (l := 0) (u := 200) rfl
    have h1567_ : a1560_ 146 22 = a1540_ 146 22 := hf1560_ 146 22 rfl
    exact jt_rI ⟨hv1560_, hf1563_, rfl, (show (0 ≤ r1560_ ∧ r1560_ ≤ 1) from by omega), (show a0 146 23 ≤ a1560_ 146 23 from by omega), (show a1560_ 146 23 ≤ a1560_ 146 22 from by omega), (show (r1560_ = 1 → (x1 < 12 ∧ (a0 146 23) + 2 ≤ a1560_ 146 23)) from by omega), (show ((a0 146 22 = 0 ∧ a0 146 24 = 0) → (r1560_ = 0 ∧ a1560_ 146 24 = 1)) from by omega)⟩
def jW_X12_rules : List (Nat × Nat) := [(146, 22), (146, 23), (146, 24), (146, 25), (146, 26), (146, 27), (171, 9999), (172, 9999)]
abbrev jQ_X12_rules (a0 b0 : Nat → Nat → Int) : List jxV → (Nat → Nat → Int) → (Nat → Nat → Int) → Prop := rI (fun r a b => (iv a) ∧ (jfr jW_X12_rules a0 a) ∧ (b0 = b))
theorem cp_X12_rules_301 (E : jxE) (d : Nat) (hd : Nat.ble 3 (d + 1) = true) (a0 b0 : Nat → Nat → Int) (hv0 : iv a0) : ∀ n : Nat, (∀ (y2 y5 : Int) (a : Nat → Nat → Int), (((5 - y5) * 1) + 0).toNat ≤ n → iv a → jfr jW_X12_rules a0 a → 0 ≤ y5 → y5 ≤ 5 → a 146 22 ≤ 0 → jt (jxX E d 232 301 [some (.inr (.inr (.inl 146))), none, some (.inl y2), none, none, some (.inl y5)] [] (jxSH, a, b0)) (jQ_X12_rules a0 b0)) := by
  refine jx_ind fun n ih => ?_
  have ih301 : ∀ (y2 y5 : Int) (a : Nat → Nat → Int), (((5 - y5) * 1) + 0).toNat < n → iv a → jfr jW_X12_rules a0 a → 0 ≤ y5 → y5 ≤ 5 → a 146 22 ≤ 0 → jt (jxX E d 232 301 [some (.inr (.inr (.inl 146))), none, some (.inl y2), none, none, some (.inl y5)] [] (jxSH, a, b0)) (jQ_X12_rules a0 b0) := fun y2 y5 a hlt i0 i1 i2 i3 i4 => (ih _ hlt) y2 y5 a (Nat.le_refl _) i0 i1 i2 i3 i4
  have hc301 : ∀ (y2 y5 : Int) (a : Nat → Nat → Int), (((5 - y5) * 1) + 0).toNat ≤ n → iv a → jfr jW_X12_rules a0 a → 0 ≤ y5 → y5 ≤ 5 → a 146 22 ≤ 0 → jt (jxX E d 232 301 [some (.inr (.inr (.inl 146))), none, some (.inl y2), none, none, some (.inl y5)] [] (jxSH, a, b0)) (jQ_X12_rules a0 b0) := by
    intro y2 y5 a hm hv hf hi0 hi1 hi2
    refine jt_eq (bq_X12_rules_301 E d y2 y5 a b0) ?_
    have h1568_ := iv_get hv (k := 146) (j := 22) (l := 0) (u := 200) rfl
    refine jt_ite (fun c1569_ => ?_) (fun c1569_ => ?_)
    ·
      refine jt_grd (by omega) ?_
      refine jt_grd (by omega) ?_
      have hv1570_ : iv (jxu a 171 (y5.toNat) (a 172 (y5.toNat))) := iv_putf hv rfl
      have hf1571_ : jfr jW_X12_rules a0 (jxu a 171 (y5.toNat) (a 172 (y5.toNat))) := jfr_put hf rfl
      have h1572_ : jxw (y5 + 1) = y5 + 1 := jxw_id (by omega) (by omega)
      exact ih301 y2 (jxw (y5 + 1)) (jxu a 171 (y5.toNat) (a 172 (y5.toNat))) (show (((5 - (jxw (y5 + 1))) * 1) + 0).toNat < n from by omega) hv1570_ hf1571_ (show 0 ≤ jxw (y5 + 1) from by omega) (show jxw (y5 + 1) ≤ 5 from by omega) (show a 146 22 ≤ 0 from by omega)
    ·
      exact jt_rI ⟨hv, hf, rfl⟩
  exact hc301
theorem cp_X12_rules_281 (E : jxE) (d : Nat) (hd : Nat.ble 3 (d + 1) = true) (a0 b0 : Nat → Nat → Int) (hv0 : iv a0) : ∀ (y2 y3 : Int) (a : Nat → Nat → Int), iv a → jfr jW_X12_rules a0 a → 0 ≤ y3 → y3 ≤ 1 → a 146 22 ≤ 100 → 0 ≤ y3 → y3 ≤ 1 → jt (jxX E d 232 281 [some (.inr (.inr (.inl 146))), none, some (.inl y2), some (.inl y3), none, none] [] (jxSH, a, b0)) (jQ_X12_rules a0 b0) := by
  intro y2 y3 a hv hf hi0 hi1 hi2 hi3 hi4
  refine jt_eq (bq_X12_rules_281 E d y2 y3 a b0) ?_
  have h1573_ := iv_get hv (k := 146) (j := 22) (l := 0) (u := 200) rfl
  refine jt_ite (fun c1574_ => ?_) (fun c1574_ => ?_)
  ·
    have hv1575_ : iv (jxu a 146 22 0) := iv_put hv (l := 0) (u := 200) rfl (by omega) (by omega)
    have hf1576_ : jfr jW_X12_rules a0 (jxu a 146 22 0) := jfr_put hf rfl
    exact jt_rI ⟨hv1575_, hf1576_, rfl⟩
  ·
    have hv1577_ : iv (jxu a 146 22 0) := iv_put hv (l := 0) (u := 200) rfl (by omega) (by omega)
    have hf1578_ : jfr jW_X12_rules a0 (jxu a 146 22 0) := jfr_put hf rfl
    exact (cp_X12_rules_301 E d hd a0 b0 hv0 _) y2 0 (jxu a 146 22 0) (Nat.le_refl _) hv1577_ hf1578_ (show 0 ≤ 0 from by omega) (show 0 ≤ 5 from by omega) (show 0 ≤ 0 from by omega)
theorem cp_X12_rules_65 (E : jxE) (d : Nat) (hd : Nat.ble 3 (d + 1) = true) (a0 b0 : Nat → Nat → Int) (hv0 : iv a0) : ∀ n : Nat, (∀ (y1 y2 y3 y4 : Int) (a : Nat → Nat → Int), (((((a 146 22) - (a 146 23)) + (2 * y3)) + y4) + 1).toNat ≤ n → iv a → jfr jW_X12_rules a0 a → 0 ≤ y3 → y3 ≤ 1 → 0 ≤ y4 → y4 ≤ 1 → a 146 22 ≤ 100 → a 146 23 ≤ a 146 22 → 0 ≤ y2 → y2 ≤ a 146 23 → 0 ≤ y3 → 0 ≤ y4 → y3 ≤ 1 → y4 ≤ 1 → jt (jxX E d 232 278 [some (.inr (.inr (.inl 146))), some (.inl y1), some (.inl y2), some (.inl y3), some (.inl y4), none] [] (jxSH, a, b0)) (jQ_X12_rules a0 b0)) ∧ (∀ (y1 y2 y3 y4 : Int) (a : Nat → Nat → Int), (((((a 146 22) - (a 146 23)) + (2 * y3)) + y4) + 1).toNat ≤ n → iv a → jfr jW_X12_rules a0 a → 0 ≤ y3 → y3 ≤ 1 → 0 ≤ y4 → y4 ≤ 1 → a 146 22 ≤ 100 → a 146 23 ≤ a 146 22 → 0 ≤ y2 → y2 ≤ a 146 23 → 0 ≤ y3 → 0 ≤ y4 → y3 ≤ 1 → y4 ≤ 1 → jt (jxX E d 232 251 [some (.inr (.inr (.inl 146))), some (.inl y1), some (.inl y2), some (.inl y3), some (.inl y4), none] [] (jxSH, a, b0)) (jQ_X12_rules a0 b0)) ∧ (∀ (y1 y2 y3 y4 : Int) (a : Nat → Nat → Int), (((((a 146 22) - (a 146 23)) + (2 * y3)) + y4) + 1).toNat ≤ n → iv a → jfr jW_X12_rules a0 a → 0 ≤ y3 → y3 ≤ 1 → 0 ≤ y4 → y4 ≤ 1 → a 146 22 ≤ 100 → a 146 23 ≤ a 146 22 → 0 ≤ y2 → y2 ≤ a 146 23 → 0 ≤ y3 → 0 ≤ y4 → y3 ≤ 1 → y4 ≤ 1 → (y4 = 1 → a 146 23 < a 146 22) → jt (jxX E d 232 236 [some (.inr (.inr (.inl 146))), some (.inl y1), some (.inl y2), some (.inl y3), some (.inl y4), none] [] (jxSH, a, b0)) (jQ_X12_rules a0 b0)) ∧ (∀ (y1 y2 y3 s0 : Int) (a : Nat → Nat → Int), (((((a 146 22) - (a 146 23)) + (2 * y3)) + s0) + 1).toNat ≤ n → iv a → jfr jW_X12_rules a0 a → 0 ≤ y3 → y3 ≤ 1 → 0 ≤ s0 → s0 ≤ 1 → a 146 22 ≤ 100 → a 146 23 ≤ a 146 22 → 0 ≤ y2 → y2 ≤ a 146 23 → 0 ≤ y3 → 0 ≤ s0 → y3 ≤ 1 → s0 ≤ 1 → (s0 = 1 → (a 146 23 < a 146 22 ∧ ¬ a 164 ((a 146 23).toNat) = 32)) → jt (jxX E d 232 210 [some (.inr (.inr (.inl 146))), some (.inl y1), some (.inl y2), some (.inl y3), none, none] [.inl s0] (jxSH, a, b0)) (jQ_X12_rules a0 b0)) ∧ (∀ (y1 y2 y3 : Int) (a : Nat → Nat → Int), ((((a 146 22) - (a 146 23)) + (2 * y3)) + 2).toNat ≤ n → iv a → jfr jW_X12_rules a0 a → 1 ≤ y3 → y3 ≤ 1 → a 146 22 ≤ 100 → a 146 23 ≤ a 146 22 → 0 ≤ y2 → y2 ≤ a 146 23 → 0 ≤ y3 → y3 ≤ 1 → a 146 23 < a 146 22 → ¬ a 164 ((a 146 23).toNat) = 32 → jt (jxX E d 232 205 [some (.inr (.inr (.inl 146))), some (.inl y1), some (.inl y2), some (.inl y3), none, none] [] (jxSH, a, b0)) (jQ_X12_rules a0 b0)) ∧ (∀ (y1 y2 y3 : Int) (a : Nat → Nat → Int), ((((a 146 22) - (a 146 23)) + (2 * y3)) + 1).toNat ≤ n → iv a → jfr jW_X12_rules a0 a → 0 ≤ y3 → y3 ≤ 1 → a 146 22 ≤ 100 → a 146 23 ≤ a 146 22 → 0 ≤ y2 → y2 ≤ a 146 23 → 0 ≤ y3 → y3 ≤ 1 → jt (jxX E d 232 209 [some (.inr (.inr (.inl 146))), some (.inl y1), some (.inl y2), some (.inl y3), none, none] [] (jxSH, a, b0)) (jQ_X12_rules a0 b0)) ∧ (∀ (y1 y2 y5 s1 : Int) (a : Nat → Nat → Int), (((a 146 22) - (a 146 23)) + 4).toNat ≤ n → iv a → jfr jW_X12_rules a0 a → 0 - 11 ≤ y5 → y5 ≤ 5 → 0 ≤ s1 → s1 ≤ 1 → a 146 22 ≤ 100 → a 146 23 ≤ a 146 22 → 0 ≤ y2 → y2 + 2 ≤ a 146 23 → 0 ≤ y5 → y5 ≤ 4 → jt (jxX E d 232 170 [some (.inr (.inr (.inl 146))), some (.inl y1), some (.inl y2), none, none, some (.inl y5)] [.inl s1, .inr (.inr (.inl 146))] (jxSH, a, b0)) (jQ_X12_rules a0 b0)) ∧ (∀ (y1 y2 y5 : Int) (a : Nat → Nat → Int), (((a 146 22) - (a 146 23)) + 4).toNat ≤ n → iv a → jfr jW_X12_rules a0 a → 0 ≤ y5 → y5 ≤ 3 → a 146 22 ≤ 100 → a 146 23 ≤ a 146 22 → 0 ≤ y2 → y2 + 2 ≤ a 146 23 → 0 ≤ y5 → y5 ≤ 4 → jt (jxX E d 232 165 [some (.inr (.inr (.inl 146))), some (.inl y1), some (.inl y2), none, none, some (.inl y5)] [.inr (.inr (.inl 146))] (jxSH, a, b0)) (jQ_X12_rules a0 b0)) ∧ (∀ (y1 y2 y5 : Int) (a : Nat → Nat → Int), (((a 146 22) - (a 146 23)) + 4).toNat ≤ n → iv a → jfr jW_X12_rules a0 a → 0 - 11 ≤ y5 → y5 ≤ 5 → a 146 22 ≤ 100 → a 146 23 ≤ a 146 22 → 0 ≤ y2 → y2 + 2 ≤ a 146 23 → 0 ≤ y5 → y5 ≤ 4 → jt (jxX E d 232 153 [some (.inr (.inr (.inl 146))), some (.inl y1), some (.inl y2), none, none, some (.inl y5)] [] (jxSH, a, b0)) (jQ_X12_rules a0 b0)) ∧ (∀ (y1 y2 y3 y5 : Int) (a : Nat → Nat → Int), (((a 146 22) - (a 146 23)) + 2).toNat ≤ n → iv a → jfr jW_X12_rules a0 a → 0 ≤ y3 → y3 ≤ 1 → 0 - 11 ≤ y5 → y5 ≤ 5 → a 146 22 ≤ 100 → a 146 23 ≤ a 146 22 → 0 ≤ y2 → y2 ≤ a 146 23 → (a 146 23) + (a 146 25) ≤ a 146 22 → 0 ≤ y3 → y3 ≤ 1 → (y3 = 1 → ((0 ≤ y5 ∧ y5 ≤ 4) ∧ 2 ≤ a 146 25)) → jt (jxX E d 232 126 [some (.inr (.inr (.inl 146))), some (.inl y1), some (.inl y2), some (.inl y3), none, some (.inl y5)] [] (jxSH, a, b0)) (jQ_X12_rules a0 b0)) ∧ (∀ (y1 y2 y5 : Int) (a : Nat → Nat → Int), (((a 146 22) - (a 146 23)) + 2).toNat ≤ n → iv a → jfr jW_X12_rules a0 a → 0 - 11 ≤ y5 → y5 ≤ 5 → a 146 22 ≤ 100 → a 146 23 ≤ a 146 22 → 0 ≤ y2 → y2 ≤ a 146 23 → (a 146 23) + (a 146 25) ≤ a 146 22 → jt (jxX E d 232 93 [some (.inr (.inr (.inl 146))), some (.inl y1), some (.inl y2), none, none, some (.inl y5)] [] (jxSH, a, b0)) (jQ_X12_rules a0 b0)) ∧ (∀ (y1 y2 y3 y5 : Int) (a : Nat → Nat → Int), (((a 146 22) - (a 146 23)) + 2).toNat ≤ n → iv a → jfr jW_X12_rules a0 a → 1 ≤ y3 → y3 ≤ 1 → 0 ≤ y5 → y5 ≤ 4 → a 146 22 ≤ 100 → a 146 23 ≤ a 146 22 → 0 ≤ y2 → y2 ≤ a 146 23 → (a 146 23) + (a 146 25) ≤ a 146 22 → 0 ≤ y3 → y3 ≤ 1 → 0 ≤ y5 → y5 ≤ 4 → 2 ≤ a 146 25 → jt (jxX E d 232 106 [some (.inr (.inr (.inl 146))), some (.inl y1), some (.inl y2), some (.inl y3), none, some (.inl y5)] [] (jxSH, a, b0)) (jQ_X12_rules a0 b0)) ∧ (∀ (y1 y2 y3 y4 : Int) (a : Nat → Nat → Int), ((((a 146 22) - (a 146 23)) + y3) + y4).toNat ≤ n → iv a → jfr jW_X12_rules a0 a → 0 ≤ y3 → y3 ≤ 1 → 0 ≤ y4 → y4 ≤ 1 → a 146 22 ≤ 100 → a 146 23 ≤ a 146 22 → 0 ≤ y2 → y2 ≤ a 146 23 → 0 ≤ y3 → 0 ≤ y4 → y3 ≤ 1 → y4 ≤ 1 → jt (jxX E d 232 65 [some (.inr (.inr (.inl 146))), some (.inl y1), some (.inl y2), some (.inl y3), some (.inl y4), none] [] (jxSH, a, b0)) (jQ_X12_rules a0 b0)) := by
  refine jx_ind fun n ih => ?_
  have ih278 : ∀ (y1 y2 y3 y4 : Int) (a : Nat → Nat → Int), (((((a 146 22) - (a 146 23)) + (2 * y3)) + y4) + 1).toNat < n → iv a → jfr jW_X12_rules a0 a → 0 ≤ y3 → y3 ≤ 1 → 0 ≤ y4 → y4 ≤ 1 → a 146 22 ≤ 100 → a 146 23 ≤ a 146 22 → 0 ≤ y2 → y2 ≤ a 146 23 → 0 ≤ y3 → 0 ≤ y4 → y3 ≤ 1 → y4 ≤ 1 → jt (jxX E d 232 278 [some (.inr (.inr (.inl 146))), some (.inl y1), some (.inl y2), some (.inl y3), some (.inl y4), none] [] (jxSH, a, b0)) (jQ_X12_rules a0 b0) := fun y1 y2 y3 y4 a hlt i0 i1 i2 i3 i4 i5 i6 i7 i8 i9 i10 i11 i12 i13 => (ih _ hlt).1 y1 y2 y3 y4 a (Nat.le_refl _) i0 i1 i2 i3 i4 i5 i6 i7 i8 i9 i10 i11 i12 i13
  have ih251 : ∀ (y1 y2 y3 y4 : Int) (a : Nat → Nat → Int), (((((a 146 22) - (a 146 23)) + (2 * y3)) + y4) + 1).toNat < n → iv a → jfr jW_X12_rules a0 a → 0 ≤ y3 → y3 ≤ 1 → 0 ≤ y4 → y4 ≤ 1 → a 146 22 ≤ 100 → a 146 23 ≤ a 146 22 → 0 ≤ y2 → y2 ≤ a 146 23 → 0 ≤ y3 → 0 ≤ y4 → y3 ≤ 1 → y4 ≤ 1 → jt (jxX E d 232 251 [some (.inr (.inr (.inl 146))), some (.inl y1), some (.inl y2), some (.inl y3), some (.inl y4), none] [] (jxSH, a, b0)) (jQ_X12_rules a0 b0) := fun y1 y2 y3 y4 a hlt i0 i1 i2 i3 i4 i5 i6 i7 i8 i9 i10 i11 i12 i13 => (ih _ hlt).2.1 y1 y2 y3 y4 a (Nat.le_refl _) i0 i1 i2 i3 i4 i5 i6 i7 i8 i9 i10 i11 i12 i13
  have ih236 : ∀ (y1 y2 y3 y4 : Int) (a : Nat → Nat → Int), (((((a 146 22) - (a 146 23)) + (2 * y3)) + y4) + 1).toNat < n → iv a → jfr jW_X12_rules a0 a → 0 ≤ y3 → y3 ≤ 1 → 0 ≤ y4 → y4 ≤ 1 → a 146 22 ≤ 100 → a 146 23 ≤ a 146 22 → 0 ≤ y2 → y2 ≤ a 146 23 → 0 ≤ y3 → 0 ≤ y4 → y3 ≤ 1 → y4 ≤ 1 → (y4 = 1 → a 146 23 < a 146 22) → jt (jxX E d 232 236 [some (.inr (.inr (.inl 146))), some (.inl y1), some (.inl y2), some (.inl y3), some (.inl y4), none] [] (jxSH, a, b0)) (jQ_X12_rules a0 b0) := fun y1 y2 y3 y4 a hlt i0 i1 i2 i3 i4 i5 i6 i7 i8 i9 i10 i11 i12 i13 i14 => (ih _ hlt).2.2.1 y1 y2 y3 y4 a (Nat.le_refl _) i0 i1 i2 i3 i4 i5 i6 i7 i8 i9 i10 i11 i12 i13 i14
  have ih210 : ∀ (y1 y2 y3 s0 : Int) (a : Nat → Nat → Int), (((((a 146 22) - (a 146 23)) + (2 * y3)) + s0) + 1).toNat < n → iv a → jfr jW_X12_rules a0 a → 0 ≤ y3 → y3 ≤ 1 → 0 ≤ s0 → s0 ≤ 1 → a 146 22 ≤ 100 → a 146 23 ≤ a 146 22 → 0 ≤ y2 → y2 ≤ a 146 23 → 0 ≤ y3 → 0 ≤ s0 → y3 ≤ 1 → s0 ≤ 1 → (s0 = 1 → (a 146 23 < a 146 22 ∧ ¬ a 164 ((a 146 23).toNat) = 32)) → jt (jxX E d 232 210 [some (.inr (.inr (.inl 146))), some (.inl y1), some (.inl y2), some (.inl y3), none, none] [.inl s0] (jxSH, a, b0)) (jQ_X12_rules a0 b0) := fun y1 y2 y3 s0 a hlt i0 i1 i2 i3 i4 i5 i6 i7 i8 i9 i10 i11 i12 i13 i14 => (ih _ hlt).2.2.2.1 y1 y2 y3 s0 a (Nat.le_refl _) i0 i1 i2 i3 i4 i5 i6 i7 i8 i9 i10 i11 i12 i13 i14
  have ih205 : ∀ (y1 y2 y3 : Int) (a : Nat → Nat → Int), ((((a 146 22) - (a 146 23)) + (2 * y3)) + 2).toNat < n → iv a → jfr jW_X12_rules a0 a → 1 ≤ y3 → y3 ≤ 1 → a 146 22 ≤ 100 → a 146 23 ≤ a 146 22 → 0 ≤ y2 → y2 ≤ a 146 23 → 0 ≤ y3 → y3 ≤ 1 → a 146 23 < a 146 22 → ¬ a 164 ((a 146 23).toNat) = 32 → jt (jxX E d 232 205 [some (.inr (.inr (.inl 146))), some (.inl y1), some (.inl y2), some (.inl y3), none, none] [] (jxSH, a, b0)) (jQ_X12_rules a0 b0) := fun y1 y2 y3 a hlt i0 i1 i2 i3 i4 i5 i6 i7 i8 i9 i10 i11 => (ih _ hlt).2.2.2.2.1 y1 y2 y3 a (Nat.le_refl _) i0 i1 i2 i3 i4 i5 i6 i7 i8 i9 i10 i11
  have ih209 : ∀ (y1 y2 y3 : Int) (a : Nat → Nat → Int), ((((a 146 22) - (a 146 23)) + (2 * y3)) + 1).toNat < n → iv a → jfr jW_X12_rules a0 a → 0 ≤ y3 → y3 ≤ 1 → a 146 22 ≤ 100 → a 146 23 ≤ a 146 22 → 0 ≤ y2 → y2 ≤ a 146 23 → 0 ≤ y3 → y3 ≤ 1 → jt (jxX E d 232 209 [some (.inr (.inr (.inl 146))), some (.inl y1), some (.inl y2), some (.inl y3), none, none] [] (jxSH, a, b0)) (jQ_X12_rules a0 b0) := fun y1 y2 y3 a hlt i0 i1 i2 i3 i4 i5 i6 i7 i8 i9 => (ih _ hlt).2.2.2.2.2.1 y1 y2 y3 a (Nat.le_refl _) i0 i1 i2 i3 i4 i5 i6 i7 i8 i9
  have ih170 : ∀ (y1 y2 y5 s1 : Int) (a : Nat → Nat → Int), (((a 146 22) - (a 146 23)) + 4).toNat < n → iv a → jfr jW_X12_rules a0 a → 0 - 11 ≤ y5 → y5 ≤ 5 → 0 ≤ s1 → s1 ≤ 1 → a 146 22 ≤ 100 → a 146 23 ≤ a 146 22 → 0 ≤ y2 → y2 + 2 ≤ a 146 23 → 0 ≤ y5 → y5 ≤ 4 → jt (jxX E d 232 170 [some (.inr (.inr (.inl 146))), some (.inl y1), some (.inl y2), none, none, some (.inl y5)] [.inl s1, .inr (.inr (.inl 146))] (jxSH, a, b0)) (jQ_X12_rules a0 b0) := fun y1 y2 y5 s1 a hlt i0 i1 i2 i3 i4 i5 i6 i7 i8 i9 i10 i11 => (ih _ hlt).2.2.2.2.2.2.1 y1 y2 y5 s1 a (Nat.le_refl _) i0 i1 i2 i3 i4 i5 i6 i7 i8 i9 i10 i11
  have ih165 : ∀ (y1 y2 y5 : Int) (a : Nat → Nat → Int), (((a 146 22) - (a 146 23)) + 4).toNat < n → iv a → jfr jW_X12_rules a0 a → 0 ≤ y5 → y5 ≤ 3 → a 146 22 ≤ 100 → a 146 23 ≤ a 146 22 → 0 ≤ y2 → y2 + 2 ≤ a 146 23 → 0 ≤ y5 → y5 ≤ 4 → jt (jxX E d 232 165 [some (.inr (.inr (.inl 146))), some (.inl y1), some (.inl y2), none, none, some (.inl y5)] [.inr (.inr (.inl 146))] (jxSH, a, b0)) (jQ_X12_rules a0 b0) := fun y1 y2 y5 a hlt i0 i1 i2 i3 i4 i5 i6 i7 i8 i9 => (ih _ hlt).2.2.2.2.2.2.2.1 y1 y2 y5 a (Nat.le_refl _) i0 i1 i2 i3 i4 i5 i6 i7 i8 i9
  have ih153 : ∀ (y1 y2 y5 : Int) (a : Nat → Nat → Int), (((a 146 22) - (a 146 23)) + 4).toNat < n → iv a → jfr jW_X12_rules a0 a → 0 - 11 ≤ y5 → y5 ≤ 5 → a 146 22 ≤ 100 → a 146 23 ≤ a 146 22 → 0 ≤ y2 → y2 + 2 ≤ a 146 23 → 0 ≤ y5 → y5 ≤ 4 → jt (jxX E d 232 153 [some (.inr (.inr (.inl 146))), some (.inl y1), some (.inl y2), none, none, some (.inl y5)] [] (jxSH, a, b0)) (jQ_X12_rules a0 b0) := fun y1 y2 y5 a hlt i0 i1 i2 i3 i4 i5 i6 i7 i8 i9 => (ih _ hlt).2.2.2.2.2.2.2.2.1 y1 y2 y5 a (Nat.le_refl _) i0 i1 i2 i3 i4 i5 i6 i7 i8 i9
  have ih126 : ∀ (y1 y2 y3 y5 : Int) (a : Nat → Nat → Int), (((a 146 22) - (a 146 23)) + 2).toNat < n → iv a → jfr jW_X12_rules a0 a → 0 ≤ y3 → y3 ≤ 1 → 0 - 11 ≤ y5 → y5 ≤ 5 → a 146 22 ≤ 100 → a 146 23 ≤ a 146 22 → 0 ≤ y2 → y2 ≤ a 146 23 → (a 146 23) + (a 146 25) ≤ a 146 22 → 0 ≤ y3 → y3 ≤ 1 → (y3 = 1 → ((0 ≤ y5 ∧ y5 ≤ 4) ∧ 2 ≤ a 146 25)) → jt (jxX E d 232 126 [some (.inr (.inr (.inl 146))), some (.inl y1), some (.inl y2), some (.inl y3), none, some (.inl y5)] [] (jxSH, a, b0)) (jQ_X12_rules a0 b0) := fun y1 y2 y3 y5 a hlt i0 i1 i2 i3 i4 i5 i6 i7 i8 i9 i10 i11 i12 i13 => (ih _ hlt).2.2.2.2.2.2.2.2.2.1 y1 y2 y3 y5 a (Nat.le_refl _) i0 i1 i2 i3 i4 i5 i6 i7 i8 i9 i10 i11 i12 i13
  have ih93 : ∀ (y1 y2 y5 : Int) (a : Nat → Nat → Int), (((a 146 22) - (a 146 23)) + 2).toNat < n → iv a → jfr jW_X12_rules a0 a → 0 - 11 ≤ y5 → y5 ≤ 5 → a 146 22 ≤ 100 → a 146 23 ≤ a 146 22 → 0 ≤ y2 → y2 ≤ a 146 23 → (a 146 23) + (a 146 25) ≤ a 146 22 → jt (jxX E d 232 93 [some (.inr (.inr (.inl 146))), some (.inl y1), some (.inl y2), none, none, some (.inl y5)] [] (jxSH, a, b0)) (jQ_X12_rules a0 b0) := fun y1 y2 y5 a hlt i0 i1 i2 i3 i4 i5 i6 i7 i8 => (ih _ hlt).2.2.2.2.2.2.2.2.2.2.1 y1 y2 y5 a (Nat.le_refl _) i0 i1 i2 i3 i4 i5 i6 i7 i8
  have ih106 : ∀ (y1 y2 y3 y5 : Int) (a : Nat → Nat → Int), (((a 146 22) - (a 146 23)) + 2).toNat < n → iv a → jfr jW_X12_rules a0 a → 1 ≤ y3 → y3 ≤ 1 → 0 ≤ y5 → y5 ≤ 4 → a 146 22 ≤ 100 → a 146 23 ≤ a 146 22 → 0 ≤ y2 → y2 ≤ a 146 23 → (a 146 23) + (a 146 25) ≤ a 146 22 → 0 ≤ y3 → y3 ≤ 1 → 0 ≤ y5 → y5 ≤ 4 → 2 ≤ a 146 25 → jt (jxX E d 232 106 [some (.inr (.inr (.inl 146))), some (.inl y1), some (.inl y2), some (.inl y3), none, some (.inl y5)] [] (jxSH, a, b0)) (jQ_X12_rules a0 b0) := fun y1 y2 y3 y5 a hlt i0 i1 i2 i3 i4 i5 i6 i7 i8 i9 i10 i11 i12 i13 i14 i15 => (ih _ hlt).2.2.2.2.2.2.2.2.2.2.2.1 y1 y2 y3 y5 a (Nat.le_refl _) i0 i1 i2 i3 i4 i5 i6 i7 i8 i9 i10 i11 i12 i13 i14 i15
  have ih65 : ∀ (y1 y2 y3 y4 : Int) (a : Nat → Nat → Int), ((((a 146 22) - (a 146 23)) + y3) + y4).toNat < n → iv a → jfr jW_X12_rules a0 a → 0 ≤ y3 → y3 ≤ 1 → 0 ≤ y4 → y4 ≤ 1 → a 146 22 ≤ 100 → a 146 23 ≤ a 146 22 → 0 ≤ y2 → y2 ≤ a 146 23 → 0 ≤ y3 → 0 ≤ y4 → y3 ≤ 1 → y4 ≤ 1 → jt (jxX E d 232 65 [some (.inr (.inr (.inl 146))), some (.inl y1), some (.inl y2), some (.inl y3), some (.inl y4), none] [] (jxSH, a, b0)) (jQ_X12_rules a0 b0) := fun y1 y2 y3 y4 a hlt i0 i1 i2 i3 i4 i5 i6 i7 i8 i9 i10 i11 i12 i13 => (ih _ hlt).2.2.2.2.2.2.2.2.2.2.2.2 y1 y2 y3 y4 a (Nat.le_refl _) i0 i1 i2 i3 i4 i5 i6 i7 i8 i9 i10 i11 i12 i13
  have hc278 : ∀ (y1 y2 y3 y4 : Int) (a : Nat → Nat → Int), (((((a 146 22) - (a 146 23)) + (2 * y3)) + y4) + 1).toNat ≤ n → iv a → jfr jW_X12_rules a0 a → 0 ≤ y3 → y3 ≤ 1 → 0 ≤ y4 → y4 ≤ 1 → a 146 22 ≤ 100 → a 146 23 ≤ a 146 22 → 0 ≤ y2 → y2 ≤ a 146 23 → 0 ≤ y3 → 0 ≤ y4 → y3 ≤ 1 → y4 ≤ 1 → jt (jxX E d 232 278 [some (.inr (.inr (.inl 146))), some (.inl y1), some (.inl y2), some (.inl y3), some (.inl y4), none] [] (jxSH, a, b0)) (jQ_X12_rules a0 b0) := by
    intro y1 y2 y3 y4 a hm hv hf hi0 hi1 hi2 hi3 hi4 hi5 hi6 hi7 hi8 hi9 hi10 hi11
    refine jt_eq (bq_X12_rules_278 E d y1 y2 y3 y4 a b0) ?_
    have h1579_ := iv_get hv (k := 146) (j := 22) (l := 0) (u := 200) rfl
    have h1580_ := iv_get hv (k := 146) (j := 23) (l := 0) (u := 200) rfl
    exact ih65 y1 y2 y3 y4 a (show ((((a 146 22) - (a 146 23)) + y3) + y4).toNat < n from by omega) hv hf (show 0 ≤ y3 from by omega) (show y3 ≤ 1 from by omega) (show 0 ≤ y4 from by omega) (show y4 ≤ 1 from by omega) (show a 146 22 ≤ 100 from by omega) (show a 146 23 ≤ a 146 22 from by omega) (show 0 ≤ y2 from by omega) (show y2 ≤ a 146 23 from by omega) (show 0 ≤ y3 from by omega) (show 0 ≤ y4 from by omega) (show y3 ≤ 1 from by omega) (show y4 ≤ 1 from by omega)
  have hc251 : ∀ (y1 y2 y3 y4 : Int) (a : Nat → Nat → Int), (((((a 146 22) - (a 146 23)) + (2 * y3)) + y4) + 1).toNat ≤ n → iv a → jfr jW_X12_rules a0 a → 0 ≤ y3 → y3 ≤ 1 → 0 ≤ y4 → y4 ≤ 1 → a 146 22 ≤ 100 → a 146 23 ≤ a 146 22 → 0 ≤ y2 → y2 ≤ a 146 23 → 0 ≤ y3 → 0 ≤ y4 → y3 ≤ 1 → y4 ≤ 1 → jt (jxX E d 232 251 [some (.inr (.inr (.inl 146))), some (.inl y1), some (.inl y2), some (.inl y3), some (.inl y4), none] [] (jxSH, a, b0)) (jQ_X12_rules a0 b0) := by
    intro y1 y2 y3 y4 a hm hv hf hi0 hi1 hi2 hi3 hi4 hi5 hi6 hi7 hi8 hi9 hi10 hi11
    refine jt_eq (bq_X12_rules_251 E d y1 y2 y3 y4 a b0) ?_
    have h1581_ := iv_get hv (k := 146) (j := 22) (l := 0) (u := 200) rfl
    have h1582_ := iv_get hv (k := 146) (j := 23) (l := 0) (u := 200) rfl
    refine jt_ite (fun c1583_ => ?_) (fun c1583_ => ?_)
    ·
      exact hc278 y1 y2 y3 y4 a (show (((((a 146 22) - (a 146 23)) + (2 * y3)) + y4) + 1).toNat ≤ n from by omega) hv hf (show 0 ≤ y3 from by omega) (show y3 ≤ 1 from by omega) (show 0 ≤ y4 from by omega) (show y4 ≤ 1 from by omega) (show a 146 22 ≤ 100 from by omega) (show a 146 23 ≤ a 146 22 from by omega) (show 0 ≤ y2 from by omega) (show y2 ≤ a 146 23 from by omega) (show 0 ≤ y3 from by omega) (show 0 ≤ y4 from by omega) (show y3 ≤ 1 from by omega) (show y4 ≤ 1 from by omega)
    ·
      refine jt_ite (fun c1584_ => ?_) (fun c1584_ => ?_)
      ·
        exact hc278 y1 y2 y3 y4 a (show (((((a 146 22) - (a 146 23)) + (2 * y3)) + y4) + 1).toNat ≤ n from by omega) hv hf (show 0 ≤ y3 from by omega) (show y3 ≤ 1 from by omega) (show 0 ≤ y4 from by omega) (show y4 ≤ 1 from by omega) (show a 146 22 ≤ 100 from by omega) (show a 146 23 ≤ a 146 22 from by omega) (show 0 ≤ y2 from by omega) (show y2 ≤ a 146 23 from by omega) (show 0 ≤ y3 from by omega) (show 0 ≤ y4 from by omega) (show y3 ≤ 1 from by omega) (show y4 ≤ 1 from by omega)
      ·
        refine jt_bI (sp_X12_see E d (jd_le hd rfl) a b0 hv (show a 146 23 ≤ a 146 22 from by omega)) (fun r1585_ a1585_ b1585_ h1585_ => ?_)
        obtain ⟨hv1585_, hf1585_, rfl, hq1585_0, hq1585_1, hq1585_2, hq1585_3⟩ := h1585_
        have h1586_ := iv_get hv1585_ (k := 146) (j := 23) (l := 0) (u := 200) rfl
        have h1587_ := iv_get hv1585_ (k := 164) (j := (a1585_ 146 23).toNat) (l := (-128)) (u := 127) rfl
        have h1588_ : a1585_ 164 ((a1585_ 146 23).toNat) = a 164 ((a1585_ 146 23).toNat) := hf1585_ 164 ((a1585_ 146 23).toNat) rfl
        have h1589_ := iv_get hv (k := 164) (j := (a1585_ 146 23).toNat) (l := (-128)) (u := 127) rfl
        have h1590_ : a 164 ((a1585_ 146 23).toNat) = a0 164 ((a1585_ 146 23).toNat) := hf 164 ((a1585_ 146 23).toNat) rfl
        have h1591_ := iv_get hv0 (k := 164) (j := (a1585_ 146 23).toNat) (l := (-128)) (u := 127) rfl
        have h1592_ := iv_get hv (k := 164) (j := (a 146 23).toNat) (l := (-128)) (u := 127) rfl
        have h1593_ : a 164 ((a 146 23).toNat) = a0 164 ((a 146 23).toNat) := hf 164 ((a 146 23).toNat) rfl
        have h1594_ := iv_get hv0 (k := 164) (j := (a 146 23).toNat) (l := (-128)) (u := 127) rfl
        refine jt_ite (fun c1595_ => ?_) (fun c1595_ => ?_)
        ·
          refine jt_bI (sp_X12_fails E d (jd_le hd rfl) 0 (a1585_ 146 23) a1585_ b0 hv1585_) (fun r1596_ a1596_ b1596_ h1596_ => ?_)
          obtain ⟨hv1596_, hf1596_, rfl, hq1596_0, hq1596_1, hq1596_2, hq1596_3⟩ := h1596_
          have h1597_ : a1585_ 146 24 = a 146 24 := hf1585_ 146 24 rfl
          have hf1598_ : jfr jW_X12_rules a0 a1585_ := jfr_tr hf hf1585_ rfl
          have hf1599_ : jfr jW_X12_rules a0 a1596_ := jfr_tr hf1598_ hf1596_ rfl
          have h1600_ := iv_get hv1596_ (k := 146) (j := 22) (l := 0) (u := 200) rfl
          have h1601_ : a1596_ 146 22 = a1585_ 146 22 := hf1596_ 146 22 rfl
          have h1602_ := iv_get hv1585_ (k := 146) (j := 22) (l := 0) (u := 200) rfl
          have h1603_ : a1585_ 146 22 = a 146 22 := hf1585_ 146 22 rfl
          have h1604_ := iv_get hv1596_ (k := 146) (j := 23) (l := 0) (u := 200) rfl
          have h1605_ : a1596_ 146 23 = a1585_ 146 23 := hf1596_ 146 23 rfl
          exact hc278 y1 y2 r1596_ y4 a1596_ (show (((((a1596_ 146 22) - (a1596_ 146 23)) + (2 * r1596_)) + y4) + 1).toNat ≤ n from by omega) hv1596_ hf1599_ (show 0 ≤ r1596_ from by omega) (show r1596_ ≤ 1 from by omega) (show 0 ≤ y4 from by omega) (show y4 ≤ 1 from by omega) (show a1596_ 146 22 ≤ 100 from by omega) (show a1596_ 146 23 ≤ a1596_ 146 22 from by omega) (show 0 ≤ y2 from by omega) (show y2 ≤ a1596_ 146 23 from by omega) (show 0 ≤ r1596_ from by omega) (show 0 ≤ y4 from by omega) (show r1596_ ≤ 1 from by omega) (show y4 ≤ 1 from by omega)
        ·
          have hf1606_ : jfr jW_X12_rules a0 a1585_ := jfr_tr hf hf1585_ rfl
          have h1607_ := iv_get hv1585_ (k := 146) (j := 22) (l := 0) (u := 200) rfl
          have h1608_ : a1585_ 146 22 = a 146 22 := hf1585_ 146 22 rfl
          exact hc278 y1 y2 y3 y4 a1585_ (show (((((a1585_ 146 22) - (a1585_ 146 23)) + (2 * y3)) + y4) + 1).toNat ≤ n from by omega) hv1585_ hf1606_ (show 0 ≤ y3 from by omega) (show y3 ≤ 1 from by omega) (show 0 ≤ y4 from by omega) (show y4 ≤ 1 from by omega) (show a1585_ 146 22 ≤ 100 from by omega) (show a1585_ 146 23 ≤ a1585_ 146 22 from by omega) (show 0 ≤ y2 from by omega) (show y2 ≤ a1585_ 146 23 from by omega) (show 0 ≤ y3 from by omega) (show 0 ≤ y4 from by omega) (show y3 ≤ 1 from by omega) (show y4 ≤ 1 from by omega)
  have hc236 : ∀ (y1 y2 y3 y4 : Int) (a : Nat → Nat → Int), (((((a 146 22) - (a 146 23)) + (2 * y3)) + y4) + 1).toNat ≤ n → iv a → jfr jW_X12_rules a0 a → 0 ≤ y3 → y3 ≤ 1 → 0 ≤ y4 → y4 ≤ 1 → a 146 22 ≤ 100 → a 146 23 ≤ a 146 22 → 0 ≤ y2 → y2 ≤ a 146 23 → 0 ≤ y3 → 0 ≤ y4 → y3 ≤ 1 → y4 ≤ 1 → (y4 = 1 → a 146 23 < a 146 22) → jt (jxX E d 232 236 [some (.inr (.inr (.inl 146))), some (.inl y1), some (.inl y2), some (.inl y3), some (.inl y4), none] [] (jxSH, a, b0)) (jQ_X12_rules a0 b0) := by
    intro y1 y2 y3 y4 a hm hv hf hi0 hi1 hi2 hi3 hi4 hi5 hi6 hi7 hi8 hi9 hi10 hi11 hi12
    refine jt_eq (bq_X12_rules_236 E d y1 y2 y3 y4 a b0) ?_
    have h1609_ := iv_get hv (k := 146) (j := 22) (l := 0) (u := 200) rfl
    have h1610_ := iv_get hv (k := 146) (j := 23) (l := 0) (u := 200) rfl
    refine jt_ite (fun c1611_ => ?_) (fun c1611_ => ?_)
    ·
      exact hc251 y1 y2 y3 y4 a (show (((((a 146 22) - (a 146 23)) + (2 * y3)) + y4) + 1).toNat ≤ n from by omega) hv hf (show 0 ≤ y3 from by omega) (show y3 ≤ 1 from by omega) (show 0 ≤ y4 from by omega) (show y4 ≤ 1 from by omega) (show a 146 22 ≤ 100 from by omega) (show a 146 23 ≤ a 146 22 from by omega) (show 0 ≤ y2 from by omega) (show y2 ≤ a 146 23 from by omega) (show 0 ≤ y3 from by omega) (show 0 ≤ y4 from by omega) (show y3 ≤ 1 from by omega) (show y4 ≤ 1 from by omega)
    ·
      have h1613_ : jxw ((a 146 23) + 1) = (a 146 23) + 1 := jxw_id (by omega) (by omega)
      have hv1612_ : iv (jxu a 146 23 (jxw ((a 146 23) + 1))) := iv_put hv (l := 0) (u := 200) rfl (by omega) (by omega)
      have hf1614_ : jfr jW_X12_rules a0 (jxu a 146 23 (jxw ((a 146 23) + 1))) := jfr_put hf rfl
      exact hc251 y1 y2 y3 y4 (jxu a 146 23 (jxw ((a 146 23) + 1))) (show (((((a 146 22) - (jxw ((a 146 23) + 1))) + (2 * y3)) + y4) + 1).toNat ≤ n from by omega) hv1612_ hf1614_ (show 0 ≤ y3 from by omega) (show y3 ≤ 1 from by omega) (show 0 ≤ y4 from by omega) (show y4 ≤ 1 from by omega) (show a 146 22 ≤ 100 from by omega) (show jxw ((a 146 23) + 1) ≤ a 146 22 from by omega) (show 0 ≤ y2 from by omega) (show y2 ≤ jxw ((a 146 23) + 1) from by omega) (show 0 ≤ y3 from by omega) (show 0 ≤ y4 from by omega) (show y3 ≤ 1 from by omega) (show y4 ≤ 1 from by omega)
  have hc210 : ∀ (y1 y2 y3 s0 : Int) (a : Nat → Nat → Int), (((((a 146 22) - (a 146 23)) + (2 * y3)) + s0) + 1).toNat ≤ n → iv a → jfr jW_X12_rules a0 a → 0 ≤ y3 → y3 ≤ 1 → 0 ≤ s0 → s0 ≤ 1 → a 146 22 ≤ 100 → a 146 23 ≤ a 146 22 → 0 ≤ y2 → y2 ≤ a 146 23 → 0 ≤ y3 → 0 ≤ s0 → y3 ≤ 1 → s0 ≤ 1 → (s0 = 1 → (a 146 23 < a 146 22 ∧ ¬ a 164 ((a 146 23).toNat) = 32)) → jt (jxX E d 232 210 [some (.inr (.inr (.inl 146))), some (.inl y1), some (.inl y2), some (.inl y3), none, none] [.inl s0] (jxSH, a, b0)) (jQ_X12_rules a0 b0) := by
    intro y1 y2 y3 s0 a hm hv hf hi0 hi1 hi2 hi3 hi4 hi5 hi6 hi7 hi8 hi9 hi10 hi11 hi12
    refine jt_eq (bq_X12_rules_210 E d y1 y2 y3 s0 a b0) ?_
    have h1615_ := iv_get hv (k := 146) (j := 22) (l := 0) (u := 200) rfl
    have h1616_ := iv_get hv (k := 146) (j := 23) (l := 0) (u := 200) rfl
    have h1617_ := iv_get hv (k := 164) (j := (a 146 23).toNat) (l := (-128)) (u := 127) rfl
    have h1618_ : a 164 ((a 146 23).toNat) = a0 164 ((a 146 23).toNat) := hf 164 ((a 146 23).toNat) rfl
    have h1619_ := iv_get hv0 (k := 164) (j := (a 146 23).toNat) (l := (-128)) (u := 127) rfl
    refine jt_ite (fun c1620_ => ?_) (fun c1620_ => ?_)
    ·
      exact hc236 y1 y2 y3 s0 a (show (((((a 146 22) - (a 146 23)) + (2 * y3)) + s0) + 1).toNat ≤ n from by omega) hv hf (show 0 ≤ y3 from by omega) (show y3 ≤ 1 from by omega) (show 0 ≤ s0 from by omega) (show s0 ≤ 1 from by omega) (show a 146 22 ≤ 100 from by omega) (show a 146 23 ≤ a 146 22 from by omega) (show 0 ≤ y2 from by omega) (show y2 ≤ a 146 23 from by omega) (show 0 ≤ y3 from by omega) (show 0 ≤ s0 from by omega) (show y3 ≤ 1 from by omega) (show s0 ≤ 1 from by omega) (show (s0 = 1 → a 146 23 < a 146 22) from by omega)
    ·
      refine jt_bI (sp_X12_see E d (jd_le hd rfl) a b0 hv (show a 146 23 ≤ a 146 22 from by omega)) (fun r1621_ a1621_ b1621_ h1621_ => ?_)
      obtain ⟨hv1621_, hf1621_, rfl, hq1621_0, hq1621_1, hq1621_2, hq1621_3⟩ := h1621_
      have h1622_ := iv_get hv1621_ (k := 146) (j := 23) (l := 0) (u := 200) rfl
      have h1623_ := iv_get hv1621_ (k := 164) (j := (a1621_ 146 23).toNat) (l := (-128)) (u := 127) rfl
      have h1624_ : a1621_ 164 ((a1621_ 146 23).toNat) = a 164 ((a1621_ 146 23).toNat) := hf1621_ 164 ((a1621_ 146 23).toNat) rfl
      have h1625_ := iv_get hv (k := 164) (j := (a1621_ 146 23).toNat) (l := (-128)) (u := 127) rfl
      have h1626_ : a 164 ((a1621_ 146 23).toNat) = a0 164 ((a1621_ 146 23).toNat) := hf 164 ((a1621_ 146 23).toNat) rfl
      have h1627_ := iv_get hv0 (k := 164) (j := (a1621_ 146 23).toNat) (l := (-128)) (u := 127) rfl
      refine jt_ite (fun c1628_ => ?_) (fun c1628_ => ?_)
      ·
        have hf1629_ : jfr jW_X12_rules a0 a1621_ := jfr_tr hf hf1621_ rfl
        have h1630_ := iv_get hv1621_ (k := 146) (j := 22) (l := 0) (u := 200) rfl
        have h1631_ : a1621_ 146 22 = a 146 22 := hf1621_ 146 22 rfl
        exact hc236 y1 y2 y3 s0 a1621_ (show (((((a1621_ 146 22) - (a1621_ 146 23)) + (2 * y3)) + s0) + 1).toNat ≤ n from by omega) hv1621_ hf1629_ (show 0 ≤ y3 from by omega) (show y3 ≤ 1 from by omega) (show 0 ≤ s0 from by omega) (show s0 ≤ 1 from by omega) (show a1621_ 146 22 ≤ 100 from by omega) (show a1621_ 146 23 ≤ a1621_ 146 22 from by omega) (show 0 ≤ y2 from by omega) (show y2 ≤ a1621_ 146 23 from by omega) (show 0 ≤ y3 from by omega) (show 0 ≤ s0 from by omega) (show y3 ≤ 1 from by omega) (show s0 ≤ 1 from by omega) (show (s0 = 1 → a1621_ 146 23 < a1621_ 146 22) from by omega)
      ·
        refine jt_bI (sp_X12_fails E d (jd_le hd rfl) 0 (a1621_ 146 23) a1621_ b0 hv1621_) (fun r1632_ a1632_ b1632_ h1632_ => ?_)
        obtain ⟨hv1632_, hf1632_, rfl, hq1632_0, hq1632_1, hq1632_2, hq1632_3⟩ := h1632_
        have h1633_ : a1621_ 146 24 = a 146 24 := hf1621_ 146 24 rfl
        have hf1634_ : jfr jW_X12_rules a0 a1621_ := jfr_tr hf hf1621_ rfl
        have hf1635_ : jfr jW_X12_rules a0 a1632_ := jfr_tr hf1634_ hf1632_ rfl
        have h1636_ := iv_get hv1632_ (k := 146) (j := 22) (l := 0) (u := 200) rfl
        have h1637_ : a1632_ 146 22 = a1621_ 146 22 := hf1632_ 146 22 rfl
        have h1638_ := iv_get hv1621_ (k := 146) (j := 22) (l := 0) (u := 200) rfl
        have h1639_ : a1621_ 146 22 = a 146 22 := hf1621_ 146 22 rfl
        have h1640_ := iv_get hv1632_ (k := 146) (j := 23) (l := 0) (u := 200) rfl
        have h1641_ : a1632_ 146 23 = a1621_ 146 23 := hf1632_ 146 23 rfl
        exact hc236 y1 y2 r1632_ s0 a1632_ (show (((((a1632_ 146 22) - (a1632_ 146 23)) + (2 * r1632_)) + s0) + 1).toNat ≤ n from by omega) hv1632_ hf1635_ (show 0 ≤ r1632_ from by omega) (show r1632_ ≤ 1 from by omega) (show 0 ≤ s0 from by omega) (show s0 ≤ 1 from by omega) (show a1632_ 146 22 ≤ 100 from by omega) (show a1632_ 146 23 ≤ a1632_ 146 22 from by omega) (show 0 ≤ y2 from by omega) (show y2 ≤ a1632_ 146 23 from by omega) (show 0 ≤ r1632_ from by omega) (show 0 ≤ s0 from by omega) (show r1632_ ≤ 1 from by omega) (show s0 ≤ 1 from by omega) (show (s0 = 1 → a1632_ 146 23 < a1632_ 146 22) from by omega)
  have hc205 : ∀ (y1 y2 y3 : Int) (a : Nat → Nat → Int), ((((a 146 22) - (a 146 23)) + (2 * y3)) + 2).toNat ≤ n → iv a → jfr jW_X12_rules a0 a → 1 ≤ y3 → y3 ≤ 1 → a 146 22 ≤ 100 → a 146 23 ≤ a 146 22 → 0 ≤ y2 → y2 ≤ a 146 23 → 0 ≤ y3 → y3 ≤ 1 → a 146 23 < a 146 22 → ¬ a 164 ((a 146 23).toNat) = 32 → jt (jxX E d 232 205 [some (.inr (.inr (.inl 146))), some (.inl y1), some (.inl y2), some (.inl y3), none, none] [] (jxSH, a, b0)) (jQ_X12_rules a0 b0) := by
    intro y1 y2 y3 a hm hv hf hi0 hi1 hi2 hi3 hi4 hi5 hi6 hi7 hi8 hi9
    refine jt_eq (bq_X12_rules_205 E d y1 y2 y3 a b0) ?_
    have h1642_ := iv_get hv (k := 146) (j := 22) (l := 0) (u := 200) rfl
    have h1643_ := iv_get hv (k := 146) (j := 23) (l := 0) (u := 200) rfl
    have h1644_ := iv_get hv (k := 164) (j := (a 146 23).toNat) (l := (-128)) (u := 127) rfl
    have h1645_ : a 164 ((a 146 23).toNat) = a0 164 ((a 146 23).toNat) := hf 164 ((a 146 23).toNat) rfl
    have h1646_ := iv_get hv0 (k := 164) (j := (a 146 23).toNat) (l := (-128)) (u := 127) rfl
    exact hc210 y1 y2 y3 1 a (show (((((a 146 22) - (a 146 23)) + (2 * y3)) + 1) + 1).toNat ≤ n from by omega) hv hf (show 0 ≤ y3 from by omega) (show y3 ≤ 1 from by omega) (show 0 ≤ 1 from by omega) (show 1 ≤ 1 from by omega) (show a 146 22 ≤ 100 from by omega) (show a 146 23 ≤ a 146 22 from by omega) (show 0 ≤ y2 from by omega) (show y2 ≤ a 146 23 from by omega) (show 0 ≤ y3 from by omega) (show 0 ≤ 1 from by omega) (show y3 ≤ 1 from by omega) (show 1 ≤ 1 from by omega) (show (1 = 1 → (a 146 23 < a 146 22 ∧ ¬ a 164 ((a 146 23).toNat) = 32)) from by omega)
  have hc209 : ∀ (y1 y2 y3 : Int) (a : Nat → Nat → Int), ((((a 146 22) - (a 146 23)) + (2 * y3)) + 1).toNat ≤ n → iv a → jfr jW_X12_rules a0 a → 0 ≤ y3 → y3 ≤ 1 → a 146 22 ≤ 100 → a 146 23 ≤ a 146 22 → 0 ≤ y2 → y2 ≤ a 146 23 → 0 ≤ y3 → y3 ≤ 1 → jt (jxX E d 232 209 [some (.inr (.inr (.inl 146))), some (.inl y1), some (.inl y2), some (.inl y3), none, none] [] (jxSH, a, b0)) (jQ_X12_rules a0 b0) := by
    intro y1 y2 y3 a hm hv hf hi0 hi1 hi2 hi3 hi4 hi5 hi6 hi7
    refine jt_eq (bq_X12_rules_209 E d y1 y2 y3 a b0) ?_
    have h1647_ := iv_get hv (k := 146) (j := 22) (l := 0) (u := 200) rfl
    have h1648_ := iv_get hv (k := 146) (j := 23) (l := 0) (u := 200) rfl
    have h1649_ := iv_get hv (k := 164) (j := (a 146 23).toNat) (l := (-128)) (u := 127) rfl
    have h1650_ : a 164 ((a 146 23).toNat) = a0 164 ((a 146 23).toNat) := hf 164 ((a 146 23).toNat) rfl
    have h1651_ := iv_get hv0 (k := 164) (j := (a 146 23).toNat) (l := (-128)) (u := 127) rfl
    exact hc210 y1 y2 y3 0 a (show (((((a 146 22) - (a 146 23)) + (2 * y3)) + 0) + 1).toNat ≤ n from by omega) hv hf (show 0 ≤ y3 from by omega) (show y3 ≤ 1 from by omega) (show 0 ≤ 0 from by omega) (show 0 ≤ 1 from by omega) (show a 146 22 ≤ 100 from by omega) (show a 146 23 ≤ a 146 22 from by omega) (show 0 ≤ y2 from by omega) (show y2 ≤ a 146 23 from by omega) (show 0 ≤ y3 from by omega) (show 0 ≤ 0 from by omega) (show y3 ≤ 1 from by omega) (show 0 ≤ 1 from by omega) (show (0 = 1 → (a 146 23 < a 146 22 ∧ ¬ a 164 ((a 146 23).toNat) = 32)) from by omega)
  have hc170 : ∀ (y1 y2 y5 s1 : Int) (a : Nat → Nat → Int), (((a 146 22) - (a 146 23)) + 4).toNat ≤ n → iv a → jfr jW_X12_rules a0 a → 0 - 11 ≤ y5 → y5 ≤ 5 → 0 ≤ s1 → s1 ≤ 1 → a 146 22 ≤ 100 → a 146 23 ≤ a 146 22 → 0 ≤ y2 → y2 + 2 ≤ a 146 23 → 0 ≤ y5 → y5 ≤ 4 → jt (jxX E d 232 170 [some (.inr (.inr (.inl 146))), some (.inl y1), some (.inl y2), none, none, some (.inl y5)] [.inl s1, .inr (.inr (.inl 146))] (jxSH, a, b0)) (jQ_X12_rules a0 b0) := by
    intro y1 y2 y5 s1 a hm hv hf hi0 hi1 hi2 hi3 hi4 hi5 hi6 hi7 hi8 hi9
    refine jt_eq (bq_X12_rules_170 E d y1 y2 y5 s1 a b0) ?_
    have h1652_ := iv_get hv (k := 146) (j := 22) (l := 0) (u := 200) rfl
    have h1653_ := iv_get hv (k := 146) (j := 23) (l := 0) (u := 200) rfl
    refine jt_eI (eq_X12_mostOf E d (jd_le hd rfl) y5 a b0) ?_
    refine jt_bI (sp_X12_number E d (jd_le hd rfl) s1 (f_X12_mostOf a b0 y5) a b0 hv (show a 146 23 ≤ a 146 22 from by omega)) (fun r1654_ a1654_ b1654_ h1654_ => ?_)
    obtain ⟨hv1654_, hf1654_, rfl, hq1654_0, hq1654_1, hq1654_2, hq1654_3⟩ := h1654_
    have h1655_ := iv_get hv1654_ (k := 146) (j := 23) (l := 0) (u := 200) rfl
    have h1656_ := iv_get hv1654_ (k := 146) (j := 26) (l := 0) (u := 999) rfl
    have h1657_ := f_X12_mostOf_eq a b0 y5
    refine jt_grd (by omega) ?_
    refine jt_ite (fun c1658_ => ?_) (fun c1658_ => ?_)
    ·
      have hv1659_ : iv (jxu a1654_ 172 (y5.toNat) (a1654_ 146 26)) := iv_putf hv1654_ rfl
      have hf1660_ : jfr jW_X12_rules a0 a1654_ := jfr_tr hf hf1654_ rfl
      have hf1661_ : jfr jW_X12_rules a0 (jxu a1654_ 172 (y5.toNat) (a1654_ 146 26)) := jfr_put hf1660_ rfl
      have h1662_ := iv_get hv1654_ (k := 146) (j := 22) (l := 0) (u := 200) rfl
      have h1663_ : a1654_ 146 22 = a 146 22 := hf1654_ 146 22 rfl
      have h1664_ := jxw_im (y2 + 1)
      have h1665_ := jxw_rg (y2 + 1)
      exact hc209 y1 (jxw (y2 + 1)) r1654_ (jxu a1654_ 172 (y5.toNat) (a1654_ 146 26)) (show ((((a1654_ 146 22) - (a1654_ 146 23)) + (2 * r1654_)) + 1).toNat ≤ n from by omega) hv1659_ hf1661_ (show 0 ≤ r1654_ from by omega) (show r1654_ ≤ 1 from by omega) (show a1654_ 146 22 ≤ 100 from by omega) (show a1654_ 146 23 ≤ a1654_ 146 22 from by omega) (show 0 ≤ jxw (y2 + 1) from by omega) (show jxw (y2 + 1) ≤ a1654_ 146 23 from by omega) (show 0 ≤ r1654_ from by omega) (show r1654_ ≤ 1 from by omega)
    ·
      have hv1666_ : iv (jxu a1654_ 172 (y5.toNat) (a1654_ 146 26)) := iv_putf hv1654_ rfl
      have h1667_ := iv_get hv1654_ (k := 146) (j := 22) (l := 0) (u := 200) rfl
      have h1668_ : a1654_ 146 22 = a 146 22 := hf1654_ 146 22 rfl
      refine jt_bI (sp_X12_see E d (jd_le hd rfl) (jxu a1654_ 172 (y5.toNat) (a1654_ 146 26)) b0 hv1666_ (show a1654_ 146 23 ≤ a1654_ 146 22 from by omega)) (fun r1669_ a1669_ b1669_ h1669_ => ?_)
      obtain ⟨hv1669_, hf1669_, rfl, hq1669_0, hq1669_1, hq1669_2, hq1669_3⟩ := h1669_
      have h1670_ := iv_get hv1669_ (k := 146) (j := 23) (l := 0) (u := 200) rfl
      have h1671_ : a1654_ 146 23 ≤ a1669_ 146 23 := hq1669_0
      have h1672_ : a1669_ 146 23 ≤ a1654_ 146 22 := hq1669_1
      have h1673_ := iv_get hv1669_ (k := 164) (j := (a1669_ 146 23).toNat) (l := (-128)) (u := 127) rfl
      have h1674_ : a1669_ 164 ((a1669_ 146 23).toNat) = a1654_ 164 ((a1669_ 146 23).toNat) := hf1669_ 164 ((a1669_ 146 23).toNat) rfl
      have h1675_ := iv_get hv1654_ (k := 164) (j := (a1669_ 146 23).toNat) (l := (-128)) (u := 127) rfl
      have h1676_ : a1654_ 164 ((a1669_ 146 23).toNat) = a 164 ((a1669_ 146 23).toNat) := hf1654_ 164 ((a1669_ 146 23).toNat) rfl
      have h1677_ := iv_get hv (k := 164) (j := (a1669_ 146 23).toNat) (l := (-128)) (u := 127) rfl
      have h1678_ : a 164 ((a1669_ 146 23).toNat) = a0 164 ((a1669_ 146 23).toNat) := hf 164 ((a1669_ 146 23).toNat) rfl
      have h1679_ := iv_get hv0 (k := 164) (j := (a1669_ 146 23).toNat) (l := (-128)) (u := 127) rfl
      have h1680_ : ((r1669_ = 0 - 1 ∧ a1669_ 146 23 = a1654_ 146 22) ∨ (((0 ≤ r1669_ ∧ r1669_ ≤ 255) ∧ a1669_ 146 23 < a1654_ 146 22) ∧ ¬ a1669_ 164 ((a1669_ 146 23).toNat) = 32)) := hq1669_2
      have h1681_ := iv_get hv1654_ (k := 164) (j := (a1654_ 146 23).toNat) (l := (-128)) (u := 127) rfl
      have h1682_ : a1654_ 164 ((a1654_ 146 23).toNat) = a 164 ((a1654_ 146 23).toNat) := hf1654_ 164 ((a1654_ 146 23).toNat) rfl
      have h1683_ := iv_get hv (k := 164) (j := (a1654_ 146 23).toNat) (l := (-128)) (u := 127) rfl
      have h1684_ : a 164 ((a1654_ 146 23).toNat) = a0 164 ((a1654_ 146 23).toNat) := hf 164 ((a1654_ 146 23).toNat) rfl
      have h1685_ := iv_get hv0 (k := 164) (j := (a1654_ 146 23).toNat) (l := (-128)) (u := 127) rfl
      have h1686_ : ((a1654_ 146 23 < a1654_ 146 22 ∧ ¬ a1654_ 164 ((a1654_ 146 23).toNat) = 32) → a1669_ 146 23 = a1654_ 146 23) := hq1669_3
      refine jt_ite (fun c1687_ => ?_) (fun c1687_ => ?_)
      ·
        have hf1688_ : jfr jW_X12_rules a0 a1654_ := jfr_tr hf hf1654_ rfl
        have hf1689_ : jfr jW_X12_rules a0 (jxu a1654_ 172 (y5.toNat) (a1654_ 146 26)) := jfr_put hf1688_ rfl
        have hf1690_ : jfr jW_X12_rules a0 a1669_ := jfr_tr hf1689_ hf1669_ rfl
        have h1691_ := iv_get hv1669_ (k := 146) (j := 22) (l := 0) (u := 200) rfl
        have h1692_ : a1669_ 146 22 = a1654_ 146 22 := hf1669_ 146 22 rfl
        have h1693_ := jxw_im (y2 + 1)
        have h1694_ := jxw_rg (y2 + 1)
        exact hc209 y1 (jxw (y2 + 1)) r1654_ a1669_ (show ((((a1669_ 146 22) - (a1669_ 146 23)) + (2 * r1654_)) + 1).toNat ≤ n from by omega) hv1669_ hf1690_ (show 0 ≤ r1654_ from by omega) (show r1654_ ≤ 1 from by omega) (show a1669_ 146 22 ≤ 100 from by omega) (show a1669_ 146 23 ≤ a1669_ 146 22 from by omega) (show 0 ≤ jxw (y2 + 1) from by omega) (show jxw (y2 + 1) ≤ a1669_ 146 23 from by omega) (show 0 ≤ r1654_ from by omega) (show r1654_ ≤ 1 from by omega)
      ·
        have hf1695_ : jfr jW_X12_rules a0 a1654_ := jfr_tr hf hf1654_ rfl
        have hf1696_ : jfr jW_X12_rules a0 (jxu a1654_ 172 (y5.toNat) (a1654_ 146 26)) := jfr_put hf1695_ rfl
        have hf1697_ : jfr jW_X12_rules a0 a1669_ := jfr_tr hf1696_ hf1669_ rfl
        have h1698_ := iv_get hv1669_ (k := 146) (j := 22) (l := 0) (u := 200) rfl
        have h1699_ : a1669_ 146 22 = a1654_ 146 22 := hf1669_ 146 22 rfl
        have h1700_ := jxw_im (y2 + 1)
        have h1701_ := jxw_rg (y2 + 1)
        exact hc205 y1 (jxw (y2 + 1)) r1654_ a1669_ (show ((((a1669_ 146 22) - (a1669_ 146 23)) + (2 * r1654_)) + 2).toNat ≤ n from by omega) hv1669_ hf1697_ (show 1 ≤ r1654_ from by omega) (show r1654_ ≤ 1 from by omega) (show a1669_ 146 22 ≤ 100 from by omega) (show a1669_ 146 23 ≤ a1669_ 146 22 from by omega) (show 0 ≤ jxw (y2 + 1) from by omega) (show jxw (y2 + 1) ≤ a1669_ 146 23 from by omega) (show 0 ≤ r1654_ from by omega) (show r1654_ ≤ 1 from by omega) (show a1669_ 146 23 < a1669_ 146 22 from by omega) (show ¬ a1669_ 164 ((a1669_ 146 23).toNat) = 32 from by omega)
  have hc165 : ∀ (y1 y2 y5 : Int) (a : Nat → Nat → Int), (((a 146 22) - (a 146 23)) + 4).toNat ≤ n → iv a → jfr jW_X12_rules a0 a → 0 ≤ y5 → y5 ≤ 3 → a 146 22 ≤ 100 → a 146 23 ≤ a 146 22 → 0 ≤ y2 → y2 + 2 ≤ a 146 23 → 0 ≤ y5 → y5 ≤ 4 → jt (jxX E d 232 165 [some (.inr (.inr (.inl 146))), some (.inl y1), some (.inl y2), none, none, some (.inl y5)] [.inr (.inr (.inl 146))] (jxSH, a, b0)) (jQ_X12_rules a0 b0) := by
    intro y1 y2 y5 a hm hv hf hi0 hi1 hi2 hi3 hi4 hi5 hi6 hi7
    refine jt_eq (bq_X12_rules_165 E d y1 y2 y5 a b0) ?_
    have h1702_ := iv_get hv (k := 146) (j := 22) (l := 0) (u := 200) rfl
    have h1703_ := iv_get hv (k := 146) (j := 23) (l := 0) (u := 200) rfl
    exact hc170 y1 y2 y5 1 a (show (((a 146 22) - (a 146 23)) + 4).toNat ≤ n from by omega) hv hf (show 0 - 11 ≤ y5 from by omega) (show y5 ≤ 5 from by omega) (show 0 ≤ 1 from by omega) (show 1 ≤ 1 from by omega) (show a 146 22 ≤ 100 from by omega) (show a 146 23 ≤ a 146 22 from by omega) (show 0 ≤ y2 from by omega) (show y2 + 2 ≤ a 146 23 from by omega) (show 0 ≤ y5 from by omega) (show y5 ≤ 4 from by omega)
  have hc153 : ∀ (y1 y2 y5 : Int) (a : Nat → Nat → Int), (((a 146 22) - (a 146 23)) + 4).toNat ≤ n → iv a → jfr jW_X12_rules a0 a → 0 - 11 ≤ y5 → y5 ≤ 5 → a 146 22 ≤ 100 → a 146 23 ≤ a 146 22 → 0 ≤ y2 → y2 + 2 ≤ a 146 23 → 0 ≤ y5 → y5 ≤ 4 → jt (jxX E d 232 153 [some (.inr (.inr (.inl 146))), some (.inl y1), some (.inl y2), none, none, some (.inl y5)] [] (jxSH, a, b0)) (jQ_X12_rules a0 b0) := by
    intro y1 y2 y5 a hm hv hf hi0 hi1 hi2 hi3 hi4 hi5 hi6 hi7
    refine jt_eq (bq_X12_rules_153 E d y1 y2 y5 a b0) ?_
    have h1704_ := iv_get hv (k := 146) (j := 22) (l := 0) (u := 200) rfl
    have h1705_ := iv_get hv (k := 146) (j := 23) (l := 0) (u := 200) rfl
    refine jt_ite (fun c1706_ => ?_) (fun c1706_ => ?_)
    ·
      exact hc165 y1 y2 y5 a (show (((a 146 22) - (a 146 23)) + 4).toNat ≤ n from by omega) hv hf (show 0 ≤ y5 from by omega) (show y5 ≤ 3 from by omega) (show a 146 22 ≤ 100 from by omega) (show a 146 23 ≤ a 146 22 from by omega) (show 0 ≤ y2 from by omega) (show y2 + 2 ≤ a 146 23 from by omega) (show 0 ≤ y5 from by omega) (show y5 ≤ 4 from by omega)
    ·
      refine jt_ite (fun c1707_ => ?_) (fun c1707_ => ?_)
      ·
        exact hc165 y1 y2 y5 a (show (((a 146 22) - (a 146 23)) + 4).toNat ≤ n from by omega) hv hf (show 0 ≤ y5 from by omega) (show y5 ≤ 3 from by omega) (show a 146 22 ≤ 100 from by omega) (show a 146 23 ≤ a 146 22 from by omega) (show 0 ≤ y2 from by omega) (show y2 + 2 ≤ a 146 23 from by omega) (show 0 ≤ y5 from by omega) (show y5 ≤ 4 from by omega)
      ·
        exact hc170 y1 y2 y5 0 a (show (((a 146 22) - (a 146 23)) + 4).toNat ≤ n from by omega) hv hf (show 0 - 11 ≤ y5 from by omega) (show y5 ≤ 5 from by omega) (show 0 ≤ 0 from by omega) (show 0 ≤ 1 from by omega) (show a 146 22 ≤ 100 from by omega) (show a 146 23 ≤ a 146 22 from by omega) (show 0 ≤ y2 from by omega) (show y2 + 2 ≤ a 146 23 from by omega) (show 0 ≤ y5 from by omega) (show y5 ≤ 4 from by omega)
  have hc126 : ∀ (y1 y2 y3 y5 : Int) (a : Nat → Nat → Int), (((a 146 22) - (a 146 23)) + 2).toNat ≤ n → iv a → jfr jW_X12_rules a0 a → 0 ≤ y3 → y3 ≤ 1 → 0 - 11 ≤ y5 → y5 ≤ 5 → a 146 22 ≤ 100 → a 146 23 ≤ a 146 22 → 0 ≤ y2 → y2 ≤ a 146 23 → (a 146 23) + (a 146 25) ≤ a 146 22 → 0 ≤ y3 → y3 ≤ 1 → (y3 = 1 → ((0 ≤ y5 ∧ y5 ≤ 4) ∧ 2 ≤ a 146 25)) → jt (jxX E d 232 126 [some (.inr (.inr (.inl 146))), some (.inl y1), some (.inl y2), some (.inl y3), none, some (.inl y5)] [] (jxSH, a, b0)) (jQ_X12_rules a0 b0) := by
    intro y1 y2 y3 y5 a hm hv hf hi0 hi1 hi2 hi3 hi4 hi5 hi6 hi7 hi8 hi9 hi10 hi11
    refine jt_eq (bq_X12_rules_126 E d y1 y2 y3 y5 a b0) ?_
    have h1708_ := iv_get hv (k := 146) (j := 22) (l := 0) (u := 200) rfl
    have h1709_ := iv_get hv (k := 146) (j := 23) (l := 0) (u := 200) rfl
    have h1710_ := iv_get hv (k := 146) (j := 25) (l := 0) (u := 200) rfl
    refine jt_ite (fun c1711_ => ?_) (fun c1711_ => ?_)
    ·
      exact cp_X12_rules_281 E d hd a0 b0 hv0 y2 y3 a hv hf (show 0 ≤ y3 from by omega) (show y3 ≤ 1 from by omega) (show a 146 22 ≤ 100 from by omega) (show 0 ≤ y3 from by omega) (show y3 ≤ 1 from by omega)
    ·
      have h1713_ : jxw ((a 146 23) + (a 146 25)) = (a 146 23) + (a 146 25) := jxw_id (by omega) (by omega)
      have hv1712_ : iv (jxu a 146 23 (jxw ((a 146 23) + (a 146 25)))) := iv_put hv (l := 0) (u := 200) rfl (by omega) (by omega)
      have hf1714_ : jfr jW_X12_rules a0 (jxu a 146 23 (jxw ((a 146 23) + (a 146 25)))) := jfr_put hf rfl
      exact hc153 (jxor y1 (jxshl 1 y5)) y2 y5 (jxu a 146 23 (jxw ((a 146 23) + (a 146 25)))) (show (((a 146 22) - (jxw ((a 146 23) + (a 146 25)))) + 4).toNat ≤ n from by omega) hv1712_ hf1714_ (show 0 - 11 ≤ y5 from by omega) (show y5 ≤ 5 from by omega) (show a 146 22 ≤ 100 from by omega) (show jxw ((a 146 23) + (a 146 25)) ≤ a 146 22 from by omega) (show 0 ≤ y2 from by omega) (show y2 + 2 ≤ jxw ((a 146 23) + (a 146 25)) from by omega) (show 0 ≤ y5 from by omega) (show y5 ≤ 4 from by omega)
  have hc93 : ∀ (y1 y2 y5 : Int) (a : Nat → Nat → Int), (((a 146 22) - (a 146 23)) + 2).toNat ≤ n → iv a → jfr jW_X12_rules a0 a → 0 - 11 ≤ y5 → y5 ≤ 5 → a 146 22 ≤ 100 → a 146 23 ≤ a 146 22 → 0 ≤ y2 → y2 ≤ a 146 23 → (a 146 23) + (a 146 25) ≤ a 146 22 → jt (jxX E d 232 93 [some (.inr (.inr (.inl 146))), some (.inl y1), some (.inl y2), none, none, some (.inl y5)] [] (jxSH, a, b0)) (jQ_X12_rules a0 b0) := by
    intro y1 y2 y5 a hm hv hf hi0 hi1 hi2 hi3 hi4 hi5 hi6
    refine jt_eq (bq_X12_rules_93 E d y1 y2 y5 a b0) ?_
    have h1715_ := iv_get hv (k := 146) (j := 22) (l := 0) (u := 200) rfl
    have h1716_ := iv_get hv (k := 146) (j := 23) (l := 0) (u := 200) rfl
    have h1717_ := iv_get hv (k := 146) (j := 25) (l := 0) (u := 200) rfl
    refine jt_bI (sp_X12_fails E d (jd_le hd rfl) 0 (a 146 23) a b0 hv) (fun r1718_ a1718_ b1718_ h1718_ => ?_)
    obtain ⟨hv1718_, hf1718_, rfl, hq1718_0, hq1718_1, hq1718_2, hq1718_3⟩ := h1718_
    have hf1719_ : jfr jW_X12_rules a0 a1718_ := jfr_tr hf hf1718_ rfl
    have h1720_ := iv_get hv1718_ (k := 146) (j := 22) (l := 0) (u := 200) rfl
    have h1721_ : a1718_ 146 22 = a 146 22 := hf1718_ 146 22 rfl
    have h1722_ := iv_get hv1718_ (k := 146) (j := 23) (l := 0) (u := 200) rfl
    have h1723_ : a1718_ 146 23 = a 146 23 := hf1718_ 146 23 rfl
    have h1724_ := iv_get hv1718_ (k := 146) (j := 25) (l := 0) (u := 200) rfl
    have h1725_ : a1718_ 146 25 = a 146 25 := hf1718_ 146 25 rfl
    exact hc126 y1 y2 r1718_ y5 a1718_ (show (((a1718_ 146 22) - (a1718_ 146 23)) + 2).toNat ≤ n from by omega) hv1718_ hf1719_ (show 0 ≤ r1718_ from by omega) (show r1718_ ≤ 1 from by omega) (show 0 - 11 ≤ y5 from by omega) (show y5 ≤ 5 from by omega) (show a1718_ 146 22 ≤ 100 from by omega) (show a1718_ 146 23 ≤ a1718_ 146 22 from by omega) (show 0 ≤ y2 from by omega) (show y2 ≤ a1718_ 146 23 from by omega) (show (a1718_ 146 23) + (a1718_ 146 25) ≤ a1718_ 146 22 from by omega) (show 0 ≤ r1718_ from by omega) (show r1718_ ≤ 1 from by omega) (show (r1718_ = 1 → ((0 ≤ y5 ∧ y5 ≤ 4) ∧ 2 ≤ a1718_ 146 25)) from by omega)
  have hc106 : ∀ (y1 y2 y3 y5 : Int) (a : Nat → Nat → Int), (((a 146 22) - (a 146 23)) + 2).toNat ≤ n → iv a → jfr jW_X12_rules a0 a → 1 ≤ y3 → y3 ≤ 1 → 0 ≤ y5 → y5 ≤ 4 → a 146 22 ≤ 100 → a 146 23 ≤ a 146 22 → 0 ≤ y2 → y2 ≤ a 146 23 → (a 146 23) + (a 146 25) ≤ a 146 22 → 0 ≤ y3 → y3 ≤ 1 → 0 ≤ y5 → y5 ≤ 4 → 2 ≤ a 146 25 → jt (jxX E d 232 106 [some (.inr (.inr (.inl 146))), some (.inl y1), some (.inl y2), some (.inl y3), none, some (.inl y5)] [] (jxSH, a, b0)) (jQ_X12_rules a0 b0) := by
    intro y1 y2 y3 y5 a hm hv hf hi0 hi1 hi2 hi3 hi4 hi5 hi6 hi7 hi8 hi9 hi10 hi11 hi12 hi13
    refine jt_eq (bq_X12_rules_106 E d y1 y2 y3 y5 a b0) ?_
    have h1726_ := iv_get hv (k := 146) (j := 22) (l := 0) (u := 200) rfl
    have h1727_ := iv_get hv (k := 146) (j := 23) (l := 0) (u := 200) rfl
    have h1728_ := iv_get hv (k := 146) (j := 25) (l := 0) (u := 200) rfl
    have h1729_ := jxshr_b y1 y5
    have h1730_ := jxand_r (jxshr y1 y5) 1 (by decide) (by decide)
    refine jt_ite (fun c1731_ => ?_) (fun c1731_ => ?_)
    ·
      refine jt_bI (sp_X12_fails E d (jd_le hd rfl) 2 (a 146 23) a b0 hv) (fun r1732_ a1732_ b1732_ h1732_ => ?_)
      obtain ⟨hv1732_, hf1732_, rfl, hq1732_0, hq1732_1, hq1732_2, hq1732_3⟩ := h1732_
      have hf1733_ : jfr jW_X12_rules a0 a1732_ := jfr_tr hf hf1732_ rfl
      have h1734_ := iv_get hv1732_ (k := 146) (j := 22) (l := 0) (u := 200) rfl
      have h1735_ : a1732_ 146 22 = a 146 22 := hf1732_ 146 22 rfl
      have h1736_ := iv_get hv1732_ (k := 146) (j := 23) (l := 0) (u := 200) rfl
      have h1737_ : a1732_ 146 23 = a 146 23 := hf1732_ 146 23 rfl
      have h1738_ := iv_get hv1732_ (k := 146) (j := 25) (l := 0) (u := 200) rfl
      have h1739_ : a1732_ 146 25 = a 146 25 := hf1732_ 146 25 rfl
      exact hc126 y1 y2 r1732_ y5 a1732_ (show (((a1732_ 146 22) - (a1732_ 146 23)) + 2).toNat ≤ n from by omega) hv1732_ hf1733_ (show 0 ≤ r1732_ from by omega) (show r1732_ ≤ 1 from by omega) (show 0 - 11 ≤ y5 from by omega) (show y5 ≤ 5 from by omega) (show a1732_ 146 22 ≤ 100 from by omega) (show a1732_ 146 23 ≤ a1732_ 146 22 from by omega) (show 0 ≤ y2 from by omega) (show y2 ≤ a1732_ 146 23 from by omega) (show (a1732_ 146 23) + (a1732_ 146 25) ≤ a1732_ 146 22 from by omega) (show 0 ≤ r1732_ from by omega) (show r1732_ ≤ 1 from by omega) (show (r1732_ = 1 → ((0 ≤ y5 ∧ y5 ≤ 4) ∧ 2 ≤ a1732_ 146 25)) from by omega)
    ·
      exact hc126 y1 y2 y3 y5 a (show (((a 146 22) - (a 146 23)) + 2).toNat ≤ n from by omega) hv hf (show 0 ≤ y3 from by omega) (show y3 ≤ 1 from by omega) (show 0 - 11 ≤ y5 from by omega) (show y5 ≤ 5 from by omega) (show a 146 22 ≤ 100 from by omega) (show a 146 23 ≤ a 146 22 from by omega) (show 0 ≤ y2 from by omega) (show y2 ≤ a 146 23 from by omega) (show (a 146 23) + (a 146 25) ≤ a 146 22 from by omega) (show 0 ≤ y3 from by omega) (show y3 ≤ 1 from by omega) (show (y3 = 1 → ((0 ≤ y5 ∧ y5 ≤ 4) ∧ 2 ≤ a 146 25)) from by omega)
  have hc65 : ∀ (y1 y2 y3 y4 : Int) (a : Nat → Nat → Int), ((((a 146 22) - (a 146 23)) + y3) + y4).toNat ≤ n → iv a → jfr jW_X12_rules a0 a → 0 ≤ y3 → y3 ≤ 1 → 0 ≤ y4 → y4 ≤ 1 → a 146 22 ≤ 100 → a 146 23 ≤ a 146 22 → 0 ≤ y2 → y2 ≤ a 146 23 → 0 ≤ y3 → 0 ≤ y4 → y3 ≤ 1 → y4 ≤ 1 → jt (jxX E d 232 65 [some (.inr (.inr (.inl 146))), some (.inl y1), some (.inl y2), some (.inl y3), some (.inl y4), none] [] (jxSH, a, b0)) (jQ_X12_rules a0 b0) := by
    intro y1 y2 y3 y4 a hm hv hf hi0 hi1 hi2 hi3 hi4 hi5 hi6 hi7 hi8 hi9 hi10 hi11
    refine jt_eq (bq_X12_rules_65 E d y1 y2 y3 y4 a b0) ?_
    have h1740_ := iv_get hv (k := 146) (j := 22) (l := 0) (u := 200) rfl
    have h1741_ := iv_get hv (k := 146) (j := 23) (l := 0) (u := 200) rfl
    refine jt_ite (fun c1742_ => ?_) (fun c1742_ => ?_)
    ·
      exact cp_X12_rules_281 E d hd a0 b0 hv0 y2 y3 a hv hf (show 0 ≤ y3 from by omega) (show y3 ≤ 1 from by omega) (show a 146 22 ≤ 100 from by omega) (show 0 ≤ y3 from by omega) (show y3 ≤ 1 from by omega)
    ·
      refine jt_ite (fun c1743_ => ?_) (fun c1743_ => ?_)
      ·
        exact cp_X12_rules_281 E d hd a0 b0 hv0 y2 y3 a hv hf (show 0 ≤ y3 from by omega) (show y3 ≤ 1 from by omega) (show a 146 22 ≤ 100 from by omega) (show 0 ≤ y3 from by omega) (show y3 ≤ 1 from by omega)
      ·
        refine jt_bI (sp_X12_wordHere E d (jd_le hd rfl) a b0 hv (show a 146 23 ≤ a 146 22 from by omega)) (fun r1744_ a1744_ b1744_ h1744_ => ?_)
        obtain ⟨hv1744_, hf1744_, rfl, hq1744_0, hq1744_1, hq1744_2, hq1744_3, hq1744_4, hq1744_5, hq1744_6⟩ := h1744_
        have h1745_ := iv_get hv1744_ (k := 146) (j := 23) (l := 0) (u := 200) rfl
        have h1746_ := iv_get hv1744_ (k := 146) (j := 25) (l := 0) (u := 200) rfl
        have h1747_ := iv_get hv1744_ (k := 146) (j := 22) (l := 0) (u := 200) rfl
        have h1748_ : a1744_ 146 22 = a 146 22 := hf1744_ 146 22 rfl
        have h1749_ := iv_get hv (k := 164) (j := (a 146 23).toNat) (l := (-128)) (u := 127) rfl
        have h1750_ : a 164 ((a 146 23).toNat) = a0 164 ((a 146 23).toNat) := hf 164 ((a 146 23).toNat) rfl
        have h1751_ := iv_get hv0 (k := 164) (j := (a 146 23).toNat) (l := (-128)) (u := 127) rfl
        refine jt_eI (eq_X12_in E d (jd_le hd rfl) (jxw (r1744_ - 10)) 0 4 a1744_ b0) ?_
        have h1752_ : jxw (r1744_ - 10) = r1744_ - 10 := jxw_id (by omega) (by omega)
        have h1753_ := f_X12_in_eq a1744_ b0 (jxw (r1744_ - 10)) 0 4
        refine jt_ite (fun c1754_ => ?_) (fun c1754_ => ?_)
        ·
          have hf1755_ : jfr jW_X12_rules a0 a1744_ := jfr_tr hf hf1744_ rfl
          exact hc93 y1 y2 (jxw (r1744_ - 10)) a1744_ (show (((a1744_ 146 22) - (a1744_ 146 23)) + 2).toNat ≤ n from by omega) hv1744_ hf1755_ (show 0 - 11 ≤ jxw (r1744_ - 10) from by omega) (show jxw (r1744_ - 10) ≤ 5 from by omega) (show a1744_ 146 22 ≤ 100 from by omega) (show a1744_ 146 23 ≤ a1744_ 146 22 from by omega) (show 0 ≤ y2 from by omega) (show y2 ≤ a1744_ 146 23 from by omega) (show (a1744_ 146 23) + (a1744_ 146 25) ≤ a1744_ 146 22 from by omega)
        ·
          have hf1756_ : jfr jW_X12_rules a0 a1744_ := jfr_tr hf hf1744_ rfl
          exact hc106 y1 y2 y3 (jxw (r1744_ - 10)) a1744_ (show (((a1744_ 146 22) - (a1744_ 146 23)) + 2).toNat ≤ n from by omega) hv1744_ hf1756_ (show 1 ≤ y3 from by omega) (show y3 ≤ 1 from by omega) (show 0 ≤ jxw (r1744_ - 10) from by omega) (show jxw (r1744_ - 10) ≤ 4 from by omega) (show a1744_ 146 22 ≤ 100 from by omega) (show a1744_ 146 23 ≤ a1744_ 146 22 from by omega) (show 0 ≤ y2 from by omega) (show y2 ≤ a1744_ 146 23 from by omega) (show (a1744_ 146 23) + (a1744_ 146 25) ≤ a1744_ 146 22 from by omega) (show 0 ≤ y3 from by omega) (show y3 ≤ 1 from by omega) (show 0 ≤ jxw (r1744_ - 10) from by omega) (show jxw (r1744_ - 10) ≤ 4 from by omega) (show 2 ≤ a1744_ 146 25 from by omega)
  exact ⟨hc278, hc251, hc236, hc210, hc205, hc209, hc170, hc165, hc153, hc126, hc93, hc106, hc65⟩
theorem cp_X12_rules_27 (E : jxE) (d : Nat) (hd : Nat.ble 3 (d + 1) = true) (a0 b0 : Nat → Nat → Int) (hv0 : iv a0) : ∀ n : Nat, (∀ (y1 y2 y3 : Int) (a : Nat → Nat → Int), (((5 - y3) * 1) + 0).toNat ≤ n → iv a → jfr jW_X12_rules a0 a → 0 ≤ y1 → y1 ≤ 0 → 0 ≤ y2 → y2 ≤ 0 → 0 ≤ y3 → y3 ≤ 5 → a 146 22 ≤ 100 → a 146 23 ≤ a 146 22 → y2 = 0 → jt (jxX E d 232 27 [some (.inr (.inr (.inl 146))), some (.inl y1), some (.inl y2), some (.inl y3), none, none] [] (jxSH, a, b0)) (jQ_X12_rules a0 b0)) := by
  refine jx_ind fun n ih => ?_
  have ih27 : ∀ (y1 y2 y3 : Int) (a : Nat → Nat → Int), (((5 - y3) * 1) + 0).toNat < n → iv a → jfr jW_X12_rules a0 a → 0 ≤ y1 → y1 ≤ 0 → 0 ≤ y2 → y2 ≤ 0 → 0 ≤ y3 → y3 ≤ 5 → a 146 22 ≤ 100 → a 146 23 ≤ a 146 22 → y2 = 0 → jt (jxX E d 232 27 [some (.inr (.inr (.inl 146))), some (.inl y1), some (.inl y2), some (.inl y3), none, none] [] (jxSH, a, b0)) (jQ_X12_rules a0 b0) := fun y1 y2 y3 a hlt i0 i1 i2 i3 i4 i5 i6 i7 i8 i9 i10 => (ih _ hlt) y1 y2 y3 a (Nat.le_refl _) i0 i1 i2 i3 i4 i5 i6 i7 i8 i9 i10
  have hc27 : ∀ (y1 y2 y3 : Int) (a : Nat → Nat → Int), (((5 - y3) * 1) + 0).toNat ≤ n → iv a → jfr jW_X12_rules a0 a → 0 ≤ y1 → y1 ≤ 0 → 0 ≤ y2 → y2 ≤ 0 → 0 ≤ y3 → y3 ≤ 5 → a 146 22 ≤ 100 → a 146 23 ≤ a 146 22 → y2 = 0 → jt (jxX E d 232 27 [some (.inr (.inr (.inl 146))), some (.inl y1), some (.inl y2), some (.inl y3), none, none] [] (jxSH, a, b0)) (jQ_X12_rules a0 b0) := by
    intro y1 y2 y3 a hm hv hf hi0 hi1 hi2 hi3 hi4 hi5 hi6 hi7 hi8
    refine jt_eq (bq_X12_rules_27 E d y1 y2 y3 a b0) ?_
    have h1757_ := iv_get hv (k := 146) (j := 22) (l := 0) (u := 200) rfl
    have h1758_ := iv_get hv (k := 146) (j := 23) (l := 0) (u := 200) rfl
    refine jt_ite (fun c1759_ => ?_) (fun c1759_ => ?_)
    ·
      refine jt_eI (eq_X12_without E d (jd_le hd rfl) y3 a b0) ?_
      refine jt_grd (by omega) ?_
      have hv1760_ : iv (jxu a 172 (y3.toNat) (f_X12_without a b0 y3)) := iv_putf hv rfl
      have hf1761_ : jfr jW_X12_rules a0 (jxu a 172 (y3.toNat) (f_X12_without a b0 y3)) := jfr_put hf rfl
      have h1762_ : jxw (y3 + 1) = y3 + 1 := jxw_id (by omega) (by omega)
      exact ih27 y1 y2 (jxw (y3 + 1)) (jxu a 172 (y3.toNat) (f_X12_without a b0 y3)) (show (((5 - (jxw (y3 + 1))) * 1) + 0).toNat < n from by omega) hv1760_ hf1761_ (show 0 ≤ y1 from by omega) (show y1 ≤ 0 from by omega) (show 0 ≤ y2 from by omega) (show y2 ≤ 0 from by omega) (show 0 ≤ jxw (y3 + 1) from by omega) (show jxw (y3 + 1) ≤ 5 from by omega) (show a 146 22 ≤ 100 from by omega) (show a 146 23 ≤ a 146 22 from by omega) (show y2 = 0 from by omega)
    ·
      refine jt_bI (sp_X12_see E d (jd_le hd rfl) a b0 hv (show a 146 23 ≤ a 146 22 from by omega)) (fun r1763_ a1763_ b1763_ h1763_ => ?_)
      obtain ⟨hv1763_, hf1763_, rfl, hq1763_0, hq1763_1, hq1763_2, hq1763_3⟩ := h1763_
      have h1764_ := iv_get hv1763_ (k := 146) (j := 23) (l := 0) (u := 200) rfl
      have h1765_ := iv_get hv1763_ (k := 164) (j := (a1763_ 146 23).toNat) (l := (-128)) (u := 127) rfl
      have h1766_ : a1763_ 164 ((a1763_ 146 23).toNat) = a 164 ((a1763_ 146 23).toNat) := hf1763_ 164 ((a1763_ 146 23).toNat) rfl
      have h1767_ := iv_get hv (k := 164) (j := (a1763_ 146 23).toNat) (l := (-128)) (u := 127) rfl
      have h1768_ : a 164 ((a1763_ 146 23).toNat) = a0 164 ((a1763_ 146 23).toNat) := hf 164 ((a1763_ 146 23).toNat) rfl
      have h1769_ := iv_get hv0 (k := 164) (j := (a1763_ 146 23).toNat) (l := (-128)) (u := 127) rfl
      have h1770_ := iv_get hv (k := 164) (j := (a 146 23).toNat) (l := (-128)) (u := 127) rfl
      have h1771_ : a 164 ((a 146 23).toNat) = a0 164 ((a 146 23).toNat) := hf 164 ((a 146 23).toNat) rfl
      have h1772_ := iv_get hv0 (k := 164) (j := (a 146 23).toNat) (l := (-128)) (u := 127) rfl
      refine jt_ite (fun c1773_ => ?_) (fun c1773_ => ?_)
      ·
        have hf1774_ : jfr jW_X12_rules a0 a1763_ := jfr_tr hf hf1763_ rfl
        have h1775_ := iv_get hv1763_ (k := 146) (j := 22) (l := 0) (u := 200) rfl
        have h1776_ : a1763_ 146 22 = a 146 22 := hf1763_ 146 22 rfl
        exact (cp_X12_rules_65 E d hd a0 b0 hv0 _).2.2.2.2.2.2.2.2.2.2.2.2 y1 y2 1 0 a1763_ (Nat.le_refl _) hv1763_ hf1774_ (show 0 ≤ 1 from by omega) (show 1 ≤ 1 from by omega) (show 0 ≤ 0 from by omega) (show 0 ≤ 1 from by omega) (show a1763_ 146 22 ≤ 100 from by omega) (show a1763_ 146 23 ≤ a1763_ 146 22 from by omega) (show 0 ≤ y2 from by omega) (show y2 ≤ a1763_ 146 23 from by omega) (show 0 ≤ 1 from by omega) (show 0 ≤ 0 from by omega) (show 1 ≤ 1 from by omega) (show 0 ≤ 1 from by omega)
      ·
        have hf1777_ : jfr jW_X12_rules a0 a1763_ := jfr_tr hf hf1763_ rfl
        have h1778_ := iv_get hv1763_ (k := 146) (j := 22) (l := 0) (u := 200) rfl
        have h1779_ : a1763_ 146 22 = a 146 22 := hf1763_ 146 22 rfl
        exact (cp_X12_rules_65 E d hd a0 b0 hv0 _).2.2.2.2.2.2.2.2.2.2.2.2 y1 y2 1 1 a1763_ (Nat.le_refl _) hv1763_ hf1777_ (show 0 ≤ 1 from by omega) (show 1 ≤ 1 from by omega) (show 0 ≤ 1 from by omega) (show 1 ≤ 1 from by omega) (show a1763_ 146 22 ≤ 100 from by omega) (show a1763_ 146 23 ≤ a1763_ 146 22 from by omega) (show 0 ≤ y2 from by omega) (show y2 ≤ a1763_ 146 23 from by omega) (show 0 ≤ 1 from by omega) (show 0 ≤ 1 from by omega) (show 1 ≤ 1 from by omega) (show 1 ≤ 1 from by omega)
  exact hc27
theorem cp_X12_rules_25 (E : jxE) (d : Nat) (hd : Nat.ble 3 (d + 1) = true) (a0 b0 : Nat → Nat → Int) (hv0 : iv a0) : ∀ (y1 y2 : Int) (a : Nat → Nat → Int), iv a → jfr jW_X12_rules a0 a → 0 ≤ y1 → y1 ≤ 0 → 0 ≤ y2 → y2 ≤ 0 → a 146 22 ≤ 100 → a 146 23 ≤ a 146 22 → y2 = 0 → jt (jxX E d 232 25 [some (.inr (.inr (.inl 146))), some (.inl y1), some (.inl y2), none, none, none] [] (jxSH, a, b0)) (jQ_X12_rules a0 b0) := by
  intro y1 y2 a hv hf hi0 hi1 hi2 hi3 hi4 hi5 hi6
  refine jt_eq (bq_X12_rules_25 E d y1 y2 a b0) ?_
  have h1780_ := iv_get hv (k := 146) (j := 22) (l := 0) (u := 200) rfl
  have h1781_ := iv_get hv (k := 146) (j := 23) (l := 0) (u := 200) rfl
  exact (cp_X12_rules_27 E d hd a0 b0 hv0 _) y1 y2 0 a (Nat.le_refl _) hv hf (show 0 ≤ y1 from by omega) (show y1 ≤ 0 from by omega) (show 0 ≤ y2 from by omega) (show y2 ≤ 0 from by omega) (show 0 ≤ 0 from by omega) (show 0 ≤ 5 from by omega) (show a 146 22 ≤ 100 from by omega) (show a 146 23 ≤ a 146 22 from by omega) (show y2 = 0 from by omega)
theorem sp_X12_rules (E : jxE) (d : Nat) (hd : Nat.ble 3 d = true) (a0 b0 : Nat → Nat → Int) (hv0 : iv a0) : jt (jxC E d 232 [.inr (.inr (.inl 146))] (jxSH, a0, b0)) (jQ_X12_rules a0 b0) := by
  obtain ⟨d, rfl⟩ := jd_succ hd
  refine jt_eq (bq_X12_rules E d a0 b0) ?_
  have h1782_ := iv_get hv0 (k := 146) (j := 22) (l := 0) (u := 200) rfl
  refine jt_ite (fun c1783_ => ?_) (fun c1783_ => ?_)
  ·
    exact jt_rI ⟨hv0, (jfr_rf _ _), rfl⟩
  ·
    have hv1784_ : iv (jxu a0 146 23 0) := iv_put hv0 (l := 0) (u := 200) rfl (by omega) (by omega)
    have hv1785_ : iv (jxu (jxu a0 146 23 0) 146 24 0) := iv_putf hv1784_ rfl
    have hf1786_ : jfr jW_X12_rules a0 (jxu a0 146 23 0) := jfr_put (jfr_rf _ _) rfl
    have hf1787_ : jfr jW_X12_rules a0 (jxu (jxu a0 146 23 0) 146 24 0) := jfr_put hf1786_ rfl
    exact cp_X12_rules_25 E d hd a0 b0 hv0 0 0 (jxu (jxu a0 146 23 0) 146 24 0) hv1785_ hf1787_ (show 0 ≤ 0 from by omega) (show 0 ≤ 0 from by omega) (show 0 ≤ 0 from by omega) (show 0 ≤ 0 from by omega) (show a0 146 22 ≤ 100 from by omega) (show 0 ≤ a0 146 22 from by omega) (show 0 = 0 from by omega)
def jW_X12_rates : List (Nat × Nat) := [(146, 22), (146, 23), (146, 24), (146, 25), (146, 26), (146, 27), (146, 68), (192, 9999), (193, 9999), (194, 9999), (195, 9999)]
abbrev jQ_X12_rates (x1 : Int) (a0 b0 : Nat → Nat → Int) : List jxV → (Nat → Nat → Int) → (Nat → Nat → Int) → Prop := rI (fun r a b => (iv a) ∧ (jfr jW_X12_rates a0 a) ∧ (b0 = b) ∧ (((a0 146 22 = 0 ∧ a0 146 68 = 0) → (((0 ≤ x1 ∧ x1 ≤ 1999) ∧ r = 0 - 3) ∨ ((x1 < 0 ∨ 1999 < x1) ∧ r = 0 - 1)))))
theorem cp_X12_rates_154 (E : jxE) (d : Nat) (hd : Nat.ble 4 (d + 1) = true) (x1 : Int) (a0 b0 : Nat → Nat → Int) (hv0 : iv a0) : ∀ n : Nat, (∀ (y2 y5 : Int) (a : Nat → Nat → Int), (((36 - y5) * 1) + 0).toNat ≤ n → iv a → jfr jW_X12_rates a0 a → 0 ≤ y5 → y5 ≤ 35 → a 146 68 ≤ 9 → 0 ≤ y2 → y2 ≤ 12 → 0 ≤ y5 → y5 < 3 * y2 → a 146 68 ≤ 9 → 1 ≤ a0 146 22 → jt (jxX E d 282 184 [some (.inr (.inr (.inl 146))), none, some (.inl y2), none, none, some (.inl y5)] [] (jxSH, a, b0)) (jQ_X12_rates x1 a0 b0)) ∧ (∀ (y2 y5 : Int) (a : Nat → Nat → Int), (((36 - y5) * 1) + 0).toNat ≤ n → iv a → jfr jW_X12_rates a0 a → 0 ≤ y5 → y5 ≤ 36 → a 146 68 ≤ 9 → 0 ≤ y2 → y2 ≤ 12 → 0 ≤ y5 → a 146 68 ≤ 9 → 1 ≤ a0 146 22 → jt (jxX E d 282 154 [some (.inr (.inr (.inl 146))), none, some (.inl y2), none, none, some (.inl y5)] [] (jxSH, a, b0)) (jQ_X12_rates x1 a0 b0)) := by
  refine jx_ind fun n ih => ?_
  have ih184 : ∀ (y2 y5 : Int) (a : Nat → Nat → Int), (((36 - y5) * 1) + 0).toNat < n → iv a → jfr jW_X12_rates a0 a → 0 ≤ y5 → y5 ≤ 35 → a 146 68 ≤ 9 → 0 ≤ y2 → y2 ≤ 12 → 0 ≤ y5 → y5 < 3 * y2 → a 146 68 ≤ 9 → 1 ≤ a0 146 22 → jt (jxX E d 282 184 [some (.inr (.inr (.inl 146))), none, some (.inl y2), none, none, some (.inl y5)] [] (jxSH, a, b0)) (jQ_X12_rates x1 a0 b0) := fun y2 y5 a hlt i0 i1 i2 i3 i4 i5 i6 i7 i8 i9 i10 => (ih _ hlt).1 y2 y5 a (Nat.le_refl _) i0 i1 i2 i3 i4 i5 i6 i7 i8 i9 i10
  have ih154 : ∀ (y2 y5 : Int) (a : Nat → Nat → Int), (((36 - y5) * 1) + 0).toNat < n → iv a → jfr jW_X12_rates a0 a → 0 ≤ y5 → y5 ≤ 36 → a 146 68 ≤ 9 → 0 ≤ y2 → y2 ≤ 12 → 0 ≤ y5 → a 146 68 ≤ 9 → 1 ≤ a0 146 22 → jt (jxX E d 282 154 [some (.inr (.inr (.inl 146))), none, some (.inl y2), none, none, some (.inl y5)] [] (jxSH, a, b0)) (jQ_X12_rates x1 a0 b0) := fun y2 y5 a hlt i0 i1 i2 i3 i4 i5 i6 i7 i8 i9 => (ih _ hlt).2 y2 y5 a (Nat.le_refl _) i0 i1 i2 i3 i4 i5 i6 i7 i8 i9
  have hc184 : ∀ (y2 y5 : Int) (a : Nat → Nat → Int), (((36 - y5) * 1) + 0).toNat ≤ n → iv a → jfr jW_X12_rates a0 a → 0 ≤ y5 → y5 ≤ 35 → a 146 68 ≤ 9 → 0 ≤ y2 → y2 ≤ 12 → 0 ≤ y5 → y5 < 3 * y2 → a 146 68 ≤ 9 → 1 ≤ a0 146 22 → jt (jxX E d 282 184 [some (.inr (.inr (.inl 146))), none, some (.inl y2), none, none, some (.inl y5)] [] (jxSH, a, b0)) (jQ_X12_rates x1 a0 b0) := by
    intro y2 y5 a hm hv hf hi0 hi1 hi2 hi3 hi4 hi5 hi6 hi7 hi8
    refine jt_eq (bq_X12_rates_184 E d y2 y5 a b0) ?_
    have h1788_ := iv_get hv (k := 146) (j := 68) (l := 0) (u := 10) rfl
    have h1789_ := iv_get hv0 (k := 146) (j := 22) (l := 0) (u := 200) rfl
    have h1790_ : jxw (y5 + 1) = y5 + 1 := jxw_id (by omega) (by omega)
    exact ih154 y2 (jxw (y5 + 1)) a (show (((36 - (jxw (y5 + 1))) * 1) + 0).toNat < n from by omega) hv hf (show 0 ≤ jxw (y5 + 1) from by omega) (show jxw (y5 + 1) ≤ 36 from by omega) (show a 146 68 ≤ 9 from by omega) (show 0 ≤ y2 from by omega) (show y2 ≤ 12 from by omega) (show 0 ≤ jxw (y5 + 1) from by omega) (show a 146 68 ≤ 9 from by omega) (show 1 ≤ a0 146 22 from by omega)
  have hc154 : ∀ (y2 y5 : Int) (a : Nat → Nat → Int), (((36 - y5) * 1) + 0).toNat ≤ n → iv a → jfr jW_X12_rates a0 a → 0 ≤ y5 → y5 ≤ 36 → a 146 68 ≤ 9 → 0 ≤ y2 → y2 ≤ 12 → 0 ≤ y5 → a 146 68 ≤ 9 → 1 ≤ a0 146 22 → jt (jxX E d 282 154 [some (.inr (.inr (.inl 146))), none, some (.inl y2), none, none, some (.inl y5)] [] (jxSH, a, b0)) (jQ_X12_rates x1 a0 b0) := by
    intro y2 y5 a hm hv hf hi0 hi1 hi2 hi3 hi4 hi5 hi6 hi7
    refine jt_eq (bq_X12_rates_154 E d y2 y5 a b0) ?_
    have h1791_ := iv_get hv (k := 146) (j := 68) (l := 0) (u := 10) rfl
    have h1792_ := iv_get hv0 (k := 146) (j := 22) (l := 0) (u := 200) rfl
    have h1793_ : jxw (3 * y2) = 3 * y2 := jxw_id (by omega) (by omega)
    refine jt_ite (fun c1794_ => ?_) (fun c1794_ => ?_)
    ·
      refine jt_grd (by omega) ?_
      have h1795_ : jxw (36 * (a 146 68)) = 36 * (a 146 68) := jxw_id (by omega) (by omega)
      have h1796_ : jxw ((jxw (36 * (a 146 68))) + y5) = (jxw (36 * (a 146 68))) + y5 := jxw_id (by omega) (by omega)
      refine jt_grd (by omega) ?_
      have h1798_ := iv_get hv (k := 195) (j := y5.toNat) (l := 0) (u := 900) rfl
      have hv1797_ : iv (jxu a 194 ((jxw ((jxw (36 * (a 146 68))) + y5)).toNat) (a 195 (y5.toNat))) := iv_put hv (l := 0) (u := 900) rfl (by omega) (by omega)
      have hf1799_ : jfr jW_X12_rates a0 (jxu a 194 ((jxw ((jxw (36 * (a 146 68))) + y5)).toNat) (a 195 (y5.toNat))) := jfr_put hf rfl
      exact hc184 y2 y5 (jxu a 194 ((jxw ((jxw (36 * (a 146 68))) + y5)).toNat) (a 195 (y5.toNat))) (show (((36 - y5) * 1) + 0).toNat ≤ n from by omega) hv1797_ hf1799_ (show 0 ≤ y5 from by omega) (show y5 ≤ 35 from by omega) (show a 146 68 ≤ 9 from by omega) (show 0 ≤ y2 from by omega) (show y2 ≤ 12 from by omega) (show 0 ≤ y5 from by omega) (show y5 < 3 * y2 from by omega) (show a 146 68 ≤ 9 from by omega) (show 1 ≤ a0 146 22 from by omega)
    ·
      have h1801_ : jxw ((a 146 68) + 1) = (a 146 68) + 1 := jxw_id (by omega) (by omega)
      have hv1800_ : iv (jxu a 146 68 (jxw ((a 146 68) + 1))) := iv_put hv (l := 0) (u := 10) rfl (by omega) (by omega)
      have hf1802_ : jfr jW_X12_rates a0 (jxu a 146 68 (jxw ((a 146 68) + 1))) := jfr_put hf rfl
      have h1803_ := iv_get hv0 (k := 146) (j := 68) (l := 0) (u := 10) rfl
      exact jt_rI ⟨hv1800_, hf1802_, rfl, (show ((a0 146 22 = 0 ∧ a0 146 68 = 0) → (((0 ≤ x1 ∧ x1 ≤ 1999) ∧ y2 = 0 - 3) ∨ ((x1 < 0 ∨ 1999 < x1) ∧ y2 = 0 - 1))) from by omega)⟩
  exact ⟨hc184, hc154⟩
theorem cp_X12_rates_151 (E : jxE) (d : Nat) (hd : Nat.ble 4 (d + 1) = true) (x1 : Int) (a0 b0 : Nat → Nat → Int) (hv0 : iv a0) : ∀ (y2 : Int) (a : Nat → Nat → Int), iv a → jfr jW_X12_rates a0 a → a 146 68 ≤ 9 → 0 ≤ y2 → y2 ≤ 12 → a 146 68 ≤ 9 → 1 ≤ a0 146 22 → jt (jxX E d 282 151 [some (.inr (.inr (.inl 146))), none, some (.inl y2), none, none, none] [] (jxSH, a, b0)) (jQ_X12_rates x1 a0 b0) := by
  intro y2 a hv hf hi0 hi1 hi2 hi3 hi4
  refine jt_eq (bq_X12_rates_151 E d y2 a b0) ?_
  have h1804_ := iv_get hv (k := 146) (j := 68) (l := 0) (u := 10) rfl
  have h1805_ := iv_get hv0 (k := 146) (j := 22) (l := 0) (u := 200) rfl
  exact (cp_X12_rates_154 E d hd x1 a0 b0 hv0 _).2 y2 0 a (Nat.le_refl _) hv hf (show 0 ≤ 0 from by omega) (show 0 ≤ 36 from by omega) (show a 146 68 ≤ 9 from by omega) (show 0 ≤ y2 from by omega) (show y2 ≤ 12 from by omega) (show 0 ≤ 0 from by omega) (show a 146 68 ≤ 9 from by omega) (show 1 ≤ a0 146 22 from by omega)
theorem cp_X12_rates_114 (E : jxE) (d : Nat) (hd : Nat.ble 4 (d + 1) = true) (x1 : Int) (a0 b0 : Nat → Nat → Int) (hv0 : iv a0) : ∀ (y1 y2 y3 : Int) (a : Nat → Nat → Int), iv a → jfr jW_X12_rates a0 a → 0 ≤ y1 → y1 ≤ 1999 → 0 ≤ y3 → y3 ≤ 1 → a 146 68 ≤ 9 → a 146 23 ≤ a 146 22 → 0 ≤ y2 → y2 ≤ 13 → (y3 = 1 → y2 ≤ 12) → 0 ≤ y3 → y3 ≤ 1 → (0 ≤ x1 ∧ x1 ≤ 1999) → (a0 146 22 = 0 → (y3 = 0 ∧ a 146 24 = 1)) → jt (jxX E d 282 114 [some (.inr (.inr (.inl 146))), some (.inl y1), some (.inl y2), some (.inl y3), none, none] [] (jxSH, a, b0)) (jQ_X12_rates x1 a0 b0) := by
  intro y1 y2 y3 a hv hf hi0 hi1 hi2 hi3 hi4 hi5 hi6 hi7 hi8 hi9 hi10 hi11 hi12
  refine jt_eq (bq_X12_rates_114 E d y1 y2 y3 a b0) ?_
  have h1806_ := iv_get hv (k := 146) (j := 68) (l := 0) (u := 10) rfl
  have h1807_ := iv_get hv (k := 146) (j := 23) (l := 0) (u := 200) rfl
  have h1808_ := iv_get hv (k := 146) (j := 22) (l := 0) (u := 200) rfl
  have h1809_ := iv_get hv0 (k := 146) (j := 22) (l := 0) (u := 200) rfl
  refine jt_ite (fun c1810_ => ?_) (fun c1810_ => ?_)
  ·
    have hv1811_ : iv (jxu a 146 22 0) := iv_put hv (l := 0) (u := 200) rfl (by omega) (by omega)
    have hf1812_ : jfr jW_X12_rates a0 (jxu a 146 22 0) := jfr_put hf rfl
    have h1813_ := iv_get hv0 (k := 146) (j := 68) (l := 0) (u := 10) rfl
    have h1814_ := jxw_im ((-2) - (a 146 24))
    have h1815_ := jxw_rg ((-2) - (a 146 24))
    exact jt_rI ⟨hv1811_, hf1812_, rfl, (show ((a0 146 22 = 0 ∧ a0 146 68 = 0) → (((0 ≤ x1 ∧ x1 ≤ 1999) ∧ jxw ((-2) - (a 146 24)) = 0 - 3) ∨ ((x1 < 0 ∨ 1999 < x1) ∧ jxw ((-2) - (a 146 24)) = 0 - 1))) from by omega)⟩
  ·
    refine jt_grd (by omega) ?_
    refine jt_grd (by omega) ?_
    have hv1816_ : iv (jxu a 146 22 0) := iv_put hv (l := 0) (u := 200) rfl (by omega) (by omega)
    have hv1817_ : iv (jxu (jxu a 146 22 0) 192 ((a 146 68).toNat) y1) := iv_putf hv1816_ rfl
    have hv1818_ : iv (jxu (jxu (jxu a 146 22 0) 192 ((a 146 68).toNat) y1) 193 ((a 146 68).toNat) y2) := iv_put hv1817_ (l := 0) (u := 12) rfl (by omega) (by omega)
    have hf1819_ : jfr jW_X12_rates a0 (jxu a 146 22 0) := jfr_put hf rfl
    have hf1820_ : jfr jW_X12_rates a0 (jxu (jxu a 146 22 0) 192 ((a 146 68).toNat) y1) := jfr_put hf1819_ rfl
    have hf1821_ : jfr jW_X12_rates a0 (jxu (jxu (jxu a 146 22 0) 192 ((a 146 68).toNat) y1) 193 ((a 146 68).toNat) y2) := jfr_put hf1820_ rfl
    exact cp_X12_rates_151 E d hd x1 a0 b0 hv0 y2 (jxu (jxu (jxu a 146 22 0) 192 ((a 146 68).toNat) y1) 193 ((a 146 68).toNat) y2) hv1818_ hf1821_ (show a 146 68 ≤ 9 from by omega) (show 0 ≤ y2 from by omega) (show y2 ≤ 12 from by omega) (show a 146 68 ≤ 9 from by omega) (show 1 ≤ a0 146 22 from by omega)
theorem cp_X12_rates_35 (E : jxE) (d : Nat) (hd : Nat.ble 4 (d + 1) = true) (x1 : Int) (a0 b0 : Nat → Nat → Int) (hv0 : iv a0) : ∀ n : Nat, (∀ (y1 y2 y3 y4 : Int) (a : Nat → Nat → Int), (((((a 146 22) - (a 146 23)) + (2 * y3)) + y4) + 1).toNat ≤ n → iv a → jfr jW_X12_rates a0 a → 0 ≤ y1 → y1 ≤ 1999 → 0 ≤ y3 → y3 ≤ 1 → 0 ≤ y4 → y4 ≤ 1 → a 146 68 ≤ 9 → a 146 23 ≤ a 146 22 → 0 ≤ y2 → y2 ≤ 13 → (y3 = 1 → y2 ≤ 12) → 0 ≤ y3 → 0 ≤ y4 → y3 ≤ 1 → y4 ≤ 1 → (y4 = 1 → a 146 23 < a 146 22) → (0 ≤ x1 ∧ x1 ≤ 1999) → (a0 146 22 = 0 → (y3 = 0 ∧ a 146 24 = 1)) → jt (jxX E d 282 96 [some (.inr (.inr (.inl 146))), some (.inl y1), some (.inl y2), some (.inl y3), some (.inl y4), none] [] (jxSH, a, b0)) (jQ_X12_rates x1 a0 b0)) ∧ (∀ (y1 y2 y3 s0 : Int) (a : Nat → Nat → Int), (((((a 146 22) - (a 146 23)) + (2 * y3)) + s0) + 1).toNat ≤ n → iv a → jfr jW_X12_rates a0 a → 0 ≤ y1 → y1 ≤ 1999 → 0 ≤ y3 → y3 ≤ 1 → 0 ≤ s0 → s0 ≤ 1 → a 146 68 ≤ 9 → a 146 23 ≤ a 146 22 → 0 ≤ y2 → y2 ≤ 13 → (y3 = 1 → y2 ≤ 12) → 0 ≤ y3 → 0 ≤ s0 → y3 ≤ 1 → s0 ≤ 1 → (s0 = 1 → (a 146 23 < a 146 22 ∧ ¬ a 164 ((a 146 23).toNat) = 32)) → (0 ≤ x1 ∧ x1 ≤ 1999) → (a0 146 22 = 0 → (y3 = 0 ∧ a 146 24 = 1)) → jt (jxX E d 282 70 [some (.inr (.inr (.inl 146))), some (.inl y1), some (.inl y2), some (.inl y3), none, none] [.inl s0] (jxSH, a, b0)) (jQ_X12_rates x1 a0 b0)) ∧ (∀ (y1 y2 y3 : Int) (a : Nat → Nat → Int), ((((a 146 22) - (a 146 23)) + (2 * y3)) + 2).toNat ≤ n → iv a → jfr jW_X12_rates a0 a → 0 ≤ y1 → y1 ≤ 1999 → 1 ≤ y3 → y3 ≤ 1 → a 146 68 ≤ 9 → a 146 23 ≤ a 146 22 → 0 ≤ y2 → y2 ≤ 13 → (y3 = 1 → y2 ≤ 12) → 0 ≤ y3 → y3 ≤ 1 → a 146 23 < a 146 22 → ¬ a 164 ((a 146 23).toNat) = 32 → (0 ≤ x1 ∧ x1 ≤ 1999) → 1 ≤ a0 146 22 → jt (jxX E d 282 65 [some (.inr (.inr (.inl 146))), some (.inl y1), some (.inl y2), some (.inl y3), none, none] [] (jxSH, a, b0)) (jQ_X12_rates x1 a0 b0)) ∧ (∀ (y1 y2 y3 : Int) (a : Nat → Nat → Int), ((((a 146 22) - (a 146 23)) + (2 * y3)) + 1).toNat ≤ n → iv a → jfr jW_X12_rates a0 a → 0 ≤ y1 → y1 ≤ 1999 → 0 ≤ y3 → y3 ≤ 1 → a 146 68 ≤ 9 → a 146 23 ≤ a 146 22 → 0 ≤ y2 → y2 ≤ 13 → (y3 = 1 → y2 ≤ 12) → 0 ≤ y3 → y3 ≤ 1 → (0 ≤ x1 ∧ x1 ≤ 1999) → (a0 146 22 = 0 → (y3 = 0 ∧ a 146 24 = 1)) → jt (jxX E d 282 69 [some (.inr (.inr (.inl 146))), some (.inl y1), some (.inl y2), some (.inl y3), none, none] [] (jxSH, a, b0)) (jQ_X12_rates x1 a0 b0)) ∧ (∀ (y1 y2 y3 y4 : Int) (a : Nat → Nat → Int), ((((a 146 22) - (a 146 23)) + y3) + y4).toNat ≤ n → iv a → jfr jW_X12_rates a0 a → 0 ≤ y1 → y1 ≤ 1999 → 0 ≤ y3 → y3 ≤ 1 → 0 ≤ y4 → y4 ≤ 1 → a 146 68 ≤ 9 → a 146 23 ≤ a 146 22 → 0 ≤ y2 → y2 ≤ 13 → (y3 = 1 → y2 ≤ 12) → 0 ≤ y3 → 0 ≤ y4 → y3 ≤ 1 → y4 ≤ 1 → (0 ≤ x1 ∧ x1 ≤ 1999) → (a0 146 22 = 0 → (((a 146 24 = 0 ∧ ¬ y3 = 0) ∧ ¬ y4 = 0) ∨ (y3 = 0 ∧ a 146 24 = 1))) → jt (jxX E d 282 35 [some (.inr (.inr (.inl 146))), some (.inl y1), some (.inl y2), some (.inl y3), some (.inl y4), none] [] (jxSH, a, b0)) (jQ_X12_rates x1 a0 b0)) := by
  refine jx_ind fun n ih => ?_
  have ih96 : ∀ (y1 y2 y3 y4 : Int) (a : Nat → Nat → Int), (((((a 146 22) - (a 146 23)) + (2 * y3)) + y4) + 1).toNat < n → iv a → jfr jW_X12_rates a0 a → 0 ≤ y1 → y1 ≤ 1999 → 0 ≤ y3 → y3 ≤ 1 → 0 ≤ y4 → y4 ≤ 1 → a 146 68 ≤ 9 → a 146 23 ≤ a 146 22 → 0 ≤ y2 → y2 ≤ 13 → (y3 = 1 → y2 ≤ 12) → 0 ≤ y3 → 0 ≤ y4 → y3 ≤ 1 → y4 ≤ 1 → (y4 = 1 → a 146 23 < a 146 22) → (0 ≤ x1 ∧ x1 ≤ 1999) → (a0 146 22 = 0 → (y3 = 0 ∧ a 146 24 = 1)) → jt (jxX E d 282 96 [some (.inr (.inr (.inl 146))), some (.inl y1), some (.inl y2), some (.inl y3), some (.inl y4), none] [] (jxSH, a, b0)) (jQ_X12_rates x1 a0 b0) := fun y1 y2 y3 y4 a hlt i0 i1 i2 i3 i4 i5 i6 i7 i8 i9 i10 i11 i12 i13 i14 i15 i16 i17 i18 i19 => (ih _ hlt).1 y1 y2 y3 y4 a (Nat.le_refl _) i0 i1 i2 i3 i4 i5 i6 i7 i8 i9 i10 i11 i12 i13 i14 i15 i16 i17 i18 i19
  have ih70 : ∀ (y1 y2 y3 s0 : Int) (a : Nat → Nat → Int), (((((a 146 22) - (a 146 23)) + (2 * y3)) + s0) + 1).toNat < n → iv a → jfr jW_X12_rates a0 a → 0 ≤ y1 → y1 ≤ 1999 → 0 ≤ y3 → y3 ≤ 1 → 0 ≤ s0 → s0 ≤ 1 → a 146 68 ≤ 9 → a 146 23 ≤ a 146 22 → 0 ≤ y2 → y2 ≤ 13 → (y3 = 1 → y2 ≤ 12) → 0 ≤ y3 → 0 ≤ s0 → y3 ≤ 1 → s0 ≤ 1 → (s0 = 1 → (a 146 23 < a 146 22 ∧ ¬ a 164 ((a 146 23).toNat) = 32)) → (0 ≤ x1 ∧ x1 ≤ 1999) → (a0 146 22 = 0 → (y3 = 0 ∧ a 146 24 = 1)) → jt (jxX E d 282 70 [some (.inr (.inr (.inl 146))), some (.inl y1), some (.inl y2), some (.inl y3), none, none] [.inl s0] (jxSH, a, b0)) (jQ_X12_rates x1 a0 b0) := fun y1 y2 y3 s0 a hlt i0 i1 i2 i3 i4 i5 i6 i7 i8 i9 i10 i11 i12 i13 i14 i15 i16 i17 i18 i19 => (ih _ hlt).2.1 y1 y2 y3 s0 a (Nat.le_refl _) i0 i1 i2 i3 i4 i5 i6 i7 i8 i9 i10 i11 i12 i13 i14 i15 i16 i17 i18 i19
  have ih65 : ∀ (y1 y2 y3 : Int) (a : Nat → Nat → Int), ((((a 146 22) - (a 146 23)) + (2 * y3)) + 2).toNat < n → iv a → jfr jW_X12_rates a0 a → 0 ≤ y1 → y1 ≤ 1999 → 1 ≤ y3 → y3 ≤ 1 → a 146 68 ≤ 9 → a 146 23 ≤ a 146 22 → 0 ≤ y2 → y2 ≤ 13 → (y3 = 1 → y2 ≤ 12) → 0 ≤ y3 → y3 ≤ 1 → a 146 23 < a 146 22 → ¬ a 164 ((a 146 23).toNat) = 32 → (0 ≤ x1 ∧ x1 ≤ 1999) → 1 ≤ a0 146 22 → jt (jxX E d 282 65 [some (.inr (.inr (.inl 146))), some (.inl y1), some (.inl y2), some (.inl y3), none, none] [] (jxSH, a, b0)) (jQ_X12_rates x1 a0 b0) := fun y1 y2 y3 a hlt i0 i1 i2 i3 i4 i5 i6 i7 i8 i9 i10 i11 i12 i13 i14 i15 i16 => (ih _ hlt).2.2.1 y1 y2 y3 a (Nat.le_refl _) i0 i1 i2 i3 i4 i5 i6 i7 i8 i9 i10 i11 i12 i13 i14 i15 i16
  have ih69 : ∀ (y1 y2 y3 : Int) (a : Nat → Nat → Int), ((((a 146 22) - (a 146 23)) + (2 * y3)) + 1).toNat < n → iv a → jfr jW_X12_rates a0 a → 0 ≤ y1 → y1 ≤ 1999 → 0 ≤ y3 → y3 ≤ 1 → a 146 68 ≤ 9 → a 146 23 ≤ a 146 22 → 0 ≤ y2 → y2 ≤ 13 → (y3 = 1 → y2 ≤ 12) → 0 ≤ y3 → y3 ≤ 1 → (0 ≤ x1 ∧ x1 ≤ 1999) → (a0 146 22 = 0 → (y3 = 0 ∧ a 146 24 = 1)) → jt (jxX E d 282 69 [some (.inr (.inr (.inl 146))), some (.inl y1), some (.inl y2), some (.inl y3), none, none] [] (jxSH, a, b0)) (jQ_X12_rates x1 a0 b0) := fun y1 y2 y3 a hlt i0 i1 i2 i3 i4 i5 i6 i7 i8 i9 i10 i11 i12 i13 i14 => (ih _ hlt).2.2.2.1 y1 y2 y3 a (Nat.le_refl _) i0 i1 i2 i3 i4 i5 i6 i7 i8 i9 i10 i11 i12 i13 i14
  have ih35 : ∀ (y1 y2 y3 y4 : Int) (a : Nat → Nat → Int), ((((a 146 22) - (a 146 23)) + y3) + y4).toNat < n → iv a → jfr jW_X12_rates a0 a → 0 ≤ y1 → y1 ≤ 1999 → 0 ≤ y3 → y3 ≤ 1 → 0 ≤ y4 → y4 ≤ 1 → a 146 68 ≤ 9 → a 146 23 ≤ a 146 22 → 0 ≤ y2 → y2 ≤ 13 → (y3 = 1 → y2 ≤ 12) → 0 ≤ y3 → 0 ≤ y4 → y3 ≤ 1 → y4 ≤ 1 → (0 ≤ x1 ∧ x1 ≤ 1999) → (a0 146 22 = 0 → (((a 146 24 = 0 ∧ ¬ y3 = 0) ∧ ¬ y4 = 0) ∨ (y3 = 0 ∧ a 146 24 = 1))) → jt (jxX E d 282 35 [some (.inr (.inr (.inl 146))), some (.inl y1), some (.inl y2), some (.inl y3), some (.inl y4), none] [] (jxSH, a, b0)) (jQ_X12_rates x1 a0 b0) := fun y1 y2 y3 y4 a hlt i0 i1 i2 i3 i4 i5 i6 i7 i8 i9 i10 i11 i12 i13 i14 i15 i16 i17 i18 => (ih _ hlt).2.2.2.2 y1 y2 y3 y4 a (Nat.le_refl _) i0 i1 i2 i3 i4 i5 i6 i7 i8 i9 i10 i11 i12 i13 i14 i15 i16 i17 i18
  have hc96 : ∀ (y1 y2 y3 y4 : Int) (a : Nat → Nat → Int), (((((a 146 22) - (a 146 23)) + (2 * y3)) + y4) + 1).toNat ≤ n → iv a → jfr jW_X12_rates a0 a → 0 ≤ y1 → y1 ≤ 1999 → 0 ≤ y3 → y3 ≤ 1 → 0 ≤ y4 → y4 ≤ 1 → a 146 68 ≤ 9 → a 146 23 ≤ a 146 22 → 0 ≤ y2 → y2 ≤ 13 → (y3 = 1 → y2 ≤ 12) → 0 ≤ y3 → 0 ≤ y4 → y3 ≤ 1 → y4 ≤ 1 → (y4 = 1 → a 146 23 < a 146 22) → (0 ≤ x1 ∧ x1 ≤ 1999) → (a0 146 22 = 0 → (y3 = 0 ∧ a 146 24 = 1)) → jt (jxX E d 282 96 [some (.inr (.inr (.inl 146))), some (.inl y1), some (.inl y2), some (.inl y3), some (.inl y4), none] [] (jxSH, a, b0)) (jQ_X12_rates x1 a0 b0) := by
    intro y1 y2 y3 y4 a hm hv hf hi0 hi1 hi2 hi3 hi4 hi5 hi6 hi7 hi8 hi9 hi10 hi11 hi12 hi13 hi14 hi15 hi16 hi17
    refine jt_eq (bq_X12_rates_96 E d y1 y2 y3 y4 a b0) ?_
    have h1822_ := iv_get hv (k := 146) (j := 68) (l := 0) (u := 10) rfl
    have h1823_ := iv_get hv (k := 146) (j := 23) (l := 0) (u := 200) rfl
    have h1824_ := iv_get hv (k := 146) (j := 22) (l := 0) (u := 200) rfl
    have h1825_ := iv_get hv0 (k := 146) (j := 22) (l := 0) (u := 200) rfl
    refine jt_ite (fun c1826_ => ?_) (fun c1826_ => ?_)
    ·
      exact ih35 y1 y2 y3 y4 a (show ((((a 146 22) - (a 146 23)) + y3) + y4).toNat < n from by omega) hv hf (show 0 ≤ y1 from by omega) (show y1 ≤ 1999 from by omega) (show 0 ≤ y3 from by omega) (show y3 ≤ 1 from by omega) (show 0 ≤ y4 from by omega) (show y4 ≤ 1 from by omega) (show a 146 68 ≤ 9 from by omega) (show a 146 23 ≤ a 146 22 from by omega) (show 0 ≤ y2 from by omega) (show y2 ≤ 13 from by omega) (show (y3 = 1 → y2 ≤ 12) from by omega) (show 0 ≤ y3 from by omega) (show 0 ≤ y4 from by omega) (show y3 ≤ 1 from by omega) (show y4 ≤ 1 from by omega) (show (0 ≤ x1 ∧ x1 ≤ 1999) from by omega) (show (a0 146 22 = 0 → (((a 146 24 = 0 ∧ ¬ y3 = 0) ∧ ¬ y4 = 0) ∨ (y3 = 0 ∧ a 146 24 = 1))) from by omega)
    ·
      have h1828_ : jxw ((a 146 23) + 1) = (a 146 23) + 1 := jxw_id (by omega) (by omega)
      have hv1827_ : iv (jxu a 146 23 (jxw ((a 146 23) + 1))) := iv_put hv (l := 0) (u := 200) rfl (by omega) (by omega)
      have hf1829_ : jfr jW_X12_rates a0 (jxu a 146 23 (jxw ((a 146 23) + 1))) := jfr_put hf rfl
      exact ih35 y1 y2 y3 y4 (jxu a 146 23 (jxw ((a 146 23) + 1))) (show ((((a 146 22) - (jxw ((a 146 23) + 1))) + y3) + y4).toNat < n from by omega) hv1827_ hf1829_ (show 0 ≤ y1 from by omega) (show y1 ≤ 1999 from by omega) (show 0 ≤ y3 from by omega) (show y3 ≤ 1 from by omega) (show 0 ≤ y4 from by omega) (show y4 ≤ 1 from by omega) (show a 146 68 ≤ 9 from by omega) (show jxw ((a 146 23) + 1) ≤ a 146 22 from by omega) (show 0 ≤ y2 from by omega) (show y2 ≤ 13 from by omega) (show (y3 = 1 → y2 ≤ 12) from by omega) (show 0 ≤ y3 from by omega) (show 0 ≤ y4 from by omega) (show y3 ≤ 1 from by omega) (show y4 ≤ 1 from by omega) (show (0 ≤ x1 ∧ x1 ≤ 1999) from by omega) (show (a0 146 22 = 0 → (((a 146 24 = 0 ∧ ¬ y3 = 0) ∧ ¬ y4 = 0) ∨ (y3 = 0 ∧ a 146 24 = 1))) from by omega)
  have hc70 : ∀ (y1 y2 y3 s0 : Int) (a : Nat → Nat → Int), (((((a 146 22) - (a 146 23)) + (2 * y3)) + s0) + 1).toNat ≤ n → iv a → jfr jW_X12_rates a0 a → 0 ≤ y1 → y1 ≤ 1999 → 0 ≤ y3 → y3 ≤ 1 → 0 ≤ s0 → s0 ≤ 1 → a 146 68 ≤ 9 → a 146 23 ≤ a 146 22 → 0 ≤ y2 → y2 ≤ 13 → (y3 = 1 → y2 ≤ 12) → 0 ≤ y3 → 0 ≤ s0 → y3 ≤ 1 → s0 ≤ 1 → (s0 = 1 → (a 146 23 < a 146 22 ∧ ¬ a 164 ((a 146 23).toNat) = 32)) → (0 ≤ x1 ∧ x1 ≤ 1999) → (a0 146 22 = 0 → (y3 = 0 ∧ a 146 24 = 1)) → jt (jxX E d 282 70 [some (.inr (.inr (.inl 146))), some (.inl y1), some (.inl y2), some (.inl y3), none, none] [.inl s0] (jxSH, a, b0)) (jQ_X12_rates x1 a0 b0) := by
    intro y1 y2 y3 s0 a hm hv hf hi0 hi1 hi2 hi3 hi4 hi5 hi6 hi7 hi8 hi9 hi10 hi11 hi12 hi13 hi14 hi15 hi16 hi17
    refine jt_eq (bq_X12_rates_70 E d y1 y2 y3 s0 a b0) ?_
    have h1830_ := iv_get hv (k := 146) (j := 68) (l := 0) (u := 10) rfl
    have h1831_ := iv_get hv (k := 146) (j := 23) (l := 0) (u := 200) rfl
    have h1832_ := iv_get hv (k := 146) (j := 22) (l := 0) (u := 200) rfl
    have h1833_ := iv_get hv (k := 164) (j := (a 146 23).toNat) (l := (-128)) (u := 127) rfl
    have h1834_ : a 164 ((a 146 23).toNat) = a0 164 ((a 146 23).toNat) := hf 164 ((a 146 23).toNat) rfl
    have h1835_ := iv_get hv0 (k := 164) (j := (a 146 23).toNat) (l := (-128)) (u := 127) rfl
    have h1836_ := iv_get hv0 (k := 146) (j := 22) (l := 0) (u := 200) rfl
    refine jt_ite (fun c1837_ => ?_) (fun c1837_ => ?_)
    ·
      exact hc96 y1 y2 y3 s0 a (show (((((a 146 22) - (a 146 23)) + (2 * y3)) + s0) + 1).toNat ≤ n from by omega) hv hf (show 0 ≤ y1 from by omega) (show y1 ≤ 1999 from by omega) (show 0 ≤ y3 from by omega) (show y3 ≤ 1 from by omega) (show 0 ≤ s0 from by omega) (show s0 ≤ 1 from by omega) (show a 146 68 ≤ 9 from by omega) (show a 146 23 ≤ a 146 22 from by omega) (show 0 ≤ y2 from by omega) (show y2 ≤ 13 from by omega) (show (y3 = 1 → y2 ≤ 12) from by omega) (show 0 ≤ y3 from by omega) (show 0 ≤ s0 from by omega) (show y3 ≤ 1 from by omega) (show s0 ≤ 1 from by omega) (show (s0 = 1 → a 146 23 < a 146 22) from by omega) (show (0 ≤ x1 ∧ x1 ≤ 1999) from by omega) (show (a0 146 22 = 0 → (y3 = 0 ∧ a 146 24 = 1)) from by omega)
    ·
      refine jt_bI (sp_X12_see E d (jd_le hd rfl) a b0 hv (show a 146 23 ≤ a 146 22 from by omega)) (fun r1838_ a1838_ b1838_ h1838_ => ?_)
      obtain ⟨hv1838_, hf1838_, rfl, hq1838_0, hq1838_1, hq1838_2, hq1838_3⟩ := h1838_
      have h1839_ := iv_get hv1838_ (k := 146) (j := 23) (l := 0) (u := 200) rfl
      have h1840_ := iv_get hv1838_ (k := 164) (j := (a1838_ 146 23).toNat) (l := (-128)) (u := 127) rfl
      have h1841_ : a1838_ 164 ((a1838_ 146 23).toNat) = a 164 ((a1838_ 146 23).toNat) := hf1838_ 164 ((a1838_ 146 23).toNat) rfl
      have h1842_ := iv_get hv (k := 164) (j := (a1838_ 146 23).toNat) (l := (-128)) (u := 127) rfl
      have h1843_ : a 164 ((a1838_ 146 23).toNat) = a0 164 ((a1838_ 146 23).toNat) := hf 164 ((a1838_ 146 23).toNat) rfl
      have h1844_ := iv_get hv0 (k := 164) (j := (a1838_ 146 23).toNat) (l := (-128)) (u := 127) rfl
      refine jt_ite (fun c1845_ => ?_) (fun c1845_ => ?_)
      ·
        have hf1846_ : jfr jW_X12_rates a0 a1838_ := jfr_tr hf hf1838_ rfl
        have h1847_ := iv_get hv1838_ (k := 146) (j := 68) (l := 0) (u := 10) rfl
        have h1848_ : a1838_ 146 68 = a 146 68 := hf1838_ 146 68 rfl
        have h1849_ := iv_get hv1838_ (k := 146) (j := 22) (l := 0) (u := 200) rfl
        have h1850_ : a1838_ 146 22 = a 146 22 := hf1838_ 146 22 rfl
        have h1851_ : a1838_ 146 24 = a 146 24 := hf1838_ 146 24 rfl
        exact hc96 y1 y2 y3 s0 a1838_ (show (((((a1838_ 146 22) - (a1838_ 146 23)) + (2 * y3)) + s0) + 1).toNat ≤ n from by omega) hv1838_ hf1846_ (show 0 ≤ y1 from by omega) (show y1 ≤ 1999 from by omega) (show 0 ≤ y3 from by omega) (show y3 ≤ 1 from by omega) (show 0 ≤ s0 from by omega) (show s0 ≤ 1 from by omega) (show a1838_ 146 68 ≤ 9 from by omega) (show a1838_ 146 23 ≤ a1838_ 146 22 from by omega) (show 0 ≤ y2 from by omega) (show y2 ≤ 13 from by omega) (show (y3 = 1 → y2 ≤ 12) from by omega) (show 0 ≤ y3 from by omega) (show 0 ≤ s0 from by omega) (show y3 ≤ 1 from by omega) (show s0 ≤ 1 from by omega) (show (s0 = 1 → a1838_ 146 23 < a1838_ 146 22) from by omega) (show (0 ≤ x1 ∧ x1 ≤ 1999) from by omega) (show (a0 146 22 = 0 → (y3 = 0 ∧ a1838_ 146 24 = 1)) from by omega)
      ·
        refine jt_bI (sp_X12_fails E d (jd_le hd rfl) 0 (a1838_ 146 23) a1838_ b0 hv1838_) (fun r1852_ a1852_ b1852_ h1852_ => ?_)
        obtain ⟨hv1852_, hf1852_, rfl, hq1852_0, hq1852_1, hq1852_2, hq1852_3⟩ := h1852_
        have h1853_ : a1838_ 146 24 = a 146 24 := hf1838_ 146 24 rfl
        have hf1854_ : jfr jW_X12_rates a0 a1838_ := jfr_tr hf hf1838_ rfl
        have hf1855_ : jfr jW_X12_rates a0 a1852_ := jfr_tr hf1854_ hf1852_ rfl
        have h1856_ := iv_get hv1852_ (k := 146) (j := 68) (l := 0) (u := 10) rfl
        have h1857_ : a1852_ 146 68 = a1838_ 146 68 := hf1852_ 146 68 rfl
        have h1858_ := iv_get hv1838_ (k := 146) (j := 68) (l := 0) (u := 10) rfl
        have h1859_ : a1838_ 146 68 = a 146 68 := hf1838_ 146 68 rfl
        have h1860_ := iv_get hv1852_ (k := 146) (j := 23) (l := 0) (u := 200) rfl
        have h1861_ : a1852_ 146 23 = a1838_ 146 23 := hf1852_ 146 23 rfl
        have h1862_ := iv_get hv1852_ (k := 146) (j := 22) (l := 0) (u := 200) rfl
        have h1863_ : a1852_ 146 22 = a1838_ 146 22 := hf1852_ 146 22 rfl
        have h1864_ := iv_get hv1838_ (k := 146) (j := 22) (l := 0) (u := 200) rfl
        have h1865_ : a1838_ 146 22 = a 146 22 := hf1838_ 146 22 rfl
        exact hc96 y1 y2 r1852_ s0 a1852_ (show (((((a1852_ 146 22) - (a1852_ 146 23)) + (2 * r1852_)) + s0) + 1).toNat ≤ n from by omega) hv1852_ hf1855_ (show 0 ≤ y1 from by omega) (show y1 ≤ 1999 from by omega) (show 0 ≤ r1852_ from by omega) (show r1852_ ≤ 1 from by omega) (show 0 ≤ s0 from by omega) (show s0 ≤ 1 from by omega) (show a1852_ 146 68 ≤ 9 from by omega) (show a1852_ 146 23 ≤ a1852_ 146 22 from by omega) (show 0 ≤ y2 from by omega) (show y2 ≤ 13 from by omega) (show (r1852_ = 1 → y2 ≤ 12) from by omega) (show 0 ≤ r1852_ from by omega) (show 0 ≤ s0 from by omega) (show r1852_ ≤ 1 from by omega) (show s0 ≤ 1 from by omega) (show (s0 = 1 → a1852_ 146 23 < a1852_ 146 22) from by omega) (show (0 ≤ x1 ∧ x1 ≤ 1999) from by omega) (show (a0 146 22 = 0 → (r1852_ = 0 ∧ a1852_ 146 24 = 1)) from by omega)
  have hc65 : ∀ (y1 y2 y3 : Int) (a : Nat → Nat → Int), ((((a 146 22) - (a 146 23)) + (2 * y3)) + 2).toNat ≤ n → iv a → jfr jW_X12_rates a0 a → 0 ≤ y1 → y1 ≤ 1999 → 1 ≤ y3 → y3 ≤ 1 → a 146 68 ≤ 9 → a 146 23 ≤ a 146 22 → 0 ≤ y2 → y2 ≤ 13 → (y3 = 1 → y2 ≤ 12) → 0 ≤ y3 → y3 ≤ 1 → a 146 23 < a 146 22 → ¬ a 164 ((a 146 23).toNat) = 32 → (0 ≤ x1 ∧ x1 ≤ 1999) → 1 ≤ a0 146 22 → jt (jxX E d 282 65 [some (.inr (.inr (.inl 146))), some (.inl y1), some (.inl y2), some (.inl y3), none, none] [] (jxSH, a, b0)) (jQ_X12_rates x1 a0 b0) := by
    intro y1 y2 y3 a hm hv hf hi0 hi1 hi2 hi3 hi4 hi5 hi6 hi7 hi8 hi9 hi10 hi11 hi12 hi13 hi14
    refine jt_eq (bq_X12_rates_65 E d y1 y2 y3 a b0) ?_
    have h1866_ := iv_get hv (k := 146) (j := 68) (l := 0) (u := 10) rfl
    have h1867_ := iv_get hv (k := 146) (j := 23) (l := 0) (u := 200) rfl
    have h1868_ := iv_get hv (k := 146) (j := 22) (l := 0) (u := 200) rfl
    have h1869_ := iv_get hv (k := 164) (j := (a 146 23).toNat) (l := (-128)) (u := 127) rfl
    have h1870_ : a 164 ((a 146 23).toNat) = a0 164 ((a 146 23).toNat) := hf 164 ((a 146 23).toNat) rfl
    have h1871_ := iv_get hv0 (k := 164) (j := (a 146 23).toNat) (l := (-128)) (u := 127) rfl
    have h1872_ := iv_get hv0 (k := 146) (j := 22) (l := 0) (u := 200) rfl
    exact hc70 y1 y2 y3 1 a (show (((((a 146 22) - (a 146 23)) + (2 * y3)) + 1) + 1).toNat ≤ n from by omega) hv hf (show 0 ≤ y1 from by omega) (show y1 ≤ 1999 from by omega) (show 0 ≤ y3 from by omega) (show y3 ≤ 1 from by omega) (show 0 ≤ 1 from by omega) (show 1 ≤ 1 from by omega) (show a 146 68 ≤ 9 from by omega) (show a 146 23 ≤ a 146 22 from by omega) (show 0 ≤ y2 from by omega) (show y2 ≤ 13 from by omega) (show (y3 = 1 → y2 ≤ 12) from by omega) (show 0 ≤ y3 from by omega) (show 0 ≤ 1 from by omega) (show y3 ≤ 1 from by omega) (show 1 ≤ 1 from by omega) (show (1 = 1 → (a 146 23 < a 146 22 ∧ ¬ a 164 ((a 146 23).toNat) = 32)) from by omega) (show (0 ≤ x1 ∧ x1 ≤ 1999) from by omega) (show (a0 146 22 = 0 → (y3 = 0 ∧ a 146 24 = 1)) from by omega)
  have hc69 : ∀ (y1 y2 y3 : Int) (a : Nat → Nat → Int), ((((a 146 22) - (a 146 23)) + (2 * y3)) + 1).toNat ≤ n → iv a → jfr jW_X12_rates a0 a → 0 ≤ y1 → y1 ≤ 1999 → 0 ≤ y3 → y3 ≤ 1 → a 146 68 ≤ 9 → a 146 23 ≤ a 146 22 → 0 ≤ y2 → y2 ≤ 13 → (y3 = 1 → y2 ≤ 12) → 0 ≤ y3 → y3 ≤ 1 → (0 ≤ x1 ∧ x1 ≤ 1999) → (a0 146 22 = 0 → (y3 = 0 ∧ a 146 24 = 1)) → jt (jxX E d 282 69 [some (.inr (.inr (.inl 146))), some (.inl y1), some (.inl y2), some (.inl y3), none, none] [] (jxSH, a, b0)) (jQ_X12_rates x1 a0 b0) := by
    intro y1 y2 y3 a hm hv hf hi0 hi1 hi2 hi3 hi4 hi5 hi6 hi7 hi8 hi9 hi10 hi11 hi12
    refine jt_eq (bq_X12_rates_69 E d y1 y2 y3 a b0) ?_
    have h1873_ := iv_get hv (k := 146) (j := 68) (l := 0) (u := 10) rfl
    have h1874_ := iv_get hv (k := 146) (j := 23) (l := 0) (u := 200) rfl
    have h1875_ := iv_get hv (k := 146) (j := 22) (l := 0) (u := 200) rfl
    have h1876_ := iv_get hv0 (k := 146) (j := 22) (l := 0) (u := 200) rfl
    have h1877_ := iv_get hv (k := 164) (j := (a 146 23).toNat) (l := (-128)) (u := 127) rfl
    have h1878_ : a 164 ((a 146 23).toNat) = a0 164 ((a 146 23).toNat) := hf 164 ((a 146 23).toNat) rfl
    have h1879_ := iv_get hv0 (k := 164) (j := (a 146 23).toNat) (l := (-128)) (u := 127) rfl
    exact hc70 y1 y2 y3 0 a (show (((((a 146 22) - (a 146 23)) + (2 * y3)) + 0) + 1).toNat ≤ n from by omega) hv hf (show 0 ≤ y1 from by omega) (show y1 ≤ 1999 from by omega) (show 0 ≤ y3 from by omega) (show y3 ≤ 1 from by omega) (show 0 ≤ 0 from by omega) (show 0 ≤ 1 from by omega) (show a 146 68 ≤ 9 from by omega) (show a 146 23 ≤ a 146 22 from by omega) (show 0 ≤ y2 from by omega) (show y2 ≤ 13 from by omega) (show (y3 = 1 → y2 ≤ 12) from by omega) (show 0 ≤ y3 from by omega) (show 0 ≤ 0 from by omega) (show y3 ≤ 1 from by omega) (show 0 ≤ 1 from by omega) (show (0 = 1 → (a 146 23 < a 146 22 ∧ ¬ a 164 ((a 146 23).toNat) = 32)) from by omega) (show (0 ≤ x1 ∧ x1 ≤ 1999) from by omega) (show (a0 146 22 = 0 → (y3 = 0 ∧ a 146 24 = 1)) from by omega)
  have hc35 : ∀ (y1 y2 y3 y4 : Int) (a : Nat → Nat → Int), ((((a 146 22) - (a 146 23)) + y3) + y4).toNat ≤ n → iv a → jfr jW_X12_rates a0 a → 0 ≤ y1 → y1 ≤ 1999 → 0 ≤ y3 → y3 ≤ 1 → 0 ≤ y4 → y4 ≤ 1 → a 146 68 ≤ 9 → a 146 23 ≤ a 146 22 → 0 ≤ y2 → y2 ≤ 13 → (y3 = 1 → y2 ≤ 12) → 0 ≤ y3 → 0 ≤ y4 → y3 ≤ 1 → y4 ≤ 1 → (0 ≤ x1 ∧ x1 ≤ 1999) → (a0 146 22 = 0 → (((a 146 24 = 0 ∧ ¬ y3 = 0) ∧ ¬ y4 = 0) ∨ (y3 = 0 ∧ a 146 24 = 1))) → jt (jxX E d 282 35 [some (.inr (.inr (.inl 146))), some (.inl y1), some (.inl y2), some (.inl y3), some (.inl y4), none] [] (jxSH, a, b0)) (jQ_X12_rates x1 a0 b0) := by
    intro y1 y2 y3 y4 a hm hv hf hi0 hi1 hi2 hi3 hi4 hi5 hi6 hi7 hi8 hi9 hi10 hi11 hi12 hi13 hi14 hi15 hi16
    refine jt_eq (bq_X12_rates_35 E d y1 y2 y3 y4 a b0) ?_
    have h1880_ := iv_get hv (k := 146) (j := 68) (l := 0) (u := 10) rfl
    have h1881_ := iv_get hv (k := 146) (j := 23) (l := 0) (u := 200) rfl
    have h1882_ := iv_get hv (k := 146) (j := 22) (l := 0) (u := 200) rfl
    have h1883_ := iv_get hv0 (k := 146) (j := 22) (l := 0) (u := 200) rfl
    refine jt_ite (fun c1884_ => ?_) (fun c1884_ => ?_)
    ·
      exact cp_X12_rates_114 E d hd x1 a0 b0 hv0 y1 y2 y3 a hv hf (show 0 ≤ y1 from by omega) (show y1 ≤ 1999 from by omega) (show 0 ≤ y3 from by omega) (show y3 ≤ 1 from by omega) (show a 146 68 ≤ 9 from by omega) (show a 146 23 ≤ a 146 22 from by omega) (show 0 ≤ y2 from by omega) (show y2 ≤ 13 from by omega) (show (y3 = 1 → y2 ≤ 12) from by omega) (show 0 ≤ y3 from by omega) (show y3 ≤ 1 from by omega) (show (0 ≤ x1 ∧ x1 ≤ 1999) from by omega) (show (a0 146 22 = 0 → (y3 = 0 ∧ a 146 24 = 1)) from by omega)
    ·
      refine jt_ite (fun c1885_ => ?_) (fun c1885_ => ?_)
      ·
        exact cp_X12_rates_114 E d hd x1 a0 b0 hv0 y1 y2 y3 a hv hf (show 0 ≤ y1 from by omega) (show y1 ≤ 1999 from by omega) (show 0 ≤ y3 from by omega) (show y3 ≤ 1 from by omega) (show a 146 68 ≤ 9 from by omega) (show a 146 23 ≤ a 146 22 from by omega) (show 0 ≤ y2 from by omega) (show y2 ≤ 13 from by omega) (show (y3 = 1 → y2 ≤ 12) from by omega) (show 0 ≤ y3 from by omega) (show y3 ≤ 1 from by omega) (show (0 ≤ x1 ∧ x1 ≤ 1999) from by omega) (show (a0 146 22 = 0 → (y3 = 0 ∧ a 146 24 = 1)) from by omega)
      ·
        refine jt_bI (sp_X12_clause E d (jd_le hd rfl) y2 a b0 hv (show a 146 23 ≤ a 146 22 from by omega) (show 0 ≤ y2 from by omega) (show y2 ≤ 12 from by omega)) (fun r1886_ a1886_ b1886_ h1886_ => ?_)
        obtain ⟨hv1886_, hf1886_, rfl, hq1886_0, hq1886_1, hq1886_2, hq1886_3, hq1886_4⟩ := h1886_
        have h1887_ := iv_get hv1886_ (k := 146) (j := 23) (l := 0) (u := 200) rfl
        have h1888_ := iv_get hv1886_ (k := 146) (j := 22) (l := 0) (u := 200) rfl
        have h1889_ : a1886_ 146 22 = a 146 22 := hf1886_ 146 22 rfl
        refine jt_ite (fun c1890_ => ?_) (fun c1890_ => ?_)
        ·
          have hf1891_ : jfr jW_X12_rates a0 a1886_ := jfr_tr hf hf1886_ rfl
          have h1892_ := iv_get hv1886_ (k := 146) (j := 68) (l := 0) (u := 10) rfl
          have h1893_ : a1886_ 146 68 = a 146 68 := hf1886_ 146 68 rfl
          have h1894_ : jxw (y2 + 1) = y2 + 1 := jxw_id (by omega) (by omega)
          exact hc69 y1 (jxw (y2 + 1)) r1886_ a1886_ (show ((((a1886_ 146 22) - (a1886_ 146 23)) + (2 * r1886_)) + 1).toNat ≤ n from by omega) hv1886_ hf1891_ (show 0 ≤ y1 from by omega) (show y1 ≤ 1999 from by omega) (show 0 ≤ r1886_ from by omega) (show r1886_ ≤ 1 from by omega) (show a1886_ 146 68 ≤ 9 from by omega) (show a1886_ 146 23 ≤ a1886_ 146 22 from by omega) (show 0 ≤ jxw (y2 + 1) from by omega) (show jxw (y2 + 1) ≤ 13 from by omega) (show (r1886_ = 1 → jxw (y2 + 1) ≤ 12) from by omega) (show 0 ≤ r1886_ from by omega) (show r1886_ ≤ 1 from by omega) (show (0 ≤ x1 ∧ x1 ≤ 1999) from by omega) (show (a0 146 22 = 0 → (r1886_ = 0 ∧ a1886_ 146 24 = 1)) from by omega)
        ·
          refine jt_bI (sp_X12_see E d (jd_le hd rfl) a1886_ b0 hv1886_ (show a1886_ 146 23 ≤ a1886_ 146 22 from by omega)) (fun r1895_ a1895_ b1895_ h1895_ => ?_)
          obtain ⟨hv1895_, hf1895_, rfl, hq1895_0, hq1895_1, hq1895_2, hq1895_3⟩ := h1895_
          have h1896_ := iv_get hv1895_ (k := 146) (j := 23) (l := 0) (u := 200) rfl
          have h1897_ := iv_get hv1895_ (k := 164) (j := (a1895_ 146 23).toNat) (l := (-128)) (u := 127) rfl
          have h1898_ : a1895_ 164 ((a1895_ 146 23).toNat) = a1886_ 164 ((a1895_ 146 23).toNat) := hf1895_ 164 ((a1895_ 146 23).toNat) rfl
          have h1899_ := iv_get hv1886_ (k := 164) (j := (a1895_ 146 23).toNat) (l := (-128)) (u := 127) rfl
          have h1900_ : a1886_ 164 ((a1895_ 146 23).toNat) = a 164 ((a1895_ 146 23).toNat) := hf1886_ 164 ((a1895_ 146 23).toNat) rfl
          have h1901_ := iv_get hv (k := 164) (j := (a1895_ 146 23).toNat) (l := (-128)) (u := 127) rfl
          have h1902_ : a 164 ((a1895_ 146 23).toNat) = a0 164 ((a1895_ 146 23).toNat) := hf 164 ((a1895_ 146 23).toNat) rfl
          have h1903_ := iv_get hv0 (k := 164) (j := (a1895_ 146 23).toNat) (l := (-128)) (u := 127) rfl
          have h1904_ := iv_get hv1886_ (k := 164) (j := (a1886_ 146 23).toNat) (l := (-128)) (u := 127) rfl
          have h1905_ : a1886_ 164 ((a1886_ 146 23).toNat) = a 164 ((a1886_ 146 23).toNat) := hf1886_ 164 ((a1886_ 146 23).toNat) rfl
          have h1906_ := iv_get hv (k := 164) (j := (a1886_ 146 23).toNat) (l := (-128)) (u := 127) rfl
          have h1907_ : a 164 ((a1886_ 146 23).toNat) = a0 164 ((a1886_ 146 23).toNat) := hf 164 ((a1886_ 146 23).toNat) rfl
          have h1908_ := iv_get hv0 (k := 164) (j := (a1886_ 146 23).toNat) (l := (-128)) (u := 127) rfl
          refine jt_ite (fun c1909_ => ?_) (fun c1909_ => ?_)
          ·
            have hf1910_ : jfr jW_X12_rates a0 a1886_ := jfr_tr hf hf1886_ rfl
            have hf1911_ : jfr jW_X12_rates a0 a1895_ := jfr_tr hf1910_ hf1895_ rfl
            have h1912_ := iv_get hv1895_ (k := 146) (j := 68) (l := 0) (u := 10) rfl
            have h1913_ : a1895_ 146 68 = a1886_ 146 68 := hf1895_ 146 68 rfl
            have h1914_ := iv_get hv1886_ (k := 146) (j := 68) (l := 0) (u := 10) rfl
            have h1915_ : a1886_ 146 68 = a 146 68 := hf1886_ 146 68 rfl
            have h1916_ := iv_get hv1895_ (k := 146) (j := 22) (l := 0) (u := 200) rfl
            have h1917_ : a1895_ 146 22 = a1886_ 146 22 := hf1895_ 146 22 rfl
            have h1918_ : jxw (y2 + 1) = y2 + 1 := jxw_id (by omega) (by omega)
            have h1919_ : a1895_ 146 24 = a1886_ 146 24 := hf1895_ 146 24 rfl
            exact hc69 y1 (jxw (y2 + 1)) r1886_ a1895_ (show ((((a1895_ 146 22) - (a1895_ 146 23)) + (2 * r1886_)) + 1).toNat ≤ n from by omega) hv1895_ hf1911_ (show 0 ≤ y1 from by omega) (show y1 ≤ 1999 from by omega) (show 0 ≤ r1886_ from by omega) (show r1886_ ≤ 1 from by omega) (show a1895_ 146 68 ≤ 9 from by omega) (show a1895_ 146 23 ≤ a1895_ 146 22 from by omega) (show 0 ≤ jxw (y2 + 1) from by omega) (show jxw (y2 + 1) ≤ 13 from by omega) (show (r1886_ = 1 → jxw (y2 + 1) ≤ 12) from by omega) (show 0 ≤ r1886_ from by omega) (show r1886_ ≤ 1 from by omega) (show (0 ≤ x1 ∧ x1 ≤ 1999) from by omega) (show (a0 146 22 = 0 → (r1886_ = 0 ∧ a1895_ 146 24 = 1)) from by omega)
          ·
            have hf1920_ : jfr jW_X12_rates a0 a1886_ := jfr_tr hf hf1886_ rfl
            have hf1921_ : jfr jW_X12_rates a0 a1895_ := jfr_tr hf1920_ hf1895_ rfl
            have h1922_ := iv_get hv1895_ (k := 146) (j := 68) (l := 0) (u := 10) rfl
            have h1923_ : a1895_ 146 68 = a1886_ 146 68 := hf1895_ 146 68 rfl
            have h1924_ := iv_get hv1886_ (k := 146) (j := 68) (l := 0) (u := 10) rfl
            have h1925_ : a1886_ 146 68 = a 146 68 := hf1886_ 146 68 rfl
            have h1926_ := iv_get hv1895_ (k := 146) (j := 22) (l := 0) (u := 200) rfl
            have h1927_ : a1895_ 146 22 = a1886_ 146 22 := hf1895_ 146 22 rfl
            have h1928_ : jxw (y2 + 1) = y2 + 1 := jxw_id (by omega) (by omega)
            exact hc65 y1 (jxw (y2 + 1)) r1886_ a1895_ (show ((((a1895_ 146 22) - (a1895_ 146 23)) + (2 * r1886_)) + 2).toNat ≤ n from by omega) hv1895_ hf1921_ (show 0 ≤ y1 from by omega) (show y1 ≤ 1999 from by omega) (show 1 ≤ r1886_ from by omega) (show r1886_ ≤ 1 from by omega) (show a1895_ 146 68 ≤ 9 from by omega) (show a1895_ 146 23 ≤ a1895_ 146 22 from by omega) (show 0 ≤ jxw (y2 + 1) from by omega) (show jxw (y2 + 1) ≤ 13 from by omega) (show (r1886_ = 1 → jxw (y2 + 1) ≤ 12) from by omega) (show 0 ≤ r1886_ from by omega) (show r1886_ ≤ 1 from by omega) (show a1895_ 146 23 < a1895_ 146 22 from by omega) (show ¬ a1895_ 164 ((a1895_ 146 23).toNat) = 32 from by omega) (show (0 ≤ x1 ∧ x1 ≤ 1999) from by omega) (show 1 ≤ a0 146 22 from by omega)
  exact ⟨hc96, hc70, hc65, hc69, hc35⟩
theorem cp_X12_rates_30 (E : jxE) (d : Nat) (hd : Nat.ble 4 (d + 1) = true) (x1 : Int) (a0 b0 : Nat → Nat → Int) (hv0 : iv a0) : ∀ (y1 y2 : Int) (a : Nat → Nat → Int), iv a → jfr jW_X12_rates a0 a → 0 ≤ y1 → y1 ≤ 1999 → 0 ≤ y2 → y2 ≤ 0 → a 146 68 ≤ 9 → a 146 23 ≤ a 146 22 → a 146 24 = 0 → (0 ≤ x1 ∧ x1 ≤ 1999) → jt (jxX E d 282 30 [some (.inr (.inr (.inl 146))), some (.inl y1), some (.inl y2), none, none, none] [] (jxSH, a, b0)) (jQ_X12_rates x1 a0 b0) := by
  intro y1 y2 a hv hf hi0 hi1 hi2 hi3 hi4 hi5 hi6 hi7
  refine jt_eq (bq_X12_rates_30 E d y1 y2 a b0) ?_
  have h1929_ := iv_get hv (k := 146) (j := 68) (l := 0) (u := 10) rfl
  have h1930_ := iv_get hv (k := 146) (j := 23) (l := 0) (u := 200) rfl
  have h1931_ := iv_get hv (k := 146) (j := 22) (l := 0) (u := 200) rfl
  have h1932_ := iv_get hv0 (k := 146) (j := 22) (l := 0) (u := 200) rfl
  exact (cp_X12_rates_35 E d hd x1 a0 b0 hv0 _).2.2.2.2 y1 y2 1 1 a (Nat.le_refl _) hv hf (show 0 ≤ y1 from by omega) (show y1 ≤ 1999 from by omega) (show 0 ≤ 1 from by omega) (show 1 ≤ 1 from by omega) (show 0 ≤ 1 from by omega) (show 1 ≤ 1 from by omega) (show a 146 68 ≤ 9 from by omega) (show a 146 23 ≤ a 146 22 from by omega) (show 0 ≤ y2 from by omega) (show y2 ≤ 13 from by omega) (show (1 = 1 → y2 ≤ 12) from by omega) (show 0 ≤ 1 from by omega) (show 0 ≤ 1 from by omega) (show 1 ≤ 1 from by omega) (show 1 ≤ 1 from by omega) (show (0 ≤ x1 ∧ x1 ≤ 1999) from by omega) (show (a0 146 22 = 0 → (((a 146 24 = 0 ∧ ¬ 1 = 0) ∧ ¬ 1 = 0) ∨ (1 = 0 ∧ a 146 24 = 1))) from by omega)
theorem sp_X12_rates (E : jxE) (d : Nat) (hd : Nat.ble 4 d = true) (x1 : Int) (a0 b0 : Nat → Nat → Int) (hv0 : iv a0) : jt (jxC E d 282 [.inr (.inr (.inl 146)), .inl x1] (jxSH, a0, b0)) (jQ_X12_rates x1 a0 b0) := by
  obtain ⟨d, rfl⟩ := jd_succ hd
  refine jt_eq (bq_X12_rates E d x1 a0 b0) ?_
  have h1933_ := iv_get hv0 (k := 146) (j := 68) (l := 0) (u := 10) rfl
  refine jt_ite (fun c1934_ => ?_) (fun c1934_ => ?_)
  ·
    have h1935_ := iv_get hv0 (k := 146) (j := 22) (l := 0) (u := 200) rfl
    exact jt_rI ⟨hv0, (jfr_rf _ _), rfl, (show ((a0 146 22 = 0 ∧ a0 146 68 = 0) → (((0 ≤ x1 ∧ x1 ≤ 1999) ∧ (-1) = 0 - 3) ∨ ((x1 < 0 ∨ 1999 < x1) ∧ (-1) = 0 - 1))) from by omega)⟩
  ·
    refine jt_eI (eq_X12_isDay E d (jd_le hd rfl) x1 a0 b0) ?_
    have h1936_ := f_X12_isDay_eq a0 b0 x1
    have h1937_ := f_X12_in_eq a0 b0 x1 0 1999
    refine jt_ite (fun c1938_ => ?_) (fun c1938_ => ?_)
    ·
      have h1939_ := iv_get hv0 (k := 146) (j := 22) (l := 0) (u := 200) rfl
      exact jt_rI ⟨hv0, (jfr_rf _ _), rfl, (show ((a0 146 22 = 0 ∧ a0 146 68 = 0) → (((0 ≤ x1 ∧ x1 ≤ 1999) ∧ (-1) = 0 - 3) ∨ ((x1 < 0 ∨ 1999 < x1) ∧ (-1) = 0 - 1))) from by omega)⟩
    ·
      have hv1940_ : iv (jxu a0 146 23 0) := iv_put hv0 (l := 0) (u := 200) rfl (by omega) (by omega)
      have hv1941_ : iv (jxu (jxu a0 146 23 0) 146 24 0) := iv_putf hv1940_ rfl
      have hf1942_ : jfr jW_X12_rates a0 (jxu a0 146 23 0) := jfr_put (jfr_rf _ _) rfl
      have hf1943_ : jfr jW_X12_rates a0 (jxu (jxu a0 146 23 0) 146 24 0) := jfr_put hf1942_ rfl
      have h1944_ := iv_get hv0 (k := 146) (j := 22) (l := 0) (u := 200) rfl
      exact cp_X12_rates_30 E d hd x1 a0 b0 hv0 x1 0 (jxu (jxu a0 146 23 0) 146 24 0) hv1941_ hf1943_ (show 0 ≤ x1 from by omega) (show x1 ≤ 1999 from by omega) (show 0 ≤ 0 from by omega) (show 0 ≤ 0 from by omega) (show a0 146 68 ≤ 9 from by omega) (show 0 ≤ a0 146 22 from by omega) (show 0 = 0 from by omega) (show (0 ≤ x1 ∧ x1 ≤ 1999) from by omega)
