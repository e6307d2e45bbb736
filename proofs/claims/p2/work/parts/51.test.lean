def f_X11_within (a0 b0 : Nat → Nat → Int) (x0 x1 x2 : Int) : Int := (if x0 < x1 then 0 else (if x2 < x0 then 0 else 1))
theorem eq_X11_within (E : jxE) (d : Nat) (hd : Nat.ble 1 d = true) (x0 x1 x2 : Int) (a0 b0 : Nat → Nat → Int) : jxC E d 199 [.inl x0, .inl x1, .inl x2] (jxSH, a0, b0) = some ([.inl (f_X11_within a0 b0 x0 x1 x2)], (jxSH, a0, b0)) := by
  obtain ⟨d, rfl⟩ := jd_succ hd
  refine (bq_X11_within E d x0 x1 x2 a0 b0).trans ?_
  unfold f_X11_within
  refine eq_iteI (fun hc1 => ?_) (fun hc1 => ?_)
  ·
    rfl
  ·
    refine eq_iteI (fun hc2 => ?_) (fun hc2 => ?_)
    ·
      rfl
    ·
      rfl
theorem f_X11_within_eq (a0 b0 : Nat → Nat → Int) (x0 x1 x2 : Int) : f_X11_within a0 b0 x0 x1 x2 = (if x0 < x1 then 0 else (if x2 < x0 then 0 else 1)) := rfl
theorem f_X11_within_bool (a0 b0 : Nat → Nat → Int) (x0 x1 x2 : Int) : f_X11_within a0 b0 x0 x1 x2 = 0 ∨ f_X11_within a0 b0 x0 x1 x2 = 1 := by
  unfold f_X11_within
  refine bool_ite ?_ ?_
  ·
    exact Or.inl rfl
  ·
    refine bool_ite ?_ ?_
    ·
      exact Or.inl rfl
    ·
      exact Or.inr rfl
def f_X11_isDay (a0 b0 : Nat → Nat → Int) (x0 : Int) : Int := (f_X11_within a0 b0 x0 0 1999)
theorem eq_X11_isDay (E : jxE) (d : Nat) (hd : Nat.ble 2 d = true) (x0 : Int) (a0 b0 : Nat → Nat → Int) : jxC E d 200 [.inl x0] (jxSH, a0, b0) = some ([.inl (f_X11_isDay a0 b0 x0)], (jxSH, a0, b0)) := by
  obtain ⟨d, rfl⟩ := jd_succ hd
  refine (bq_X11_isDay E d x0 a0 b0).trans ?_
  unfold f_X11_isDay
  refine eq_bI (eq_X11_within E d (jd_le hd rfl) x0 0 1999 a0 b0) ?_
  have h1_ := f_X11_within_eq a0 b0 x0 0 1999
  refine eq_grd (by omega) ?_
  rfl
theorem f_X11_isDay_eq (a0 b0 : Nat → Nat → Int) (x0 : Int) : f_X11_isDay a0 b0 x0 = (f_X11_within a0 b0 x0 0 1999) := rfl
theorem f_X11_isDay_bool (a0 b0 : Nat → Nat → Int) (x0 : Int) : f_X11_isDay a0 b0 x0 = 0 ∨ f_X11_isDay a0 b0 x0 = 1 := by
  unfold f_X11_isDay
  exact f_X11_within_bool _ _ _ _ _
def f_X0_has (a0 b0 : Nat → Nat → Int) (x1 : Int) : Int := (if x1 < 0 then 0 else (if x1 < a0 58 8 then (if x1 < 300 then 1 else 0) else 0))
theorem eq_X0_has (E : jxE) (d : Nat) (hd : Nat.ble 1 d = true) (x1 : Int) (a0 b0 : Nat → Nat → Int) : jxC E d 3 [.inr (.inr (.inl 58)), .inl x1] (jxSH, a0, b0) = some ([.inl (f_X0_has a0 b0 x1)], (jxSH, a0, b0)) := by
  obtain ⟨d, rfl⟩ := jd_succ hd
  refine (bq_X0_has E d x1 a0 b0).trans ?_
  unfold f_X0_has
  refine eq_iteI (fun hc1 => ?_) (fun hc1 => ?_)
  ·
    rfl
  ·
    refine eq_iteI (fun hc2 => ?_) (fun hc2 => ?_)
    ·
      refine eq_iteI (fun hc3 => ?_) (fun hc3 => ?_)
      ·
        rfl
      ·
        rfl
    ·
      rfl
theorem f_X0_has_eq (a0 b0 : Nat → Nat → Int) (x1 : Int) : f_X0_has a0 b0 x1 = (if x1 < 0 then 0 else (if x1 < a0 58 8 then (if x1 < 300 then 1 else 0) else 0)) := rfl
theorem f_X0_has_bool (a0 b0 : Nat → Nat → Int) (x1 : Int) : f_X0_has a0 b0 x1 = 0 ∨ f_X0_has a0 b0 x1 = 1 := by
  unfold f_X0_has
  refine bool_ite ?_ ?_
  ·
    exact Or.inl rfl
  ·
    refine bool_ite ?_ ?_
    ·
      refine bool_ite ?_ ?_
      ·
        exact Or.inr rfl
      ·
        exact Or.inl rfl
    ·
      exact Or.inl rfl
def jW_X11_clock : List (Nat × Nat) := [(0, 0)]
abbrev jQ_X11_clock (x1 : Int) (a0 b0 : Nat → Nat → Int) : List jxV → (Nat → Nat → Int) → (Nat → Nat → Int) → Prop := rI (fun r a b => (iv a) ∧ (jfr jW_X11_clock a0 a) ∧ (b = b0) ∧ ((0 ≤ r ∧ r ≤ 1)))
theorem sp_X11_clock (E : jxE) (d : Nat) (hd : Nat.ble 3 d = true) (x1 : Int) (a0 b0 : Nat → Nat → Int) (hv0 : iv a0) : jt (jxC E d 154 [.inr (.inr (.inl 0)), .inl x1] (jxSH, a0, b0)) (jQ_X11_clock x1 a0 b0) := by
  obtain ⟨d, rfl⟩ := jd_succ hd
  refine jt_eq (bq_X11_clock E d x1 a0 b0) ?_
  refine jt_eI (eq_X11_isDay E d (jd_le hd rfl) x1 a0 b0) ?_
  have h2_ := f_X11_isDay_eq a0 b0 x1
  have h3_ := f_X11_within_eq a0 b0 x1 0 1999
  refine jt_ite (fun c4_ => ?_) (fun c4_ => ?_)
  ·
    exact jt_rI ⟨hv0, (jfr_rf _ _), rfl, (show (0 ≤ 0 ∧ 0 ≤ 1) from by omega)⟩
  ·
    have h5_ := iv_get hv0 (k := 0) (j := 0) (l := 0) (u := 1999) rfl
    refine jt_ite (fun c6_ => ?_) (fun c6_ => ?_)
    ·
      exact jt_rI ⟨hv0, (jfr_rf _ _), rfl, (show (0 ≤ 0 ∧ 0 ≤ 1) from by omega)⟩
    ·
      have hv7_ : iv (jxu a0 0 0 x1) := iv_put hv0 (l := 0) (u := 1999) rfl (by omega) (by omega)
      have hf8_ : jfr jW_X11_clock a0 (jxu a0 0 0 x1) := jfr_put (jfr_rf _ _) rfl
      exact jt_rI ⟨hv7_, hf8_, rfl, (show (0 ≤ 1 ∧ 1 ≤ 1) from by omega)⟩
def f_X12_in (a0 b0 : Nat → Nat → Int) (x0 x1 x2 : Int) : Int := (if x0 < x1 then 0 else (if x2 < x0 then 0 else 1))
theorem eq_X12_in (E : jxE) (d : Nat) (hd : Nat.ble 1 d = true) (x0 x1 x2 : Int) (a0 b0 : Nat → Nat → Int) : jxC E d 204 [.inl x0, .inl x1, .inl x2] (jxSH, a0, b0) = some ([.inl (f_X12_in a0 b0 x0 x1 x2)], (jxSH, a0, b0)) := by
  obtain ⟨d, rfl⟩ := jd_succ hd
  refine (bq_X12_in E d x0 x1 x2 a0 b0).trans ?_
  unfold f_X12_in
  refine eq_iteI (fun hc1 => ?_) (fun hc1 => ?_)
  ·
    rfl
  ·
    refine eq_iteI (fun hc2 => ?_) (fun hc2 => ?_)
    ·
      rfl
    ·
      rfl
theorem f_X12_in_eq (a0 b0 : Nat → Nat → Int) (x0 x1 x2 : Int) : f_X12_in a0 b0 x0 x1 x2 = (if x0 < x1 then 0 else (if x2 < x0 then 0 else 1)) := rfl
theorem f_X12_in_bool (a0 b0 : Nat → Nat → Int) (x0 x1 x2 : Int) : f_X12_in a0 b0 x0 x1 x2 = 0 ∨ f_X12_in a0 b0 x0 x1 x2 = 1 := by
  unfold f_X12_in
  refine bool_ite ?_ ?_
  ·
    exact Or.inl rfl
  ·
    refine bool_ite ?_ ?_
    ·
      exact Or.inl rfl
    ·
      exact Or.inr rfl
def jW_X12_clock : List (Nat × Nat) := [(146, 0)]
abbrev jQ_X12_clock (x1 : Int) (a0 b0 : Nat → Nat → Int) : List jxV → (Nat → Nat → Int) → (Nat → Nat → Int) → Prop := rI (fun r a b => (iv a) ∧ (jfr jW_X12_clock a0 a) ∧ (b = b0) ∧ ((0 ≤ r ∧ r ≤ 1)))
theorem sp_X12_clock (E : jxE) (d : Nat) (hd : Nat.ble 2 d = true) (x1 : Int) (a0 b0 : Nat → Nat → Int) (hv0 : iv a0) : jt (jxC E d 208 [.inr (.inr (.inl 146)), .inl x1] (jxSH, a0, b0)) (jQ_X12_clock x1 a0 b0) := by
  obtain ⟨d, rfl⟩ := jd_succ hd
  refine jt_eq (bq_X12_clock E d x1 a0 b0) ?_
  refine jt_eI (eq_X12_in E d (jd_le hd rfl) x1 (a0 146 0) 1999 a0 b0) ?_
  have h9_ := iv_get hv0 (k := 146) (j := 0) (l := 0) (u := 1999) rfl
  have h10_ := f_X12_in_eq a0 b0 x1 (a0 146 0) 1999
  refine jt_ite (fun c11_ => ?_) (fun c11_ => ?_)
  ·
    exact jt_rI ⟨hv0, (jfr_rf _ _), rfl, (show (0 ≤ 0 ∧ 0 ≤ 1) from by omega)⟩
  ·
    have hv12_ : iv (jxu a0 146 0 x1) := iv_put hv0 (l := 0) (u := 1999) rfl (by omega) (by omega)
    have hf13_ : jfr jW_X12_clock a0 (jxu a0 146 0 x1) := jfr_put (jfr_rf _ _) rfl
    exact jt_rI ⟨hv12_, hf13_, rfl, (show (0 ≤ 1 ∧ 1 ≤ 1) from by omega)⟩
