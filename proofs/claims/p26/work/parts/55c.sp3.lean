abbrev jQ_X12_price (x1 x2 x3 x4 : Int) (a0 b0 : Nat → Nat → Int) : List jxV → (Nat → Nat → Int) → (Nat → Nat → Int) → Prop := rI (fun r a b => (a0 = a) ∧ (b0 = b) ∧ ((a0 146 68 = 0 → (((((((((0 ≤ x1 ∧ x1 ≤ 15) ∧ 0 ≤ x2) ∧ x2 ≤ 15) ∧ 1 ≤ x3) ∧ x3 ≤ 500) ∧ 0 ≤ x4) ∧ x4 ≤ 1999) ∧ r = 0 - 2) ∨ ((((((((x1 < 0 ∨ 15 < x1) ∨ x2 < 0) ∨ 15 < x2) ∨ x3 < 1) ∨ 500 < x3) ∨ x4 < 0) ∨ 1999 < x4) ∧ r = 0 - 1)))) ∧ (0 ≤ x1 ∧ x1 ≤ 15 ∧ 0 ≤ x2 ∧ x2 ≤ 15 ∧ 1 ≤ x3 ∧ x3 ≤ 500 ∧ 0 ≤ x4 ∧ x4 ≤ 1999 → r = PR2 a0 (ZN x1 x2 (a0 147 (16 * x1 + x2).toNat)) x3 x4) ∧ (((((((((x1 < 0 ∨ 15 < x1) ∨ x2 < 0) ∨ 15 < x2) ∨ x3 < 1) ∨ 500 < x3) ∨ x4 < 0) ∨ 1999 < x4) → r = 0 - 1)))
theorem cp_X12_price_33 (E : jxE) (d : Nat) (hd : Nat.ble 3 (d + 1) = true) (x1 x2 x3 x4 : Int) (a0 b0 : Nat → Nat → Int) (hv0 : iv a0) : ∀ (y1 y2 y3 y4 : Int), 0 ≤ y1 → y1 ≤ 15 → 0 ≤ y2 → y2 ≤ 15 → 1 ≤ y3 → y3 ≤ 500 → 0 ≤ y4 → y4 ≤ 1999 → (((((((0 ≤ x1 ∧ x1 ≤ 15) ∧ 0 ≤ x2) ∧ x2 ≤ 15) ∧ 1 ≤ x3) ∧ x3 ≤ 500) ∧ 0 ≤ x4) ∧ x4 ≤ 1999) → (y1 = x1) → (y2 = x2) → (y3 = x3) → (y4 = x4) → jt (jxX E d 284 33 [some (.inr (.inr (.inl 146))), some (.inl y1), some (.inl y2), some (.inl y3), some (.inl y4)] [] (jxSH, a0, b0)) (jQ_X12_price x1 x2 x3 x4 a0 b0) := by
  intro y1 y2 y3 y4 hi0 hi1 hi2 hi3 hi4 hi5 hi6 hi7 hi8 hy1 hy2 hy3 hy4
  refine jt_eq (bq_X12_price_33 E d y1 y2 y3 y4 a0 b0) ?_
  refine jt_bI (sp_X12_priceOf E d (jd_le hd rfl) y1 y2 y3 y4 a0 b0 hv0 (show (0 ≤ y1 ∧ y1 ≤ 15) from by omega) (show (0 ≤ y2 ∧ y2 ≤ 15) from by omega)) (fun r649_ a649_ b649_ h649_ => ?_)
  obtain ⟨rfl, rfl, hq649_0, hq649_1, hq649_2, hq649_3⟩ := h649_
  have h650_ := iv_get hv0 (k := 146) (j := 68) (l := 0) (u := 10) rfl
  exact jt_rI ⟨rfl, rfl, (show (a0 146 68 = 0 → (((((((((0 ≤ x1 ∧ x1 ≤ 15) ∧ 0 ≤ x2) ∧ x2 ≤ 15) ∧ 1 ≤ x3) ∧ x3 ≤ 500) ∧ 0 ≤ x4) ∧ x4 ≤ 1999) ∧ r649_ = 0 - 2) ∨ ((((((((x1 < 0 ∨ 15 < x1) ∨ x2 < 0) ∨ 15 < x2) ∨ x3 < 1) ∨ 500 < x3) ∨ x4 < 0) ∨ 1999 < x4) ∧ r649_ = 0 - 1))) from by omega), (fun _ => by have e := hq649_3; rw [hy1, hy2, hy3, hy4] at e; exact e), (show ((((((((x1 < 0 ∨ 15 < x1) ∨ x2 < 0) ∨ 15 < x2) ∨ x3 < 1) ∨ 500 < x3) ∨ x4 < 0) ∨ 1999 < x4) → r649_ = 0 - 1) from by omega)⟩
theorem cp_X12_price_45 (E : jxE) (d : Nat) (hd : Nat.ble 3 (d + 1) = true) (x1 x2 x3 x4 : Int) (a0 b0 : Nat → Nat → Int) (hv0 : iv a0) : (((((((x1 < 0 ∨ 15 < x1) ∨ x2 < 0) ∨ 15 < x2) ∨ x3 < 1) ∨ 500 < x3) ∨ x4 < 0) ∨ 1999 < x4) → jt (jxX E d 284 45 [none, none, none, none, none] [] (jxSH, a0, b0)) (jQ_X12_price x1 x2 x3 x4 a0 b0) := by
  intro hi0
  refine jt_eq (bq_X12_price_45 E d a0 b0) ?_
  have h651_ := iv_get hv0 (k := 146) (j := 68) (l := 0) (u := 10) rfl
  exact jt_rI ⟨rfl, rfl, (show (a0 146 68 = 0 → (((((((((0 ≤ x1 ∧ x1 ≤ 15) ∧ 0 ≤ x2) ∧ x2 ≤ 15) ∧ 1 ≤ x3) ∧ x3 ≤ 500) ∧ 0 ≤ x4) ∧ x4 ≤ 1999) ∧ (-1) = 0 - 2) ∨ ((((((((x1 < 0 ∨ 15 < x1) ∨ x2 < 0) ∨ 15 < x2) ∨ x3 < 1) ∨ 500 < x3) ∨ x4 < 0) ∨ 1999 < x4) ∧ (-1) = 0 - 1))) from by omega), (fun h => absurd h (by omega)), (show ((((((((x1 < 0 ∨ 15 < x1) ∨ x2 < 0) ∨ 15 < x2) ∨ x3 < 1) ∨ 500 < x3) ∨ x4 < 0) ∨ 1999 < x4) → (-1) = 0 - 1) from by omega)⟩
theorem sp_X12_price (E : jxE) (d : Nat) (hd : Nat.ble 3 d = true) (x1 x2 x3 x4 : Int) (a0 b0 : Nat → Nat → Int) (hv0 : iv a0) : jt (jxC E d 284 [.inr (.inr (.inl 146)), .inl x1, .inl x2, .inl x3, .inl x4] (jxSH, a0, b0)) (jQ_X12_price x1 x2 x3 x4 a0 b0) := by
  obtain ⟨d, rfl⟩ := jd_succ hd
  refine jt_eq (bq_X12_price E d x1 x2 x3 x4 a0 b0) ?_
  refine jt_eI (eq_X12_isLand E d (jd_le hd rfl) x1 a0 b0) ?_
  have h652_ := f_X12_isLand_eq a0 b0 x1
  have h653_ := f_X12_in_eq a0 b0 x1 0 15
  refine jt_ite (fun c654_ => ?_) (fun c654_ => ?_)
  ·
    exact cp_X12_price_45 E d hd x1 x2 x3 x4 a0 b0 hv0 (show (((((((x1 < 0 ∨ 15 < x1) ∨ x2 < 0) ∨ 15 < x2) ∨ x3 < 1) ∨ 500 < x3) ∨ x4 < 0) ∨ 1999 < x4) from by omega)
  ·
    refine jt_eI (eq_X12_isLand E d (jd_le hd rfl) x2 a0 b0) ?_
    have h655_ := f_X12_isLand_eq a0 b0 x2
    have h656_ := f_X12_in_eq a0 b0 x2 0 15
    refine jt_ite (fun c657_ => ?_) (fun c657_ => ?_)
    ·
      exact cp_X12_price_45 E d hd x1 x2 x3 x4 a0 b0 hv0 (show (((((((x1 < 0 ∨ 15 < x1) ∨ x2 < 0) ∨ 15 < x2) ∨ x3 < 1) ∨ 500 < x3) ∨ x4 < 0) ∨ 1999 < x4) from by omega)
    ·
      refine jt_eI (eq_X12_in E d (jd_le hd rfl) x3 1 500 a0 b0) ?_
      have h658_ := f_X12_in_eq a0 b0 x3 1 500
      refine jt_ite (fun c659_ => ?_) (fun c659_ => ?_)
      ·
        exact cp_X12_price_45 E d hd x1 x2 x3 x4 a0 b0 hv0 (show (((((((x1 < 0 ∨ 15 < x1) ∨ x2 < 0) ∨ 15 < x2) ∨ x3 < 1) ∨ 500 < x3) ∨ x4 < 0) ∨ 1999 < x4) from by omega)
      ·
        refine jt_eI (eq_X12_isDay E d (jd_le hd rfl) x4 a0 b0) ?_
        have h660_ := f_X12_isDay_eq a0 b0 x4
        have h661_ := f_X12_in_eq a0 b0 x4 0 1999
        refine jt_ite (fun c662_ => ?_) (fun c662_ => ?_)
        ·
          exact cp_X12_price_45 E d hd x1 x2 x3 x4 a0 b0 hv0 (show (((((((x1 < 0 ∨ 15 < x1) ∨ x2 < 0) ∨ 15 < x2) ∨ x3 < 1) ∨ 500 < x3) ∨ x4 < 0) ∨ 1999 < x4) from by omega)
        ·
          exact cp_X12_price_33 E d hd x1 x2 x3 x4 a0 b0 hv0 x1 x2 x3 x4 (show 0 ≤ x1 from by omega) (show x1 ≤ 15 from by omega) (show 0 ≤ x2 from by omega) (show x2 ≤ 15 from by omega) (show 1 ≤ x3 from by omega) (show x3 ≤ 500 from by omega) (show 0 ≤ x4 from by omega) (show x4 ≤ 1999 from by omega) (show (((((((0 ≤ x1 ∧ x1 ≤ 15) ∧ 0 ≤ x2) ∧ x2 ≤ 15) ∧ 1 ≤ x3) ∧ x3 ≤ 500) ∧ 0 ≤ x4) ∧ x4 ≤ 1999) from by omega) (by first | rfl | assumption) (by first | rfl | assumption) (by first | rfl | assumption) (by first | rfl | assumption)
def jW_X12_span : List (Nat × Nat) := [(146, 39), (146, 40), (146, 41)]
abbrev jQ_X12_span (x1 x2 x3 : Int) (a0 b0 : Nat → Nat → Int) : List jxV → (Nat → Nat → Int) → (Nat → Nat → Int) → Prop := rI (fun r a b => (iv a) ∧ (jfr jW_X12_span a0 a) ∧ (b0 = b) ∧ ((a0 146 17 = 0 → ((((((0 ≤ x1 ∧ x1 ≤ 15) ∧ 0 ≤ x2) ∧ x2 ≤ 15) ∧ x3 = 2) ∧ r = 0) ∨ (((((x1 < 0 ∨ 15 < x1) ∨ x2 < 0) ∨ 15 < x2) ∨ ¬ x3 = 2) ∧ r = 0 - 1)))) ∧ (0 ≤ x1 ∧ x1 ≤ 15 ∧ 0 ≤ x2 ∧ x2 ≤ 15 → r = if x3 = 2 then (SPR a0 x1 x2).1 else if (SPR a0 x1 x2).1 = 0 then -1 else if x3 = 0 then (SPR a0 x1 x2).2.1 else if x3 = 1 then (SPR a0 x1 x2).2.2 else -1) ∧ (¬ (0 ≤ x1 ∧ x1 ≤ 15 ∧ 0 ≤ x2 ∧ x2 ≤ 15) → r = -1))
theorem cp_X12_span_39 (E : jxE) (d : Nat) (hd : Nat.ble 3 (d + 1) = true) (x1 x2 x3 : Int) (a0 b0 : Nat → Nat → Int) (hv0 : iv a0) : ∀ (a : Nat → Nat → Int), iv a → jfr jW_X12_span a0 a → a 146 39 ≤ 0 → (a0 146 17 = 0 → ¬ x3 = 2) → (((0 ≤ x1 ∧ x1 ≤ 15) ∧ 0 ≤ x2) ∧ x2 ≤ 15) → ((SPR a0 x1 x2).1 = 0 ∧ ¬ x3 = 2) → jt (jxX E d 239 39 [none, none, none, none] [] (jxSH, a, b0)) (jQ_X12_span x1 x2 x3 a0 b0) := by
  intro a hv hf hi0 hi1 hi2 hsp
  refine jt_eq (bq_X12_span_39 E d a b0) ?_
  have h663_ := iv_get hv (k := 146) (j := 39) (l := 0) (u := 10) rfl
  have h664_ := iv_get hv0 (k := 146) (j := 17) (l := 0) (u := 600) rfl
  exact jt_rI ⟨hv, hf, rfl, (show (a0 146 17 = 0 → ((((((0 ≤ x1 ∧ x1 ≤ 15) ∧ 0 ≤ x2) ∧ x2 ≤ 15) ∧ x3 = 2) ∧ (-1) = 0) ∨ (((((x1 < 0 ∨ 15 < x1) ∨ x2 < 0) ∨ 15 < x2) ∨ ¬ x3 = 2) ∧ (-1) = 0 - 1))) from by omega), (fun _ => by rw [if_neg hsp.2, if_pos hsp.1]), (fun h => absurd (by omega) h)⟩
theorem cp_X12_span_43 (E : jxE) (d : Nat) (hd : Nat.ble 3 (d + 1) = true) (x1 x2 x3 : Int) (a0 b0 : Nat → Nat → Int) (hv0 : iv a0) : ∀ (y3 : Int) (a : Nat → Nat → Int), iv a → jfr jW_X12_span a0 a → 1 ≤ a 146 39 → 1 ≤ a0 146 17 → (y3 = x3) → (((0 ≤ x1 ∧ x1 ≤ 15) ∧ 0 ≤ x2) ∧ x2 ≤ 15) → ((a 146 39, a 146 40, a 146 41) = SPR a0 x1 x2) → (¬ (SPR a0 x1 x2).1 = 0 ∧ ¬ x3 = 2) → jt (jxX E d 239 43 [some (.inr (.inr (.inl 146))), none, none, some (.inl y3)] [] (jxSH, a, b0)) (jQ_X12_span x1 x2 x3 a0 b0) := by
  intro y3 a hv hf hi0 hi1 hy3 hi3 hsp hs0
  refine jt_eq (bq_X12_span_43 E d y3 a b0) ?_
  have h665_ := iv_get hv (k := 146) (j := 39) (l := 0) (u := 10) rfl
  have h666_ := iv_get hv0 (k := 146) (j := 17) (l := 0) (u := 600) rfl
  refine jt_ite (fun c667_ => ?_) (fun c667_ => ?_)
  ·
    exact jt_rI ⟨hv, hf, rfl, (show (a0 146 17 = 0 → ((((((0 ≤ x1 ∧ x1 ≤ 15) ∧ 0 ≤ x2) ∧ x2 ≤ 15) ∧ x3 = 2) ∧ a 146 40 = 0) ∨ (((((x1 < 0 ∨ 15 < x1) ∨ x2 < 0) ∨ 15 < x2) ∨ ¬ x3 = 2) ∧ a 146 40 = 0 - 1))) from by omega), (fun _ => by rw [if_neg hs0.2, if_neg hs0.1, ← hsp, ← hy3]; first | (rw [if_pos (by assumption)]) | (rw [if_neg (by assumption), if_pos (by assumption)]) | (rw [if_neg (by assumption), if_neg (by assumption)])), (fun h => absurd (by omega) h)⟩
  ·
    refine jt_ite (fun c668_ => ?_) (fun c668_ => ?_)
    ·
      exact jt_rI ⟨hv, hf, rfl, (show (a0 146 17 = 0 → ((((((0 ≤ x1 ∧ x1 ≤ 15) ∧ 0 ≤ x2) ∧ x2 ≤ 15) ∧ x3 = 2) ∧ a 146 41 = 0) ∨ (((((x1 < 0 ∨ 15 < x1) ∨ x2 < 0) ∨ 15 < x2) ∨ ¬ x3 = 2) ∧ a 146 41 = 0 - 1))) from by omega), (fun _ => by rw [if_neg hs0.2, if_neg hs0.1, ← hsp, ← hy3]; first | (rw [if_pos (by assumption)]) | (rw [if_neg (by assumption), if_pos (by assumption)]) | (rw [if_neg (by assumption), if_neg (by assumption)])), (fun h => absurd (by omega) h)⟩
    ·
      exact jt_rI ⟨hv, hf, rfl, (show (a0 146 17 = 0 → ((((((0 ≤ x1 ∧ x1 ≤ 15) ∧ 0 ≤ x2) ∧ x2 ≤ 15) ∧ x3 = 2) ∧ (-1) = 0) ∨ (((((x1 < 0 ∨ 15 < x1) ∨ x2 < 0) ∨ 15 < x2) ∨ ¬ x3 = 2) ∧ (-1) = 0 - 1))) from by omega), (fun _ => by rw [if_neg hs0.2, if_neg hs0.1, ← hsp, ← hy3]; first | (rw [if_pos (by assumption)]) | (rw [if_neg (by assumption), if_pos (by assumption)]) | (rw [if_neg (by assumption), if_neg (by assumption)])), (fun h => absurd (by omega) h)⟩
theorem sp_X12_span (E : jxE) (d : Nat) (hd : Nat.ble 3 d = true) (x1 x2 x3 : Int) (a0 b0 : Nat → Nat → Int) (hv0 : iv a0) : jt (jxC E d 239 [.inr (.inr (.inl 146)), .inl x1, .inl x2, .inl x3] (jxSH, a0, b0)) (jQ_X12_span x1 x2 x3 a0 b0) := by
  obtain ⟨d, rfl⟩ := jd_succ hd
  refine jt_eq (bq_X12_span E d x1 x2 x3 a0 b0) ?_
  refine jt_eI (eq_X12_isLand E d (jd_le hd rfl) x1 a0 b0) ?_
  have h669_ := f_X12_isLand_eq a0 b0 x1
  have h670_ := f_X12_in_eq a0 b0 x1 0 15
  refine jt_ite (fun c671_ => ?_) (fun c671_ => ?_)
  ·
    have h672_ := iv_get hv0 (k := 146) (j := 17) (l := 0) (u := 600) rfl
    exact jt_rI ⟨hv0, (jfr_rf _ _), rfl, (show (a0 146 17 = 0 → ((((((0 ≤ x1 ∧ x1 ≤ 15) ∧ 0 ≤ x2) ∧ x2 ≤ 15) ∧ x3 = 2) ∧ (-1) = 0) ∨ (((((x1 < 0 ∨ 15 < x1) ∨ x2 < 0) ∨ 15 < x2) ∨ ¬ x3 = 2) ∧ (-1) = 0 - 1))) from by omega), (fun h => absurd h (by omega)), (fun _ => rfl)⟩
  ·
    refine jt_eI (eq_X12_isLand E d (jd_le hd rfl) x2 a0 b0) ?_
    have h673_ := f_X12_isLand_eq a0 b0 x2
    have h674_ := f_X12_in_eq a0 b0 x2 0 15
    refine jt_ite (fun c675_ => ?_) (fun c675_ => ?_)
    ·
      have h676_ := iv_get hv0 (k := 146) (j := 17) (l := 0) (u := 600) rfl
      exact jt_rI ⟨hv0, (jfr_rf _ _), rfl, (show (a0 146 17 = 0 → ((((((0 ≤ x1 ∧ x1 ≤ 15) ∧ 0 ≤ x2) ∧ x2 ≤ 15) ∧ x3 = 2) ∧ (-1) = 0) ∨ (((((x1 < 0 ∨ 15 < x1) ∨ x2 < 0) ∨ 15 < x2) ∨ ¬ x3 = 2) ∧ (-1) = 0 - 1))) from by omega), (fun h => absurd h (by omega)), (fun _ => rfl)⟩
    ·
      refine jt_bV (sp_X12_spans E d (jd_le hd rfl) x1 x2 a0 b0 hv0) (fun a677_ b677_ h677_ => ?_)
      obtain ⟨hv677_, hf677_, rfl, hq677_0, hq677_1⟩ := h677_
      have h678_ := iv_get hv0 (k := 146) (j := 17) (l := 0) (u := 600) rfl
      have h679_ := iv_get hv677_ (k := 146) (j := 39) (l := 0) (u := 10) rfl
      refine jt_ite (fun c680_ => ?_) (fun c680_ => ?_)
      ·
        have hf681_ : jfr jW_X12_span a0 a677_ := jfr_tr (jfr_rf _ _) hf677_ rfl
        exact jt_rI ⟨hv677_, hf681_, rfl, (show (a0 146 17 = 0 → ((((((0 ≤ x1 ∧ x1 ≤ 15) ∧ 0 ≤ x2) ∧ x2 ≤ 15) ∧ x3 = 2) ∧ a677_ 146 39 = 0) ∨ (((((x1 < 0 ∨ 15 < x1) ∨ x2 < 0) ∨ 15 < x2) ∨ ¬ x3 = 2) ∧ a677_ 146 39 = 0 - 1))) from by omega), (fun _ => by rw [if_pos (by assumption), ← hq677_1]), (fun h => absurd (by omega) h)⟩
      ·
        refine jt_ite (fun c682_ => ?_) (fun c682_ => ?_)
        ·
          have hf683_ : jfr jW_X12_span a0 a677_ := jfr_tr (jfr_rf _ _) hf677_ rfl
          exact cp_X12_span_39 E d hd x1 x2 x3 a0 b0 hv0 a677_ hv677_ hf683_ (show a677_ 146 39 ≤ 0 from by omega) (show (a0 146 17 = 0 → ¬ x3 = 2) from by omega) (show (((0 ≤ x1 ∧ x1 ≤ 15) ∧ 0 ≤ x2) ∧ x2 ≤ 15) from by omega) (by rw [← hq677_1]; exact ⟨by assumption, by assumption⟩)
        ·
          have hf684_ : jfr jW_X12_span a0 a677_ := jfr_tr (jfr_rf _ _) hf677_ rfl
          exact cp_X12_span_43 E d hd x1 x2 x3 a0 b0 hv0 x3 a677_ hv677_ hf684_ (show 1 ≤ a677_ 146 39 from by omega) (show 1 ≤ a0 146 17 from by omega) (by first | rfl | assumption) (show (((0 ≤ x1 ∧ x1 ≤ 15) ∧ 0 ≤ x2) ∧ x2 ≤ 15) from by omega) hq677_1 (by rw [← hq677_1]; exact ⟨by assumption, by assumption⟩)
abbrev jQ_X12_state (x1 x2 x3 : Int) (a0 b0 : Nat → Nat → Int) : List jxV → (Nat → Nat → Int) → (Nat → Nat → Int) → Prop := rI (fun r a b => (a0 = a) ∧ (b0 = b) ∧ ((a0 146 9 = 0 → r = 0 - 1)) ∧ (0 ≤ x1 ∧ x1 < a0 146 9 ∧ 0 ≤ x2 ∧ x2 ≤ 1999 ∧ 0 ≤ x3 ∧ x3 ≤ 1999 ∧ a0 156 x1.toNat ≤ x2 → r = vStk (cvR a0) (a0 146 0) x1.toNat x2 x3) ∧ (¬ (0 ≤ x1 ∧ x1 < a0 146 9 ∧ 0 ≤ x2 ∧ x2 ≤ 1999 ∧ 0 ≤ x3 ∧ x3 ≤ 1999 ∧ a0 156 x1.toNat ≤ x2) → r = -1))
theorem cp_X12_state_38 (E : jxE) (d : Nat) (hd : Nat.ble 3 (d + 1) = true) (x1 x2 x3 : Int) (a0 b0 : Nat → Nat → Int) (hv0 : iv a0) : (¬ (0 ≤ x1 ∧ x1 < a0 146 9 ∧ 0 ≤ x2 ∧ x2 ≤ 1999 ∧ 0 ≤ x3 ∧ x3 ≤ 1999 ∧ a0 156 x1.toNat ≤ x2)) → jt (jxX E d 237 38 [none, none, none, none] [] (jxSH, a0, b0)) (jQ_X12_state x1 x2 x3 a0 b0) := by
  intro hno
  refine jt_eq (bq_X12_state_38 E d a0 b0) ?_
  have h685_ := iv_get hv0 (k := 146) (j := 9) (l := 0) (u := 300) rfl
  exact jt_rI ⟨rfl, rfl, (show (a0 146 9 = 0 → (-1) = 0 - 1) from by omega), (fun h => absurd h hno), (fun _ => rfl)⟩
theorem cp_X12_state_28 (E : jxE) (d : Nat) (hd : Nat.ble 3 (d + 1) = true) (x1 x2 x3 : Int) (a0 b0 : Nat → Nat → Int) (hv0 : iv a0) : ∀ (y1 y2 y3 : Int), 0 ≤ y1 → y1 ≤ 299 → 0 ≤ y2 → y2 ≤ 1999 → 0 ≤ y3 → y3 ≤ 1999 → 1 ≤ a0 146 9 → (y1 = x1) → (y2 = x2) → (y3 = x3) → (((((0 ≤ x1 ∧ x1 < a0 146 9) ∧ 0 ≤ x2) ∧ x2 ≤ 1999) ∧ 0 ≤ x3) ∧ x3 ≤ 1999) → jt (jxX E d 237 28 [some (.inr (.inr (.inl 146))), some (.inl y1), some (.inl y2), some (.inl y3)] [] (jxSH, a0, b0)) (jQ_X12_state x1 x2 x3 a0 b0) := by
  intro y1 y2 y3 hi0 hi1 hi2 hi3 hi4 hi5 hi6 hy1 hy2 hy3 hi10
  refine jt_eq (bq_X12_state_28 E d y1 y2 y3 a0 b0) ?_
  have h686_ := iv_get hv0 (k := 146) (j := 9) (l := 0) (u := 300) rfl
  have e56 : a0 156 (y1.toNat) = a0 156 (x1.toNat) := by rw [hy1]
  refine jt_grd (by omega) ?_
  have h687_ := iv_get hv0 (k := 156) (j := y1.toNat) (l := 0) (u := 1999) rfl
  refine jt_ite (fun c688_ => ?_) (fun c688_ => ?_)
  ·
    exact cp_X12_state_38 E d hd x1 x2 x3 a0 b0 hv0 (fun q => by omega)
  ·
    refine jt_bI (sp_X12_stateAt E d (jd_le hd rfl) y1 y2 y3 a0 b0 hv0 (show (0 ≤ y1 ∧ y1 ≤ 299) from by omega)) (fun r689_ a689_ b689_ h689_ => ?_)
    obtain ⟨rfl, rfl, hq689_0, hq689_1, hq689_2⟩ := h689_
    exact jt_rI ⟨rfl, rfl, (show (a0 146 9 = 0 → r689_ = 0 - 1) from by omega), (fun _ => by have q := hq689_2; rw [hy1, hy2, hy3] at q; exact q), (fun h => absurd (by omega) h)⟩
theorem sp_X12_state (E : jxE) (d : Nat) (hd : Nat.ble 3 d = true) (x1 x2 x3 : Int) (a0 b0 : Nat → Nat → Int) (hv0 : iv a0) : jt (jxC E d 237 [.inr (.inr (.inl 146)), .inl x1, .inl x2, .inl x3] (jxSH, a0, b0)) (jQ_X12_state x1 x2 x3 a0 b0) := by
  obtain ⟨d, rfl⟩ := jd_succ hd
  refine jt_eq (bq_X12_state E d x1 x2 x3 a0 b0) ?_
  refine jt_eI (eq_X12_in E d (jd_le hd rfl) x1 0 (jxw ((a0 146 9) - 1)) a0 b0) ?_
  have h690_ := iv_get hv0 (k := 146) (j := 9) (l := 0) (u := 300) rfl
  have h691_ : jxw ((a0 146 9) - 1) = (a0 146 9) - 1 := jxw_id (by omega) (by omega)
  have h692_ := f_X12_in_eq a0 b0 x1 0 (jxw ((a0 146 9) - 1))
  refine jt_ite (fun c693_ => ?_) (fun c693_ => ?_)
  ·
    exact cp_X12_state_38 E d hd x1 x2 x3 a0 b0 hv0 (fun q => by omega)
  ·
    refine jt_eI (eq_X12_isDay E d (jd_le hd rfl) x2 a0 b0) ?_
    have h694_ := f_X12_isDay_eq a0 b0 x2
    have h695_ := f_X12_in_eq a0 b0 x2 0 1999
    refine jt_ite (fun c696_ => ?_) (fun c696_ => ?_)
    ·
      exact cp_X12_state_38 E d hd x1 x2 x3 a0 b0 hv0 (fun q => by omega)
    ·
      refine jt_eI (eq_X12_isDay E d (jd_le hd rfl) x3 a0 b0) ?_
      have h697_ := f_X12_isDay_eq a0 b0 x3
      have h698_ := f_X12_in_eq a0 b0 x3 0 1999
      refine jt_ite (fun c699_ => ?_) (fun c699_ => ?_)
      ·
        exact cp_X12_state_38 E d hd x1 x2 x3 a0 b0 hv0 (fun q => by omega)
      ·
        exact cp_X12_state_28 E d hd x1 x2 x3 a0 b0 hv0 x1 x2 x3 (show 0 ≤ x1 from by omega) (show x1 ≤ 299 from by omega) (show 0 ≤ x2 from by omega) (show x2 ≤ 1999 from by omega) (show 0 ≤ x3 from by omega) (show x3 ≤ 1999 from by omega) (show 1 ≤ a0 146 9 from by omega) (by first | rfl | assumption) (by first | rfl | assumption) (by first | rfl | assumption) (show (((((0 ≤ x1 ∧ x1 < a0 146 9) ∧ 0 ≤ x2) ∧ x2 ≤ 1999) ∧ 0 ≤ x3) ∧ x3 ≤ 1999) from by omega)
