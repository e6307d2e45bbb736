def jWrb : List (Nat × Nat) := []
def jW_X12_back : List (Nat × Nat) := [(146, 17), (160, 9999), (161, 9999), (162, 9999), (163, 9999)]
abbrev jQ_X12_back (x1 : Int) (a0 b0 : Nat → Nat → Int) : List jxV → (Nat → Nat → Int) → (Nat → Nat → Int) → Prop := rI (fun r a b => (iv a) ∧ (jfr jW_X12_back a0 a) ∧ (b0 = b) ∧ ((0 ≤ r ∧ r ≤ 1)) ∧ ((a0 146 9 = 0 → r = 0)) ∧ (r = 1 → 0 ≤ x1 ∧ x1 < a0 146 9 ∧ a0 159 x1.toNat = -1 ∧ ¬ a0 146 17 = 600 ∧ ¬ a0 160 x1.toNat < 0 ∧ ¬ a0 162 (a0 160 x1.toNat).toNat = -1) ∧ (r = 0 → ¬ (0 ≤ x1 ∧ x1 < a0 146 9 ∧ a0 159 x1.toNat = -1 ∧ ¬ a0 146 17 = 600 ∧ ¬ a0 160 x1.toNat < 0 ∧ ¬ a0 162 (a0 160 x1.toNat).toNat = -1)) ∧ (r = 1 → cvR a = vTell (cvR a0) x1 (-1) (a0 146 0)) ∧ (r = 0 → cvR a = cvR a0))
theorem cp_X12_back_58 (E : jxE) (d : Nat) (hd : Nat.ble 2 (d + 1) = true) (x1 : Int) (a0 b0 : Nat → Nat → Int) (hv0 : iv a0) : ∀ (a : Nat → Nat → Int), iv a → jfr jW_X12_back a0 a → (jfr jWrb a0 a) → (¬ (0 ≤ x1 ∧ x1 < a0 146 9 ∧ a0 159 x1.toNat = -1 ∧ ¬ a0 146 17 = 600 ∧ ¬ a0 160 x1.toNat < 0 ∧ ¬ a0 162 (a0 160 x1.toNat).toNat = -1)) → jt (jxX E d 258 58 [none, none] [] (jxSH, a, b0)) (jQ_X12_back x1 a0 b0) := by
  intro a hv hf hfe hno
  refine jt_eq (bq_X12_back_58 E d a b0) ?_
  have h304_ := iv_get hv0 (k := 146) (j := 9) (l := 0) (u := 300) rfl
  exact jt_rI ⟨hv, hf, rfl, (show (0 ≤ 0 ∧ 0 ≤ 1) from by omega), (show (a0 146 9 = 0 → 0 = 0) from by omega), (fun h => absurd h (by decide)), (fun _ => hno), (fun h => absurd h (by decide)), (fun _ => cvR_fr hfe rfl)⟩
theorem cp_X12_back_60 (E : jxE) (d : Nat) (hd : Nat.ble 2 (d + 1) = true) (x1 : Int) (a0 b0 : Nat → Nat → Int) (hv0 : iv a0) : ∀ (y1 : Int) (a : Nat → Nat → Int), iv a → jfr jW_X12_back a0 a → 0 ≤ y1 → y1 ≤ 299 → a 146 17 ≤ 599 → 1 ≤ a0 146 9 → (jfr jWrb a0 a) → (y1 = x1) → (0 ≤ x1 ∧ x1 < a0 146 9 ∧ a0 159 x1.toNat = -1 ∧ ¬ a0 146 17 = 600 ∧ ¬ a0 160 x1.toNat < 0 ∧ ¬ a0 162 (a0 160 x1.toNat).toNat = -1) → jt (jxX E d 258 60 [some (.inr (.inr (.inl 146))), some (.inl y1)] [] (jxSH, a, b0)) (jQ_X12_back x1 a0 b0) := by
  intro y1 a hv hf hi0 hi1 hi2 hi3 hfe hy1 hyes
  refine jt_eq (bq_X12_back_60 E d y1 a b0) ?_
  have h305_ := iv_get hv (k := 146) (j := 17) (l := 0) (u := 600) rfl
  have h306_ := iv_get hv0 (k := 146) (j := 9) (l := 0) (u := 300) rfl
  refine jt_bV (sp_X12_tells E d (jd_le hd rfl) y1 (-1) a b0 hv (show (0 ≤ y1 ∧ y1 ≤ 299) from by omega) (show a 146 17 ≤ 599 from by omega)) (fun a307_ b307_ h307_ => ?_)
  obtain ⟨hv307_, hf307_, rfl, hq307_0⟩ := h307_
  have hf308_ : jfr jW_X12_back a0 a307_ := jfr_tr hf hf307_ rfl
  exact jt_rI ⟨hv307_, hf308_, rfl, (show (0 ≤ 1 ∧ 1 ≤ 1) from by omega), (show (a0 146 9 = 0 → 1 = 0) from by omega), (fun _ => hyes), (fun h => absurd h (by decide)), (fun _ => by have q := hq307_0; rw [hy1, hfe 146 0 rfl, show cvR a = cvR a0 from cvR_fr hfe rfl] at q; exact q), (fun h => absurd h (by decide))⟩
theorem cp_X12_back_24 (E : jxE) (d : Nat) (hd : Nat.ble 2 (d + 1) = true) (x1 : Int) (a0 b0 : Nat → Nat → Int) (hv0 : iv a0) : ∀ (y1 : Int) (a : Nat → Nat → Int), iv a → jfr jW_X12_back a0 a → 0 ≤ y1 → y1 ≤ 299 → 1 ≤ a0 146 9 → (jfr jWrb a0 a) → (y1 = x1) → ((0 ≤ x1 ∧ x1 < a0 146 9) ∧ a0 159 (x1.toNat) = 0 - 1) → jt (jxX E d 258 24 [some (.inr (.inr (.inl 146))), some (.inl y1)] [] (jxSH, a, b0)) (jQ_X12_back x1 a0 b0) := by
  intro y1 a hv hf hi0 hi1 hi2 hfe hy1 hi5
  refine jt_eq (bq_X12_back_24 E d y1 a b0) ?_
  have h309_ := iv_get hv0 (k := 146) (j := 9) (l := 0) (u := 300) rfl
  have h310_ := iv_get hv (k := 146) (j := 17) (l := 0) (u := 600) rfl
  refine jt_ite (fun c311_ => ?_) (fun c311_ => ?_)
  ·
    exact cp_X12_back_58 E d hd x1 a0 b0 hv0 a hv hf hfe (fun q => by have e17 := hfe 146 17 rfl; have e1 := hfe 160 (y1.toNat) rfl; have e2 := hfe 162 ((a 160 (y1.toNat)).toNat) rfl; have e3 : a0 160 (y1.toNat) = a0 160 (x1.toNat) := (by rw [hy1]); have e4 : a0 162 ((a 160 (y1.toNat)).toNat) = a0 162 ((a0 160 (x1.toNat)).toNat) := (by rw [e1, e3]); omega)
  ·
    refine jt_grd (by omega) ?_
    have h312_ := iv_get hv (k := 160) (j := y1.toNat) (l := (-1)) (u := 599) rfl
    refine jt_ite (fun c313_ => ?_) (fun c313_ => ?_)
    ·
      exact cp_X12_back_58 E d hd x1 a0 b0 hv0 a hv hf hfe (fun q => by have e17 := hfe 146 17 rfl; have e1 := hfe 160 (y1.toNat) rfl; have e2 := hfe 162 ((a 160 (y1.toNat)).toNat) rfl; have e3 : a0 160 (y1.toNat) = a0 160 (x1.toNat) := (by rw [hy1]); have e4 : a0 162 ((a 160 (y1.toNat)).toNat) = a0 162 ((a0 160 (x1.toNat)).toNat) := (by rw [e1, e3]); omega)
    ·
      refine jt_grd (by omega) ?_
      refine jt_grd (by omega) ?_
      refine jt_ite (fun c314_ => ?_) (fun c314_ => ?_)
      ·
        exact cp_X12_back_58 E d hd x1 a0 b0 hv0 a hv hf hfe (fun q => by have e17 := hfe 146 17 rfl; have e1 := hfe 160 (y1.toNat) rfl; have e2 := hfe 162 ((a 160 (y1.toNat)).toNat) rfl; have e3 : a0 160 (y1.toNat) = a0 160 (x1.toNat) := (by rw [hy1]); have e4 : a0 162 ((a 160 (y1.toNat)).toNat) = a0 162 ((a0 160 (x1.toNat)).toNat) := (by rw [e1, e3]); omega)
      ·
        exact cp_X12_back_60 E d hd x1 a0 b0 hv0 y1 a hv hf (show 0 ≤ y1 from by omega) (show y1 ≤ 299 from by omega) (show a 146 17 ≤ 599 from by omega) (show 1 ≤ a0 146 9 from by omega) hfe (by first | rfl | assumption) (by have e17 := hfe 146 17 rfl; have e1 := hfe 160 (y1.toNat) rfl; have e2 := hfe 162 ((a 160 (y1.toNat)).toNat) rfl; have e3 : a0 160 (y1.toNat) = a0 160 (x1.toNat) := (by rw [hy1]); have e4 : a0 162 ((a 160 (y1.toNat)).toNat) = a0 162 ((a0 160 (x1.toNat)).toNat) := (by rw [e1, e3]); omega)
theorem sp_X12_back (E : jxE) (d : Nat) (hd : Nat.ble 2 d = true) (x1 : Int) (a0 b0 : Nat → Nat → Int) (hv0 : iv a0) : jt (jxC E d 258 [.inr (.inr (.inl 146)), .inl x1] (jxSH, a0, b0)) (jQ_X12_back x1 a0 b0) := by
  obtain ⟨d, rfl⟩ := jd_succ hd
  refine jt_eq (bq_X12_back E d x1 a0 b0) ?_
  refine jt_eI (eq_X12_in E d (jd_le hd rfl) x1 0 (jxw ((a0 146 9) - 1)) a0 b0) ?_
  have h315_ := iv_get hv0 (k := 146) (j := 9) (l := 0) (u := 300) rfl
  have h316_ : jxw ((a0 146 9) - 1) = (a0 146 9) - 1 := jxw_id (by omega) (by omega)
  have h317_ := f_X12_in_eq a0 b0 x1 0 (jxw ((a0 146 9) - 1))
  refine jt_ite (fun c318_ => ?_) (fun c318_ => ?_)
  ·
    exact cp_X12_back_58 E d hd x1 a0 b0 hv0 a0 hv0 (jfr_rf _ _) (jfr_rf _ _) (fun q => by omega)
  ·
    refine jt_grd (by omega) ?_
    refine jt_ite (fun c319_ => ?_) (fun c319_ => ?_)
    ·
      exact cp_X12_back_24 E d hd x1 a0 b0 hv0 x1 a0 hv0 (jfr_rf _ _) (show 0 ≤ x1 from by omega) (show x1 ≤ 299 from by omega) (show 1 ≤ a0 146 9 from by omega) (jfr_rf _ _) (by first | rfl | assumption) (show ((0 ≤ x1 ∧ x1 < a0 146 9) ∧ a0 159 (x1.toNat) = 0 - 1) from by omega)
    ·
      exact cp_X12_back_58 E d hd x1 a0 b0 hv0 a0 hv0 (jfr_rf _ _) (jfr_rf _ _) (fun q => by omega)
abbrev jQ_X12_card (x1 x2 : Int) (a0 b0 : Nat → Nat → Int) : List jxV → (Nat → Nat → Int) → (Nat → Nat → Int) → Prop := rI (fun r a b => (a0 = a) ∧ (b0 = b) ∧ ((a0 146 9 = 0 → r = 0 - 1)) ∧ (0 ≤ x1 ∧ x1 < a0 146 9 → r = if x2 = 0 then a0 154 x1.toNat else if x2 = 1 then a0 155 x1.toNat else if x2 = 2 then a0 156 x1.toNat else if x2 = 3 then a0 157 x1.toNat else if x2 = 4 then vArr (cvR a0) x1.toNat else if x2 = 5 then a0 158 x1.toNat else if x2 = 6 then a0 159 x1.toNat else -1) ∧ (¬ (0 ≤ x1 ∧ x1 < a0 146 9) → r = -1))
theorem sp_X12_card (E : jxE) (d : Nat) (hd : Nat.ble 2 d = true) (x1 x2 : Int) (a0 b0 : Nat → Nat → Int) (hv0 : iv a0) : jt (jxC E d 259 [.inr (.inr (.inl 146)), .inl x1, .inl x2] (jxSH, a0, b0)) (jQ_X12_card x1 x2 a0 b0) := by
  obtain ⟨d, rfl⟩ := jd_succ hd
  refine jt_eq (bq_X12_card E d x1 x2 a0 b0) ?_
  refine jt_eI (eq_X12_in E d (jd_le hd rfl) x1 0 (jxw ((a0 146 9) - 1)) a0 b0) ?_
  have h320_ := iv_get hv0 (k := 146) (j := 9) (l := 0) (u := 300) rfl
  have h321_ : jxw ((a0 146 9) - 1) = (a0 146 9) - 1 := jxw_id (by omega) (by omega)
  have h322_ := f_X12_in_eq a0 b0 x1 0 (jxw ((a0 146 9) - 1))
  refine jt_ite (fun c323_ => ?_) (fun c323_ => ?_)
  ·
    exact jt_rI ⟨rfl, rfl, (show (a0 146 9 = 0 → (-1) = 0 - 1) from by omega), (fun h => by first | (exfalso; omega) | (repeat (first | rw [if_pos (by assumption)] | rw [if_neg (by omega)]))), (fun _ => rfl)⟩
  ·
    refine jt_ite (fun c324_ => ?_) (fun c324_ => ?_)
    ·
      exact jt_rI ⟨rfl, rfl, (show (a0 146 9 = 0 → (-1) = 0 - 1) from by omega), (fun h => by first | (exfalso; omega) | (repeat (first | rw [if_pos (by assumption)] | rw [if_neg (by omega)]))), (fun _ => rfl)⟩
    ·
      refine jt_ite (fun c325_ => ?_) (fun c325_ => ?_)
      ·
        refine jt_grd (by omega) ?_
        have h326_ := iv_get hv0 (k := 154) (j := x1.toNat) (l := 0) (u := 39) rfl
        exact jt_rI ⟨rfl, rfl, (show (a0 146 9 = 0 → a0 154 (x1.toNat) = 0 - 1) from by omega), (fun h => by first | (exfalso; omega) | (repeat (first | rw [if_pos (by assumption)] | rw [if_neg (by omega)]))), (fun h => absurd (by omega) h)⟩
      ·
        refine jt_ite (fun c327_ => ?_) (fun c327_ => ?_)
        ·
          refine jt_grd (by omega) ?_
          have h328_ := iv_get hv0 (k := 155) (j := x1.toNat) (l := 0) (u := 39) rfl
          exact jt_rI ⟨rfl, rfl, (show (a0 146 9 = 0 → a0 155 (x1.toNat) = 0 - 1) from by omega), (fun h => by first | (exfalso; omega) | (repeat (first | rw [if_pos (by assumption)] | rw [if_neg (by omega)]))), (fun h => absurd (by omega) h)⟩
        ·
          refine jt_ite (fun c329_ => ?_) (fun c329_ => ?_)
          ·
            refine jt_grd (by omega) ?_
            have h330_ := iv_get hv0 (k := 156) (j := x1.toNat) (l := 0) (u := 1999) rfl
            exact jt_rI ⟨rfl, rfl, (show (a0 146 9 = 0 → a0 156 (x1.toNat) = 0 - 1) from by omega), (fun h => by first | (exfalso; omega) | (repeat (first | rw [if_pos (by assumption)] | rw [if_neg (by omega)]))), (fun h => absurd (by omega) h)⟩
          ·
            refine jt_ite (fun c331_ => ?_) (fun c331_ => ?_)
            ·
              refine jt_grd (by omega) ?_
              exact jt_rI ⟨rfl, rfl, (show (a0 146 9 = 0 → a0 157 (x1.toNat) = 0 - 1) from by omega), (fun h => by first | (exfalso; omega) | (repeat (first | rw [if_pos (by assumption)] | rw [if_neg (by omega)]))), (fun h => absurd (by omega) h)⟩
            ·
              refine jt_ite (fun c332_ => ?_) (fun c332_ => ?_)
              ·
                refine jt_bI (sp_X12_arrival E d (jd_le hd rfl) x1 (a0 146 0) a0 b0 hv0 (show (0 ≤ x1 ∧ x1 ≤ 299) from by omega)) (fun r333_ a333_ b333_ h333_ => ?_)
                obtain ⟨rfl, rfl, hq333_0⟩ := h333_
                exact jt_rI ⟨rfl, rfl, (show (a0 146 9 = 0 → r333_ = 0 - 1) from by omega), (fun _ => by have q := hq333_0; rw [if_pos (Int.le_refl _)] at q; rw [if_neg (by omega), if_neg (by omega), if_neg (by omega), if_neg (by omega), if_pos (by assumption)]; exact q), (fun h => absurd (by omega) h)⟩
              ·
                refine jt_ite (fun c334_ => ?_) (fun c334_ => ?_)
                ·
                  refine jt_grd (by omega) ?_
                  exact jt_rI ⟨rfl, rfl, (show (a0 146 9 = 0 → a0 158 (x1.toNat) = 0 - 1) from by omega), (fun h => by first | (exfalso; omega) | (repeat (first | rw [if_pos (by assumption)] | rw [if_neg (by omega)]))), (fun h => absurd (by omega) h)⟩
                ·
                  refine jt_ite (fun c335_ => ?_) (fun c335_ => ?_)
                  ·
                    refine jt_grd (by omega) ?_
                    exact jt_rI ⟨rfl, rfl, (show (a0 146 9 = 0 → a0 159 (x1.toNat) = 0 - 1) from by omega), (fun h => by first | (exfalso; omega) | (repeat (first | rw [if_pos (by assumption)] | rw [if_neg (by omega)]))), (fun h => absurd (by omega) h)⟩
                  ·
                    exact absurd (by omega : False) id
abbrev jQ_X12_cardOf (x1 x2 : Int) (a0 b0 : Nat → Nat → Int) : List jxV → (Nat → Nat → Int) → (Nat → Nat → Int) → Prop := rI (fun r a b => (a0 = a) ∧ (b0 = b) ∧ (0 - 1 ≤ r) ∧ (r ≤ 299) ∧ (r < a0 146 9) ∧ ((∃ c : Nat, (c : Int) < a0 146 9 ∧ a0 158 c = x1 ∧ a0 154 c = x2) → 0 ≤ r))
theorem cp_X12_cardOf_30 (E : jxE) (d : Nat) (hd : Nat.ble 1 (d + 1) = true) (x1 x2 : Int) (a0 b0 : Nat → Nat → Int) (hv0 : iv a0) : ∀ (y3 : Int), 0 ≤ y3 → y3 ≤ 299 → 0 ≤ y3 → y3 < a0 146 9 → jt (jxX E d 275 30 [none, none, none, some (.inl y3)] [] (jxSH, a0, b0)) (jQ_X12_cardOf x1 x2 a0 b0) := by
  intro y3 hi0 hi1 hi2 hi3
  refine jt_eq (bq_X12_cardOf_30 E d y3 a0 b0) ?_
  have h336_ := iv_get hv0 (k := 146) (j := 9) (l := 0) (u := 300) rfl
  exact jt_rI ⟨rfl, rfl, (show 0 - 1 ≤ y3 from by omega), (show y3 ≤ 299 from by omega), (show y3 < a0 146 9 from by omega), (by first | (rintro ⟨c, h1, h2, h3⟩; exact absurd ⟨h2, h3⟩ (hne c (by omega))) | (intro _; omega))⟩
theorem cp_X12_cardOf_2 (E : jxE) (d : Nat) (hd : Nat.ble 1 (d + 1) = true) (x1 x2 : Int) (a0 b0 : Nat → Nat → Int) (hv0 : iv a0) : ∀ n : Nat, (∀ (y1 y2 y3 : Int), (((300 - y3) * 1) + 0).toNat ≤ n → 0 ≤ y3 → y3 ≤ 299 → y1 = x1 → y2 = x2 → 0 ≤ y3 → y3 < a0 146 9 → (∀ c : Nat, (c : Int) ≤ y3 → ¬ (a0 158 c = x1 ∧ a0 154 c = x2)) → jt (jxX E d 275 32 [some (.inr (.inr (.inl 146))), some (.inl y1), some (.inl y2), some (.inl y3)] [] (jxSH, a0, b0)) (jQ_X12_cardOf x1 x2 a0 b0)) ∧ (∀ (y1 y2 y3 : Int), (((300 - y3) * 1) + 0).toNat ≤ n → 0 ≤ y3 → y3 ≤ 300 → y1 = x1 → y2 = x2 → 0 ≤ y3 → (∀ c : Nat, (c : Int) < y3 → ¬ (a0 158 c = x1 ∧ a0 154 c = x2)) → jt (jxX E d 275 2 [some (.inr (.inr (.inl 146))), some (.inl y1), some (.inl y2), some (.inl y3)] [] (jxSH, a0, b0)) (jQ_X12_cardOf x1 x2 a0 b0)) := by
  refine jx_ind fun n ih => ?_
  have ih32 : ∀ (y1 y2 y3 : Int), (((300 - y3) * 1) + 0).toNat < n → 0 ≤ y3 → y3 ≤ 299 → y1 = x1 → y2 = x2 → 0 ≤ y3 → y3 < a0 146 9 → (∀ c : Nat, (c : Int) ≤ y3 → ¬ (a0 158 c = x1 ∧ a0 154 c = x2)) → jt (jxX E d 275 32 [some (.inr (.inr (.inl 146))), some (.inl y1), some (.inl y2), some (.inl y3)] [] (jxSH, a0, b0)) (jQ_X12_cardOf x1 x2 a0 b0) := fun y1 y2 y3 hlt i0 i1 i2 i3 i4 i5 i6 => (ih _ hlt).1 y1 y2 y3 (Nat.le_refl _) i0 i1 i2 i3 i4 i5 i6
  have ih2 : ∀ (y1 y2 y3 : Int), (((300 - y3) * 1) + 0).toNat < n → 0 ≤ y3 → y3 ≤ 300 → y1 = x1 → y2 = x2 → 0 ≤ y3 → (∀ c : Nat, (c : Int) < y3 → ¬ (a0 158 c = x1 ∧ a0 154 c = x2)) → jt (jxX E d 275 2 [some (.inr (.inr (.inl 146))), some (.inl y1), some (.inl y2), some (.inl y3)] [] (jxSH, a0, b0)) (jQ_X12_cardOf x1 x2 a0 b0) := fun y1 y2 y3 hlt i0 i1 i2 i3 i4 i5 => (ih _ hlt).2 y1 y2 y3 (Nat.le_refl _) i0 i1 i2 i3 i4 i5
  have hc32 : ∀ (y1 y2 y3 : Int), (((300 - y3) * 1) + 0).toNat ≤ n → 0 ≤ y3 → y3 ≤ 299 → y1 = x1 → y2 = x2 → 0 ≤ y3 → y3 < a0 146 9 → (∀ c : Nat, (c : Int) ≤ y3 → ¬ (a0 158 c = x1 ∧ a0 154 c = x2)) → jt (jxX E d 275 32 [some (.inr (.inr (.inl 146))), some (.inl y1), some (.inl y2), some (.inl y3)] [] (jxSH, a0, b0)) (jQ_X12_cardOf x1 x2 a0 b0) := by
    intro y1 y2 y3 hm hi0 hi1 hi2 hi3 hi4 hi5 hne
    refine jt_eq (bq_X12_cardOf_32 E d y1 y2 y3 a0 b0) ?_
    have h337_ := iv_get hv0 (k := 146) (j := 9) (l := 0) (u := 300) rfl
    have h338_ : jxw (y3 + 1) = y3 + 1 := jxw_id (by omega) (by omega)
    exact ih2 y1 y2 (jxw (y3 + 1)) (show (((300 - (jxw (y3 + 1))) * 1) + 0).toNat < n from by omega) (show 0 ≤ jxw (y3 + 1) from by omega) (show jxw (y3 + 1) ≤ 300 from by omega) (show y1 = x1 from by omega) (show y2 = x2 from by omega) (show 0 ≤ jxw (y3 + 1) from by omega) (by first | (intro c hc; exact hne c (by omega)) | (intro c hc; omega))
  have hc2 : ∀ (y1 y2 y3 : Int), (((300 - y3) * 1) + 0).toNat ≤ n → 0 ≤ y3 → y3 ≤ 300 → y1 = x1 → y2 = x2 → 0 ≤ y3 → (∀ c : Nat, (c : Int) < y3 → ¬ (a0 158 c = x1 ∧ a0 154 c = x2)) → jt (jxX E d 275 2 [some (.inr (.inr (.inl 146))), some (.inl y1), some (.inl y2), some (.inl y3)] [] (jxSH, a0, b0)) (jQ_X12_cardOf x1 x2 a0 b0) := by
    intro y1 y2 y3 hm hi0 hi1 hi2 hi3 hi4 hne
    refine jt_eq (bq_X12_cardOf_2 E d y1 y2 y3 a0 b0) ?_
    have h339_ := iv_get hv0 (k := 146) (j := 9) (l := 0) (u := 300) rfl
    refine jt_ite (fun c340_ => ?_) (fun c340_ => ?_)
    ·
      refine jt_grd (by omega) ?_
      refine jt_ite (fun c341_ => ?_) (fun c341_ => ?_)
      ·
        refine jt_grd (by omega) ?_
        have h342_ := iv_get hv0 (k := 154) (j := y3.toNat) (l := 0) (u := 39) rfl
        refine jt_ite (fun c343_ => ?_) (fun c343_ => ?_)
        ·
          exact cp_X12_cardOf_30 E d hd x1 x2 a0 b0 hv0 y3 (show 0 ≤ y3 from by omega) (show y3 ≤ 299 from by omega) (show 0 ≤ y3 from by omega) (show y3 < a0 146 9 from by omega)
        ·
          exact hc32 y1 y2 y3 (show (((300 - y3) * 1) + 0).toNat ≤ n from by omega) (show 0 ≤ y3 from by omega) (show y3 ≤ 299 from by omega) (show y1 = x1 from by omega) (show y2 = x2 from by omega) (show 0 ≤ y3 from by omega) (show y3 < a0 146 9 from by omega) (by intro c hc hh; rcases Int.lt_or_le (c : Int) y3 with h | h <;> first | exact hne c h hh | (obtain rfl : c = y3.toNat := (by omega); omega))
      ·
        exact hc32 y1 y2 y3 (show (((300 - y3) * 1) + 0).toNat ≤ n from by omega) (show 0 ≤ y3 from by omega) (show y3 ≤ 299 from by omega) (show y1 = x1 from by omega) (show y2 = x2 from by omega) (show 0 ≤ y3 from by omega) (show y3 < a0 146 9 from by omega) (by intro c hc hh; rcases Int.lt_or_le (c : Int) y3 with h | h <;> first | exact hne c h hh | (obtain rfl : c = y3.toNat := (by omega); omega))
    ·
      exact jt_rI ⟨rfl, rfl, (show 0 - 1 ≤ (-1) from by omega), (show (-1) ≤ 299 from by omega), (show (-1) < a0 146 9 from by omega), (by first | (rintro ⟨c, h1, h2, h3⟩; exact absurd ⟨h2, h3⟩ (hne c (by omega))) | (intro _; omega))⟩
  exact ⟨hc32, hc2⟩
theorem sp_X12_cardOf (E : jxE) (d : Nat) (hd : Nat.ble 1 d = true) (x1 x2 : Int) (a0 b0 : Nat → Nat → Int) (hv0 : iv a0) : jt (jxC E d 275 [.inr (.inr (.inl 146)), .inl x1, .inl x2] (jxSH, a0, b0)) (jQ_X12_cardOf x1 x2 a0 b0) := by
  obtain ⟨d, rfl⟩ := jd_succ hd
  refine jt_eq (bq_X12_cardOf E d x1 x2 a0 b0) ?_
  exact (cp_X12_cardOf_2 E d hd x1 x2 a0 b0 hv0 _).2 x1 x2 0 (Nat.le_refl _) (show 0 ≤ 0 from by omega) (show 0 ≤ 300 from by omega) (show x1 = x1 from by omega) (show x2 = x2 from by omega) (show 0 ≤ 0 from by omega) (by first | (intro c hc; exact hne c (by omega)) | (intro c hc; omega))
def jW_X12_clock : List (Nat × Nat) := [(146, 0)]
abbrev jQ_X12_clock (x1 : Int) (a0 b0 : Nat → Nat → Int) : List jxV → (Nat → Nat → Int) → (Nat → Nat → Int) → Prop := rI (fun r a b => (iv a) ∧ (jfr jW_X12_clock a0 a) ∧ (b0 = b) ∧ ((0 ≤ r ∧ r ≤ 1)) ∧ (((((r = 1 ∧ a0 146 0 ≤ x1) ∧ x1 ≤ 1999) ∧ a 146 0 = x1) ∨ ((r = 0 ∧ (x1 < a0 146 0 ∨ 1999 < x1)) ∧ a 146 0 = a0 146 0))))
theorem sp_X12_clock (E : jxE) (d : Nat) (hd : Nat.ble 2 d = true) (x1 : Int) (a0 b0 : Nat → Nat → Int) (hv0 : iv a0) : jt (jxC E d 208 [.inr (.inr (.inl 146)), .inl x1] (jxSH, a0, b0)) (jQ_X12_clock x1 a0 b0) := by
  obtain ⟨d, rfl⟩ := jd_succ hd
  refine jt_eq (bq_X12_clock E d x1 a0 b0) ?_
  refine jt_eI (eq_X12_in E d (jd_le hd rfl) x1 (a0 146 0) 1999 a0 b0) ?_
  have h344_ := iv_get hv0 (k := 146) (j := 0) (l := 0) (u := 1999) rfl
  have h345_ := f_X12_in_eq a0 b0 x1 (a0 146 0) 1999
  refine jt_ite (fun c346_ => ?_) (fun c346_ => ?_)
  ·
    exact jt_rI ⟨hv0, (jfr_rf _ _), rfl, (show (0 ≤ 0 ∧ 0 ≤ 1) from by omega), (show ((((0 = 1 ∧ a0 146 0 ≤ x1) ∧ x1 ≤ 1999) ∧ a0 146 0 = x1) ∨ ((0 = 0 ∧ (x1 < a0 146 0 ∨ 1999 < x1)) ∧ a0 146 0 = a0 146 0)) from by omega)⟩
  ·
    have hv347_ : iv (jxu a0 146 0 x1) := iv_put hv0 (l := 0) (u := 1999) rfl (by omega) (by omega)
    have hf348_ : jfr jW_X12_clock a0 (jxu a0 146 0 x1) := jfr_put (jfr_rf _ _) rfl
    exact jt_rI ⟨hv347_, hf348_, rfl, (show (0 ≤ 1 ∧ 1 ≤ 1) from by omega), (show ((((1 = 1 ∧ a0 146 0 ≤ x1) ∧ x1 ≤ 1999) ∧ x1 = x1) ∨ ((1 = 0 ∧ (x1 < a0 146 0 ∨ 1999 < x1)) ∧ x1 = a0 146 0)) from by omega)⟩
abbrev jQ_X12_count (x1 : Int) (a0 b0 : Nat → Nat → Int) : List jxV → (Nat → Nat → Int) → (Nat → Nat → Int) → Prop := rI (fun r a b => (a0 = a) ∧ (b0 = b) ∧ ((x1 = 0 → r = a0 146 0)) ∧ ((x1 = 1 → r = a0 146 2)) ∧ ((x1 = 3 → r = a0 146 9)) ∧ ((x1 = 4 → r = a0 146 17)) ∧ ((x1 = 5 → r = a0 146 49)) ∧ ((x1 = 6 → r = a0 146 55)) ∧ ((x1 = 7 → r = a0 146 68)) ∧ ((x1 = 8 → r = a0 146 22)) ∧ ((x1 = 9 → r = a0 146 42)) ∧ (((x1 = 2 ∧ a0 146 2 = 0) → r = 0)) ∧ (10 ≤ x1 ∧ x1 ≤ 14 → r = a0 171 (jxw (x1 - 10)).toNat) ∧ (20 ≤ x1 ∧ x1 ≤ 27 → r = a0 197 (jxw (x1 - 20)).toNat) ∧ (30 ≤ x1 ∧ x1 ≤ 37 → r = a0 196 (jxw (x1 - 30)).toNat) ∧ (((((x1 < 0 ∨ (14 < x1 ∧ x1 < 20)) ∨ (27 < x1 ∧ x1 < 30)) ∨ 37 < x1) → r = 0 - 1)))
theorem cp_X12_count_68 (E : jxE) (d : Nat) (hd : Nat.ble 2 (d + 1) = true) (x1 : Int) (a0 b0 : Nat → Nat → Int) (hv0 : iv a0) : ∀ n : Nat, (∀ (y2 y3 : Int), (((40 - y3) * 1) + 0).toNat ≤ n → 0 ≤ y3 → y3 ≤ 39 → x1 = 2 → (a0 146 2 = 0 → y2 = 0) → jt (jxX E d 289 93 [some (.inr (.inr (.inl 146))), none, some (.inl y2), some (.inl y3)] [] (jxSH, a0, b0)) (jQ_X12_count x1 a0 b0)) ∧ (∀ (y2 y3 : Int), (((40 - y3) * 1) + 0).toNat ≤ n → 0 ≤ y3 → y3 ≤ 40 → x1 = 2 → (a0 146 2 = 0 → y2 = 0) → jt (jxX E d 289 68 [some (.inr (.inr (.inl 146))), none, some (.inl y2), some (.inl y3)] [] (jxSH, a0, b0)) (jQ_X12_count x1 a0 b0)) := by
  refine jx_ind fun n ih => ?_
  have ih93 : ∀ (y2 y3 : Int), (((40 - y3) * 1) + 0).toNat < n → 0 ≤ y3 → y3 ≤ 39 → x1 = 2 → (a0 146 2 = 0 → y2 = 0) → jt (jxX E d 289 93 [some (.inr (.inr (.inl 146))), none, some (.inl y2), some (.inl y3)] [] (jxSH, a0, b0)) (jQ_X12_count x1 a0 b0) := fun y2 y3 hlt i0 i1 i2 i3 => (ih _ hlt).1 y2 y3 (Nat.le_refl _) i0 i1 i2 i3
  have ih68 : ∀ (y2 y3 : Int), (((40 - y3) * 1) + 0).toNat < n → 0 ≤ y3 → y3 ≤ 40 → x1 = 2 → (a0 146 2 = 0 → y2 = 0) → jt (jxX E d 289 68 [some (.inr (.inr (.inl 146))), none, some (.inl y2), some (.inl y3)] [] (jxSH, a0, b0)) (jQ_X12_count x1 a0 b0) := fun y2 y3 hlt i0 i1 i2 i3 => (ih _ hlt).2 y2 y3 (Nat.le_refl _) i0 i1 i2 i3
  have hc93 : ∀ (y2 y3 : Int), (((40 - y3) * 1) + 0).toNat ≤ n → 0 ≤ y3 → y3 ≤ 39 → x1 = 2 → (a0 146 2 = 0 → y2 = 0) → jt (jxX E d 289 93 [some (.inr (.inr (.inl 146))), none, some (.inl y2), some (.inl y3)] [] (jxSH, a0, b0)) (jQ_X12_count x1 a0 b0) := by
    intro y2 y3 hm hi0 hi1 hi2 hi3
    refine jt_eq (bq_X12_count_93 E d y2 y3 a0 b0) ?_
    have h349_ := iv_get hv0 (k := 146) (j := 2) (l := 0) (u := 40) rfl
    have h350_ : jxw (y3 + 1) = y3 + 1 := jxw_id (by omega) (by omega)
    exact ih68 y2 (jxw (y3 + 1)) (show (((40 - (jxw (y3 + 1))) * 1) + 0).toNat < n from by omega) (show 0 ≤ jxw (y3 + 1) from by omega) (show jxw (y3 + 1) ≤ 40 from by omega) (show x1 = 2 from by omega) (show (a0 146 2 = 0 → y2 = 0) from by omega)
  have hc68 : ∀ (y2 y3 : Int), (((40 - y3) * 1) + 0).toNat ≤ n → 0 ≤ y3 → y3 ≤ 40 → x1 = 2 → (a0 146 2 = 0 → y2 = 0) → jt (jxX E d 289 68 [some (.inr (.inr (.inl 146))), none, some (.inl y2), some (.inl y3)] [] (jxSH, a0, b0)) (jQ_X12_count x1 a0 b0) := by
    intro y2 y3 hm hi0 hi1 hi2 hi3
    refine jt_eq (bq_X12_count_68 E d y2 y3 a0 b0) ?_
    have h351_ := iv_get hv0 (k := 146) (j := 2) (l := 0) (u := 40) rfl
    refine jt_ite (fun c352_ => ?_) (fun c352_ => ?_)
    ·
      refine jt_grd (by omega) ?_
      have h353_ := iv_get hv0 (k := 152) (j := y3.toNat) (l := 0) (u := 1) rfl
      refine jt_ite (fun c354_ => ?_) (fun c354_ => ?_)
      ·
        have h355_ := jxw_im (y2 + 0)
        have h356_ := jxw_rg (y2 + 0)
        exact hc93 (jxw (y2 + 0)) y3 (show (((40 - y3) * 1) + 0).toNat ≤ n from by omega) (show 0 ≤ y3 from by omega) (show y3 ≤ 39 from by omega) (show x1 = 2 from by omega) (show (a0 146 2 = 0 → jxw (y2 + 0) = 0) from by omega)
      ·
        have h357_ := jxw_im (y2 + 1)
        have h358_ := jxw_rg (y2 + 1)
        exact hc93 (jxw (y2 + 1)) y3 (show (((40 - y3) * 1) + 0).toNat ≤ n from by omega) (show 0 ≤ y3 from by omega) (show y3 ≤ 39 from by omega) (show x1 = 2 from by omega) (show (a0 146 2 = 0 → jxw (y2 + 1) = 0) from by omega)
    ·
      have h359_ := iv_get hv0 (k := 146) (j := 0) (l := 0) (u := 1999) rfl
      have h360_ := iv_get hv0 (k := 146) (j := 9) (l := 0) (u := 300) rfl
      have h361_ := iv_get hv0 (k := 146) (j := 17) (l := 0) (u := 600) rfl
      have h362_ := iv_get hv0 (k := 146) (j := 49) (l := 0) (u := 20) rfl
      have h363_ := iv_get hv0 (k := 146) (j := 68) (l := 0) (u := 10) rfl
      have h364_ := iv_get hv0 (k := 146) (j := 22) (l := 0) (u := 200) rfl
      have h365_ := iv_get hv0 (k := 146) (j := 42) (l := 0) (u := 8) rfl
      exact jt_rI ⟨rfl, rfl, (show (x1 = 0 → y2 = a0 146 0) from by omega), (show (x1 = 1 → y2 = a0 146 2) from by omega), (show (x1 = 3 → y2 = a0 146 9) from by omega), (show (x1 = 4 → y2 = a0 146 17) from by omega), (show (x1 = 5 → y2 = a0 146 49) from by omega), (show (x1 = 6 → y2 = a0 146 55) from by omega), (show (x1 = 7 → y2 = a0 146 68) from by omega), (show (x1 = 8 → y2 = a0 146 22) from by omega), (show (x1 = 9 → y2 = a0 146 42) from by omega), (show ((x1 = 2 ∧ a0 146 2 = 0) → y2 = 0) from by omega), (by first | omega | (rw [← hyx]; omega)), (by first | omega | (rw [← hyx]; omega)), (by first | omega | (rw [← hyx]; omega)), (show ((((x1 < 0 ∨ (14 < x1 ∧ x1 < 20)) ∨ (27 < x1 ∧ x1 < 30)) ∨ 37 < x1) → y2 = 0 - 1) from by omega)⟩
  exact ⟨hc93, hc68⟩
theorem cp_X12_count_168 (E : jxE) (d : Nat) (hd : Nat.ble 2 (d + 1) = true) (x1 : Int) (a0 b0 : Nat → Nat → Int) (hv0 : iv a0) : ∀ (y1 : Int), 20 ≤ y1 → y1 ≤ 27 → (y1 = x1) → (20 ≤ x1 ∧ x1 ≤ 27) → jt (jxX E d 289 168 [some (.inr (.inr (.inl 146))), some (.inl y1), none, none] [] (jxSH, a0, b0)) (jQ_X12_count x1 a0 b0) := by
  intro y1 hi0 hi1 hyx hi3
  refine jt_eq (bq_X12_count_168 E d y1 a0 b0) ?_
  have h366_ : jxw (y1 - 20) = y1 - 20 := jxw_id (by omega) (by omega)
  refine jt_grd (by omega) ?_
  have h367_ := iv_get hv0 (k := 197) (j := (jxw (y1 - 20)).toNat) (l := 0) (u := 50) rfl
  have h368_ := iv_get hv0 (k := 146) (j := 0) (l := 0) (u := 1999) rfl
  have h369_ := iv_get hv0 (k := 146) (j := 2) (l := 0) (u := 40) rfl
  have h370_ := iv_get hv0 (k := 146) (j := 9) (l := 0) (u := 300) rfl
  have h371_ := iv_get hv0 (k := 146) (j := 17) (l := 0) (u := 600) rfl
  have h372_ := iv_get hv0 (k := 146) (j := 49) (l := 0) (u := 20) rfl
  have h373_ := iv_get hv0 (k := 146) (j := 68) (l := 0) (u := 10) rfl
  have h374_ := iv_get hv0 (k := 146) (j := 22) (l := 0) (u := 200) rfl
  have h375_ := iv_get hv0 (k := 146) (j := 42) (l := 0) (u := 8) rfl
  exact jt_rI ⟨rfl, rfl, (show (x1 = 0 → a0 197 ((jxw (y1 - 20)).toNat) = a0 146 0) from by omega), (show (x1 = 1 → a0 197 ((jxw (y1 - 20)).toNat) = a0 146 2) from by omega), (show (x1 = 3 → a0 197 ((jxw (y1 - 20)).toNat) = a0 146 9) from by omega), (show (x1 = 4 → a0 197 ((jxw (y1 - 20)).toNat) = a0 146 17) from by omega), (show (x1 = 5 → a0 197 ((jxw (y1 - 20)).toNat) = a0 146 49) from by omega), (show (x1 = 6 → a0 197 ((jxw (y1 - 20)).toNat) = a0 146 55) from by omega), (show (x1 = 7 → a0 197 ((jxw (y1 - 20)).toNat) = a0 146 68) from by omega), (show (x1 = 8 → a0 197 ((jxw (y1 - 20)).toNat) = a0 146 22) from by omega), (show (x1 = 9 → a0 197 ((jxw (y1 - 20)).toNat) = a0 146 42) from by omega), (show ((x1 = 2 ∧ a0 146 2 = 0) → a0 197 ((jxw (y1 - 20)).toNat) = 0) from by omega), (by first | omega | (rw [← hyx]; omega)), (by first | omega | (rw [← hyx]; omega)), (by first | omega | (rw [← hyx]; omega)), (show ((((x1 < 0 ∨ (14 < x1 ∧ x1 < 20)) ∨ (27 < x1 ∧ x1 < 30)) ∨ 37 < x1) → a0 197 ((jxw (y1 - 20)).toNat) = 0 - 1) from by omega)⟩
theorem cp_X12_count_178 (E : jxE) (d : Nat) (hd : Nat.ble 2 (d + 1) = true) (x1 : Int) (a0 b0 : Nat → Nat → Int) (hv0 : iv a0) : ∀ (y1 : Int), (y1 = x1) → (x1 < 0 ∨ 14 < x1) → (x1 < 20 ∨ 27 < x1) → jt (jxX E d 289 178 [some (.inr (.inr (.inl 146))), some (.inl y1), none, none] [] (jxSH, a0, b0)) (jQ_X12_count x1 a0 b0) := by
  intro y1 hyx hi1 hi2
  refine jt_eq (bq_X12_count_178 E d y1 a0 b0) ?_
  refine jt_eI (eq_X12_in E d (jd_le hd rfl) y1 30 37 a0 b0) ?_
  have h376_ := f_X12_in_eq a0 b0 y1 30 37
  refine jt_ite (fun c377_ => ?_) (fun c377_ => ?_)
  ·
    have h378_ := iv_get hv0 (k := 146) (j := 0) (l := 0) (u := 1999) rfl
    have h379_ := iv_get hv0 (k := 146) (j := 2) (l := 0) (u := 40) rfl
    have h380_ := iv_get hv0 (k := 146) (j := 9) (l := 0) (u := 300) rfl
    have h381_ := iv_get hv0 (k := 146) (j := 17) (l := 0) (u := 600) rfl
    have h382_ := iv_get hv0 (k := 146) (j := 49) (l := 0) (u := 20) rfl
    have h383_ := iv_get hv0 (k := 146) (j := 68) (l := 0) (u := 10) rfl
    have h384_ := iv_get hv0 (k := 146) (j := 22) (l := 0) (u := 200) rfl
    have h385_ := iv_get hv0 (k := 146) (j := 42) (l := 0) (u := 8) rfl
    exact jt_rI ⟨rfl, rfl, (show (x1 = 0 → (-1) = a0 146 0) from by omega), (show (x1 = 1 → (-1) = a0 146 2) from by omega), (show (x1 = 3 → (-1) = a0 146 9) from by omega), (show (x1 = 4 → (-1) = a0 146 17) from by omega), (show (x1 = 5 → (-1) = a0 146 49) from by omega), (show (x1 = 6 → (-1) = a0 146 55) from by omega), (show (x1 = 7 → (-1) = a0 146 68) from by omega), (show (x1 = 8 → (-1) = a0 146 22) from by omega), (show (x1 = 9 → (-1) = a0 146 42) from by omega), (show ((x1 = 2 ∧ a0 146 2 = 0) → (-1) = 0) from by omega), (by first | omega | (rw [← hyx]; omega)), (by first | omega | (rw [← hyx]; omega)), (by first | omega | (rw [← hyx]; omega)), (show ((((x1 < 0 ∨ (14 < x1 ∧ x1 < 20)) ∨ (27 < x1 ∧ x1 < 30)) ∨ 37 < x1) → (-1) = 0 - 1) from by omega)⟩
  ·
    have h386_ : jxw (y1 - 30) = y1 - 30 := jxw_id (by omega) (by omega)
    refine jt_grd (by omega) ?_
    have h387_ := iv_get hv0 (k := 196) (j := (jxw (y1 - 30)).toNat) (l := (-1)) (u := 500) rfl
    have h388_ := iv_get hv0 (k := 146) (j := 0) (l := 0) (u := 1999) rfl
    have h389_ := iv_get hv0 (k := 146) (j := 2) (l := 0) (u := 40) rfl
    have h390_ := iv_get hv0 (k := 146) (j := 9) (l := 0) (u := 300) rfl
    have h391_ := iv_get hv0 (k := 146) (j := 17) (l := 0) (u := 600) rfl
    have h392_ := iv_get hv0 (k := 146) (j := 49) (l := 0) (u := 20) rfl
    have h393_ := iv_get hv0 (k := 146) (j := 68) (l := 0) (u := 10) rfl
    have h394_ := iv_get hv0 (k := 146) (j := 22) (l := 0) (u := 200) rfl
    have h395_ := iv_get hv0 (k := 146) (j := 42) (l := 0) (u := 8) rfl
    exact jt_rI ⟨rfl, rfl, (show (x1 = 0 → a0 196 ((jxw (y1 - 30)).toNat) = a0 146 0) from by omega), (show (x1 = 1 → a0 196 ((jxw (y1 - 30)).toNat) = a0 146 2) from by omega), (show (x1 = 3 → a0 196 ((jxw (y1 - 30)).toNat) = a0 146 9) from by omega), (show (x1 = 4 → a0 196 ((jxw (y1 - 30)).toNat) = a0 146 17) from by omega), (show (x1 = 5 → a0 196 ((jxw (y1 - 30)).toNat) = a0 146 49) from by omega), (show (x1 = 6 → a0 196 ((jxw (y1 - 30)).toNat) = a0 146 55) from by omega), (show (x1 = 7 → a0 196 ((jxw (y1 - 30)).toNat) = a0 146 68) from by omega), (show (x1 = 8 → a0 196 ((jxw (y1 - 30)).toNat) = a0 146 22) from by omega), (show (x1 = 9 → a0 196 ((jxw (y1 - 30)).toNat) = a0 146 42) from by omega), (show ((x1 = 2 ∧ a0 146 2 = 0) → a0 196 ((jxw (y1 - 30)).toNat) = 0) from by omega), (by first | omega | (rw [← hyx]; omega)), (by first | omega | (rw [← hyx]; omega)), (by first | omega | (rw [← hyx]; omega)), (show ((((x1 < 0 ∨ (14 < x1 ∧ x1 < 20)) ∨ (27 < x1 ∧ x1 < 30)) ∨ 37 < x1) → a0 196 ((jxw (y1 - 30)).toNat) = 0 - 1) from by omega)⟩
theorem sp_X12_count (E : jxE) (d : Nat) (hd : Nat.ble 2 d = true) (x1 : Int) (a0 b0 : Nat → Nat → Int) (hv0 : iv a0) : jt (jxC E d 289 [.inr (.inr (.inl 146)), .inl x1] (jxSH, a0, b0)) (jQ_X12_count x1 a0 b0) := by
  obtain ⟨d, rfl⟩ := jd_succ hd
  refine jt_eq (bq_X12_count E d x1 a0 b0) ?_
  refine jt_ite (fun c396_ => ?_) (fun c396_ => ?_)
  ·
    refine jt_eI (eq_X12_in E d (jd_le hd rfl) x1 10 14 a0 b0) ?_
    have h397_ := f_X12_in_eq a0 b0 x1 10 14
    refine jt_ite (fun c398_ => ?_) (fun c398_ => ?_)
    ·
      refine jt_eI (eq_X12_in E d (jd_le hd rfl) x1 20 27 a0 b0) ?_
      have h399_ := f_X12_in_eq a0 b0 x1 20 27
      refine jt_ite (fun c400_ => ?_) (fun c400_ => ?_)
      ·
        exact cp_X12_count_178 E d hd x1 a0 b0 hv0 x1 (by first | rfl | assumption) (show (x1 < 0 ∨ 14 < x1) from by omega) (show (x1 < 20 ∨ 27 < x1) from by omega)
      ·
        exact cp_X12_count_168 E d hd x1 a0 b0 hv0 x1 (show 20 ≤ x1 from by omega) (show x1 ≤ 27 from by omega) (by first | rfl | assumption) (show (20 ≤ x1 ∧ x1 ≤ 27) from by omega)
    ·
      have h401_ : jxw (x1 - 10) = x1 - 10 := jxw_id (by omega) (by omega)
      refine jt_grd (by omega) ?_
      have h402_ := iv_get hv0 (k := 146) (j := 0) (l := 0) (u := 1999) rfl
      have h403_ := iv_get hv0 (k := 146) (j := 2) (l := 0) (u := 40) rfl
      have h404_ := iv_get hv0 (k := 146) (j := 9) (l := 0) (u := 300) rfl
      have h405_ := iv_get hv0 (k := 146) (j := 17) (l := 0) (u := 600) rfl
      have h406_ := iv_get hv0 (k := 146) (j := 49) (l := 0) (u := 20) rfl
      have h407_ := iv_get hv0 (k := 146) (j := 68) (l := 0) (u := 10) rfl
      have h408_ := iv_get hv0 (k := 146) (j := 22) (l := 0) (u := 200) rfl
      have h409_ := iv_get hv0 (k := 146) (j := 42) (l := 0) (u := 8) rfl
      exact jt_rI ⟨rfl, rfl, (show (x1 = 0 → a0 171 ((jxw (x1 - 10)).toNat) = a0 146 0) from by omega), (show (x1 = 1 → a0 171 ((jxw (x1 - 10)).toNat) = a0 146 2) from by omega), (show (x1 = 3 → a0 171 ((jxw (x1 - 10)).toNat) = a0 146 9) from by omega), (show (x1 = 4 → a0 171 ((jxw (x1 - 10)).toNat) = a0 146 17) from by omega), (show (x1 = 5 → a0 171 ((jxw (x1 - 10)).toNat) = a0 146 49) from by omega), (show (x1 = 6 → a0 171 ((jxw (x1 - 10)).toNat) = a0 146 55) from by omega), (show (x1 = 7 → a0 171 ((jxw (x1 - 10)).toNat) = a0 146 68) from by omega), (show (x1 = 8 → a0 171 ((jxw (x1 - 10)).toNat) = a0 146 22) from by omega), (show (x1 = 9 → a0 171 ((jxw (x1 - 10)).toNat) = a0 146 42) from by omega), (show ((x1 = 2 ∧ a0 146 2 = 0) → a0 171 ((jxw (x1 - 10)).toNat) = 0) from by omega), (by first | omega | (rw [← hyx]; omega)), (by first | omega | (rw [← hyx]; omega)), (by first | omega | (rw [← hyx]; omega)), (show ((((x1 < 0 ∨ (14 < x1 ∧ x1 < 20)) ∨ (27 < x1 ∧ x1 < 30)) ∨ 37 < x1) → a0 171 ((jxw (x1 - 10)).toNat) = 0 - 1) from by omega)⟩
  ·
    refine jt_ite (fun c410_ => ?_) (fun c410_ => ?_)
    ·
      have h411_ := iv_get hv0 (k := 146) (j := 0) (l := 0) (u := 1999) rfl
      have h412_ := iv_get hv0 (k := 146) (j := 2) (l := 0) (u := 40) rfl
      have h413_ := iv_get hv0 (k := 146) (j := 9) (l := 0) (u := 300) rfl
      have h414_ := iv_get hv0 (k := 146) (j := 17) (l := 0) (u := 600) rfl
      have h415_ := iv_get hv0 (k := 146) (j := 49) (l := 0) (u := 20) rfl
      have h416_ := iv_get hv0 (k := 146) (j := 68) (l := 0) (u := 10) rfl
      have h417_ := iv_get hv0 (k := 146) (j := 22) (l := 0) (u := 200) rfl
      have h418_ := iv_get hv0 (k := 146) (j := 42) (l := 0) (u := 8) rfl
      exact jt_rI ⟨rfl, rfl, (show (x1 = 0 → a0 146 0 = a0 146 0) from by omega), (show (x1 = 1 → a0 146 0 = a0 146 2) from by omega), (show (x1 = 3 → a0 146 0 = a0 146 9) from by omega), (show (x1 = 4 → a0 146 0 = a0 146 17) from by omega), (show (x1 = 5 → a0 146 0 = a0 146 49) from by omega), (show (x1 = 6 → a0 146 0 = a0 146 55) from by omega), (show (x1 = 7 → a0 146 0 = a0 146 68) from by omega), (show (x1 = 8 → a0 146 0 = a0 146 22) from by omega), (show (x1 = 9 → a0 146 0 = a0 146 42) from by omega), (show ((x1 = 2 ∧ a0 146 2 = 0) → a0 146 0 = 0) from by omega), (by first | omega | (rw [← hyx]; omega)), (by first | omega | (rw [← hyx]; omega)), (by first | omega | (rw [← hyx]; omega)), (show ((((x1 < 0 ∨ (14 < x1 ∧ x1 < 20)) ∨ (27 < x1 ∧ x1 < 30)) ∨ 37 < x1) → a0 146 0 = 0 - 1) from by omega)⟩
    ·
      refine jt_ite (fun c419_ => ?_) (fun c419_ => ?_)
      ·
        have h420_ := iv_get hv0 (k := 146) (j := 2) (l := 0) (u := 40) rfl
        have h421_ := iv_get hv0 (k := 146) (j := 0) (l := 0) (u := 1999) rfl
        have h422_ := iv_get hv0 (k := 146) (j := 9) (l := 0) (u := 300) rfl
        have h423_ := iv_get hv0 (k := 146) (j := 17) (l := 0) (u := 600) rfl
        have h424_ := iv_get hv0 (k := 146) (j := 49) (l := 0) (u := 20) rfl
        have h425_ := iv_get hv0 (k := 146) (j := 68) (l := 0) (u := 10) rfl
        have h426_ := iv_get hv0 (k := 146) (j := 22) (l := 0) (u := 200) rfl
        have h427_ := iv_get hv0 (k := 146) (j := 42) (l := 0) (u := 8) rfl
        exact jt_rI ⟨rfl, rfl, (show (x1 = 0 → a0 146 2 = a0 146 0) from by omega), (show (x1 = 1 → a0 146 2 = a0 146 2) from by omega), (show (x1 = 3 → a0 146 2 = a0 146 9) from by omega), (show (x1 = 4 → a0 146 2 = a0 146 17) from by omega), (show (x1 = 5 → a0 146 2 = a0 146 49) from by omega), (show (x1 = 6 → a0 146 2 = a0 146 55) from by omega), (show (x1 = 7 → a0 146 2 = a0 146 68) from by omega), (show (x1 = 8 → a0 146 2 = a0 146 22) from by omega), (show (x1 = 9 → a0 146 2 = a0 146 42) from by omega), (show ((x1 = 2 ∧ a0 146 2 = 0) → a0 146 2 = 0) from by omega), (by first | omega | (rw [← hyx]; omega)), (by first | omega | (rw [← hyx]; omega)), (by first | omega | (rw [← hyx]; omega)), (show ((((x1 < 0 ∨ (14 < x1 ∧ x1 < 20)) ∨ (27 < x1 ∧ x1 < 30)) ∨ 37 < x1) → a0 146 2 = 0 - 1) from by omega)⟩
      ·
        refine jt_ite (fun c428_ => ?_) (fun c428_ => ?_)
        ·
          have h429_ := iv_get hv0 (k := 146) (j := 2) (l := 0) (u := 40) rfl
          exact (cp_X12_count_68 E d hd x1 a0 b0 hv0 _).2 0 0 (Nat.le_refl _) (show 0 ≤ 0 from by omega) (show 0 ≤ 40 from by omega) (show x1 = 2 from by omega) (show (a0 146 2 = 0 → 0 = 0) from by omega)
        ·
          refine jt_ite (fun c430_ => ?_) (fun c430_ => ?_)
          ·
            have h431_ := iv_get hv0 (k := 146) (j := 9) (l := 0) (u := 300) rfl
            have h432_ := iv_get hv0 (k := 146) (j := 0) (l := 0) (u := 1999) rfl
            have h433_ := iv_get hv0 (k := 146) (j := 2) (l := 0) (u := 40) rfl
            have h434_ := iv_get hv0 (k := 146) (j := 17) (l := 0) (u := 600) rfl
            have h435_ := iv_get hv0 (k := 146) (j := 49) (l := 0) (u := 20) rfl
            have h436_ := iv_get hv0 (k := 146) (j := 68) (l := 0) (u := 10) rfl
            have h437_ := iv_get hv0 (k := 146) (j := 22) (l := 0) (u := 200) rfl
            have h438_ := iv_get hv0 (k := 146) (j := 42) (l := 0) (u := 8) rfl
            exact jt_rI ⟨rfl, rfl, (show (x1 = 0 → a0 146 9 = a0 146 0) from by omega), (show (x1 = 1 → a0 146 9 = a0 146 2) from by omega), (show (x1 = 3 → a0 146 9 = a0 146 9) from by omega), (show (x1 = 4 → a0 146 9 = a0 146 17) from by omega), (show (x1 = 5 → a0 146 9 = a0 146 49) from by omega), (show (x1 = 6 → a0 146 9 = a0 146 55) from by omega), (show (x1 = 7 → a0 146 9 = a0 146 68) from by omega), (show (x1 = 8 → a0 146 9 = a0 146 22) from by omega), (show (x1 = 9 → a0 146 9 = a0 146 42) from by omega), (show ((x1 = 2 ∧ a0 146 2 = 0) → a0 146 9 = 0) from by omega), (by first | omega | (rw [← hyx]; omega)), (by first | omega | (rw [← hyx]; omega)), (by first | omega | (rw [← hyx]; omega)), (show ((((x1 < 0 ∨ (14 < x1 ∧ x1 < 20)) ∨ (27 < x1 ∧ x1 < 30)) ∨ 37 < x1) → a0 146 9 = 0 - 1) from by omega)⟩
          ·
            refine jt_ite (fun c439_ => ?_) (fun c439_ => ?_)
            ·
              have h440_ := iv_get hv0 (k := 146) (j := 17) (l := 0) (u := 600) rfl
              have h441_ := iv_get hv0 (k := 146) (j := 0) (l := 0) (u := 1999) rfl
              have h442_ := iv_get hv0 (k := 146) (j := 2) (l := 0) (u := 40) rfl
              have h443_ := iv_get hv0 (k := 146) (j := 9) (l := 0) (u := 300) rfl
              have h444_ := iv_get hv0 (k := 146) (j := 49) (l := 0) (u := 20) rfl
              have h445_ := iv_get hv0 (k := 146) (j := 68) (l := 0) (u := 10) rfl
              have h446_ := iv_get hv0 (k := 146) (j := 22) (l := 0) (u := 200) rfl
              have h447_ := iv_get hv0 (k := 146) (j := 42) (l := 0) (u := 8) rfl
              exact jt_rI ⟨rfl, rfl, (show (x1 = 0 → a0 146 17 = a0 146 0) from by omega), (show (x1 = 1 → a0 146 17 = a0 146 2) from by omega), (show (x1 = 3 → a0 146 17 = a0 146 9) from by omega), (show (x1 = 4 → a0 146 17 = a0 146 17) from by omega), (show (x1 = 5 → a0 146 17 = a0 146 49) from by omega), (show (x1 = 6 → a0 146 17 = a0 146 55) from by omega), (show (x1 = 7 → a0 146 17 = a0 146 68) from by omega), (show (x1 = 8 → a0 146 17 = a0 146 22) from by omega), (show (x1 = 9 → a0 146 17 = a0 146 42) from by omega), (show ((x1 = 2 ∧ a0 146 2 = 0) → a0 146 17 = 0) from by omega), (by first | omega | (rw [← hyx]; omega)), (by first | omega | (rw [← hyx]; omega)), (by first | omega | (rw [← hyx]; omega)), (show ((((x1 < 0 ∨ (14 < x1 ∧ x1 < 20)) ∨ (27 < x1 ∧ x1 < 30)) ∨ 37 < x1) → a0 146 17 = 0 - 1) from by omega)⟩
            ·
              refine jt_ite (fun c448_ => ?_) (fun c448_ => ?_)
              ·
                have h449_ := iv_get hv0 (k := 146) (j := 49) (l := 0) (u := 20) rfl
                have h450_ := iv_get hv0 (k := 146) (j := 0) (l := 0) (u := 1999) rfl
                have h451_ := iv_get hv0 (k := 146) (j := 2) (l := 0) (u := 40) rfl
                have h452_ := iv_get hv0 (k := 146) (j := 9) (l := 0) (u := 300) rfl
                have h453_ := iv_get hv0 (k := 146) (j := 17) (l := 0) (u := 600) rfl
                have h454_ := iv_get hv0 (k := 146) (j := 68) (l := 0) (u := 10) rfl
                have h455_ := iv_get hv0 (k := 146) (j := 22) (l := 0) (u := 200) rfl
                have h456_ := iv_get hv0 (k := 146) (j := 42) (l := 0) (u := 8) rfl
                exact jt_rI ⟨rfl, rfl, (show (x1 = 0 → a0 146 49 = a0 146 0) from by omega), (show (x1 = 1 → a0 146 49 = a0 146 2) from by omega), (show (x1 = 3 → a0 146 49 = a0 146 9) from by omega), (show (x1 = 4 → a0 146 49 = a0 146 17) from by omega), (show (x1 = 5 → a0 146 49 = a0 146 49) from by omega), (show (x1 = 6 → a0 146 49 = a0 146 55) from by omega), (show (x1 = 7 → a0 146 49 = a0 146 68) from by omega), (show (x1 = 8 → a0 146 49 = a0 146 22) from by omega), (show (x1 = 9 → a0 146 49 = a0 146 42) from by omega), (show ((x1 = 2 ∧ a0 146 2 = 0) → a0 146 49 = 0) from by omega), (by first | omega | (rw [← hyx]; omega)), (by first | omega | (rw [← hyx]; omega)), (by first | omega | (rw [← hyx]; omega)), (show ((((x1 < 0 ∨ (14 < x1 ∧ x1 < 20)) ∨ (27 < x1 ∧ x1 < 30)) ∨ 37 < x1) → a0 146 49 = 0 - 1) from by omega)⟩
              ·
                refine jt_ite (fun c457_ => ?_) (fun c457_ => ?_)
                ·
                  have h458_ := iv_get hv0 (k := 146) (j := 0) (l := 0) (u := 1999) rfl
                  have h459_ := iv_get hv0 (k := 146) (j := 2) (l := 0) (u := 40) rfl
                  have h460_ := iv_get hv0 (k := 146) (j := 9) (l := 0) (u := 300) rfl
                  have h461_ := iv_get hv0 (k := 146) (j := 17) (l := 0) (u := 600) rfl
                  have h462_ := iv_get hv0 (k := 146) (j := 49) (l := 0) (u := 20) rfl
                  have h463_ := iv_get hv0 (k := 146) (j := 68) (l := 0) (u := 10) rfl
                  have h464_ := iv_get hv0 (k := 146) (j := 22) (l := 0) (u := 200) rfl
                  have h465_ := iv_get hv0 (k := 146) (j := 42) (l := 0) (u := 8) rfl
                  exact jt_rI ⟨rfl, rfl, (show (x1 = 0 → a0 146 55 = a0 146 0) from by omega), (show (x1 = 1 → a0 146 55 = a0 146 2) from by omega), (show (x1 = 3 → a0 146 55 = a0 146 9) from by omega), (show (x1 = 4 → a0 146 55 = a0 146 17) from by omega), (show (x1 = 5 → a0 146 55 = a0 146 49) from by omega), (show (x1 = 6 → a0 146 55 = a0 146 55) from by omega), (show (x1 = 7 → a0 146 55 = a0 146 68) from by omega), (show (x1 = 8 → a0 146 55 = a0 146 22) from by omega), (show (x1 = 9 → a0 146 55 = a0 146 42) from by omega), (show ((x1 = 2 ∧ a0 146 2 = 0) → a0 146 55 = 0) from by omega), (by first | omega | (rw [← hyx]; omega)), (by first | omega | (rw [← hyx]; omega)), (by first | omega | (rw [← hyx]; omega)), (show ((((x1 < 0 ∨ (14 < x1 ∧ x1 < 20)) ∨ (27 < x1 ∧ x1 < 30)) ∨ 37 < x1) → a0 146 55 = 0 - 1) from by omega)⟩
                ·
                  refine jt_ite (fun c466_ => ?_) (fun c466_ => ?_)
                  ·
                    have h467_ := iv_get hv0 (k := 146) (j := 68) (l := 0) (u := 10) rfl
                    have h468_ := iv_get hv0 (k := 146) (j := 0) (l := 0) (u := 1999) rfl
                    have h469_ := iv_get hv0 (k := 146) (j := 2) (l := 0) (u := 40) rfl
                    have h470_ := iv_get hv0 (k := 146) (j := 9) (l := 0) (u := 300) rfl
                    have h471_ := iv_get hv0 (k := 146) (j := 17) (l := 0) (u := 600) rfl
                    have h472_ := iv_get hv0 (k := 146) (j := 49) (l := 0) (u := 20) rfl
                    have h473_ := iv_get hv0 (k := 146) (j := 22) (l := 0) (u := 200) rfl
                    have h474_ := iv_get hv0 (k := 146) (j := 42) (l := 0) (u := 8) rfl
                    exact jt_rI ⟨rfl, rfl, (show (x1 = 0 → a0 146 68 = a0 146 0) from by omega), (show (x1 = 1 → a0 146 68 = a0 146 2) from by omega), (show (x1 = 3 → a0 146 68 = a0 146 9) from by omega), (show (x1 = 4 → a0 146 68 = a0 146 17) from by omega), (show (x1 = 5 → a0 146 68 = a0 146 49) from by omega), (show (x1 = 6 → a0 146 68 = a0 146 55) from by omega), (show (x1 = 7 → a0 146 68 = a0 146 68) from by omega), (show (x1 = 8 → a0 146 68 = a0 146 22) from by omega), (show (x1 = 9 → a0 146 68 = a0 146 42) from by omega), (show ((x1 = 2 ∧ a0 146 2 = 0) → a0 146 68 = 0) from by omega), (by first | omega | (rw [← hyx]; omega)), (by first | omega | (rw [← hyx]; omega)), (by first | omega | (rw [← hyx]; omega)), (show ((((x1 < 0 ∨ (14 < x1 ∧ x1 < 20)) ∨ (27 < x1 ∧ x1 < 30)) ∨ 37 < x1) → a0 146 68 = 0 - 1) from by omega)⟩
                  ·
                    refine jt_ite (fun c475_ => ?_) (fun c475_ => ?_)
                    ·
                      have h476_ := iv_get hv0 (k := 146) (j := 22) (l := 0) (u := 200) rfl
                      have h477_ := iv_get hv0 (k := 146) (j := 0) (l := 0) (u := 1999) rfl
                      have h478_ := iv_get hv0 (k := 146) (j := 2) (l := 0) (u := 40) rfl
                      have h479_ := iv_get hv0 (k := 146) (j := 9) (l := 0) (u := 300) rfl
                      have h480_ := iv_get hv0 (k := 146) (j := 17) (l := 0) (u := 600) rfl
                      have h481_ := iv_get hv0 (k := 146) (j := 49) (l := 0) (u := 20) rfl
                      have h482_ := iv_get hv0 (k := 146) (j := 68) (l := 0) (u := 10) rfl
                      have h483_ := iv_get hv0 (k := 146) (j := 42) (l := 0) (u := 8) rfl
                      exact jt_rI ⟨rfl, rfl, (show (x1 = 0 → a0 146 22 = a0 146 0) from by omega), (show (x1 = 1 → a0 146 22 = a0 146 2) from by omega), (show (x1 = 3 → a0 146 22 = a0 146 9) from by omega), (show (x1 = 4 → a0 146 22 = a0 146 17) from by omega), (show (x1 = 5 → a0 146 22 = a0 146 49) from by omega), (show (x1 = 6 → a0 146 22 = a0 146 55) from by omega), (show (x1 = 7 → a0 146 22 = a0 146 68) from by omega), (show (x1 = 8 → a0 146 22 = a0 146 22) from by omega), (show (x1 = 9 → a0 146 22 = a0 146 42) from by omega), (show ((x1 = 2 ∧ a0 146 2 = 0) → a0 146 22 = 0) from by omega), (by first | omega | (rw [← hyx]; omega)), (by first | omega | (rw [← hyx]; omega)), (by first | omega | (rw [← hyx]; omega)), (show ((((x1 < 0 ∨ (14 < x1 ∧ x1 < 20)) ∨ (27 < x1 ∧ x1 < 30)) ∨ 37 < x1) → a0 146 22 = 0 - 1) from by omega)⟩
                    ·
                      refine jt_ite (fun c484_ => ?_) (fun c484_ => ?_)
                      ·
                        have h485_ := iv_get hv0 (k := 146) (j := 42) (l := 0) (u := 8) rfl
                        have h486_ := iv_get hv0 (k := 146) (j := 0) (l := 0) (u := 1999) rfl
                        have h487_ := iv_get hv0 (k := 146) (j := 2) (l := 0) (u := 40) rfl
                        have h488_ := iv_get hv0 (k := 146) (j := 9) (l := 0) (u := 300) rfl
                        have h489_ := iv_get hv0 (k := 146) (j := 17) (l := 0) (u := 600) rfl
                        have h490_ := iv_get hv0 (k := 146) (j := 49) (l := 0) (u := 20) rfl
                        have h491_ := iv_get hv0 (k := 146) (j := 68) (l := 0) (u := 10) rfl
                        have h492_ := iv_get hv0 (k := 146) (j := 22) (l := 0) (u := 200) rfl
                        exact jt_rI ⟨rfl, rfl, (show (x1 = 0 → a0 146 42 = a0 146 0) from by omega), (show (x1 = 1 → a0 146 42 = a0 146 2) from by omega), (show (x1 = 3 → a0 146 42 = a0 146 9) from by omega), (show (x1 = 4 → a0 146 42 = a0 146 17) from by omega), (show (x1 = 5 → a0 146 42 = a0 146 49) from by omega), (show (x1 = 6 → a0 146 42 = a0 146 55) from by omega), (show (x1 = 7 → a0 146 42 = a0 146 68) from by omega), (show (x1 = 8 → a0 146 42 = a0 146 22) from by omega), (show (x1 = 9 → a0 146 42 = a0 146 42) from by omega), (show ((x1 = 2 ∧ a0 146 2 = 0) → a0 146 42 = 0) from by omega), (by first | omega | (rw [← hyx]; omega)), (by first | omega | (rw [← hyx]; omega)), (by first | omega | (rw [← hyx]; omega)), (show ((((x1 < 0 ∨ (14 < x1 ∧ x1 < 20)) ∨ (27 < x1 ∧ x1 < 30)) ∨ 37 < x1) → a0 146 42 = 0 - 1) from by omega)⟩
                      ·
                        exact absurd (by omega : False) id
abbrev jQ_X12_offerIn (x1 x2 : Int) (a0 b0 : Nat → Nat → Int) : List jxV → (Nat → Nat → Int) → (Nat → Nat → Int) → Prop := rI (fun r a b => (a0 = a) ∧ (b0 = b) ∧ (0 - 1 ≤ r) ∧ (r ≤ 19) ∧ (r < a0 146 49) ∧ ((0 ≤ r → (a0 181 (r.toNat) = 1 ∧ a0 182 (r.toNat) = x1))))
theorem cp_X12_offerIn_2 (E : jxE) (d : Nat) (hd : Nat.ble 1 (d + 1) = true) (x1 x2 : Int) (a0 b0 : Nat → Nat → Int) (hv0 : iv a0) : ∀ n : Nat, (∀ (y1 y2 y3 : Int), (((20 - y3) * 1) + 0).toNat ≤ n → 0 ≤ y3 → y3 ≤ 19 → y1 = x1 → jt (jxX E d 276 42 [some (.inr (.inr (.inl 146))), some (.inl y1), some (.inl y2), some (.inl y3)] [] (jxSH, a0, b0)) (jQ_X12_offerIn x1 x2 a0 b0)) ∧ (∀ (y1 y2 y3 : Int), (((20 - y3) * 1) + 0).toNat ≤ n → 0 ≤ y3 → y3 ≤ 19 → y3 < a0 146 49 → a0 181 (y3.toNat) = 1 → a0 182 (y3.toNat) = x1 → y1 = x1 → jt (jxX E d 276 30 [some (.inr (.inr (.inl 146))), some (.inl y1), some (.inl y2), some (.inl y3)] [] (jxSH, a0, b0)) (jQ_X12_offerIn x1 x2 a0 b0)) ∧ (∀ (y1 y2 y3 : Int), (((20 - y3) * 1) + 0).toNat ≤ n → 0 ≤ y3 → y3 ≤ 20 → y1 = x1 → jt (jxX E d 276 2 [some (.inr (.inr (.inl 146))), some (.inl y1), some (.inl y2), some (.inl y3)] [] (jxSH, a0, b0)) (jQ_X12_offerIn x1 x2 a0 b0)) := by
  refine jx_ind fun n ih => ?_
  have ih42 : ∀ (y1 y2 y3 : Int), (((20 - y3) * 1) + 0).toNat < n → 0 ≤ y3 → y3 ≤ 19 → y1 = x1 → jt (jxX E d 276 42 [some (.inr (.inr (.inl 146))), some (.inl y1), some (.inl y2), some (.inl y3)] [] (jxSH, a0, b0)) (jQ_X12_offerIn x1 x2 a0 b0) := fun y1 y2 y3 hlt i0 i1 i2 => (ih _ hlt).1 y1 y2 y3 (Nat.le_refl _) i0 i1 i2
  have ih30 : ∀ (y1 y2 y3 : Int), (((20 - y3) * 1) + 0).toNat < n → 0 ≤ y3 → y3 ≤ 19 → y3 < a0 146 49 → a0 181 (y3.toNat) = 1 → a0 182 (y3.toNat) = x1 → y1 = x1 → jt (jxX E d 276 30 [some (.inr (.inr (.inl 146))), some (.inl y1), some (.inl y2), some (.inl y3)] [] (jxSH, a0, b0)) (jQ_X12_offerIn x1 x2 a0 b0) := fun y1 y2 y3 hlt i0 i1 i2 i3 i4 i5 => (ih _ hlt).2.1 y1 y2 y3 (Nat.le_refl _) i0 i1 i2 i3 i4 i5
  have ih2 : ∀ (y1 y2 y3 : Int), (((20 - y3) * 1) + 0).toNat < n → 0 ≤ y3 → y3 ≤ 20 → y1 = x1 → jt (jxX E d 276 2 [some (.inr (.inr (.inl 146))), some (.inl y1), some (.inl y2), some (.inl y3)] [] (jxSH, a0, b0)) (jQ_X12_offerIn x1 x2 a0 b0) := fun y1 y2 y3 hlt i0 i1 i2 => (ih _ hlt).2.2 y1 y2 y3 (Nat.le_refl _) i0 i1 i2
  have hc42 : ∀ (y1 y2 y3 : Int), (((20 - y3) * 1) + 0).toNat ≤ n → 0 ≤ y3 → y3 ≤ 19 → y1 = x1 → jt (jxX E d 276 42 [some (.inr (.inr (.inl 146))), some (.inl y1), some (.inl y2), some (.inl y3)] [] (jxSH, a0, b0)) (jQ_X12_offerIn x1 x2 a0 b0) := by
    intro y1 y2 y3 hm hi0 hi1 hi2
    refine jt_eq (bq_X12_offerIn_42 E d y1 y2 y3 a0 b0) ?_
    have h493_ : jxw (y3 + 1) = y3 + 1 := jxw_id (by omega) (by omega)
    exact ih2 y1 y2 (jxw (y3 + 1)) (show (((20 - (jxw (y3 + 1))) * 1) + 0).toNat < n from by omega) (show 0 ≤ jxw (y3 + 1) from by omega) (show jxw (y3 + 1) ≤ 20 from by omega) (show y1 = x1 from by omega)
  have hc30 : ∀ (y1 y2 y3 : Int), (((20 - y3) * 1) + 0).toNat ≤ n → 0 ≤ y3 → y3 ≤ 19 → y3 < a0 146 49 → a0 181 (y3.toNat) = 1 → a0 182 (y3.toNat) = x1 → y1 = x1 → jt (jxX E d 276 30 [some (.inr (.inr (.inl 146))), some (.inl y1), some (.inl y2), some (.inl y3)] [] (jxSH, a0, b0)) (jQ_X12_offerIn x1 x2 a0 b0) := by
    intro y1 y2 y3 hm hi0 hi1 hi2 hi3 hi4 hi5
    refine jt_eq (bq_X12_offerIn_30 E d y1 y2 y3 a0 b0) ?_
    have h494_ := iv_get hv0 (k := 146) (j := 49) (l := 0) (u := 20) rfl
    have h495_ := iv_get hv0 (k := 181) (j := y3.toNat) (l := 0) (u := 2) rfl
    refine jt_grd (by omega) ?_
    have h496_ := iv_get hv0 (k := 178) (j := y3.toNat) (l := 0) (u := 39) rfl
    refine jt_ite (fun c497_ => ?_) (fun c497_ => ?_)
    ·
      exact jt_rI ⟨rfl, rfl, (show 0 - 1 ≤ y3 from by omega), (show y3 ≤ 19 from by omega), (show y3 < a0 146 49 from by omega), (show (0 ≤ y3 → (a0 181 (y3.toNat) = 1 ∧ a0 182 (y3.toNat) = x1)) from by omega)⟩
    ·
      exact hc42 y1 y2 y3 (show (((20 - y3) * 1) + 0).toNat ≤ n from by omega) (show 0 ≤ y3 from by omega) (show y3 ≤ 19 from by omega) (show y1 = x1 from by omega)
  have hc2 : ∀ (y1 y2 y3 : Int), (((20 - y3) * 1) + 0).toNat ≤ n → 0 ≤ y3 → y3 ≤ 20 → y1 = x1 → jt (jxX E d 276 2 [some (.inr (.inr (.inl 146))), some (.inl y1), some (.inl y2), some (.inl y3)] [] (jxSH, a0, b0)) (jQ_X12_offerIn x1 x2 a0 b0) := by
    intro y1 y2 y3 hm hi0 hi1 hi2
    refine jt_eq (bq_X12_offerIn_2 E d y1 y2 y3 a0 b0) ?_
    have h498_ := iv_get hv0 (k := 146) (j := 49) (l := 0) (u := 20) rfl
    refine jt_ite (fun c499_ => ?_) (fun c499_ => ?_)
    ·
      refine jt_grd (by omega) ?_
      have h500_ := iv_get hv0 (k := 181) (j := y3.toNat) (l := 0) (u := 2) rfl
      refine jt_ite (fun c501_ => ?_) (fun c501_ => ?_)
      ·
        refine jt_grd (by omega) ?_
        refine jt_ite (fun c502_ => ?_) (fun c502_ => ?_)
        ·
          exact hc30 y1 y2 y3 (show (((20 - y3) * 1) + 0).toNat ≤ n from by omega) (show 0 ≤ y3 from by omega) (show y3 ≤ 19 from by omega) (show y3 < a0 146 49 from by omega) (show a0 181 (y3.toNat) = 1 from by omega) (show a0 182 (y3.toNat) = x1 from by omega) (show y1 = x1 from by omega)
        ·
          exact hc42 y1 y2 y3 (show (((20 - y3) * 1) + 0).toNat ≤ n from by omega) (show 0 ≤ y3 from by omega) (show y3 ≤ 19 from by omega) (show y1 = x1 from by omega)
      ·
        exact hc42 y1 y2 y3 (show (((20 - y3) * 1) + 0).toNat ≤ n from by omega) (show 0 ≤ y3 from by omega) (show y3 ≤ 19 from by omega) (show y1 = x1 from by omega)
    ·
      have h503_ := iv_get hv0 (k := 181) (j := (-1 : Int).toNat) (l := 0) (u := 2) rfl
      exact jt_rI ⟨rfl, rfl, (show 0 - 1 ≤ (-1) from by omega), (show (-1) ≤ 19 from by omega), (show (-1) < a0 146 49 from by omega), (show (0 ≤ (-1) → (a0 181 ((-1 : Int).toNat) = 1 ∧ a0 182 ((-1 : Int).toNat) = x1)) from by omega)⟩
  exact ⟨hc42, hc30, hc2⟩
theorem sp_X12_offerIn (E : jxE) (d : Nat) (hd : Nat.ble 1 d = true) (x1 x2 : Int) (a0 b0 : Nat → Nat → Int) (hv0 : iv a0) : jt (jxC E d 276 [.inr (.inr (.inl 146)), .inl x1, .inl x2] (jxSH, a0, b0)) (jQ_X12_offerIn x1 x2 a0 b0) := by
  obtain ⟨d, rfl⟩ := jd_succ hd
  refine jt_eq (bq_X12_offerIn E d x1 x2 a0 b0) ?_
  exact (cp_X12_offerIn_2 E d hd x1 x2 a0 b0 hv0 _).2.2 x1 x2 0 (Nat.le_refl _) (show 0 ≤ 0 from by omega) (show 0 ≤ 20 from by omega) (show x1 = x1 from by omega)
def jW_X12_end : List (Nat × Nat) := [(146, 22)]
abbrev jQ_X12_end (x1 : Int) (a0 b0 : Nat → Nat → Int) : List jxV → (Nat → Nat → Int) → (Nat → Nat → Int) → Prop := rI (fun r a b => (iv a) ∧ (jfr jW_X12_end a0 a) ∧ (b0 = b) ∧ (((((0 ≤ x1 ∧ x1 ≤ a0 146 22) ∧ r = x1) ∧ a 146 22 = x1) ∨ (((x1 < 0 ∨ a0 146 22 < x1) ∧ r = 0 - 1) ∧ a 146 22 = a0 146 22))))
theorem sp_X12_end (E : jxE) (d : Nat) (hd : Nat.ble 1 d = true) (x1 : Int) (a0 b0 : Nat → Nat → Int) (hv0 : iv a0) : jt (jxC E d 213 [.inr (.inr (.inl 146)), .inl x1] (jxSH, a0, b0)) (jQ_X12_end x1 a0 b0) := by
  obtain ⟨d, rfl⟩ := jd_succ hd
  refine jt_eq (bq_X12_end E d x1 a0 b0) ?_
  refine jt_ite (fun c504_ => ?_) (fun c504_ => ?_)
  ·
    have h505_ := iv_get hv0 (k := 146) (j := 22) (l := 0) (u := 200) rfl
    exact jt_rI ⟨hv0, (jfr_rf _ _), rfl, (show ((((0 ≤ x1 ∧ x1 ≤ a0 146 22) ∧ (-1) = x1) ∧ a0 146 22 = x1) ∨ (((x1 < 0 ∨ a0 146 22 < x1) ∧ (-1) = 0 - 1) ∧ a0 146 22 = a0 146 22)) from by omega)⟩
  ·
    have h506_ := iv_get hv0 (k := 146) (j := 22) (l := 0) (u := 200) rfl
    refine jt_ite (fun c507_ => ?_) (fun c507_ => ?_)
    ·
      exact jt_rI ⟨hv0, (jfr_rf _ _), rfl, (show ((((0 ≤ x1 ∧ x1 ≤ a0 146 22) ∧ (-1) = x1) ∧ a0 146 22 = x1) ∨ (((x1 < 0 ∨ a0 146 22 < x1) ∧ (-1) = 0 - 1) ∧ a0 146 22 = a0 146 22)) from by omega)⟩
    ·
      have hv508_ : iv (jxu a0 146 22 x1) := iv_put hv0 (l := 0) (u := 200) rfl (by omega) (by omega)
      have hf509_ : jfr jW_X12_end a0 (jxu a0 146 22 x1) := jfr_put (jfr_rf _ _) rfl
      exact jt_rI ⟨hv508_, hf509_, rfl, (show ((((0 ≤ x1 ∧ x1 ≤ a0 146 22) ∧ x1 = x1) ∧ x1 = x1) ∨ (((x1 < 0 ∨ a0 146 22 < x1) ∧ x1 = 0 - 1) ∧ x1 = a0 146 22)) from by omega)⟩
def jWe_X12_far : List (Nat × Nat) := []
def jW_X12_far : List (Nat × Nat) := [(147, 9999)]
abbrev jQ_X12_far (x1 x2 x3 : Int) (a0 b0 : Nat → Nat → Int) : List jxV → (Nat → Nat → Int) → (Nat → Nat → Int) → Prop := rI (fun r a b => (iv a) ∧ (jfr jW_X12_far a0 a) ∧ (b0 = b) ∧ (FarP (a0 147) (a 147) x1 x2 x3 r))
theorem cp_X12_far_29 (E : jxE) (d : Nat) (hd : Nat.ble 3 (d + 1) = true) (x1 x2 x3 : Int) (a0 b0 : Nat → Nat → Int) (hv0 : iv a0) : ∀ (a : Nat → Nat → Int), iv a → jfr jW_X12_far a0 a → ((((((x1 < 0 ∨ 15 < x1) ∨ x2 < 0) ∨ 15 < x2) ∨ x1 = x2) ∨ x3 < 0) ∨ 99 < x3) → (jfr jWe_X12_far a0 a) → jt (jxX E d 209 29 [none, none, none, none, none] [] (jxSH, a, b0)) (jQ_X12_far x1 x2 x3 a0 b0) := by
  intro a hv hf hi0 hfe
  refine jt_eq (bq_X12_far_29 E d a b0) ?_
  exact jt_rI ⟨hv, hf, rfl, (Or.inr ⟨by omega, rfl, fun j => hfe 147 j rfl⟩)⟩
theorem cp_X12_far_56 (E : jxE) (d : Nat) (hd : Nat.ble 3 (d + 1) = true) (x1 x2 x3 : Int) (a0 b0 : Nat → Nat → Int) (hv0 : iv a0) : ∀ (y1 y2 y3 y4 : Int) (a : Nat → Nat → Int), iv a → jfr jW_X12_far a0 a → 0 ≤ y1 → y1 ≤ 15 → 0 ≤ y2 → y2 ≤ 15 → 0 ≤ y3 → y3 ≤ 99 → 0 ≤ y4 → y4 ≤ 99 → y1 = x1 → y2 = x2 → y3 = x3 → ((((((0 ≤ x1 ∧ x1 ≤ 15) ∧ 0 ≤ x2) ∧ x2 ≤ 15) ∧ ¬ x1 = x2) ∧ 0 ≤ x3) ∧ x3 ≤ 99) → (∀ j, a 147 j = if j = (16 * x1 + x2).toNat then x3 else a0 147 j) → (y4 = a0 147 (16 * x1 + x2).toNat) → jt (jxX E d 209 56 [some (.inr (.inr (.inl 146))), some (.inl y1), some (.inl y2), some (.inl y3), some (.inl y4)] [] (jxSH, a, b0)) (jQ_X12_far x1 x2 x3 a0 b0) := by
  intro y1 y2 y3 y4 a hv hf hi0 hi1 hi2 hi3 hi4 hi5 hi6 hi7 hi8 hi9 hi10 hi11 hf56 hy4
  refine jt_eq (bq_X12_far_56 E d y1 y2 y3 y4 a b0) ?_
  have hix2 : (jxw ((jxw (16 * y2)) + y1)).toNat = (16 * x2 + x1).toNat := by rw [jxw_id (x := 16 * y2) (by omega) (by omega), jxw_id (by omega) (by omega)]; omega
  have h510_ : jxw (16 * y2) = 16 * y2 := jxw_id (by omega) (by omega)
  have h511_ : jxw ((jxw (16 * y2)) + y1) = (jxw (16 * y2)) + y1 := jxw_id (by omega) (by omega)
  refine jt_grd (by omega) ?_
  have hv512_ : iv (jxu a 147 ((jxw ((jxw (16 * y2)) + y1)).toNat) y3) := iv_put hv (l := 0) (u := 99) rfl (by omega) (by omega)
  have hf513_ : jfr jW_X12_far a0 (jxu a 147 ((jxw ((jxw (16 * y2)) + y1)).toNat) y3) := jfr_put hf rfl
  exact jt_rI ⟨hv512_, hf513_, rfl, (Or.inl ⟨by omega, by omega, by omega, by omega, by omega, by omega, by omega, hy4, fun j => by rw [hix2]; simp only [jxu]; rw [hf56 j, show y3 = x3 from (by omega)]; simp⟩)⟩
theorem cp_X12_far_31 (E : jxE) (d : Nat) (hd : Nat.ble 3 (d + 1) = true) (x1 x2 x3 : Int) (a0 b0 : Nat → Nat → Int) (hv0 : iv a0) : ∀ (y1 y2 y3 : Int) (a : Nat → Nat → Int), iv a → jfr jW_X12_far a0 a → 0 ≤ y1 → y1 ≤ 15 → 0 ≤ y2 → y2 ≤ 15 → 0 ≤ y3 → y3 ≤ 99 → y1 = x1 → y2 = x2 → y3 = x3 → ((((((0 ≤ x1 ∧ x1 ≤ 15) ∧ 0 ≤ x2) ∧ x2 ≤ 15) ∧ ¬ x1 = x2) ∧ 0 ≤ x3) ∧ x3 ≤ 99) → (jfr jWe_X12_far a0 a) → jt (jxX E d 209 31 [some (.inr (.inr (.inl 146))), some (.inl y1), some (.inl y2), some (.inl y3), none] [] (jxSH, a, b0)) (jQ_X12_far x1 x2 x3 a0 b0) := by
  intro y1 y2 y3 a hv hf hi0 hi1 hi2 hi3 hi4 hi5 hi6 hi7 hi8 hi9 hfe
  refine jt_eq (bq_X12_far_31 E d y1 y2 y3 a b0) ?_
  have hix : (jxw ((jxw (16 * y1)) + y2)).toNat = (16 * x1 + x2).toNat := by rw [jxw_id (x := 16 * y1) (by omega) (by omega), jxw_id (by omega) (by omega)]; omega
  have h514_ : jxw (16 * y1) = 16 * y1 := jxw_id (by omega) (by omega)
  have h515_ : jxw ((jxw (16 * y1)) + y2) = (jxw (16 * y1)) + y2 := jxw_id (by omega) (by omega)
  refine jt_grd (by omega) ?_
  refine jt_grd (by omega) ?_
  have hv516_ : iv (jxu a 147 ((jxw ((jxw (16 * y1)) + y2)).toNat) y3) := iv_put hv (l := 0) (u := 99) rfl (by omega) (by omega)
  have hf517_ : jfr jW_X12_far a0 (jxu a 147 ((jxw ((jxw (16 * y1)) + y2)).toNat) y3) := jfr_put hf rfl
  have h518_ := iv_get hv (k := 147) (j := (jxw ((jxw (16 * y1)) + y2)).toNat) (l := 0) (u := 99) rfl
  exact cp_X12_far_56 E d hd x1 x2 x3 a0 b0 hv0 y1 y2 y3 (a 147 ((jxw ((jxw (16 * y1)) + y2)).toNat)) (jxu a 147 ((jxw ((jxw (16 * y1)) + y2)).toNat) y3) hv516_ hf517_ (show 0 ≤ y1 from by omega) (show y1 ≤ 15 from by omega) (show 0 ≤ y2 from by omega) (show y2 ≤ 15 from by omega) (show 0 ≤ y3 from by omega) (show y3 ≤ 99 from by omega) (show 0 ≤ a 147 ((jxw ((jxw (16 * y1)) + y2)).toNat) from by omega) (show a 147 ((jxw ((jxw (16 * y1)) + y2)).toNat) ≤ 99 from by omega) (show y1 = x1 from by omega) (show y2 = x2 from by omega) (show y3 = x3 from by omega) (show ((((((0 ≤ x1 ∧ x1 ≤ 15) ∧ 0 ≤ x2) ∧ x2 ≤ 15) ∧ ¬ x1 = x2) ∧ 0 ≤ x3) ∧ x3 ≤ 99) from by omega) (by intro j; rw [hix]; simp only [jxu]; rw [hfe 147 j rfl, show y3 = x3 from (by omega)]; simp) (by rw [hix]; exact hfe 147 _ rfl)
theorem sp_X12_far (E : jxE) (d : Nat) (hd : Nat.ble 3 d = true) (x1 x2 x3 : Int) (a0 b0 : Nat → Nat → Int) (hv0 : iv a0) : jt (jxC E d 209 [.inr (.inr (.inl 146)), .inl x1, .inl x2, .inl x3] (jxSH, a0, b0)) (jQ_X12_far x1 x2 x3 a0 b0) := by
  obtain ⟨d, rfl⟩ := jd_succ hd
  refine jt_eq (bq_X12_far E d x1 x2 x3 a0 b0) ?_
  refine jt_eI (eq_X12_isLand E d (jd_le hd rfl) x1 a0 b0) ?_
  have h519_ := f_X12_isLand_eq a0 b0 x1
  have h520_ := f_X12_in_eq a0 b0 x1 0 15
  refine jt_ite (fun c521_ => ?_) (fun c521_ => ?_)
  ·
    exact cp_X12_far_29 E d hd x1 x2 x3 a0 b0 hv0 a0 hv0 (jfr_rf _ _) (show ((((((x1 < 0 ∨ 15 < x1) ∨ x2 < 0) ∨ 15 < x2) ∨ x1 = x2) ∨ x3 < 0) ∨ 99 < x3) from by omega) (jfr_rf _ _)
  ·
    refine jt_eI (eq_X12_isLand E d (jd_le hd rfl) x2 a0 b0) ?_
    have h522_ := f_X12_isLand_eq a0 b0 x2
    have h523_ := f_X12_in_eq a0 b0 x2 0 15
    refine jt_ite (fun c524_ => ?_) (fun c524_ => ?_)
    ·
      exact cp_X12_far_29 E d hd x1 x2 x3 a0 b0 hv0 a0 hv0 (jfr_rf _ _) (show ((((((x1 < 0 ∨ 15 < x1) ∨ x2 < 0) ∨ 15 < x2) ∨ x1 = x2) ∨ x3 < 0) ∨ 99 < x3) from by omega) (jfr_rf _ _)
    ·
      refine jt_ite (fun c525_ => ?_) (fun c525_ => ?_)
      ·
        exact cp_X12_far_29 E d hd x1 x2 x3 a0 b0 hv0 a0 hv0 (jfr_rf _ _) (show ((((((x1 < 0 ∨ 15 < x1) ∨ x2 < 0) ∨ 15 < x2) ∨ x1 = x2) ∨ x3 < 0) ∨ 99 < x3) from by omega) (jfr_rf _ _)
      ·
        refine jt_eI (eq_X12_in E d (jd_le hd rfl) x3 0 99 a0 b0) ?_
        have h526_ := f_X12_in_eq a0 b0 x3 0 99
        refine jt_ite (fun c527_ => ?_) (fun c527_ => ?_)
        ·
          exact cp_X12_far_29 E d hd x1 x2 x3 a0 b0 hv0 a0 hv0 (jfr_rf _ _) (show ((((((x1 < 0 ∨ 15 < x1) ∨ x2 < 0) ∨ 15 < x2) ∨ x1 = x2) ∨ x3 < 0) ∨ 99 < x3) from by omega) (jfr_rf _ _)
        ·
          exact cp_X12_far_31 E d hd x1 x2 x3 a0 b0 hv0 x1 x2 x3 a0 hv0 (jfr_rf _ _) (show 0 ≤ x1 from by omega) (show x1 ≤ 15 from by omega) (show 0 ≤ x2 from by omega) (show x2 ≤ 15 from by omega) (show 0 ≤ x3 from by omega) (show x3 ≤ 99 from by omega) (show x1 = x1 from by omega) (show x2 = x2 from by omega) (show x3 = x3 from by omega) (show ((((((0 ≤ x1 ∧ x1 ≤ 15) ∧ 0 ≤ x2) ∧ x2 ≤ 15) ∧ ¬ x1 = x2) ∧ 0 ≤ x3) ∧ x3 ≤ 99) from by omega) (jfr_rf _ _)
def jW_X12_four : List (Nat × Nat) := [(146, 22), (164, 9999)]
abbrev jQ_X12_four (x1 : Int) (a0 b0 : Nat → Nat → Int) : List jxV → (Nat → Nat → Int) → (Nat → Nat → Int) → Prop := rV (fun a b => (iv a) ∧ (jfr jW_X12_four a0 a) ∧ (b0 = b) ∧ (a 146 22 = (a0 146 22) + 4) ∧ (APP (UB (a0 164)) (UB (a 164)) (a0 146 22) x1 (a0 146 22 + 4)))
theorem cp_X12_four_3 (E : jxE) (d : Nat) (hd : Nat.ble 1 (d + 1) = true) (x1 : Int) (a0 b0 : Nat → Nat → Int) (hv0 : iv a0) (hp0 : a0 146 22 ≤ 196) : ∀ n : Nat, (∀ (y1 y2 : Int) (a : Nat → Nat → Int), (((y2 + 8) * 1) + 0).toNat ≤ n → iv a → jfr jW_X12_four a0 a → 0 ≤ y2 → y2 ≤ 24 → (8 * (a 146 22)) + y2 = (8 * (a0 146 22)) + 32 → (y1 = x1) → (APP (UB (a0 164)) (UB (a 164)) (a0 146 22) x1 (a 146 22)) → jt (jxX E d 211 30 [some (.inr (.inr (.inl 146))), some (.inl y1), some (.inl y2)] [] (jxSH, a, b0)) (jQ_X12_four x1 a0 b0)) ∧ (∀ (y1 y2 : Int) (a : Nat → Nat → Int), (((y2 + 8) * 1) + 0).toNat ≤ n → iv a → jfr jW_X12_four a0 a → 0 - 8 ≤ y2 → y2 ≤ 24 → (8 * (a 146 22)) + y2 = (8 * (a0 146 22)) + 24 → (y1 = x1) → (APP (UB (a0 164)) (UB (a 164)) (a0 146 22) x1 (a 146 22)) → jt (jxX E d 211 3 [some (.inr (.inr (.inl 146))), some (.inl y1), some (.inl y2)] [] (jxSH, a, b0)) (jQ_X12_four x1 a0 b0)) := by
  refine jx_ind fun n ih => ?_
  have ih30 : ∀ (y1 y2 : Int) (a : Nat → Nat → Int), (((y2 + 8) * 1) + 0).toNat < n → iv a → jfr jW_X12_four a0 a → 0 ≤ y2 → y2 ≤ 24 → (8 * (a 146 22)) + y2 = (8 * (a0 146 22)) + 32 → (y1 = x1) → (APP (UB (a0 164)) (UB (a 164)) (a0 146 22) x1 (a 146 22)) → jt (jxX E d 211 30 [some (.inr (.inr (.inl 146))), some (.inl y1), some (.inl y2)] [] (jxSH, a, b0)) (jQ_X12_four x1 a0 b0) := fun y1 y2 a hlt i0 i1 i2 i3 i4 i5 i6 => (ih _ hlt).1 y1 y2 a (Nat.le_refl _) i0 i1 i2 i3 i4 i5 i6
  have ih3 : ∀ (y1 y2 : Int) (a : Nat → Nat → Int), (((y2 + 8) * 1) + 0).toNat < n → iv a → jfr jW_X12_four a0 a → 0 - 8 ≤ y2 → y2 ≤ 24 → (8 * (a 146 22)) + y2 = (8 * (a0 146 22)) + 24 → (y1 = x1) → (APP (UB (a0 164)) (UB (a 164)) (a0 146 22) x1 (a 146 22)) → jt (jxX E d 211 3 [some (.inr (.inr (.inl 146))), some (.inl y1), some (.inl y2)] [] (jxSH, a, b0)) (jQ_X12_four x1 a0 b0) := fun y1 y2 a hlt i0 i1 i2 i3 i4 i5 i6 => (ih _ hlt).2 y1 y2 a (Nat.le_refl _) i0 i1 i2 i3 i4 i5 i6
  have hc30 : ∀ (y1 y2 : Int) (a : Nat → Nat → Int), (((y2 + 8) * 1) + 0).toNat ≤ n → iv a → jfr jW_X12_four a0 a → 0 ≤ y2 → y2 ≤ 24 → (8 * (a 146 22)) + y2 = (8 * (a0 146 22)) + 32 → (y1 = x1) → (APP (UB (a0 164)) (UB (a 164)) (a0 146 22) x1 (a 146 22)) → jt (jxX E d 211 30 [some (.inr (.inr (.inl 146))), some (.inl y1), some (.inl y2)] [] (jxSH, a, b0)) (jQ_X12_four x1 a0 b0) := by
    intro y1 y2 a hm hv hf hi0 hi1 hi2 hy1 hap
    refine jt_eq (bq_X12_four_30 E d y1 y2 a b0) ?_
    have h528_ := iv_get hv (k := 146) (j := 22) (l := 0) (u := 200) rfl
    have h529_ := iv_get hv0 (k := 146) (j := 22) (l := 0) (u := 200) rfl
    have h530_ : jxw (y2 + (-8)) = y2 + (-8) := jxw_id (by omega) (by omega)
    exact ih3 y1 (jxw (y2 + (-8))) a (show ((((jxw (y2 + (-8))) + 8) * 1) + 0).toNat < n from by omega) hv hf (show 0 - 8 ≤ jxw (y2 + (-8)) from by omega) (show jxw (y2 + (-8)) ≤ 24 from by omega) (show (8 * (a 146 22)) + (jxw (y2 + (-8))) = (8 * (a0 146 22)) + 24 from by omega) (by first | rfl | assumption) hap
  have hc3 : ∀ (y1 y2 : Int) (a : Nat → Nat → Int), (((y2 + 8) * 1) + 0).toNat ≤ n → iv a → jfr jW_X12_four a0 a → 0 - 8 ≤ y2 → y2 ≤ 24 → (8 * (a 146 22)) + y2 = (8 * (a0 146 22)) + 24 → (y1 = x1) → (APP (UB (a0 164)) (UB (a 164)) (a0 146 22) x1 (a 146 22)) → jt (jxX E d 211 3 [some (.inr (.inr (.inl 146))), some (.inl y1), some (.inl y2)] [] (jxSH, a, b0)) (jQ_X12_four x1 a0 b0) := by
    intro y1 y2 a hm hv hf hi0 hi1 hi2 hy1 hap
    refine jt_eq (bq_X12_four_3 E d y1 y2 a b0) ?_
    have h531_ := iv_get hv (k := 146) (j := 22) (l := 0) (u := 200) rfl
    have h532_ := iv_get hv0 (k := 146) (j := 22) (l := 0) (u := 200) rfl
    refine jt_ite (fun c533_ => ?_) (fun c533_ => ?_)
    ·
      exact jt_rV ⟨hv, hf, rfl, (show a 146 22 = (a0 146 22) + 4 from by omega), (by rw [show a0 146 22 + 4 = a 146 22 from by omega]; exact hap)⟩
    ·
      refine jt_grd (by omega) ?_
      have h534_ := jxshr_b y1 y2
      have h535_ := jxi2b_b (jxshr y1 y2)
      refine jt_grd (by omega) ?_
      have hv536_ : iv (jxu a 164 ((a 146 22).toNat) (jxi2b (jxshr y1 y2))) := iv_put hv (l := (-128)) (u := 127) rfl (by omega) (by omega)
      have h538_ : jxw ((a 146 22) + 1) = (a 146 22) + 1 := jxw_id (by omega) (by omega)
      have hv537_ : iv (jxu (jxu a 164 ((a 146 22).toNat) (jxi2b (jxshr y1 y2))) 146 22 (jxw ((a 146 22) + 1))) := iv_put hv536_ (l := 0) (u := 200) rfl (by omega) (by omega)
      have hf539_ : jfr jW_X12_four a0 (jxu a 164 ((a 146 22).toNat) (jxi2b (jxshr y1 y2))) := jfr_put hf rfl
      have hf540_ : jfr jW_X12_four a0 (jxu (jxu a 164 ((a 146 22).toNat) (jxi2b (jxshr y1 y2))) 146 22 (jxw ((a 146 22) + 1))) := jfr_put hf539_ rfl
      exact hc30 y1 y2 (jxu (jxu a 164 ((a 146 22).toNat) (jxi2b (jxshr y1 y2))) 146 22 (jxw ((a 146 22) + 1))) (show (((y2 + 8) * 1) + 0).toNat ≤ n from by omega) hv537_ hf540_ (show 0 ≤ y2 from by omega) (show y2 ≤ 24 from by omega) (show (8 * (jxw ((a 146 22) + 1))) + y2 = (8 * (a0 146 22)) + 32 from by omega) (by first | rfl | assumption) (by rw [show jxu (jxu a 164 ((a 146 22).toNat) (jxi2b (jxshr y1 y2))) 146 22 (jxw ((a 146 22) + 1)) 146 22 = a 146 22 + 1 from (show jxw ((a 146 22) + 1) = _ from by omega)]; exact APP_s (s := y2) hap (UP_UB (UP_put (fun _ => rfl)) (i2b_and _)) (by omega) (by omega) (by omega) (by rw [← hy1]))
  exact ⟨hc30, hc3⟩
theorem sp_X12_four (E : jxE) (d : Nat) (hd : Nat.ble 1 d = true) (x1 : Int) (a0 b0 : Nat → Nat → Int) (hv0 : iv a0) (hp0 : a0 146 22 ≤ 196) : jt (jxC E d 211 [.inr (.inr (.inl 146)), .inl x1] (jxSH, a0, b0)) (jQ_X12_four x1 a0 b0) := by
  obtain ⟨d, rfl⟩ := jd_succ hd
  refine jt_eq (bq_X12_four E d x1 a0 b0) ?_
  have h541_ := iv_get hv0 (k := 146) (j := 22) (l := 0) (u := 200) rfl
  exact (cp_X12_four_3 E d hd x1 a0 b0 hv0 hp0 _).2 x1 24 a0 (Nat.le_refl _) hv0 (jfr_rf _ _) (show 0 - 8 ≤ 24 from by omega) (show 24 ≤ 24 from by omega) (show (8 * (a0 146 22)) + 24 = (8 * (a0 146 22)) + 24 from by omega) (by first | rfl | assumption) (APP_0 _ _ _)
def jW_X12_feed : List (Nat × Nat) := [(146, 22), (164, 9999)]
abbrev jQ_X12_feed (x1 x2 x3 x4 x5 : Int) (a0 b0 : Nat → Nat → Int) : List jxV → (Nat → Nat → Int) → (Nat → Nat → Int) → Prop := rI (fun r a b => (iv a) ∧ (jfr jW_X12_feed a0 a) ∧ (b0 = b) ∧ ((((a0 146 22 ≤ 180 ∧ r = (a0 146 22) + 20) ∧ a 146 22 = (a0 146 22) + 20) ∨ ((180 < a0 146 22 ∧ r = 0 - 1) ∧ a 146 22 = a0 146 22))) ∧ (a0 146 22 ≤ 180 → FED (UB (a0 164)) (UB (a 164)) (a0 146 22) x1 x2 x3 x4 x5) ∧ (180 < a0 146 22 → ∀ j, a 164 j = a0 164 j))
theorem cp_X12_feed_30 (E : jxE) (d : Nat) (hd : Nat.ble 2 (d + 1) = true) (x1 x2 x3 x4 x5 : Int) (a0 b0 : Nat → Nat → Int) (hv0 : iv a0) : ∀ (y4 y5 : Int) (a : Nat → Nat → Int), iv a → jfr jW_X12_feed a0 a → a 146 22 = (a0 146 22) + 12 → a0 146 22 ≤ 180 → (∃ g1 g2 : Nat → Int, APP (UB (a0 164)) g1 (a0 146 22) x1 ((a0 146 22) + 4) ∧ APP g1 g2 ((a0 146 22) + 4) x2 ((a0 146 22) + 8) ∧ APP g2 (UB (a 164)) ((a0 146 22) + 8) x3 ((a0 146 22) + 12)) → (y4 = x4) → (y5 = x5) → jt (jxX E d 212 30 [some (.inr (.inr (.inl 146))), none, none, none, some (.inl y4), some (.inl y5)] [] (jxSH, a, b0)) (jQ_X12_feed x1 x2 x3 x4 x5 a0 b0) := by
  intro y4 y5 a hv hf hi0 hi1 hfd hy4 hy5
  refine jt_eq (bq_X12_feed_30 E d y4 y5 a b0) ?_
  have h542_ := iv_get hv (k := 146) (j := 22) (l := 0) (u := 200) rfl
  have h543_ := iv_get hv0 (k := 146) (j := 22) (l := 0) (u := 200) rfl
  refine jt_bV (sp_X12_four E d (jd_le hd rfl) y4 a b0 hv (show a 146 22 ≤ 196 from by omega)) (fun a544_ b544_ h544_ => ?_)
  obtain ⟨hv544_, hf544_, rfl, hq544_0, hq544_1⟩ := h544_
  have h545_ := iv_get hv544_ (k := 146) (j := 22) (l := 0) (u := 200) rfl
  refine jt_bV (sp_X12_four E d (jd_le hd rfl) y5 a544_ b0 hv544_ (show a544_ 146 22 ≤ 196 from by omega)) (fun a546_ b546_ h546_ => ?_)
  obtain ⟨hv546_, hf546_, rfl, hq546_0, hq546_1⟩ := h546_
  have h547_ := iv_get hv546_ (k := 146) (j := 22) (l := 0) (u := 200) rfl
  have hf548_ : jfr jW_X12_feed a0 a544_ := jfr_tr hf hf544_ rfl
  have hf549_ : jfr jW_X12_feed a0 a546_ := jfr_tr hf548_ hf546_ rfl
  exact jt_rI ⟨hv546_, hf549_, rfl, (show (((a0 146 22 ≤ 180 ∧ a546_ 146 22 = (a0 146 22) + 20) ∧ a546_ 146 22 = (a0 146 22) + 20) ∨ ((180 < a0 146 22 ∧ a546_ 146 22 = 0 - 1) ∧ a546_ 146 22 = a0 146 22)) from by omega), (fun _ => by obtain ⟨g1, g2, p1, p2, p3⟩ := hfd; subst hy4; subst hy5; exact ⟨g1, g2, (UB (a 164)), (UB (a544_ 164)), p1, p2, p3, APP_c (hq544_1) (by omega) (by omega), APP_c (hq546_1) (by omega) (by omega)⟩), (fun h => absurd h (by omega))⟩
theorem sp_X12_feed (E : jxE) (d : Nat) (hd : Nat.ble 2 d = true) (x1 x2 x3 x4 x5 : Int) (a0 b0 : Nat → Nat → Int) (hv0 : iv a0) : jt (jxC E d 212 [.inr (.inr (.inl 146)), .inl x1, .inl x2, .inl x3, .inl x4, .inl x5] (jxSH, a0, b0)) (jQ_X12_feed x1 x2 x3 x4 x5 a0 b0) := by
  obtain ⟨d, rfl⟩ := jd_succ hd
  refine jt_eq (bq_X12_feed E d x1 x2 x3 x4 x5 a0 b0) ?_
  have h550_ := iv_get hv0 (k := 146) (j := 22) (l := 0) (u := 200) rfl
  have h551_ : jxw ((a0 146 22) + 20) = (a0 146 22) + 20 := jxw_id (by omega) (by omega)
  refine jt_ite (fun c552_ => ?_) (fun c552_ => ?_)
  ·
    exact jt_rI ⟨hv0, (jfr_rf _ _), rfl, (show (((a0 146 22 ≤ 180 ∧ (-1) = (a0 146 22) + 20) ∧ a0 146 22 = (a0 146 22) + 20) ∨ ((180 < a0 146 22 ∧ (-1) = 0 - 1) ∧ a0 146 22 = a0 146 22)) from by omega), (fun h => absurd h (by omega)), (fun _ _ => rfl)⟩
  ·
    refine jt_bV (sp_X12_four E d (jd_le hd rfl) x1 a0 b0 hv0 (show a0 146 22 ≤ 196 from by omega)) (fun a553_ b553_ h553_ => ?_)
    obtain ⟨hv553_, hf553_, rfl, hq553_0, hq553_1⟩ := h553_
    have h554_ := iv_get hv553_ (k := 146) (j := 22) (l := 0) (u := 200) rfl
    refine jt_bV (sp_X12_four E d (jd_le hd rfl) x2 a553_ b0 hv553_ (show a553_ 146 22 ≤ 196 from by omega)) (fun a555_ b555_ h555_ => ?_)
    obtain ⟨hv555_, hf555_, rfl, hq555_0, hq555_1⟩ := h555_
    have h556_ := iv_get hv555_ (k := 146) (j := 22) (l := 0) (u := 200) rfl
    refine jt_bV (sp_X12_four E d (jd_le hd rfl) x3 a555_ b0 hv555_ (show a555_ 146 22 ≤ 196 from by omega)) (fun a557_ b557_ h557_ => ?_)
    obtain ⟨hv557_, hf557_, rfl, hq557_0, hq557_1⟩ := h557_
    have h558_ := iv_get hv557_ (k := 146) (j := 22) (l := 0) (u := 200) rfl
    have hf559_ : jfr jW_X12_feed a0 a553_ := jfr_tr (jfr_rf _ _) hf553_ rfl
    have hf560_ : jfr jW_X12_feed a0 a555_ := jfr_tr hf559_ hf555_ rfl
    have hf561_ : jfr jW_X12_feed a0 a557_ := jfr_tr hf560_ hf557_ rfl
    exact cp_X12_feed_30 E d hd x1 x2 x3 x4 x5 a0 b0 hv0 x4 x5 a557_ hv557_ hf561_ (show a557_ 146 22 = (a0 146 22) + 12 from by omega) (show a0 146 22 ≤ 180 from by omega) ⟨_, _, hq553_1, APP_c (hq555_1) (by omega) (by omega), APP_c (hq557_1) (by omega) (by omega)⟩ rfl rfl
def jW_X12_list : List (Nat × Nat) := [(146, 42), (173, 9999)]
abbrev jQ_X12_list (x1 : Int) (a0 b0 : Nat → Nat → Int) : List jxV → (Nat → Nat → Int) → (Nat → Nat → Int) → Prop := rI (fun r a b => (iv a) ∧ (jfr jW_X12_list a0 a) ∧ (b0 = b) ∧ ((a0 146 2 = 0 → r = 0 - 1)))
theorem cp_X12_list_67 (E : jxE) (d : Nat) (hd : Nat.ble 3 (d + 1) = true) (x1 : Int) (a0 b0 : Nat → Nat → Int) (hv0 : iv a0) : ∀ (a : Nat → Nat → Int), iv a → jfr jW_X12_list a0 a → 1 ≤ a 146 42 → 1 ≤ a0 146 2 → jt (jxX E d 252 67 [some (.inr (.inr (.inl 146))), none, none] [] (jxSH, a, b0)) (jQ_X12_list x1 a0 b0) := by
  intro a hv hf hi0 hi1
  refine jt_eq (bq_X12_list_67 E d a b0) ?_
  have h562_ := iv_get hv (k := 146) (j := 42) (l := 0) (u := 8) rfl
  have h563_ := iv_get hv0 (k := 146) (j := 2) (l := 0) (u := 40) rfl
  exact jt_rI ⟨hv, hf, rfl, (show (a0 146 2 = 0 → a 146 42 = 0 - 1) from by omega)⟩
theorem cp_X12_list_21 (E : jxE) (d : Nat) (hd : Nat.ble 3 (d + 1) = true) (x1 : Int) (a0 b0 : Nat → Nat → Int) (hv0 : iv a0) : ∀ n : Nat, (∀ (y1 y2 : Int) (a : Nat → Nat → Int), (((7 - y2) * 1) + 0).toNat ≤ n → iv a → jfr jW_X12_list a0 a → 0 ≤ y1 → y1 ≤ 39 → 0 ≤ y2 → y2 ≤ 7 → a 146 42 ≤ 7 → 1 ≤ a0 146 2 → jt (jxX E d 252 21 [some (.inr (.inr (.inl 146))), some (.inl y1), some (.inl y2)] [] (jxSH, a, b0)) (jQ_X12_list x1 a0 b0)) := by
  refine jx_ind fun n ih => ?_
  have ih21 : ∀ (y1 y2 : Int) (a : Nat → Nat → Int), (((7 - y2) * 1) + 0).toNat < n → iv a → jfr jW_X12_list a0 a → 0 ≤ y1 → y1 ≤ 39 → 0 ≤ y2 → y2 ≤ 7 → a 146 42 ≤ 7 → 1 ≤ a0 146 2 → jt (jxX E d 252 21 [some (.inr (.inr (.inl 146))), some (.inl y1), some (.inl y2)] [] (jxSH, a, b0)) (jQ_X12_list x1 a0 b0) := fun y1 y2 a hlt i0 i1 i2 i3 i4 i5 i6 i7 => (ih _ hlt) y1 y2 a (Nat.le_refl _) i0 i1 i2 i3 i4 i5 i6 i7
  have hc21 : ∀ (y1 y2 : Int) (a : Nat → Nat → Int), (((7 - y2) * 1) + 0).toNat ≤ n → iv a → jfr jW_X12_list a0 a → 0 ≤ y1 → y1 ≤ 39 → 0 ≤ y2 → y2 ≤ 7 → a 146 42 ≤ 7 → 1 ≤ a0 146 2 → jt (jxX E d 252 21 [some (.inr (.inr (.inl 146))), some (.inl y1), some (.inl y2)] [] (jxSH, a, b0)) (jQ_X12_list x1 a0 b0) := by
    intro y1 y2 a hm hv hf hi0 hi1 hi2 hi3 hi4 hi5
    refine jt_eq (bq_X12_list_21 E d y1 y2 a b0) ?_
    have h564_ := iv_get hv (k := 146) (j := 42) (l := 0) (u := 8) rfl
    have h565_ := iv_get hv0 (k := 146) (j := 2) (l := 0) (u := 40) rfl
    refine jt_ite (fun c566_ => ?_) (fun c566_ => ?_)
    ·
      refine jt_grd (by omega) ?_
      have h567_ := iv_get hv (k := 173) (j := y2.toNat) (l := 0) (u := 39) rfl
      refine jt_ite (fun c568_ => ?_) (fun c568_ => ?_)
      ·
        exact jt_rI ⟨hv, hf, rfl, (show (a0 146 2 = 0 → (-1) = 0 - 1) from by omega)⟩
      ·
        have h569_ : jxw (y2 + 1) = y2 + 1 := jxw_id (by omega) (by omega)
        exact ih21 y1 (jxw (y2 + 1)) a (show (((7 - (jxw (y2 + 1))) * 1) + 0).toNat < n from by omega) hv hf (show 0 ≤ y1 from by omega) (show y1 ≤ 39 from by omega) (show 0 ≤ jxw (y2 + 1) from by omega) (show jxw (y2 + 1) ≤ 7 from by omega) (show a 146 42 ≤ 7 from by omega) (show 1 ≤ a0 146 2 from by omega)
    ·
      refine jt_grd (by omega) ?_
      have hv570_ : iv (jxu a 173 ((a 146 42).toNat) y1) := iv_put hv (l := 0) (u := 39) rfl (by omega) (by omega)
      have h572_ : jxw ((a 146 42) + 1) = (a 146 42) + 1 := jxw_id (by omega) (by omega)
      have hv571_ : iv (jxu (jxu a 173 ((a 146 42).toNat) y1) 146 42 (jxw ((a 146 42) + 1))) := iv_put hv570_ (l := 0) (u := 8) rfl (by omega) (by omega)
      have hf573_ : jfr jW_X12_list a0 (jxu a 173 ((a 146 42).toNat) y1) := jfr_put hf rfl
      have hf574_ : jfr jW_X12_list a0 (jxu (jxu a 173 ((a 146 42).toNat) y1) 146 42 (jxw ((a 146 42) + 1))) := jfr_put hf573_ rfl
      exact cp_X12_list_67 E d hd x1 a0 b0 hv0 (jxu (jxu a 173 ((a 146 42).toNat) y1) 146 42 (jxw ((a 146 42) + 1))) hv571_ hf574_ (show 1 ≤ jxw ((a 146 42) + 1) from by omega) (show 1 ≤ a0 146 2 from by omega)
  exact hc21
theorem sp_X12_list (E : jxE) (d : Nat) (hd : Nat.ble 3 d = true) (x1 : Int) (a0 b0 : Nat → Nat → Int) (hv0 : iv a0) : jt (jxC E d 252 [.inr (.inr (.inl 146)), .inl x1] (jxSH, a0, b0)) (jQ_X12_list x1 a0 b0) := by
  obtain ⟨d, rfl⟩ := jd_succ hd
  refine jt_eq (bq_X12_list E d x1 a0 b0) ?_
  refine jt_eI (eq_X12_isMember E d (jd_le hd rfl) x1 a0 b0) ?_
  have h575_ := f_X12_isMember_eq a0 b0 x1
  have h576_ := iv_get hv0 (k := 146) (j := 2) (l := 0) (u := 40) rfl
  have h577_ : jxw ((a0 146 2) - 1) = (a0 146 2) - 1 := jxw_id (by omega) (by omega)
  have h578_ := f_X12_in_eq a0 b0 x1 0 (jxw ((a0 146 2) - 1))
  refine jt_ite (fun c579_ => ?_) (fun c579_ => ?_)
  ·
    exact jt_rI ⟨hv0, (jfr_rf _ _), rfl, (show (a0 146 2 = 0 → (-1) = 0 - 1) from by omega)⟩
  ·
    have h580_ := iv_get hv0 (k := 146) (j := 42) (l := 0) (u := 8) rfl
    refine jt_ite (fun c581_ => ?_) (fun c581_ => ?_)
    ·
      exact jt_rI ⟨hv0, (jfr_rf _ _), rfl, (show (a0 146 2 = 0 → (-1) = 0 - 1) from by omega)⟩
    ·
      exact (cp_X12_list_21 E d hd x1 a0 b0 hv0 _) x1 0 a0 (Nat.le_refl _) hv0 (jfr_rf _ _) (show 0 ≤ x1 from by omega) (show x1 ≤ 39 from by omega) (show 0 ≤ 0 from by omega) (show 0 ≤ 7 from by omega) (show a0 146 42 ≤ 7 from by omega) (show 1 ≤ a0 146 2 from by omega)
def jWeM2 : List (Nat × Nat) := []
def jW_X12_member : List (Nat × Nat) := [(146, 2), (148, 9999), (149, 9999), (150, 9999), (151, 9999), (152, 9999)]
abbrev jQ_X12_member (x1 x2 x3 : Int) (a0 b0 : Nat → Nat → Int) : List jxV → (Nat → Nat → Int) → (Nat → Nat → Int) → Prop := rI (fun r a b => (iv a) ∧ (jfr jW_X12_member a0 a) ∧ (b0 = b) ∧ ((((((((((0 ≤ x1 ∧ x1 ≤ 15) ∧ 0 ≤ x2) ∧ x2 ≤ 65535) ∧ 0 - 1 ≤ x3) ∧ x3 ≤ 19) ∧ a0 146 2 < 40) ∧ r = a0 146 2) ∧ a 146 2 = (a0 146 2) + 1) ∨ ((((((((x1 < 0 ∨ 15 < x1) ∨ x2 < 0) ∨ 65535 < x2) ∨ x3 < 0 - 1) ∨ 19 < x3) ∨ 40 ≤ a0 146 2) ∧ r = 0 - 1) ∧ a 146 2 = a0 146 2))) ∧ (0 ≤ r → MAD a0 a 148 149 150 151 152 r.toNat x1 x2 x3 (a0 146 0)) ∧ (r < 0 → MSA a0 a 148 149 150 151 152))
theorem cp_X12_member_36 (E : jxE) (d : Nat) (hd : Nat.ble 3 (d + 1) = true) (x1 x2 x3 : Int) (a0 b0 : Nat → Nat → Int) (hv0 : iv a0) : ∀ (a : Nat → Nat → Int), iv a → jfr jW_X12_member a0 a → ((((((x1 < 0 ∨ 15 < x1) ∨ x2 < 0) ∨ 65535 < x2) ∨ x3 < 0 - 1) ∨ 19 < x3) ∨ 40 ≤ a 146 2) → a 146 2 = a0 146 2 → (jfr jWeM2 a0 a) → jt (jxX E d 210 36 [none, none, none, none] [] (jxSH, a, b0)) (jQ_X12_member x1 x2 x3 a0 b0) := by
  intro a hv hf hi0 hi1 hfe
  refine jt_eq (bq_X12_member_36 E d a b0) ?_
  have h582_ := iv_get hv (k := 146) (j := 2) (l := 0) (u := 40) rfl
  have h583_ := iv_get hv0 (k := 146) (j := 2) (l := 0) (u := 40) rfl
  exact jt_rI ⟨hv, hf, rfl, (show (((((((((0 ≤ x1 ∧ x1 ≤ 15) ∧ 0 ≤ x2) ∧ x2 ≤ 65535) ∧ 0 - 1 ≤ x3) ∧ x3 ≤ 19) ∧ a0 146 2 < 40) ∧ (-1) = a0 146 2) ∧ a 146 2 = (a0 146 2) + 1) ∨ ((((((((x1 < 0 ∨ 15 < x1) ∨ x2 < 0) ∨ 65535 < x2) ∨ x3 < 0 - 1) ∨ 19 < x3) ∨ 40 ≤ a0 146 2) ∧ (-1) = 0 - 1) ∧ a 146 2 = a0 146 2)) from by omega), (by first | (intro h; exact absurd h (by decide)) | (intro _; rw [show (jxw ((a 146 2) - 1)).toNat = (a0 146 2).toNat from by omega]; exact hmad)), (by first | (intro _; exact MSA_e hfe) | (intro h; exact absurd h (by omega)))⟩
theorem cp_X12_member_101 (E : jxE) (d : Nat) (hd : Nat.ble 3 (d + 1) = true) (x1 x2 x3 : Int) (a0 b0 : Nat → Nat → Int) (hv0 : iv a0) : ∀ (a : Nat → Nat → Int), iv a → jfr jW_X12_member a0 a → 1 ≤ a 146 2 → (((((0 ≤ x1 ∧ x1 ≤ 15) ∧ 0 ≤ x2) ∧ x2 ≤ 65535) ∧ 0 - 1 ≤ x3) ∧ x3 ≤ 19) → a0 146 2 ≤ 39 → a 146 2 = (a0 146 2) + 1 → (MAD a0 a 148 149 150 151 152 (a0 146 2).toNat x1 x2 x3 (a0 146 0)) → jt (jxX E d 210 101 [some (.inr (.inr (.inl 146))), none, none, none] [] (jxSH, a, b0)) (jQ_X12_member x1 x2 x3 a0 b0) := by
  intro a hv hf hi0 hi1 hi2 hi3 hmad
  refine jt_eq (bq_X12_member_101 E d a b0) ?_
  have h584_ := iv_get hv (k := 146) (j := 2) (l := 0) (u := 40) rfl
  have h585_ := iv_get hv0 (k := 146) (j := 2) (l := 0) (u := 40) rfl
  have h586_ : jxw ((a 146 2) - 1) = (a 146 2) - 1 := jxw_id (by omega) (by omega)
  exact jt_rI ⟨hv, hf, rfl, (show (((((((((0 ≤ x1 ∧ x1 ≤ 15) ∧ 0 ≤ x2) ∧ x2 ≤ 65535) ∧ 0 - 1 ≤ x3) ∧ x3 ≤ 19) ∧ a0 146 2 < 40) ∧ jxw ((a 146 2) - 1) = a0 146 2) ∧ a 146 2 = (a0 146 2) + 1) ∨ ((((((((x1 < 0 ∨ 15 < x1) ∨ x2 < 0) ∨ 65535 < x2) ∨ x3 < 0 - 1) ∨ 19 < x3) ∨ 40 ≤ a0 146 2) ∧ jxw ((a 146 2) - 1) = 0 - 1) ∧ a 146 2 = a0 146 2)) from by omega), (by first | (intro h; exact absurd h (by decide)) | (intro _; rw [show (jxw ((a 146 2) - 1)).toNat = (a0 146 2).toNat from by omega]; exact hmad)), (by first | (intro _; exact MSA_e hfe) | (intro h; exact absurd h (by omega)))⟩
theorem cp_X12_member_68 (E : jxE) (d : Nat) (hd : Nat.ble 3 (d + 1) = true) (x1 x2 x3 : Int) (a0 b0 : Nat → Nat → Int) (hv0 : iv a0) : ∀ (a : Nat → Nat → Int), iv a → jfr jW_X12_member a0 a → a 146 2 ≤ 39 → (((((0 ≤ x1 ∧ x1 ≤ 15) ∧ 0 ≤ x2) ∧ x2 ≤ 65535) ∧ 0 - 1 ≤ x3) ∧ x3 ≤ 19) → a 146 2 ≤ 39 → a 146 2 = a0 146 2 → (UP (a0 148) (a 148) (a0 146 2).toNat x1 ∧ UP (a0 149) (a 149) (a0 146 2).toNat x2 ∧ UP (a0 150) (a 150) (a0 146 2).toNat x3 ∧ (∀ j, a 151 j = a0 151 j) ∧ (∀ j, a 152 j = a0 152 j)) → jt (jxX E d 210 68 [some (.inr (.inr (.inl 146))), none, none, none] [] (jxSH, a, b0)) (jQ_X12_member x1 x2 x3 a0 b0) := by
  intro a hv hf hi0 hi1 hi2 hi3 hu
  refine jt_eq (bq_X12_member_68 E d a b0) ?_
  have h587_ := iv_get hv (k := 146) (j := 2) (l := 0) (u := 40) rfl
  have h588_ := iv_get hv0 (k := 146) (j := 2) (l := 0) (u := 40) rfl
  refine jt_grd (by omega) ?_
  refine jt_grd (by omega) ?_
  have hv589_ : iv (jxu a 151 ((a 146 2).toNat) (a 146 0)) := iv_putf hv rfl
  have hv590_ : iv (jxu (jxu a 151 ((a 146 2).toNat) (a 146 0)) 152 ((a 146 2).toNat) 1) := iv_put hv589_ (l := 0) (u := 1) rfl (by omega) (by omega)
  have h592_ : jxw ((a 146 2) + 1) = (a 146 2) + 1 := jxw_id (by omega) (by omega)
  have hv591_ : iv (jxu (jxu (jxu a 151 ((a 146 2).toNat) (a 146 0)) 152 ((a 146 2).toNat) 1) 146 2 (jxw ((a 146 2) + 1))) := iv_put hv590_ (l := 0) (u := 40) rfl (by omega) (by omega)
  have hf593_ : jfr jW_X12_member a0 (jxu a 151 ((a 146 2).toNat) (a 146 0)) := jfr_put hf rfl
  have hf594_ : jfr jW_X12_member a0 (jxu (jxu a 151 ((a 146 2).toNat) (a 146 0)) 152 ((a 146 2).toNat) 1) := jfr_put hf593_ rfl
  have hf595_ : jfr jW_X12_member a0 (jxu (jxu (jxu a 151 ((a 146 2).toNat) (a 146 0)) 152 ((a 146 2).toNat) 1) 146 2 (jxw ((a 146 2) + 1))) := jfr_put hf594_ rfl
  exact cp_X12_member_101 E d hd x1 x2 x3 a0 b0 hv0 (jxu (jxu (jxu a 151 ((a 146 2).toNat) (a 146 0)) 152 ((a 146 2).toNat) 1) 146 2 (jxw ((a 146 2) + 1))) hv591_ hf595_ (show 1 ≤ jxw ((a 146 2) + 1) from by omega) (show (((((0 ≤ x1 ∧ x1 ≤ 15) ∧ 0 ≤ x2) ∧ x2 ≤ 65535) ∧ 0 - 1 ≤ x3) ∧ x3 ≤ 19) from by omega) (show a0 146 2 ≤ 39 from by omega) (show jxw ((a 146 2) + 1) = (a0 146 2) + 1 from by omega) (by rw [show a0 146 0 = a 146 0 from (hf 146 0 rfl).symm]; have e : (a0 146 2).toNat = (a 146 2).toNat := (by omega); rw [e] at hu ⊢; exact ⟨hu.1, hu.2.1, hu.2.2.1, UP_put hu.2.2.2.1, UP_put hu.2.2.2.2⟩)
theorem cp_X12_member_38 (E : jxE) (d : Nat) (hd : Nat.ble 3 (d + 1) = true) (x1 x2 x3 : Int) (a0 b0 : Nat → Nat → Int) (hv0 : iv a0) : ∀ (y1 y2 y3 : Int) (a : Nat → Nat → Int), iv a → jfr jW_X12_member a0 a → 0 ≤ y1 → y1 ≤ 15 → 0 ≤ y2 → y2 ≤ 65535 → 0 - 1 ≤ y3 → y3 ≤ 19 → a 146 2 ≤ 39 → y1 = x1 → y2 = x2 → y3 = x3 → (((((0 ≤ x1 ∧ x1 ≤ 15) ∧ 0 ≤ x2) ∧ x2 ≤ 65535) ∧ 0 - 1 ≤ x3) ∧ x3 ≤ 19) → a 146 2 ≤ 39 → a 146 2 = a0 146 2 → (jfr jWeM2 a0 a) → jt (jxX E d 210 38 [some (.inr (.inr (.inl 146))), some (.inl y1), some (.inl y2), some (.inl y3)] [] (jxSH, a, b0)) (jQ_X12_member x1 x2 x3 a0 b0) := by
  intro y1 y2 y3 a hv hf hi0 hi1 hi2 hi3 hi4 hi5 hi6 hi7 hi8 hi9 hi10 hi11 hi12 hfe
  refine jt_eq (bq_X12_member_38 E d y1 y2 y3 a b0) ?_
  have h596_ := iv_get hv (k := 146) (j := 2) (l := 0) (u := 40) rfl
  have h597_ := iv_get hv0 (k := 146) (j := 2) (l := 0) (u := 40) rfl
  refine jt_grd (by omega) ?_
  refine jt_grd (by omega) ?_
  refine jt_grd (by omega) ?_
  have hv598_ : iv (jxu a 148 ((a 146 2).toNat) y1) := iv_put hv (l := 0) (u := 15) rfl (by omega) (by omega)
  have hv599_ : iv (jxu (jxu a 148 ((a 146 2).toNat) y1) 149 ((a 146 2).toNat) y2) := iv_putf hv598_ rfl
  have hv600_ : iv (jxu (jxu (jxu a 148 ((a 146 2).toNat) y1) 149 ((a 146 2).toNat) y2) 150 ((a 146 2).toNat) y3) := iv_put hv599_ (l := (-1)) (u := 19) rfl (by omega) (by omega)
  have hf601_ : jfr jW_X12_member a0 (jxu a 148 ((a 146 2).toNat) y1) := jfr_put hf rfl
  have hf602_ : jfr jW_X12_member a0 (jxu (jxu a 148 ((a 146 2).toNat) y1) 149 ((a 146 2).toNat) y2) := jfr_put hf601_ rfl
  have hf603_ : jfr jW_X12_member a0 (jxu (jxu (jxu a 148 ((a 146 2).toNat) y1) 149 ((a 146 2).toNat) y2) 150 ((a 146 2).toNat) y3) := jfr_put hf602_ rfl
  exact cp_X12_member_68 E d hd x1 x2 x3 a0 b0 hv0 (jxu (jxu (jxu a 148 ((a 146 2).toNat) y1) 149 ((a 146 2).toNat) y2) 150 ((a 146 2).toNat) y3) hv600_ hf603_ (show a 146 2 ≤ 39 from by omega) (show (((((0 ≤ x1 ∧ x1 ≤ 15) ∧ 0 ≤ x2) ∧ x2 ≤ 65535) ∧ 0 - 1 ≤ x3) ∧ x3 ≤ 19) from by omega) (show a 146 2 ≤ 39 from by omega) (show a 146 2 = a0 146 2 from by omega) (by rw [show x1 = y1 from by omega, show x2 = y2 from by omega, show x3 = y3 from by omega, show (a0 146 2).toNat = (a 146 2).toNat from by omega]; exact ⟨UP_put (fun j => hfe 148 j rfl), UP_put (fun j => hfe 149 j rfl), UP_put (fun j => hfe 150 j rfl), fun j => hfe 151 j rfl, fun j => hfe 152 j rfl⟩)
theorem sp_X12_member (E : jxE) (d : Nat) (hd : Nat.ble 3 d = true) (x1 x2 x3 : Int) (a0 b0 : Nat → Nat → Int) (hv0 : iv a0) : jt (jxC E d 210 [.inr (.inr (.inl 146)), .inl x1, .inl x2, .inl x3] (jxSH, a0, b0)) (jQ_X12_member x1 x2 x3 a0 b0) := by
  obtain ⟨d, rfl⟩ := jd_succ hd
  refine jt_eq (bq_X12_member E d x1 x2 x3 a0 b0) ?_
  have h604_ := iv_get hv0 (k := 146) (j := 2) (l := 0) (u := 40) rfl
  refine jt_ite (fun c605_ => ?_) (fun c605_ => ?_)
  ·
    exact cp_X12_member_36 E d hd x1 x2 x3 a0 b0 hv0 a0 hv0 (jfr_rf _ _) (show ((((((x1 < 0 ∨ 15 < x1) ∨ x2 < 0) ∨ 65535 < x2) ∨ x3 < 0 - 1) ∨ 19 < x3) ∨ 40 ≤ a0 146 2) from by omega) (show a0 146 2 = a0 146 2 from by omega) (jfr_rf _ _)
  ·
    refine jt_eI (eq_X12_isLand E d (jd_le hd rfl) x1 a0 b0) ?_
    have h606_ := f_X12_isLand_eq a0 b0 x1
    have h607_ := f_X12_in_eq a0 b0 x1 0 15
    refine jt_ite (fun c608_ => ?_) (fun c608_ => ?_)
    ·
      exact cp_X12_member_36 E d hd x1 x2 x3 a0 b0 hv0 a0 hv0 (jfr_rf _ _) (show ((((((x1 < 0 ∨ 15 < x1) ∨ x2 < 0) ∨ 65535 < x2) ∨ x3 < 0 - 1) ∨ 19 < x3) ∨ 40 ≤ a0 146 2) from by omega) (show a0 146 2 = a0 146 2 from by omega) (jfr_rf _ _)
    ·
      refine jt_eI (eq_X12_in E d (jd_le hd rfl) x2 0 65535 a0 b0) ?_
      have h609_ := f_X12_in_eq a0 b0 x2 0 65535
      refine jt_ite (fun c610_ => ?_) (fun c610_ => ?_)
      ·
        exact cp_X12_member_36 E d hd x1 x2 x3 a0 b0 hv0 a0 hv0 (jfr_rf _ _) (show ((((((x1 < 0 ∨ 15 < x1) ∨ x2 < 0) ∨ 65535 < x2) ∨ x3 < 0 - 1) ∨ 19 < x3) ∨ 40 ≤ a0 146 2) from by omega) (show a0 146 2 = a0 146 2 from by omega) (jfr_rf _ _)
      ·
        refine jt_eI (eq_X12_in E d (jd_le hd rfl) x3 (-1) 19 a0 b0) ?_
        have h611_ := f_X12_in_eq a0 b0 x3 (-1) 19
        refine jt_ite (fun c612_ => ?_) (fun c612_ => ?_)
        ·
          exact cp_X12_member_36 E d hd x1 x2 x3 a0 b0 hv0 a0 hv0 (jfr_rf _ _) (show ((((((x1 < 0 ∨ 15 < x1) ∨ x2 < 0) ∨ 65535 < x2) ∨ x3 < 0 - 1) ∨ 19 < x3) ∨ 40 ≤ a0 146 2) from by omega) (show a0 146 2 = a0 146 2 from by omega) (jfr_rf _ _)
        ·
          exact cp_X12_member_38 E d hd x1 x2 x3 a0 b0 hv0 x1 x2 x3 a0 hv0 (jfr_rf _ _) (show 0 ≤ x1 from by omega) (show x1 ≤ 15 from by omega) (show 0 ≤ x2 from by omega) (show x2 ≤ 65535 from by omega) (show 0 - 1 ≤ x3 from by omega) (show x3 ≤ 19 from by omega) (show a0 146 2 ≤ 39 from by omega) (show x1 = x1 from by omega) (show x2 = x2 from by omega) (show x3 = x3 from by omega) (show (((((0 ≤ x1 ∧ x1 ≤ 15) ∧ 0 ≤ x2) ∧ x2 ≤ 65535) ∧ 0 - 1 ≤ x3) ∧ x3 ≤ 19) from by omega) (show a0 146 2 ≤ 39 from by omega) (show a0 146 2 = a0 146 2 from by omega) (jfr_rf _ _)
abbrev jQ_X12_priceOf (x1 x2 x3 x4 : Int) (a0 b0 : Nat → Nat → Int) : List jxV → (Nat → Nat → Int) → (Nat → Nat → Int) → Prop := rI (fun r a b => (a0 = a) ∧ (b0 = b) ∧ (0 - 2 ≤ r) ∧ (r ≤ 900) ∧ ((a0 146 68 = 0 → r = 0 - 2)) ∧ (r = PR2 a0 (ZN x1 x2 (a0 147 (16 * x1 + x2).toNat)) x3 x4))
theorem cp_X12_priceOf_166 (E : jxE) (d : Nat) (hd : Nat.ble 1 (d + 1) = true) (x1 x2 x3 x4 : Int) (a0 b0 : Nat → Nat → Int) (hv0 : iv a0) (hp0 : (0 ≤ x1 ∧ x1 ≤ 15)) (hp1 : (0 ≤ x2 ∧ x2 ≤ 15)) : ∀ (y9 : Int), 0 ≤ y9 → y9 ≤ 357 → 1 ≤ a0 146 68 → 0 ≤ y9 → y9 ≤ 357 → (0 ≤ HO (a0 192) x4 (a0 146 68).toNat ∧ a0 194 (jxw (y9 + 2)).toNat = CO (fun c => a0 194 (36 * (HO (a0 192) x4 (a0 146 68).toNat).toNat + 3 * c)) (fun c => a0 194 (36 * (HO (a0 192) x4 (a0 146 68).toNat).toNat + (3 * c + 1))) (fun c => a0 194 (36 * (HO (a0 192) x4 (a0 146 68).toNat).toNat + (3 * c + 2))) (a0 193 (HO (a0 192) x4 (a0 146 68).toNat).toNat).toNat (ZN x1 x2 (a0 147 (16 * x1 + x2).toNat)) x3 0) → jt (jxX E d 283 166 [some (.inr (.inr (.inl 146))), none, none, none, none, none, none, none, none, some (.inl y9)] [] (jxSH, a0, b0)) (jQ_X12_priceOf x1 x2 x3 x4 a0 b0) := by
  intro y9 hi0 hi1 hi2 hi3 hi4 hit
  refine jt_eq (bq_X12_priceOf_166 E d y9 a0 b0) ?_
  have h613_ := iv_get hv0 (k := 146) (j := 68) (l := 0) (u := 10) rfl
  have h614_ : jxw (y9 + 2) = y9 + 2 := jxw_id (by omega) (by omega)
  refine jt_grd (by omega) ?_
  have h615_ := iv_get hv0 (k := 194) (j := (jxw (y9 + 2)).toNat) (l := 0) (u := 900) rfl
  exact jt_rI ⟨rfl, rfl, (show 0 - 2 ≤ a0 194 ((jxw (y9 + 2)).toNat) from by omega), (show a0 194 ((jxw (y9 + 2)).toNat) ≤ 900 from by omega), (show (a0 146 68 = 0 → a0 194 ((jxw (y9 + 2)).toNat) = 0 - 2) from by omega), (by unfold PR2 PRC; have i194 := iv_get hv0 (k := 194) (j := (jxw (y9 + 2)).toNat) (l := 0) (u := 900) rfl; have h2 := hit.2; rw [if_neg (by have h1 := hit.1; omega), if_neg (fun h => by have h3 := h2.trans h; omega)]; exact h2)⟩
theorem cp_X12_priceOf_117 (E : jxE) (d : Nat) (hd : Nat.ble 1 (d + 1) = true) (x1 x2 x3 x4 : Int) (a0 b0 : Nat → Nat → Int) (hv0 : iv a0) (hp0 : (0 ≤ x1 ∧ x1 ≤ 15)) (hp1 : (0 ≤ x2 ∧ x2 ≤ 15)) : ∀ n : Nat, (∀ (y3 y5 y7 y8 : Int), (((12 - y8) * 1) + 0).toNat ≤ n → 0 ≤ y5 → y5 ≤ 9 → 0 ≤ y7 → y7 ≤ 3 → 0 ≤ y8 → y8 ≤ 11 → 1 ≤ a0 146 68 → (y3 = x3) → (y5 = HO (a0 192) x4 (a0 146 68).toNat) → 0 ≤ y5 → (y7 = (ZN x1 x2 (a0 147 (16 * x1 + x2).toNat))) → 0 ≤ y8 → y8 < a0 193 (y5.toNat) → (CO (fun c => a0 194 (36 * (HO (a0 192) x4 (a0 146 68).toNat).toNat + 3 * c)) (fun c => a0 194 (36 * (HO (a0 192) x4 (a0 146 68).toNat).toNat + (3 * c + 1))) (fun c => a0 194 (36 * (HO (a0 192) x4 (a0 146 68).toNat).toNat + (3 * c + 2))) (a0 193 (HO (a0 192) x4 (a0 146 68).toNat).toNat).toNat (ZN x1 x2 (a0 147 (16 * x1 + x2).toNat)) x3 (y8.toNat + 1) = CO (fun c => a0 194 (36 * (HO (a0 192) x4 (a0 146 68).toNat).toNat + 3 * c)) (fun c => a0 194 (36 * (HO (a0 192) x4 (a0 146 68).toNat).toNat + (3 * c + 1))) (fun c => a0 194 (36 * (HO (a0 192) x4 (a0 146 68).toNat).toNat + (3 * c + 2))) (a0 193 (HO (a0 192) x4 (a0 146 68).toNat).toNat).toNat (ZN x1 x2 (a0 147 (16 * x1 + x2).toNat)) x3 0) → jt (jxX E d 283 176 [some (.inr (.inr (.inl 146))), none, none, some (.inl y3), none, some (.inl y5), none, some (.inl y7), some (.inl y8), none] [] (jxSH, a0, b0)) (jQ_X12_priceOf x1 x2 x3 x4 a0 b0)) ∧ (∀ (y3 y5 y7 y8 y9 : Int), (((12 - y8) * 1) + 0).toNat ≤ n → 0 ≤ y5 → y5 ≤ 9 → 0 ≤ y7 → y7 ≤ 3 → 0 ≤ y8 → y8 ≤ 11 → 0 ≤ y9 → y9 ≤ 357 → 1 ≤ a0 146 68 → (y3 = x3) → (y5 = HO (a0 192) x4 (a0 146 68).toNat) → 0 ≤ y5 → (y7 = (ZN x1 x2 (a0 147 (16 * x1 + x2).toNat))) → 0 ≤ y8 → y8 < a0 193 (y5.toNat) → (CO (fun c => a0 194 (36 * (HO (a0 192) x4 (a0 146 68).toNat).toNat + 3 * c)) (fun c => a0 194 (36 * (HO (a0 192) x4 (a0 146 68).toNat).toNat + (3 * c + 1))) (fun c => a0 194 (36 * (HO (a0 192) x4 (a0 146 68).toNat).toNat + (3 * c + 2))) (a0 193 (HO (a0 192) x4 (a0 146 68).toNat).toNat).toNat (ZN x1 x2 (a0 147 (16 * x1 + x2).toNat)) x3 y8.toNat = CO (fun c => a0 194 (36 * (HO (a0 192) x4 (a0 146 68).toNat).toNat + 3 * c)) (fun c => a0 194 (36 * (HO (a0 192) x4 (a0 146 68).toNat).toNat + (3 * c + 1))) (fun c => a0 194 (36 * (HO (a0 192) x4 (a0 146 68).toNat).toNat + (3 * c + 2))) (a0 193 (HO (a0 192) x4 (a0 146 68).toNat).toNat).toNat (ZN x1 x2 (a0 147 (16 * x1 + x2).toNat)) x3 0) → (y9.toNat = 36 * y5.toNat + 3 * y8.toNat) → 0 ≤ y9 → y9 ≤ 357 → jt (jxX E d 283 141 [some (.inr (.inr (.inl 146))), none, none, some (.inl y3), none, some (.inl y5), none, some (.inl y7), some (.inl y8), some (.inl y9)] [] (jxSH, a0, b0)) (jQ_X12_priceOf x1 x2 x3 x4 a0 b0)) ∧ (∀ (y3 y5 y7 y8 : Int), (((12 - y8) * 1) + 0).toNat ≤ n → 0 ≤ y5 → y5 ≤ 9 → 0 ≤ y7 → y7 ≤ 3 → 0 ≤ y8 → y8 ≤ 12 → 1 ≤ a0 146 68 → (y3 = x3) → (y5 = HO (a0 192) x4 (a0 146 68).toNat) → 0 ≤ y5 → (y7 = (ZN x1 x2 (a0 147 (16 * x1 + x2).toNat))) → 0 ≤ y8 → (CO (fun c => a0 194 (36 * (HO (a0 192) x4 (a0 146 68).toNat).toNat + 3 * c)) (fun c => a0 194 (36 * (HO (a0 192) x4 (a0 146 68).toNat).toNat + (3 * c + 1))) (fun c => a0 194 (36 * (HO (a0 192) x4 (a0 146 68).toNat).toNat + (3 * c + 2))) (a0 193 (HO (a0 192) x4 (a0 146 68).toNat).toNat).toNat (ZN x1 x2 (a0 147 (16 * x1 + x2).toNat)) x3 y8.toNat = CO (fun c => a0 194 (36 * (HO (a0 192) x4 (a0 146 68).toNat).toNat + 3 * c)) (fun c => a0 194 (36 * (HO (a0 192) x4 (a0 146 68).toNat).toNat + (3 * c + 1))) (fun c => a0 194 (36 * (HO (a0 192) x4 (a0 146 68).toNat).toNat + (3 * c + 2))) (a0 193 (HO (a0 192) x4 (a0 146 68).toNat).toNat).toNat (ZN x1 x2 (a0 147 (16 * x1 + x2).toNat)) x3 0) → jt (jxX E d 283 117 [some (.inr (.inr (.inl 146))), none, none, some (.inl y3), none, some (.inl y5), none, some (.inl y7), some (.inl y8), none] [] (jxSH, a0, b0)) (jQ_X12_priceOf x1 x2 x3 x4 a0 b0)) := by
  refine jx_ind fun n ih => ?_
  have ih176 : ∀ (y3 y5 y7 y8 : Int), (((12 - y8) * 1) + 0).toNat < n → 0 ≤ y5 → y5 ≤ 9 → 0 ≤ y7 → y7 ≤ 3 → 0 ≤ y8 → y8 ≤ 11 → 1 ≤ a0 146 68 → (y3 = x3) → (y5 = HO (a0 192) x4 (a0 146 68).toNat) → 0 ≤ y5 → (y7 = (ZN x1 x2 (a0 147 (16 * x1 + x2).toNat))) → 0 ≤ y8 → y8 < a0 193 (y5.toNat) → (CO (fun c => a0 194 (36 * (HO (a0 192) x4 (a0 146 68).toNat).toNat + 3 * c)) (fun c => a0 194 (36 * (HO (a0 192) x4 (a0 146 68).toNat).toNat + (3 * c + 1))) (fun c => a0 194 (36 * (HO (a0 192) x4 (a0 146 68).toNat).toNat + (3 * c + 2))) (a0 193 (HO (a0 192) x4 (a0 146 68).toNat).toNat).toNat (ZN x1 x2 (a0 147 (16 * x1 + x2).toNat)) x3 (y8.toNat + 1) = CO (fun c => a0 194 (36 * (HO (a0 192) x4 (a0 146 68).toNat).toNat + 3 * c)) (fun c => a0 194 (36 * (HO (a0 192) x4 (a0 146 68).toNat).toNat + (3 * c + 1))) (fun c => a0 194 (36 * (HO (a0 192) x4 (a0 146 68).toNat).toNat + (3 * c + 2))) (a0 193 (HO (a0 192) x4 (a0 146 68).toNat).toNat).toNat (ZN x1 x2 (a0 147 (16 * x1 + x2).toNat)) x3 0) → jt (jxX E d 283 176 [some (.inr (.inr (.inl 146))), none, none, some (.inl y3), none, some (.inl y5), none, some (.inl y7), some (.inl y8), none] [] (jxSH, a0, b0)) (jQ_X12_priceOf x1 x2 x3 x4 a0 b0) := fun y3 y5 y7 y8 hlt i0 i1 i2 i3 i4 i5 i6 i7 i8 i9 i10 i11 i12 i13 => (ih _ hlt).1 y3 y5 y7 y8 (Nat.le_refl _) i0 i1 i2 i3 i4 i5 i6 i7 i8 i9 i10 i11 i12 i13
  have ih141 : ∀ (y3 y5 y7 y8 y9 : Int), (((12 - y8) * 1) + 0).toNat < n → 0 ≤ y5 → y5 ≤ 9 → 0 ≤ y7 → y7 ≤ 3 → 0 ≤ y8 → y8 ≤ 11 → 0 ≤ y9 → y9 ≤ 357 → 1 ≤ a0 146 68 → (y3 = x3) → (y5 = HO (a0 192) x4 (a0 146 68).toNat) → 0 ≤ y5 → (y7 = (ZN x1 x2 (a0 147 (16 * x1 + x2).toNat))) → 0 ≤ y8 → y8 < a0 193 (y5.toNat) → (CO (fun c => a0 194 (36 * (HO (a0 192) x4 (a0 146 68).toNat).toNat + 3 * c)) (fun c => a0 194 (36 * (HO (a0 192) x4 (a0 146 68).toNat).toNat + (3 * c + 1))) (fun c => a0 194 (36 * (HO (a0 192) x4 (a0 146 68).toNat).toNat + (3 * c + 2))) (a0 193 (HO (a0 192) x4 (a0 146 68).toNat).toNat).toNat (ZN x1 x2 (a0 147 (16 * x1 + x2).toNat)) x3 y8.toNat = CO (fun c => a0 194 (36 * (HO (a0 192) x4 (a0 146 68).toNat).toNat + 3 * c)) (fun c => a0 194 (36 * (HO (a0 192) x4 (a0 146 68).toNat).toNat + (3 * c + 1))) (fun c => a0 194 (36 * (HO (a0 192) x4 (a0 146 68).toNat).toNat + (3 * c + 2))) (a0 193 (HO (a0 192) x4 (a0 146 68).toNat).toNat).toNat (ZN x1 x2 (a0 147 (16 * x1 + x2).toNat)) x3 0) → (y9.toNat = 36 * y5.toNat + 3 * y8.toNat) → 0 ≤ y9 → y9 ≤ 357 → jt (jxX E d 283 141 [some (.inr (.inr (.inl 146))), none, none, some (.inl y3), none, some (.inl y5), none, some (.inl y7), some (.inl y8), some (.inl y9)] [] (jxSH, a0, b0)) (jQ_X12_priceOf x1 x2 x3 x4 a0 b0) := fun y3 y5 y7 y8 y9 hlt i0 i1 i2 i3 i4 i5 i6 i7 i8 i9 i10 i11 i12 i13 i14 i15 i16 i17 i18 => (ih _ hlt).2.1 y3 y5 y7 y8 y9 (Nat.le_refl _) i0 i1 i2 i3 i4 i5 i6 i7 i8 i9 i10 i11 i12 i13 i14 i15 i16 i17 i18
  have ih117 : ∀ (y3 y5 y7 y8 : Int), (((12 - y8) * 1) + 0).toNat < n → 0 ≤ y5 → y5 ≤ 9 → 0 ≤ y7 → y7 ≤ 3 → 0 ≤ y8 → y8 ≤ 12 → 1 ≤ a0 146 68 → (y3 = x3) → (y5 = HO (a0 192) x4 (a0 146 68).toNat) → 0 ≤ y5 → (y7 = (ZN x1 x2 (a0 147 (16 * x1 + x2).toNat))) → 0 ≤ y8 → (CO (fun c => a0 194 (36 * (HO (a0 192) x4 (a0 146 68).toNat).toNat + 3 * c)) (fun c => a0 194 (36 * (HO (a0 192) x4 (a0 146 68).toNat).toNat + (3 * c + 1))) (fun c => a0 194 (36 * (HO (a0 192) x4 (a0 146 68).toNat).toNat + (3 * c + 2))) (a0 193 (HO (a0 192) x4 (a0 146 68).toNat).toNat).toNat (ZN x1 x2 (a0 147 (16 * x1 + x2).toNat)) x3 y8.toNat = CO (fun c => a0 194 (36 * (HO (a0 192) x4 (a0 146 68).toNat).toNat + 3 * c)) (fun c => a0 194 (36 * (HO (a0 192) x4 (a0 146 68).toNat).toNat + (3 * c + 1))) (fun c => a0 194 (36 * (HO (a0 192) x4 (a0 146 68).toNat).toNat + (3 * c + 2))) (a0 193 (HO (a0 192) x4 (a0 146 68).toNat).toNat).toNat (ZN x1 x2 (a0 147 (16 * x1 + x2).toNat)) x3 0) → jt (jxX E d 283 117 [some (.inr (.inr (.inl 146))), none, none, some (.inl y3), none, some (.inl y5), none, some (.inl y7), some (.inl y8), none] [] (jxSH, a0, b0)) (jQ_X12_priceOf x1 x2 x3 x4 a0 b0) := fun y3 y5 y7 y8 hlt i0 i1 i2 i3 i4 i5 i6 i7 i8 i9 i10 i11 i12 => (ih _ hlt).2.2 y3 y5 y7 y8 (Nat.le_refl _) i0 i1 i2 i3 i4 i5 i6 i7 i8 i9 i10 i11 i12
  have hc176 : ∀ (y3 y5 y7 y8 : Int), (((12 - y8) * 1) + 0).toNat ≤ n → 0 ≤ y5 → y5 ≤ 9 → 0 ≤ y7 → y7 ≤ 3 → 0 ≤ y8 → y8 ≤ 11 → 1 ≤ a0 146 68 → (y3 = x3) → (y5 = HO (a0 192) x4 (a0 146 68).toNat) → 0 ≤ y5 → (y7 = (ZN x1 x2 (a0 147 (16 * x1 + x2).toNat))) → 0 ≤ y8 → y8 < a0 193 (y5.toNat) → (CO (fun c => a0 194 (36 * (HO (a0 192) x4 (a0 146 68).toNat).toNat + 3 * c)) (fun c => a0 194 (36 * (HO (a0 192) x4 (a0 146 68).toNat).toNat + (3 * c + 1))) (fun c => a0 194 (36 * (HO (a0 192) x4 (a0 146 68).toNat).toNat + (3 * c + 2))) (a0 193 (HO (a0 192) x4 (a0 146 68).toNat).toNat).toNat (ZN x1 x2 (a0 147 (16 * x1 + x2).toNat)) x3 (y8.toNat + 1) = CO (fun c => a0 194 (36 * (HO (a0 192) x4 (a0 146 68).toNat).toNat + 3 * c)) (fun c => a0 194 (36 * (HO (a0 192) x4 (a0 146 68).toNat).toNat + (3 * c + 1))) (fun c => a0 194 (36 * (HO (a0 192) x4 (a0 146 68).toNat).toNat + (3 * c + 2))) (a0 193 (HO (a0 192) x4 (a0 146 68).toNat).toNat).toNat (ZN x1 x2 (a0 147 (16 * x1 + x2).toNat)) x3 0) → jt (jxX E d 283 176 [some (.inr (.inr (.inl 146))), none, none, some (.inl y3), none, some (.inl y5), none, some (.inl y7), some (.inl y8), none] [] (jxSH, a0, b0)) (jQ_X12_priceOf x1 x2 x3 x4 a0 b0) := by
    intro y3 y5 y7 y8 hm hi0 hi1 hi2 hi3 hi4 hi5 hi6 hy3 h5y hi9 hy7 hi11 hi12 hco
    refine jt_eq (bq_X12_priceOf_176 E d y3 y5 y7 y8 a0 b0) ?_
    have h616_ := iv_get hv0 (k := 146) (j := 68) (l := 0) (u := 10) rfl
    have h617_ := iv_get hv0 (k := 193) (j := y5.toNat) (l := 0) (u := 12) rfl
    have h618_ : jxw (y8 + 1) = y8 + 1 := jxw_id (by omega) (by omega)
    exact ih117 y3 y5 y7 (jxw (y8 + 1)) (show (((12 - (jxw (y8 + 1))) * 1) + 0).toNat < n from by omega) (show 0 ≤ y5 from by omega) (show y5 ≤ 9 from by omega) (show 0 ≤ y7 from by omega) (show y7 ≤ 3 from by omega) (show 0 ≤ jxw (y8 + 1) from by omega) (show jxw (y8 + 1) ≤ 12 from by omega) (show 1 ≤ a0 146 68 from by omega) (by first | rfl | assumption) (by first | exact h5y | (rw [show (a0 146 68).toNat = y6.toNat from by omega]; exact hho)) (show 0 ≤ y5 from by omega) (by first | exact hy7 | (rw [← hy6, ← hy1, ← hy2]; unfold ZN; first | (rw [if_pos (by assumption)]) | (rw [if_neg (by assumption), if_pos (by assumption)]) | (rw [if_neg (by assumption), if_neg (by assumption), if_pos (by assumption)]) | (rw [if_neg (by assumption), if_neg (by assumption), if_neg (by assumption)]))) (show 0 ≤ jxw (y8 + 1) from by omega) (by first | rfl | (rw [show (jxw (y8 + 1)).toNat = y8.toNat + 1 from by omega]; exact hco))
  have hc141 : ∀ (y3 y5 y7 y8 y9 : Int), (((12 - y8) * 1) + 0).toNat ≤ n → 0 ≤ y5 → y5 ≤ 9 → 0 ≤ y7 → y7 ≤ 3 → 0 ≤ y8 → y8 ≤ 11 → 0 ≤ y9 → y9 ≤ 357 → 1 ≤ a0 146 68 → (y3 = x3) → (y5 = HO (a0 192) x4 (a0 146 68).toNat) → 0 ≤ y5 → (y7 = (ZN x1 x2 (a0 147 (16 * x1 + x2).toNat))) → 0 ≤ y8 → y8 < a0 193 (y5.toNat) → (CO (fun c => a0 194 (36 * (HO (a0 192) x4 (a0 146 68).toNat).toNat + 3 * c)) (fun c => a0 194 (36 * (HO (a0 192) x4 (a0 146 68).toNat).toNat + (3 * c + 1))) (fun c => a0 194 (36 * (HO (a0 192) x4 (a0 146 68).toNat).toNat + (3 * c + 2))) (a0 193 (HO (a0 192) x4 (a0 146 68).toNat).toNat).toNat (ZN x1 x2 (a0 147 (16 * x1 + x2).toNat)) x3 y8.toNat = CO (fun c => a0 194 (36 * (HO (a0 192) x4 (a0 146 68).toNat).toNat + 3 * c)) (fun c => a0 194 (36 * (HO (a0 192) x4 (a0 146 68).toNat).toNat + (3 * c + 1))) (fun c => a0 194 (36 * (HO (a0 192) x4 (a0 146 68).toNat).toNat + (3 * c + 2))) (a0 193 (HO (a0 192) x4 (a0 146 68).toNat).toNat).toNat (ZN x1 x2 (a0 147 (16 * x1 + x2).toNat)) x3 0) → (y9.toNat = 36 * y5.toNat + 3 * y8.toNat) → 0 ≤ y9 → y9 ≤ 357 → jt (jxX E d 283 141 [some (.inr (.inr (.inl 146))), none, none, some (.inl y3), none, some (.inl y5), none, some (.inl y7), some (.inl y8), some (.inl y9)] [] (jxSH, a0, b0)) (jQ_X12_priceOf x1 x2 x3 x4 a0 b0) := by
    intro y3 y5 y7 y8 y9 hm hi0 hi1 hi2 hi3 hi4 hi5 hi6 hi7 hi8 hy3 h5y hi11 hy7 hi13 hi14 hco hy9 hi17 hi18
    refine jt_eq (bq_X12_priceOf_141 E d y3 y5 y7 y8 y9 a0 b0) ?_
    have h619_ := iv_get hv0 (k := 146) (j := 68) (l := 0) (u := 10) rfl
    have h620_ := iv_get hv0 (k := 193) (j := y5.toNat) (l := 0) (u := 12) rfl
    refine jt_grd (by omega) ?_
    have h621_ := iv_get hv0 (k := 194) (j := y9.toNat) (l := 0) (u := 900) rfl
    refine jt_ite (fun c622_ => ?_) (fun c622_ => ?_)
    ·
      have h623_ : jxw (y9 + 1) = y9 + 1 := jxw_id (by omega) (by omega)
      refine jt_grd (by omega) ?_
      have h624_ := iv_get hv0 (k := 194) (j := (jxw (y9 + 1)).toNat) (l := 0) (u := 900) rfl
      refine jt_ite (fun c625_ => ?_) (fun c625_ => ?_)
      ·
        exact hc176 y3 y5 y7 y8 (show (((12 - y8) * 1) + 0).toNat ≤ n from by omega) (show 0 ≤ y5 from by omega) (show y5 ≤ 9 from by omega) (show 0 ≤ y7 from by omega) (show y7 ≤ 3 from by omega) (show 0 ≤ y8 from by omega) (show y8 ≤ 11 from by omega) (show 1 ≤ a0 146 68 from by omega) (by first | rfl | assumption) (by first | exact h5y | (rw [show (a0 146 68).toNat = y6.toNat from by omega]; exact hho)) (show 0 ≤ y5 from by omega) (by first | exact hy7 | (rw [← hy6, ← hy1, ← hy2]; unfold ZN; first | (rw [if_pos (by assumption)]) | (rw [if_neg (by assumption), if_pos (by assumption)]) | (rw [if_neg (by assumption), if_neg (by assumption), if_pos (by assumption)]) | (rw [if_neg (by assumption), if_neg (by assumption), if_neg (by assumption)]))) (show 0 ≤ y8 from by omega) (show y8 < a0 193 (y5.toNat) from by omega) (by rw [← hco]; rw [← h5y]; refine (CO_on (by omega) ?_).symm; first | (left; show ¬ a0 194 (36 * y5.toNat + 3 * y8.toNat) = _; rw [← hy7, ← hy9]; assumption) | (right; show a0 194 (36 * y5.toNat + (3 * y8.toNat + 1)) < x3; rw [← hy3, ← (show (jxw (y9 + 1)).toNat = 36 * y5.toNat + (3 * y8.toNat + 1) from by omega)]; assumption))
      ·
        exact cp_X12_priceOf_166 E d hd x1 x2 x3 x4 a0 b0 hv0 hp0 hp1 y9 (show 0 ≤ y9 from by omega) (show y9 ≤ 357 from by omega) (show 1 ≤ a0 146 68 from by omega) (show 0 ≤ y9 from by omega) (show y9 ≤ 357 from by omega) (by rw [← hco, ← h5y, (show (jxw (y9 + 2)).toNat = 36 * y5.toNat + (3 * y8.toNat + 2) from by rw [jxw_id (by omega) (by omega)]; omega)]; exact ⟨by omega, (CO_hit (z := fun c => a0 194 (36 * y5.toNat + 3 * c)) (g := fun c => a0 194 (36 * y5.toNat + (3 * c + 1))) (k := fun c => a0 194 (36 * y5.toNat + (3 * c + 2))) (c := y8.toNat) (by omega) (by show a0 194 (36 * y5.toNat + 3 * y8.toNat) = _; rw [← hy7, ← hy9]; assumption) (by show x3 ≤ a0 194 (36 * y5.toNat + (3 * y8.toNat + 1)); rw [← hy3, ← (show (jxw (y9 + 1)).toNat = 36 * y5.toNat + (3 * y8.toNat + 1) from by omega)]; omega)).symm⟩)
    ·
      exact hc176 y3 y5 y7 y8 (show (((12 - y8) * 1) + 0).toNat ≤ n from by omega) (show 0 ≤ y5 from by omega) (show y5 ≤ 9 from by omega) (show 0 ≤ y7 from by omega) (show y7 ≤ 3 from by omega) (show 0 ≤ y8 from by omega) (show y8 ≤ 11 from by omega) (show 1 ≤ a0 146 68 from by omega) (by first | rfl | assumption) (by first | exact h5y | (rw [show (a0 146 68).toNat = y6.toNat from by omega]; exact hho)) (show 0 ≤ y5 from by omega) (by first | exact hy7 | (rw [← hy6, ← hy1, ← hy2]; unfold ZN; first | (rw [if_pos (by assumption)]) | (rw [if_neg (by assumption), if_pos (by assumption)]) | (rw [if_neg (by assumption), if_neg (by assumption), if_pos (by assumption)]) | (rw [if_neg (by assumption), if_neg (by assumption), if_neg (by assumption)]))) (show 0 ≤ y8 from by omega) (show y8 < a0 193 (y5.toNat) from by omega) (by rw [← hco]; rw [← h5y]; refine (CO_on (by omega) ?_).symm; first | (left; show ¬ a0 194 (36 * y5.toNat + 3 * y8.toNat) = _; rw [← hy7, ← hy9]; assumption) | (right; show a0 194 (36 * y5.toNat + (3 * y8.toNat + 1)) < x3; rw [← hy3, ← (show (jxw (y9 + 1)).toNat = 36 * y5.toNat + (3 * y8.toNat + 1) from by omega)]; assumption))
  have hc117 : ∀ (y3 y5 y7 y8 : Int), (((12 - y8) * 1) + 0).toNat ≤ n → 0 ≤ y5 → y5 ≤ 9 → 0 ≤ y7 → y7 ≤ 3 → 0 ≤ y8 → y8 ≤ 12 → 1 ≤ a0 146 68 → (y3 = x3) → (y5 = HO (a0 192) x4 (a0 146 68).toNat) → 0 ≤ y5 → (y7 = (ZN x1 x2 (a0 147 (16 * x1 + x2).toNat))) → 0 ≤ y8 → (CO (fun c => a0 194 (36 * (HO (a0 192) x4 (a0 146 68).toNat).toNat + 3 * c)) (fun c => a0 194 (36 * (HO (a0 192) x4 (a0 146 68).toNat).toNat + (3 * c + 1))) (fun c => a0 194 (36 * (HO (a0 192) x4 (a0 146 68).toNat).toNat + (3 * c + 2))) (a0 193 (HO (a0 192) x4 (a0 146 68).toNat).toNat).toNat (ZN x1 x2 (a0 147 (16 * x1 + x2).toNat)) x3 y8.toNat = CO (fun c => a0 194 (36 * (HO (a0 192) x4 (a0 146 68).toNat).toNat + 3 * c)) (fun c => a0 194 (36 * (HO (a0 192) x4 (a0 146 68).toNat).toNat + (3 * c + 1))) (fun c => a0 194 (36 * (HO (a0 192) x4 (a0 146 68).toNat).toNat + (3 * c + 2))) (a0 193 (HO (a0 192) x4 (a0 146 68).toNat).toNat).toNat (ZN x1 x2 (a0 147 (16 * x1 + x2).toNat)) x3 0) → jt (jxX E d 283 117 [some (.inr (.inr (.inl 146))), none, none, some (.inl y3), none, some (.inl y5), none, some (.inl y7), some (.inl y8), none] [] (jxSH, a0, b0)) (jQ_X12_priceOf x1 x2 x3 x4 a0 b0) := by
    intro y3 y5 y7 y8 hm hi0 hi1 hi2 hi3 hi4 hi5 hi6 hy3 h5y hi9 hy7 hi11 hco
    refine jt_eq (bq_X12_priceOf_117 E d y3 y5 y7 y8 a0 b0) ?_
    have h626_ := iv_get hv0 (k := 146) (j := 68) (l := 0) (u := 10) rfl
    refine jt_grd (by omega) ?_
    have h627_ := iv_get hv0 (k := 193) (j := y5.toNat) (l := 0) (u := 12) rfl
    refine jt_ite (fun c628_ => ?_) (fun c628_ => ?_)
    ·
      have h629_ : jxw (36 * y5) = 36 * y5 := jxw_id (by omega) (by omega)
      have h630_ : jxw (3 * y8) = 3 * y8 := jxw_id (by omega) (by omega)
      have h631_ : jxw ((jxw (36 * y5)) + (jxw (3 * y8))) = (jxw (36 * y5)) + (jxw (3 * y8)) := jxw_id (by omega) (by omega)
      exact hc141 y3 y5 y7 y8 (jxw ((jxw (36 * y5)) + (jxw (3 * y8)))) (show (((12 - y8) * 1) + 0).toNat ≤ n from by omega) (show 0 ≤ y5 from by omega) (show y5 ≤ 9 from by omega) (show 0 ≤ y7 from by omega) (show y7 ≤ 3 from by omega) (show 0 ≤ y8 from by omega) (show y8 ≤ 11 from by omega) (show 0 ≤ jxw ((jxw (36 * y5)) + (jxw (3 * y8))) from by omega) (show jxw ((jxw (36 * y5)) + (jxw (3 * y8))) ≤ 357 from by omega) (show 1 ≤ a0 146 68 from by omega) (by first | rfl | assumption) (by first | exact h5y | (rw [show (a0 146 68).toNat = y6.toNat from by omega]; exact hho)) (show 0 ≤ y5 from by omega) (by first | exact hy7 | (rw [← hy6, ← hy1, ← hy2]; unfold ZN; first | (rw [if_pos (by assumption)]) | (rw [if_neg (by assumption), if_pos (by assumption)]) | (rw [if_neg (by assumption), if_neg (by assumption), if_pos (by assumption)]) | (rw [if_neg (by assumption), if_neg (by assumption), if_neg (by assumption)]))) (show 0 ≤ y8 from by omega) (show y8 < a0 193 (y5.toNat) from by omega) hco (by omega) (show 0 ≤ jxw ((jxw (36 * y5)) + (jxw (3 * y8))) from by omega) (show jxw ((jxw (36 * y5)) + (jxw (3 * y8))) ≤ 357 from by omega)
    ·
      exact jt_rI ⟨rfl, rfl, (show 0 - 2 ≤ (-2) from by omega), (show (-2) ≤ 900 from by omega), (show (a0 146 68 = 0 → (-2) = 0 - 2) from by omega), (by unfold PR2 PRC; rw [if_neg (by rw [← h5y]; omega), if_pos (by have h := hco; rw [← h, ← h5y]; rw [CO_end (by omega)])])⟩
  exact ⟨hc176, hc141, hc117⟩
theorem cp_X12_priceOf_80 (E : jxE) (d : Nat) (hd : Nat.ble 1 (d + 1) = true) (x1 x2 x3 x4 : Int) (a0 b0 : Nat → Nat → Int) (hv0 : iv a0) (hp0 : (0 ≤ x1 ∧ x1 ≤ 15)) (hp1 : (0 ≤ x2 ∧ x2 ≤ 15)) : ∀ (y1 y2 y3 y5 y6 : Int), 0 ≤ y1 → y1 ≤ 15 → 0 ≤ y2 → y2 ≤ 15 → 0 ≤ y5 → y5 ≤ 9 → 0 ≤ y6 → y6 ≤ 99 → 1 ≤ a0 146 68 → (y1 = x1) → (y2 = x2) → (y3 = x3) → (y5 = HO (a0 192) x4 (a0 146 68).toNat) → 0 ≤ y5 → (y6 = a0 147 (16 * x1 + x2).toNat) → jt (jxX E d 283 80 [some (.inr (.inr (.inl 146))), some (.inl y1), some (.inl y2), some (.inl y3), none, some (.inl y5), some (.inl y6), none, none, none] [] (jxSH, a0, b0)) (jQ_X12_priceOf x1 x2 x3 x4 a0 b0) := by
  intro y1 y2 y3 y5 y6 hi0 hi1 hi2 hi3 hi4 hi5 hi6 hi7 hi8 hy1 hy2 hy3 h5y hi13 hy6
  refine jt_eq (bq_X12_priceOf_80 E d y1 y2 y3 y5 y6 a0 b0) ?_
  have h632_ := iv_get hv0 (k := 146) (j := 68) (l := 0) (u := 10) rfl
  refine jt_ite (fun c633_ => ?_) (fun c633_ => ?_)
  ·
    exact (cp_X12_priceOf_117 E d hd x1 x2 x3 x4 a0 b0 hv0 hp0 hp1 _).2.2 y3 y5 0 0 (Nat.le_refl _) (show 0 ≤ y5 from by omega) (show y5 ≤ 9 from by omega) (show 0 ≤ 0 from by omega) (show 0 ≤ 3 from by omega) (show 0 ≤ 0 from by omega) (show 0 ≤ 12 from by omega) (show 1 ≤ a0 146 68 from by omega) (by first | rfl | assumption) (by first | exact h5y | (rw [show (a0 146 68).toNat = y6.toNat from by omega]; exact hho)) (show 0 ≤ y5 from by omega) (by first | exact hy7 | (rw [← hy6, ← hy1, ← hy2]; unfold ZN; first | (rw [if_pos (by assumption)]) | (rw [if_neg (by assumption), if_pos (by assumption)]) | (rw [if_neg (by assumption), if_neg (by assumption), if_pos (by assumption)]) | (rw [if_neg (by assumption), if_neg (by assumption), if_neg (by assumption)]))) (show 0 ≤ 0 from by omega) (by first | rfl | (rw [show (jxw (y8 + 1)).toNat = y8.toNat + 1 from by omega]; exact hco))
  ·
    refine jt_ite (fun c634_ => ?_) (fun c634_ => ?_)
    ·
      exact (cp_X12_priceOf_117 E d hd x1 x2 x3 x4 a0 b0 hv0 hp0 hp1 _).2.2 y3 y5 1 0 (Nat.le_refl _) (show 0 ≤ y5 from by omega) (show y5 ≤ 9 from by omega) (show 0 ≤ 1 from by omega) (show 1 ≤ 3 from by omega) (show 0 ≤ 0 from by omega) (show 0 ≤ 12 from by omega) (show 1 ≤ a0 146 68 from by omega) (by first | rfl | assumption) (by first | exact h5y | (rw [show (a0 146 68).toNat = y6.toNat from by omega]; exact hho)) (show 0 ≤ y5 from by omega) (by first | exact hy7 | (rw [← hy6, ← hy1, ← hy2]; unfold ZN; first | (rw [if_pos (by assumption)]) | (rw [if_neg (by assumption), if_pos (by assumption)]) | (rw [if_neg (by assumption), if_neg (by assumption), if_pos (by assumption)]) | (rw [if_neg (by assumption), if_neg (by assumption), if_neg (by assumption)]))) (show 0 ≤ 0 from by omega) (by first | rfl | (rw [show (jxw (y8 + 1)).toNat = y8.toNat + 1 from by omega]; exact hco))
    ·
      refine jt_ite (fun c635_ => ?_) (fun c635_ => ?_)
      ·
        exact (cp_X12_priceOf_117 E d hd x1 x2 x3 x4 a0 b0 hv0 hp0 hp1 _).2.2 y3 y5 2 0 (Nat.le_refl _) (show 0 ≤ y5 from by omega) (show y5 ≤ 9 from by omega) (show 0 ≤ 2 from by omega) (show 2 ≤ 3 from by omega) (show 0 ≤ 0 from by omega) (show 0 ≤ 12 from by omega) (show 1 ≤ a0 146 68 from by omega) (by first | rfl | assumption) (by first | exact h5y | (rw [show (a0 146 68).toNat = y6.toNat from by omega]; exact hho)) (show 0 ≤ y5 from by omega) (by first | exact hy7 | (rw [← hy6, ← hy1, ← hy2]; unfold ZN; first | (rw [if_pos (by assumption)]) | (rw [if_neg (by assumption), if_pos (by assumption)]) | (rw [if_neg (by assumption), if_neg (by assumption), if_pos (by assumption)]) | (rw [if_neg (by assumption), if_neg (by assumption), if_neg (by assumption)]))) (show 0 ≤ 0 from by omega) (by first | rfl | (rw [show (jxw (y8 + 1)).toNat = y8.toNat + 1 from by omega]; exact hco))
      ·
        exact (cp_X12_priceOf_117 E d hd x1 x2 x3 x4 a0 b0 hv0 hp0 hp1 _).2.2 y3 y5 3 0 (Nat.le_refl _) (show 0 ≤ y5 from by omega) (show y5 ≤ 9 from by omega) (show 0 ≤ 3 from by omega) (show 3 ≤ 3 from by omega) (show 0 ≤ 0 from by omega) (show 0 ≤ 12 from by omega) (show 1 ≤ a0 146 68 from by omega) (by first | rfl | assumption) (by first | exact h5y | (rw [show (a0 146 68).toNat = y6.toNat from by omega]; exact hho)) (show 0 ≤ y5 from by omega) (by first | exact hy7 | (rw [← hy6, ← hy1, ← hy2]; unfold ZN; first | (rw [if_pos (by assumption)]) | (rw [if_neg (by assumption), if_pos (by assumption)]) | (rw [if_neg (by assumption), if_neg (by assumption), if_pos (by assumption)]) | (rw [if_neg (by assumption), if_neg (by assumption), if_neg (by assumption)]))) (show 0 ≤ 0 from by omega) (by first | rfl | (rw [show (jxw (y8 + 1)).toNat = y8.toNat + 1 from by omega]; exact hco))
theorem cp_X12_priceOf_6 (E : jxE) (d : Nat) (hd : Nat.ble 1 (d + 1) = true) (x1 x2 x3 x4 : Int) (a0 b0 : Nat → Nat → Int) (hv0 : iv a0) (hp0 : (0 ≤ x1 ∧ x1 ≤ 15)) (hp1 : (0 ≤ x2 ∧ x2 ≤ 15)) : ∀ n : Nat, (∀ (y1 y2 y3 y4 y5 y6 : Int), (((10 - y6) * 1) + 0).toNat ≤ n → 0 ≤ y1 → y1 ≤ 15 → 0 ≤ y2 → y2 ≤ 15 → 0 - 1 ≤ y5 → y5 ≤ 9 → 0 ≤ y6 → y6 ≤ 9 → 1 ≤ a0 146 68 → (y1 = x1) → (y2 = x2) → (y3 = x3) → (y4 = x4) → y6 < a0 146 68 → (y5 = HO (a0 192) x4 (y6.toNat + 1)) → jt (jxX E d 283 53 [some (.inr (.inr (.inl 146))), some (.inl y1), some (.inl y2), some (.inl y3), some (.inl y4), some (.inl y5), some (.inl y6), none, none, none] [] (jxSH, a0, b0)) (jQ_X12_priceOf x1 x2 x3 x4 a0 b0)) ∧ (∀ (y1 y2 y3 y4 y6 : Int), (((10 - y6) * 1) + 0).toNat ≤ n → 0 ≤ y1 → y1 ≤ 15 → 0 ≤ y2 → y2 ≤ 15 → 0 ≤ y6 → y6 ≤ 9 → 1 ≤ a0 146 68 → (y1 = x1) → (y2 = x2) → (y3 = x3) → (y4 = x4) → y6 < a0 146 68 → (HO (a0 192) x4 (y6.toNat + 1) = y6) → jt (jxX E d 283 49 [some (.inr (.inr (.inl 146))), some (.inl y1), some (.inl y2), some (.inl y3), some (.inl y4), none, some (.inl y6), none, none, none] [] (jxSH, a0, b0)) (jQ_X12_priceOf x1 x2 x3 x4 a0 b0)) ∧ (∀ (y1 y2 y3 y4 y5 y6 : Int), (((10 - y6) * 1) + 0).toNat ≤ n → 0 ≤ y1 → y1 ≤ 15 → 0 ≤ y2 → y2 ≤ 15 → 0 - 1 ≤ y5 → y5 ≤ 9 → 0 ≤ y6 → y6 ≤ 10 → (a0 146 68 = 0 → y5 < 0) → (y1 = x1) → (y2 = x2) → (y3 = x3) → (y4 = x4) → y6 ≤ a0 146 68 → (y5 = HO (a0 192) x4 y6.toNat) → jt (jxX E d 283 6 [some (.inr (.inr (.inl 146))), some (.inl y1), some (.inl y2), some (.inl y3), some (.inl y4), some (.inl y5), some (.inl y6), none, none, none] [] (jxSH, a0, b0)) (jQ_X12_priceOf x1 x2 x3 x4 a0 b0)) := by
  refine jx_ind fun n ih => ?_
  have ih53 : ∀ (y1 y2 y3 y4 y5 y6 : Int), (((10 - y6) * 1) + 0).toNat < n → 0 ≤ y1 → y1 ≤ 15 → 0 ≤ y2 → y2 ≤ 15 → 0 - 1 ≤ y5 → y5 ≤ 9 → 0 ≤ y6 → y6 ≤ 9 → 1 ≤ a0 146 68 → (y1 = x1) → (y2 = x2) → (y3 = x3) → (y4 = x4) → y6 < a0 146 68 → (y5 = HO (a0 192) x4 (y6.toNat + 1)) → jt (jxX E d 283 53 [some (.inr (.inr (.inl 146))), some (.inl y1), some (.inl y2), some (.inl y3), some (.inl y4), some (.inl y5), some (.inl y6), none, none, none] [] (jxSH, a0, b0)) (jQ_X12_priceOf x1 x2 x3 x4 a0 b0) := fun y1 y2 y3 y4 y5 y6 hlt i0 i1 i2 i3 i4 i5 i6 i7 i8 i9 i10 i11 i12 i13 i14 => (ih _ hlt).1 y1 y2 y3 y4 y5 y6 (Nat.le_refl _) i0 i1 i2 i3 i4 i5 i6 i7 i8 i9 i10 i11 i12 i13 i14
  have ih49 : ∀ (y1 y2 y3 y4 y6 : Int), (((10 - y6) * 1) + 0).toNat < n → 0 ≤ y1 → y1 ≤ 15 → 0 ≤ y2 → y2 ≤ 15 → 0 ≤ y6 → y6 ≤ 9 → 1 ≤ a0 146 68 → (y1 = x1) → (y2 = x2) → (y3 = x3) → (y4 = x4) → y6 < a0 146 68 → (HO (a0 192) x4 (y6.toNat + 1) = y6) → jt (jxX E d 283 49 [some (.inr (.inr (.inl 146))), some (.inl y1), some (.inl y2), some (.inl y3), some (.inl y4), none, some (.inl y6), none, none, none] [] (jxSH, a0, b0)) (jQ_X12_priceOf x1 x2 x3 x4 a0 b0) := fun y1 y2 y3 y4 y6 hlt i0 i1 i2 i3 i4 i5 i6 i7 i8 i9 i10 i11 i12 => (ih _ hlt).2.1 y1 y2 y3 y4 y6 (Nat.le_refl _) i0 i1 i2 i3 i4 i5 i6 i7 i8 i9 i10 i11 i12
  have ih6 : ∀ (y1 y2 y3 y4 y5 y6 : Int), (((10 - y6) * 1) + 0).toNat < n → 0 ≤ y1 → y1 ≤ 15 → 0 ≤ y2 → y2 ≤ 15 → 0 - 1 ≤ y5 → y5 ≤ 9 → 0 ≤ y6 → y6 ≤ 10 → (a0 146 68 = 0 → y5 < 0) → (y1 = x1) → (y2 = x2) → (y3 = x3) → (y4 = x4) → y6 ≤ a0 146 68 → (y5 = HO (a0 192) x4 y6.toNat) → jt (jxX E d 283 6 [some (.inr (.inr (.inl 146))), some (.inl y1), some (.inl y2), some (.inl y3), some (.inl y4), some (.inl y5), some (.inl y6), none, none, none] [] (jxSH, a0, b0)) (jQ_X12_priceOf x1 x2 x3 x4 a0 b0) := fun y1 y2 y3 y4 y5 y6 hlt i0 i1 i2 i3 i4 i5 i6 i7 i8 i9 i10 i11 i12 i13 i14 => (ih _ hlt).2.2 y1 y2 y3 y4 y5 y6 (Nat.le_refl _) i0 i1 i2 i3 i4 i5 i6 i7 i8 i9 i10 i11 i12 i13 i14
  have hc53 : ∀ (y1 y2 y3 y4 y5 y6 : Int), (((10 - y6) * 1) + 0).toNat ≤ n → 0 ≤ y1 → y1 ≤ 15 → 0 ≤ y2 → y2 ≤ 15 → 0 - 1 ≤ y5 → y5 ≤ 9 → 0 ≤ y6 → y6 ≤ 9 → 1 ≤ a0 146 68 → (y1 = x1) → (y2 = x2) → (y3 = x3) → (y4 = x4) → y6 < a0 146 68 → (y5 = HO (a0 192) x4 (y6.toNat + 1)) → jt (jxX E d 283 53 [some (.inr (.inr (.inl 146))), some (.inl y1), some (.inl y2), some (.inl y3), some (.inl y4), some (.inl y5), some (.inl y6), none, none, none] [] (jxSH, a0, b0)) (jQ_X12_priceOf x1 x2 x3 x4 a0 b0) := by
    intro y1 y2 y3 y4 y5 y6 hm hi0 hi1 hi2 hi3 hi4 hi5 hi6 hi7 hi8 hy1 hy2 hy3 hy4 hi13 hho
    refine jt_eq (bq_X12_priceOf_53 E d y1 y2 y3 y4 y5 y6 a0 b0) ?_
    have h636_ := iv_get hv0 (k := 146) (j := 68) (l := 0) (u := 10) rfl
    have h637_ : jxw (y6 + 1) = y6 + 1 := jxw_id (by omega) (by omega)
    exact ih6 y1 y2 y3 y4 y5 (jxw (y6 + 1)) (show (((10 - (jxw (y6 + 1))) * 1) + 0).toNat < n from by omega) (show 0 ≤ y1 from by omega) (show y1 ≤ 15 from by omega) (show 0 ≤ y2 from by omega) (show y2 ≤ 15 from by omega) (show 0 - 1 ≤ y5 from by omega) (show y5 ≤ 9 from by omega) (show 0 ≤ jxw (y6 + 1) from by omega) (show jxw (y6 + 1) ≤ 10 from by omega) (show (a0 146 68 = 0 → y5 < 0) from by omega) (by first | rfl | assumption) (by first | rfl | assumption) (by first | rfl | assumption) (by first | rfl | assumption) (show jxw (y6 + 1) ≤ a0 146 68 from by omega) (by first | rfl | (rw [show (jxw (y6 + 1)).toNat = y6.toNat + 1 from by omega]; exact hho))
  have hc49 : ∀ (y1 y2 y3 y4 y6 : Int), (((10 - y6) * 1) + 0).toNat ≤ n → 0 ≤ y1 → y1 ≤ 15 → 0 ≤ y2 → y2 ≤ 15 → 0 ≤ y6 → y6 ≤ 9 → 1 ≤ a0 146 68 → (y1 = x1) → (y2 = x2) → (y3 = x3) → (y4 = x4) → y6 < a0 146 68 → (HO (a0 192) x4 (y6.toNat + 1) = y6) → jt (jxX E d 283 49 [some (.inr (.inr (.inl 146))), some (.inl y1), some (.inl y2), some (.inl y3), some (.inl y4), none, some (.inl y6), none, none, none] [] (jxSH, a0, b0)) (jQ_X12_priceOf x1 x2 x3 x4 a0 b0) := by
    intro y1 y2 y3 y4 y6 hm hi0 hi1 hi2 hi3 hi4 hi5 hi6 hy1 hy2 hy3 hy4 hi11 hh
    refine jt_eq (bq_X12_priceOf_49 E d y1 y2 y3 y4 y6 a0 b0) ?_
    have h638_ := iv_get hv0 (k := 146) (j := 68) (l := 0) (u := 10) rfl
    exact hc53 y1 y2 y3 y4 y6 y6 (show (((10 - y6) * 1) + 0).toNat ≤ n from by omega) (show 0 ≤ y1 from by omega) (show y1 ≤ 15 from by omega) (show 0 ≤ y2 from by omega) (show y2 ≤ 15 from by omega) (show 0 - 1 ≤ y6 from by omega) (show y6 ≤ 9 from by omega) (show 0 ≤ y6 from by omega) (show y6 ≤ 9 from by omega) (show 1 ≤ a0 146 68 from by omega) (by first | rfl | assumption) (by first | rfl | assumption) (by first | rfl | assumption) (by first | rfl | assumption) (show y6 < a0 146 68 from by omega) (by first | (rw [HO_s2 (Or.inl (by rw [← hy4]; omega))]; exact hho) | (rw [HO_s2 (Or.inr ⟨by rw [← hho]; omega, by rw [← hho]; omega⟩)]; exact hho) | exact hh.symm)
  have hc6 : ∀ (y1 y2 y3 y4 y5 y6 : Int), (((10 - y6) * 1) + 0).toNat ≤ n → 0 ≤ y1 → y1 ≤ 15 → 0 ≤ y2 → y2 ≤ 15 → 0 - 1 ≤ y5 → y5 ≤ 9 → 0 ≤ y6 → y6 ≤ 10 → (a0 146 68 = 0 → y5 < 0) → (y1 = x1) → (y2 = x2) → (y3 = x3) → (y4 = x4) → y6 ≤ a0 146 68 → (y5 = HO (a0 192) x4 y6.toNat) → jt (jxX E d 283 6 [some (.inr (.inr (.inl 146))), some (.inl y1), some (.inl y2), some (.inl y3), some (.inl y4), some (.inl y5), some (.inl y6), none, none, none] [] (jxSH, a0, b0)) (jQ_X12_priceOf x1 x2 x3 x4 a0 b0) := by
    intro y1 y2 y3 y4 y5 y6 hm hi0 hi1 hi2 hi3 hi4 hi5 hi6 hi7 hi8 hy1 hy2 hy3 hy4 hi13 hho
    refine jt_eq (bq_X12_priceOf_6 E d y1 y2 y3 y4 y5 y6 a0 b0) ?_
    have h639_ := iv_get hv0 (k := 146) (j := 68) (l := 0) (u := 10) rfl
    refine jt_ite (fun c640_ => ?_) (fun c640_ => ?_)
    ·
      refine jt_grd (by omega) ?_
      refine jt_ite (fun c641_ => ?_) (fun c641_ => ?_)
      ·
        exact hc53 y1 y2 y3 y4 y5 y6 (show (((10 - y6) * 1) + 0).toNat ≤ n from by omega) (show 0 ≤ y1 from by omega) (show y1 ≤ 15 from by omega) (show 0 ≤ y2 from by omega) (show y2 ≤ 15 from by omega) (show 0 - 1 ≤ y5 from by omega) (show y5 ≤ 9 from by omega) (show 0 ≤ y6 from by omega) (show y6 ≤ 9 from by omega) (show 1 ≤ a0 146 68 from by omega) (by first | rfl | assumption) (by first | rfl | assumption) (by first | rfl | assumption) (by first | rfl | assumption) (show y6 < a0 146 68 from by omega) (by first | (rw [HO_s2 (Or.inl (by rw [← hy4]; omega))]; exact hho) | (rw [HO_s2 (Or.inr ⟨by rw [← hho]; omega, by rw [← hho]; omega⟩)]; exact hho) | exact hh.symm)
      ·
        refine jt_ite (fun c642_ => ?_) (fun c642_ => ?_)
        ·
          exact hc49 y1 y2 y3 y4 y6 (show (((10 - y6) * 1) + 0).toNat ≤ n from by omega) (show 0 ≤ y1 from by omega) (show y1 ≤ 15 from by omega) (show 0 ≤ y2 from by omega) (show y2 ≤ 15 from by omega) (show 0 ≤ y6 from by omega) (show y6 ≤ 9 from by omega) (show 1 ≤ a0 146 68 from by omega) (by first | rfl | assumption) (by first | rfl | assumption) (by first | rfl | assumption) (by first | rfl | assumption) (show y6 < a0 146 68 from by omega) (by have e := HO_s1 (f := a0 192) (d := x4) (m := y6.toNat) (by rw [← hy4]; omega) (by rw [← hho]; first | (left; omega) | (right; omega)); rw [e]; omega)
        ·
          refine jt_grd (by omega) ?_
          refine jt_grd (by omega) ?_
          refine jt_ite (fun c643_ => ?_) (fun c643_ => ?_)
          ·
            exact hc53 y1 y2 y3 y4 y5 y6 (show (((10 - y6) * 1) + 0).toNat ≤ n from by omega) (show 0 ≤ y1 from by omega) (show y1 ≤ 15 from by omega) (show 0 ≤ y2 from by omega) (show y2 ≤ 15 from by omega) (show 0 - 1 ≤ y5 from by omega) (show y5 ≤ 9 from by omega) (show 0 ≤ y6 from by omega) (show y6 ≤ 9 from by omega) (show 1 ≤ a0 146 68 from by omega) (by first | rfl | assumption) (by first | rfl | assumption) (by first | rfl | assumption) (by first | rfl | assumption) (show y6 < a0 146 68 from by omega) (by first | (rw [HO_s2 (Or.inl (by rw [← hy4]; omega))]; exact hho) | (rw [HO_s2 (Or.inr ⟨by rw [← hho]; omega, by rw [← hho]; omega⟩)]; exact hho) | exact hh.symm)
          ·
            exact hc49 y1 y2 y3 y4 y6 (show (((10 - y6) * 1) + 0).toNat ≤ n from by omega) (show 0 ≤ y1 from by omega) (show y1 ≤ 15 from by omega) (show 0 ≤ y2 from by omega) (show y2 ≤ 15 from by omega) (show 0 ≤ y6 from by omega) (show y6 ≤ 9 from by omega) (show 1 ≤ a0 146 68 from by omega) (by first | rfl | assumption) (by first | rfl | assumption) (by first | rfl | assumption) (by first | rfl | assumption) (show y6 < a0 146 68 from by omega) (by have e := HO_s1 (f := a0 192) (d := x4) (m := y6.toNat) (by rw [← hy4]; omega) (by rw [← hho]; first | (left; omega) | (right; omega)); rw [e]; omega)
    ·
      refine jt_ite (fun c644_ => ?_) (fun c644_ => ?_)
      ·
        exact jt_rI ⟨rfl, rfl, (show 0 - 2 ≤ (-2) from by omega), (show (-2) ≤ 900 from by omega), (show (a0 146 68 = 0 → (-2) = 0 - 2) from by omega), (by unfold PR2 PRC; rw [if_pos (by rw [show (a0 146 68).toNat = y6.toNat from by omega, ← hho]; omega)])⟩
      ·
        have h645_ : jxw (16 * y1) = 16 * y1 := jxw_id (by omega) (by omega)
        have h646_ : jxw ((jxw (16 * y1)) + y2) = (jxw (16 * y1)) + y2 := jxw_id (by omega) (by omega)
        refine jt_grd (by omega) ?_
        have h647_ := iv_get hv0 (k := 147) (j := (jxw ((jxw (16 * y1)) + y2)).toNat) (l := 0) (u := 99) rfl
        exact cp_X12_priceOf_80 E d hd x1 x2 x3 x4 a0 b0 hv0 hp0 hp1 y1 y2 y3 y5 (a0 147 ((jxw ((jxw (16 * y1)) + y2)).toNat)) (show 0 ≤ y1 from by omega) (show y1 ≤ 15 from by omega) (show 0 ≤ y2 from by omega) (show y2 ≤ 15 from by omega) (show 0 ≤ y5 from by omega) (show y5 ≤ 9 from by omega) (show 0 ≤ a0 147 ((jxw ((jxw (16 * y1)) + y2)).toNat) from by omega) (show a0 147 ((jxw ((jxw (16 * y1)) + y2)).toNat) ≤ 99 from by omega) (show 1 ≤ a0 146 68 from by omega) (by first | rfl | assumption) (by first | rfl | assumption) (by first | rfl | assumption) (by first | exact h5y | (rw [show (a0 146 68).toNat = y6.toNat from by omega]; exact hho)) (show 0 ≤ y5 from by omega) (by rw [show (16 * x1 + x2).toNat = (jxw ((jxw (16 * y1)) + y2)).toNat from by omega])
  exact ⟨hc53, hc49, hc6⟩
theorem sp_X12_priceOf (E : jxE) (d : Nat) (hd : Nat.ble 1 d = true) (x1 x2 x3 x4 : Int) (a0 b0 : Nat → Nat → Int) (hv0 : iv a0) (hp0 : (0 ≤ x1 ∧ x1 ≤ 15)) (hp1 : (0 ≤ x2 ∧ x2 ≤ 15)) : jt (jxC E d 283 [.inr (.inr (.inl 146)), .inl x1, .inl x2, .inl x3, .inl x4] (jxSH, a0, b0)) (jQ_X12_priceOf x1 x2 x3 x4 a0 b0) := by
  obtain ⟨d, rfl⟩ := jd_succ hd
  refine jt_eq (bq_X12_priceOf E d x1 x2 x3 x4 a0 b0) ?_
  have h648_ := iv_get hv0 (k := 146) (j := 68) (l := 0) (u := 10) rfl
  exact (cp_X12_priceOf_6 E d hd x1 x2 x3 x4 a0 b0 hv0 hp0 hp1 _).2.2 x1 x2 x3 x4 (-1) 0 (Nat.le_refl _) (show 0 ≤ x1 from by omega) (show x1 ≤ 15 from by omega) (show 0 ≤ x2 from by omega) (show x2 ≤ 15 from by omega) (show 0 - 1 ≤ (-1) from by omega) (show (-1) ≤ 9 from by omega) (show 0 ≤ 0 from by omega) (show 0 ≤ 10 from by omega) (show (a0 146 68 = 0 → (-1) < 0) from by omega) (by first | rfl | assumption) (by first | rfl | assumption) (by first | rfl | assumption) (by first | rfl | assumption) (show 0 ≤ a0 146 68 from by omega) (by first | rfl | (rw [show (jxw (y6 + 1)).toNat = y6.toNat + 1 from by omega]; exact hho))
