def jW_X11_ask : List (Nat × Nat) := [(58, 8), (58, 13), (58, 14), (58, 15), (59, 9999), (60, 9999), (61, 9999), (62, 9999), (63, 9999), (64, 9999), (65, 9999), (70, 9999), (71, 9999), (72, 9999), (73, 9999), (74, 9999), (75, 9999)]
abbrev jQ_X11_ask (x1 : Int) (a0 b0 : Nat → Nat → Int) : List jxV → (Nat → Nat → Int) → (Nat → Nat → Int) → Prop := rI (fun r a b => (iv a) ∧ (jfr jW_X11_ask a0 a) ∧ (b0 = b) ∧ ((a0 4 6 = 0 → r = 0 - 1)) ∧ (0 ≤ x1 → x1 < a0 4 6 → a0 58 8 < 300 → ASKC a0 b0 a x1 r) ∧ ((((x1 < 0 ∨ a0 4 6 ≤ x1) ∨ 300 ≤ a0 58 8) → r = 0 - 1)) ∧ ((x1 < 0 ∨ a0 4 6 ≤ x1 ∨ 300 ≤ a0 58 8) → cvC a = cvC a0))
theorem cp_X11_ask_39 (E : jxE) (d : Nat) (hd : Nat.ble 9 (d + 1) = true) (x1 : Int) (a0 b0 : Nat → Nat → Int) (hv0 : iv a0) (hp0 : WISHR a0) : ∀ (y1 : Int) (a : Nat → Nat → Int), iv a → jfr jW_X11_ask a0 a → 0 ≤ y1 → y1 ≤ 39 → (jfr jWtk a0 a) → (y1 = x1) → (0 ≤ x1 ∧ x1 < a 4 6) → a0 58 8 < 300 → (TSUM a0 b0 (a0 0 0) a (a0 58 8).toNat) → 1 ≤ a0 4 6 → jt (jxX E d 165 39 [some (.inr (.inr (.inl 0))), some (.inl y1), none] [] (jxSH, a, b0)) (jQ_X11_ask x1 a0 b0) := by
  intro y1 a hv hf hi0 hi1 hfe hy1 hi4 hi5 hts hi7
  refine jt_eq (bq_X11_ask_39 E d y1 a b0) ?_
  have h732_ := iv_get hv (k := 4) (j := 6) (l := 0) (u := 40) rfl
  have h733_ : a 4 6 = a0 4 6 := hf 4 6 rfl
  have h734_ := iv_get hv0 (k := 4) (j := 6) (l := 0) (u := 40) rfl
  have h735_ := iv_get hv0 (k := 58) (j := 8) (l := 0) (u := 300) rfl
  refine jt_eI (eq_X11_mayAsk E d (jd_le hd rfl) y1 a b0) ?_
  have h736_ := f_X11_mayAsk_bool a b0 y1
  refine jt_ite (fun c737_ => ?_) (fun c737_ => ?_)
  ·
    exact jt_rI ⟨hv, hf, rfl, (show (a0 4 6 = 0 → (-2) = 0 - 1) from by omega), (fun h1 h2 h3 => ⟨a, hfe, hts, Or.inl ⟨by rw [← hy1]; assumption, rfl, cvC_fr hfe rfl⟩⟩), (show (((x1 < 0 ∨ a0 4 6 ≤ x1) ∨ 300 ≤ a0 58 8) → (-2) = 0 - 1) from by omega), (fun h => absurd (by omega : False) id)⟩
  ·
    refine jt_bI (sp_X11_firstReceiver E d (jd_le hd rfl) y1 a b0 hv (WISHR_fr hp0 hf (fun _ => rfl) (fun _ => rfl) (fun _ => rfl) (fun _ => rfl))) (fun r738_ a738_ b738_ h738_ => ?_)
    obtain ⟨rfl, rfl, hq738_0⟩ := h738_
    refine jt_ite (fun c739_ => ?_) (fun c739_ => ?_)
    ·
      exact jt_rI ⟨hv, hf, rfl, (show (a0 4 6 = 0 → (-3) = 0 - 1) from by omega), (fun h1 h2 h3 => by have qf := hq738_0 (by omega) (by omega); rw [hy1, hfe 58 8 rfl, hfe 4 6 rfl] at qf; exact ⟨a, hfe, hts, Or.inr ⟨by rw [← hy1]; assumption, Or.inl ⟨by rw [← qf]; assumption, rfl, cvC_fr hfe rfl⟩⟩⟩), (show (((x1 < 0 ∨ a0 4 6 ≤ x1) ∨ 300 ≤ a0 58 8) → (-3) = 0 - 1) from by omega), (fun h => absurd (by omega : False) id)⟩
    ·
      refine jt_bI (sp_X11_send E d (jd_le hd rfl) y1 r738_ (-1) a b0 hv) (fun r740_ a740_ b740_ h740_ => ?_)
      obtain ⟨hv740_, hf740_, rfl, hq740_0, hq740_1, hq740_2⟩ := h740_
      have h741_ := iv_get hv (k := 58) (j := 8) (l := 0) (u := 300) rfl
      have hf742_ : jfr jW_X11_ask a0 a740_ := jfr_tr hf hf740_ rfl
      exact jt_rI ⟨hv740_, hf742_, rfl, (show (a0 4 6 = 0 → r740_ = 0 - 1) from by omega), (fun h1 h2 h3 => by have qf := hq738_0 (by omega) (by omega); rw [hy1, hfe 58 8 rfl, hfe 4 6 rfl] at qf; have q1 := hq740_0 (by rw [hfe 58 8 rfl]; omega); have e588 := hfe 58 8 rfl; rw [hy1, qf, hfe 0 0 rfl, cvC_fr hfe rfl] at q1; exact ⟨a, hfe, hts, Or.inr ⟨by rw [← hy1]; assumption, Or.inr ⟨by rw [← qf]; assumption, by omega, q1⟩⟩⟩), (show (((x1 < 0 ∨ a0 4 6 ≤ x1) ∨ 300 ≤ a0 58 8) → r740_ = 0 - 1) from by omega), (fun h => absurd (by omega : False) id)⟩
theorem sp_X11_ask (E : jxE) (d : Nat) (hd : Nat.ble 9 d = true) (x1 : Int) (a0 b0 : Nat → Nat → Int) (hv0 : iv a0) (hp0 : WISHR a0) : jt (jxC E d 165 [.inr (.inr (.inl 0)), .inl x1] (jxSH, a0, b0)) (jQ_X11_ask x1 a0 b0) := by
  obtain ⟨d, rfl⟩ := jd_succ hd
  refine jt_eq (bq_X11_ask E d x1 a0 b0) ?_
  refine jt_eI (eq_X3_has E d (jd_le hd rfl) x1 a0 b0) ?_
  have h743_ := f_X3_has_eq a0 b0 x1
  have h744_ := iv_get hv0 (k := 4) (j := 6) (l := 0) (u := 40) rfl
  refine jt_ite (fun c745_ => ?_) (fun c745_ => ?_)
  ·
    have h746_ := iv_get hv0 (k := 58) (j := 8) (l := 0) (u := 300) rfl
    exact jt_rI ⟨hv0, (jfr_rf _ _), rfl, (show (a0 4 6 = 0 → (-1) = 0 - 1) from by omega), (fun h1 h2 h3 => absurd (by omega : False) id), (show (((x1 < 0 ∨ a0 4 6 ≤ x1) ∨ 300 ≤ a0 58 8) → (-1) = 0 - 1) from by omega), (fun _ => rfl)⟩
  ·
    refine jt_eI (eq_X0_hasRoom E d (jd_le hd rfl) 1 a0 b0) ?_
    have h747_ := f_X0_hasRoom_eq a0 b0 1
    have h748_ := iv_get hv0 (k := 58) (j := 8) (l := 0) (u := 300) rfl
    have h749_ : jxw (300 - (a0 58 8)) = 300 - (a0 58 8) := jxw_id (by omega) (by omega)
    refine jt_ite (fun c750_ => ?_) (fun c750_ => ?_)
    ·
      exact jt_rI ⟨hv0, (jfr_rf _ _), rfl, (show (a0 4 6 = 0 → (-1) = 0 - 1) from by omega), (fun h1 h2 h3 => absurd (by omega : False) id), (show (((x1 < 0 ∨ a0 4 6 ≤ x1) ∨ 300 ≤ a0 58 8) → (-1) = 0 - 1) from by omega), (fun _ => rfl)⟩
    ·
      refine jt_bV (sp_X7_take_r58 E d (jd_le hd rfl) (a0 0 0) a0 b0 hv0) (fun a751_ b751_ h751_ => ?_)
      obtain ⟨hv751_, hf751_, rfl, hq751_0⟩ := h751_
      have hf752_ : jfr jW_X11_ask a0 a751_ := jfr_tr (jfr_rf _ _) hf751_ rfl
      have hf753_ : jfr jWtk a0 a751_ := jfr_tr (jfr_rf _ _) hf751_ rfl
      have h754_ := iv_get hv751_ (k := 4) (j := 6) (l := 0) (u := 40) rfl
      have h755_ : a751_ 4 6 = a0 4 6 := hf751_ 4 6 rfl
      exact cp_X11_ask_39 E d hd x1 a0 b0 hv0 hp0 x1 a751_ hv751_ hf752_ (show 0 ≤ x1 from by omega) (show x1 ≤ 39 from by omega) hf753_ (by first | rfl | assumption) (show (0 ≤ x1 ∧ x1 < a751_ 4 6) from by omega) (show a0 58 8 < 300 from by omega) hq751_0 (show 1 ≤ a0 4 6 from by omega)
def jW_X4_takeAway : List (Nat × Nat) := [(87, 9999), (88, 9999), (89, 9999)]
abbrev jQ_X4_takeAway (x1 : Int) (a0 b0 : Nat → Nat → Int) : List jxV → (Nat → Nat → Int) → (Nat → Nat → Int) → Prop := rV (fun a b => (iv a) ∧ (jfr jW_X4_takeAway a0 a) ∧ (b0 = b))
theorem cp_X4_takeAway_22 (E : jxE) (d : Nat) (hd : Nat.ble 2 (d + 1) = true) (x1 : Int) (a0 b0 : Nat → Nat → Int) (hv0 : iv a0) : ∀ (y1 : Int) (a : Nat → Nat → Int), iv a → jfr jW_X4_takeAway a0 a → 0 ≤ y1 → y1 ≤ 19 → jt (jxX E d 69 22 [some (.inr (.inr (.inl 83))), some (.inl y1)] [] (jxSH, a, b0)) (jQ_X4_takeAway x1 a0 b0) := by
  intro y1 a hv hf hi0 hi1
  refine jt_eq (bq_X4_takeAway_22 E d y1 a b0) ?_
  refine jt_grd (by omega) ?_
  have hv756_ : iv (jxu a 89 (y1.toNat) (-1)) := iv_putf hv rfl
  have hf757_ : jfr jW_X4_takeAway a0 (jxu a 89 (y1.toNat) (-1)) := jfr_put hf rfl
  exact jt_rV ⟨hv756_, hf757_, rfl⟩
theorem sp_X4_takeAway (E : jxE) (d : Nat) (hd : Nat.ble 2 d = true) (x1 : Int) (a0 b0 : Nat → Nat → Int) (hv0 : iv a0) : jt (jxC E d 69 [.inr (.inr (.inl 83)), .inl x1] (jxSH, a0, b0)) (jQ_X4_takeAway x1 a0 b0) := by
  obtain ⟨d, rfl⟩ := jd_succ hd
  refine jt_eq (bq_X4_takeAway E d x1 a0 b0) ?_
  refine jt_eI (eq_X4_has E d (jd_le hd rfl) x1 a0 b0) ?_
  have h758_ := f_X4_has_eq a0 b0 x1
  have h759_ := iv_get hv0 (k := 83) (j := 6) (l := 0) (u := 20) rfl
  refine jt_ite (fun c760_ => ?_) (fun c760_ => ?_)
  ·
    exact jt_rV ⟨hv0, (jfr_rf _ _), rfl⟩
  ·
    refine jt_grd (by omega) ?_
    refine jt_grd (by omega) ?_
    have hv761_ : iv (jxu a0 87 (x1.toNat) 2) := iv_putf hv0 rfl
    have hv762_ : iv (jxu (jxu a0 87 (x1.toNat) 2) 88 (x1.toNat) (-1)) := iv_putf hv761_ rfl
    have hf763_ : jfr jW_X4_takeAway a0 (jxu a0 87 (x1.toNat) 2) := jfr_put (jfr_rf _ _) rfl
    have hf764_ : jfr jW_X4_takeAway a0 (jxu (jxu a0 87 (x1.toNat) 2) 88 (x1.toNat) (-1)) := jfr_put hf763_ rfl
    exact cp_X4_takeAway_22 E d hd x1 a0 b0 hv0 x1 (jxu (jxu a0 87 (x1.toNat) 2) 88 (x1.toNat) (-1)) hv762_ hf764_ (show 0 ≤ x1 from by omega) (show x1 ≤ 19 from by omega)
def jW_X11_away : List (Nat × Nat) := [(87, 9999), (88, 9999), (89, 9999)]
abbrev jQ_X11_away (x1 : Int) (a0 b0 : Nat → Nat → Int) : List jxV → (Nat → Nat → Int) → (Nat → Nat → Int) → Prop := rI (fun r a b => (iv a) ∧ (jfr jW_X11_away a0 a) ∧ (b0 = b) ∧ ((0 ≤ r ∧ r ≤ 1)) ∧ ((a0 83 6 = 0 → r = 0)))
theorem sp_X11_away (E : jxE) (d : Nat) (hd : Nat.ble 3 d = true) (x1 : Int) (a0 b0 : Nat → Nat → Int) (hv0 : iv a0) : jt (jxC E d 185 [.inr (.inr (.inl 0)), .inl x1] (jxSH, a0, b0)) (jQ_X11_away x1 a0 b0) := by
  obtain ⟨d, rfl⟩ := jd_succ hd
  refine jt_eq (bq_X11_away E d x1 a0 b0) ?_
  refine jt_eI (eq_X4_isOpen E d (jd_le hd rfl) x1 a0 b0) ?_
  have h765_ := f_X4_isOpen_eq a0 b0 x1
  have h766_ := f_X4_has_eq a0 b0 x1
  have h767_ := iv_get hv0 (k := 83) (j := 6) (l := 0) (u := 20) rfl
  refine jt_ite (fun c768_ => ?_) (fun c768_ => ?_)
  ·
    exact jt_rI ⟨hv0, (jfr_rf _ _), rfl, (show (0 ≤ 0 ∧ 0 ≤ 1) from by omega), (show (a0 83 6 = 0 → 0 = 0) from by omega)⟩
  ·
    refine jt_bV (sp_X4_takeAway E d (jd_le hd rfl) x1 a0 b0 hv0) (fun a769_ b769_ h769_ => ?_)
    obtain ⟨hv769_, hf769_, rfl⟩ := h769_
    have hf770_ : jfr jW_X11_away a0 a769_ := jfr_tr (jfr_rf _ _) hf769_ rfl
    exact jt_rI ⟨hv769_, hf770_, rfl, (show (0 ≤ 1 ∧ 1 ≤ 1) from by omega), (show (a0 83 6 = 0 → 1 = 0) from by omega)⟩
def jW_X11_back : List (Nat × Nat) := [(58, 12), (65, 9999), (66, 9999), (67, 9999), (68, 9999)]
abbrev jQ_X11_back (x1 : Int) (a0 b0 : Nat → Nat → Int) : List jxV → (Nat → Nat → Int) → (Nat → Nat → Int) → Prop := rI (fun r a b => (iv a) ∧ (jfr jW_X11_back a0 a) ∧ (b0 = b) ∧ ((0 ≤ r ∧ r ≤ 1)) ∧ ((a0 58 8 = 0 → r = 0)) ∧ (r = 1 → 0 ≤ x1 ∧ x1 < a0 58 8 ∧ a0 64 x1.toNat = -1 ∧ a0 58 12 < 600 ∧ ¬ (f_X0_arrivedOnOf a0 b0 x1) = -1) ∧ (r = 0 → ¬ (0 ≤ x1 ∧ x1 < a0 58 8 ∧ a0 64 x1.toNat = -1 ∧ a0 58 12 < 600 ∧ ¬ (f_X0_arrivedOnOf a0 b0 x1) = -1)) ∧ (r = 1 → cvC a = vTell (cvC a0) x1 (-1) (a0 0 0)) ∧ (r = 0 → cvC a = cvC a0))
theorem sp_X11_back (E : jxE) (d : Nat) (hd : Nat.ble 4 d = true) (x1 : Int) (a0 b0 : Nat → Nat → Int) (hv0 : iv a0) : jt (jxC E d 178 [.inr (.inr (.inl 0)), .inl x1] (jxSH, a0, b0)) (jQ_X11_back x1 a0 b0) := by
  obtain ⟨d, rfl⟩ := jd_succ hd
  refine jt_eq (bq_X11_back E d x1 a0 b0) ?_
  refine jt_bI (sp_X0_takeBack E d (jd_le hd rfl) x1 (a0 0 0) a0 b0 hv0) (fun r771_ a771_ b771_ h771_ => ?_)
  obtain ⟨hv771_, hf771_, rfl, hq771_0, hq771_1, hq771_2, hq771_3, hq771_4, hq771_5⟩ := h771_
  have h772_ := iv_get hv0 (k := 58) (j := 8) (l := 0) (u := 300) rfl
  refine jt_grd (by omega) ?_
  have hf773_ : jfr jW_X11_back a0 a771_ := jfr_tr (jfr_rf _ _) hf771_ rfl
  exact jt_rI ⟨hv771_, hf773_, rfl, (show (0 ≤ r771_ ∧ r771_ ≤ 1) from by omega), (show (a0 58 8 = 0 → r771_ = 0) from by omega), hq771_2, hq771_3, hq771_4, hq771_5⟩
def jW_X3_addCredit : List (Nat × Nat) := [(9, 9999)]
abbrev jQ_X3_addCredit (x1 : Int) (a0 b0 : Nat → Nat → Int) : List jxV → (Nat → Nat → Int) → (Nat → Nat → Int) → Prop := rV (fun a b => (iv a) ∧ (jfr jW_X3_addCredit a0 a) ∧ (b0 = b))
theorem sp_X3_addCredit (E : jxE) (d : Nat) (hd : Nat.ble 2 d = true) (x1 : Int) (a0 b0 : Nat → Nat → Int) (hv0 : iv a0) : jt (jxC E d 56 [.inr (.inr (.inl 4)), .inl x1] (jxSH, a0, b0)) (jQ_X3_addCredit x1 a0 b0) := by
  obtain ⟨d, rfl⟩ := jd_succ hd
  refine jt_eq (bq_X3_addCredit E d x1 a0 b0) ?_
  refine jt_eI (eq_X3_has E d (jd_le hd rfl) x1 a0 b0) ?_
  have h774_ := f_X3_has_eq a0 b0 x1
  have h775_ := iv_get hv0 (k := 4) (j := 6) (l := 0) (u := 40) rfl
  refine jt_ite (fun c776_ => ?_) (fun c776_ => ?_)
  ·
    exact jt_rV ⟨hv0, (jfr_rf _ _), rfl⟩
  ·
    refine jt_grd (by omega) ?_
    refine jt_grd (by omega) ?_
    have hv777_ : iv (jxu a0 9 (x1.toNat) (jxw ((a0 9 (x1.toNat)) + 1))) := iv_putf hv0 rfl
    have hf778_ : jfr jW_X3_addCredit a0 (jxu a0 9 (x1.toNat) (jxw ((a0 9 (x1.toNat)) + 1))) := jfr_put (jfr_rf _ _) rfl
    exact jt_rV ⟨hv777_, hf778_, rfl⟩
def jW_X11_clock : List (Nat × Nat) := [(0, 0)]
abbrev jQ_X11_clock (x1 : Int) (a0 b0 : Nat → Nat → Int) : List jxV → (Nat → Nat → Int) → (Nat → Nat → Int) → Prop := rI (fun r a b => (iv a) ∧ (jfr jW_X11_clock a0 a) ∧ (b0 = b) ∧ ((0 ≤ r ∧ r ≤ 1)) ∧ (((((r = 1 ∧ a0 0 0 ≤ x1) ∧ x1 ≤ 1999) ∧ a 0 0 = x1) ∨ ((r = 0 ∧ (x1 < a0 0 0 ∨ 1999 < x1)) ∧ a 0 0 = a0 0 0))))
theorem sp_X11_clock (E : jxE) (d : Nat) (hd : Nat.ble 3 d = true) (x1 : Int) (a0 b0 : Nat → Nat → Int) (hv0 : iv a0) : jt (jxC E d 154 [.inr (.inr (.inl 0)), .inl x1] (jxSH, a0, b0)) (jQ_X11_clock x1 a0 b0) := by
  obtain ⟨d, rfl⟩ := jd_succ hd
  refine jt_eq (bq_X11_clock E d x1 a0 b0) ?_
  refine jt_eI (eq_X11_isDay E d (jd_le hd rfl) x1 a0 b0) ?_
  have h779_ := f_X11_isDay_eq a0 b0 x1
  have h780_ := f_X11_within_eq a0 b0 x1 0 1999
  refine jt_ite (fun c781_ => ?_) (fun c781_ => ?_)
  ·
    have h782_ := iv_get hv0 (k := 0) (j := 0) (l := 0) (u := 1999) rfl
    exact jt_rI ⟨hv0, (jfr_rf _ _), rfl, (show (0 ≤ 0 ∧ 0 ≤ 1) from by omega), (show ((((0 = 1 ∧ a0 0 0 ≤ x1) ∧ x1 ≤ 1999) ∧ a0 0 0 = x1) ∨ ((0 = 0 ∧ (x1 < a0 0 0 ∨ 1999 < x1)) ∧ a0 0 0 = a0 0 0)) from by omega)⟩
  ·
    have h783_ := iv_get hv0 (k := 0) (j := 0) (l := 0) (u := 1999) rfl
    refine jt_ite (fun c784_ => ?_) (fun c784_ => ?_)
    ·
      exact jt_rI ⟨hv0, (jfr_rf _ _), rfl, (show (0 ≤ 0 ∧ 0 ≤ 1) from by omega), (show ((((0 = 1 ∧ a0 0 0 ≤ x1) ∧ x1 ≤ 1999) ∧ a0 0 0 = x1) ∨ ((0 = 0 ∧ (x1 < a0 0 0 ∨ 1999 < x1)) ∧ a0 0 0 = a0 0 0)) from by omega)⟩
    ·
      have hv785_ : iv (jxu a0 0 0 x1) := iv_put hv0 (l := 0) (u := 1999) rfl (by omega) (by omega)
      have hf786_ : jfr jW_X11_clock a0 (jxu a0 0 0 x1) := jfr_put (jfr_rf _ _) rfl
      exact jt_rI ⟨hv785_, hf786_, rfl, (show (0 ≤ 1 ∧ 1 ≤ 1) from by omega), (show ((((1 = 1 ∧ a0 0 0 ≤ x1) ∧ x1 ≤ 1999) ∧ x1 = x1) ∨ ((1 = 0 ∧ (x1 < a0 0 0 ∨ 1999 < x1)) ∧ x1 = a0 0 0)) from by omega)⟩
def jW_X4_addRing : List (Nat × Nat) := [(83, 7)]
abbrev jQ_X4_addRing (a0 b0 : Nat → Nat → Int) : List jxV → (Nat → Nat → Int) → (Nat → Nat → Int) → Prop := rI (fun r a b => (iv a) ∧ (jfr jW_X4_addRing a0 a) ∧ (b0 = b))
theorem sp_X4_addRing (E : jxE) (d : Nat) (hd : Nat.ble 1 d = true) (a0 b0 : Nat → Nat → Int) (hv0 : iv a0) : jt (jxC E d 67 [.inr (.inr (.inl 83))] (jxSH, a0, b0)) (jQ_X4_addRing a0 b0) := by
  obtain ⟨d, rfl⟩ := jd_succ hd
  refine jt_eq (bq_X4_addRing E d a0 b0) ?_
  have hv787_ : iv (jxu a0 83 7 (jxw ((a0 83 7) + 1))) := iv_putf hv0 rfl
  have hf788_ : jfr jW_X4_addRing a0 (jxu a0 83 7 (jxw ((a0 83 7) + 1))) := jfr_put (jfr_rf _ _) rfl
  exact jt_rI ⟨hv787_, hf788_, rfl⟩
def jW_X4_joinRing : List (Nat × Nat) := [(87, 9999), (88, 9999), (89, 9999)]
abbrev jQ_X4_joinRing (x1 x2 x3 : Int) (a0 b0 : Nat → Nat → Int) : List jxV → (Nat → Nat → Int) → (Nat → Nat → Int) → Prop := rV (fun a b => (iv a) ∧ (jfr jW_X4_joinRing a0 a) ∧ (b0 = b))
theorem cp_X4_joinRing_22 (E : jxE) (d : Nat) (hd : Nat.ble 2 (d + 1) = true) (x1 x2 x3 : Int) (a0 b0 : Nat → Nat → Int) (hv0 : iv a0) : ∀ (y1 y3 : Int) (a : Nat → Nat → Int), iv a → jfr jW_X4_joinRing a0 a → 0 ≤ y1 → y1 ≤ 19 → jt (jxX E d 68 22 [some (.inr (.inr (.inl 83))), some (.inl y1), none, some (.inl y3)] [] (jxSH, a, b0)) (jQ_X4_joinRing x1 x2 x3 a0 b0) := by
  intro y1 y3 a hv hf hi0 hi1
  refine jt_eq (bq_X4_joinRing_22 E d y1 y3 a b0) ?_
  refine jt_grd (by omega) ?_
  have hv789_ : iv (jxu a 89 (y1.toNat) y3) := iv_putf hv rfl
  have hf790_ : jfr jW_X4_joinRing a0 (jxu a 89 (y1.toNat) y3) := jfr_put hf rfl
  exact jt_rV ⟨hv789_, hf790_, rfl⟩
theorem sp_X4_joinRing (E : jxE) (d : Nat) (hd : Nat.ble 2 d = true) (x1 x2 x3 : Int) (a0 b0 : Nat → Nat → Int) (hv0 : iv a0) : jt (jxC E d 68 [.inr (.inr (.inl 83)), .inl x1, .inl x2, .inl x3] (jxSH, a0, b0)) (jQ_X4_joinRing x1 x2 x3 a0 b0) := by
  obtain ⟨d, rfl⟩ := jd_succ hd
  refine jt_eq (bq_X4_joinRing E d x1 x2 x3 a0 b0) ?_
  refine jt_eI (eq_X4_has E d (jd_le hd rfl) x1 a0 b0) ?_
  have h791_ := f_X4_has_eq a0 b0 x1
  have h792_ := iv_get hv0 (k := 83) (j := 6) (l := 0) (u := 20) rfl
  refine jt_ite (fun c793_ => ?_) (fun c793_ => ?_)
  ·
    exact jt_rV ⟨hv0, (jfr_rf _ _), rfl⟩
  ·
    refine jt_grd (by omega) ?_
    refine jt_grd (by omega) ?_
    have hv794_ : iv (jxu a0 87 (x1.toNat) 1) := iv_putf hv0 rfl
    have hv795_ : iv (jxu (jxu a0 87 (x1.toNat) 1) 88 (x1.toNat) x2) := iv_putf hv794_ rfl
    have hf796_ : jfr jW_X4_joinRing a0 (jxu a0 87 (x1.toNat) 1) := jfr_put (jfr_rf _ _) rfl
    have hf797_ : jfr jW_X4_joinRing a0 (jxu (jxu a0 87 (x1.toNat) 1) 88 (x1.toNat) x2) := jfr_put hf796_ rfl
    exact cp_X4_joinRing_22 E d hd x1 x2 x3 a0 b0 hv0 x1 x3 (jxu (jxu a0 87 (x1.toNat) 1) 88 (x1.toNat) x2) hv795_ hf797_ (show 0 ≤ x1 from by omega) (show x1 ≤ 19 from by omega)
abbrev jQ_X3_howManyThere (a0 b0 : Nat → Nat → Int) : List jxV → (Nat → Nat → Int) → (Nat → Nat → Int) → Prop := rI (fun r a b => (a0 = a) ∧ (b0 = b) ∧ ((a0 4 6 = 0 → r = 0)))
theorem cp_X3_howManyThere_4 (E : jxE) (d : Nat) (hd : Nat.ble 3 (d + 1) = true) (a0 b0 : Nat → Nat → Int) (hv0 : iv a0) : ∀ n : Nat, (∀ (y1 y2 : Int), (((40 - y2) * 1) + 0).toNat ≤ n → 0 ≤ y2 → y2 ≤ 40 → (a0 4 6 = 0 → y1 = 0) → jt (jxX E d 53 4 [some (.inr (.inr (.inl 4))), some (.inl y1), some (.inl y2)] [] (jxSH, a0, b0)) (jQ_X3_howManyThere a0 b0)) := by
  refine jx_ind fun n ih => ?_
  have ih4 : ∀ (y1 y2 : Int), (((40 - y2) * 1) + 0).toNat < n → 0 ≤ y2 → y2 ≤ 40 → (a0 4 6 = 0 → y1 = 0) → jt (jxX E d 53 4 [some (.inr (.inr (.inl 4))), some (.inl y1), some (.inl y2)] [] (jxSH, a0, b0)) (jQ_X3_howManyThere a0 b0) := fun y1 y2 hlt i0 i1 i2 => (ih _ hlt) y1 y2 (Nat.le_refl _) i0 i1 i2
  have hc4 : ∀ (y1 y2 : Int), (((40 - y2) * 1) + 0).toNat ≤ n → 0 ≤ y2 → y2 ≤ 40 → (a0 4 6 = 0 → y1 = 0) → jt (jxX E d 53 4 [some (.inr (.inr (.inl 4))), some (.inl y1), some (.inl y2)] [] (jxSH, a0, b0)) (jQ_X3_howManyThere a0 b0) := by
    intro y1 y2 hm hi0 hi1 hi2
    refine jt_eq (bq_X3_howManyThere_4 E d y1 y2 a0 b0) ?_
    have h798_ := iv_get hv0 (k := 4) (j := 6) (l := 0) (u := 40) rfl
    refine jt_ite (fun c799_ => ?_) (fun c799_ => ?_)
    ·
      refine jt_eI (eq_X3_isThere E d (jd_le hd rfl) y2 a0 b0) ?_
      have h800_ := f_X3_isThere_eq a0 b0 y2
      have h801_ := f_X3_has_eq a0 b0 y2
      refine jt_ite (fun c802_ => ?_) (fun c802_ => ?_)
      ·
        have h803_ : jxw (y2 + 1) = y2 + 1 := jxw_id (by omega) (by omega)
        exact ih4 y1 (jxw (y2 + 1)) (show (((40 - (jxw (y2 + 1))) * 1) + 0).toNat < n from by omega) (show 0 ≤ jxw (y2 + 1) from by omega) (show jxw (y2 + 1) ≤ 40 from by omega) (show (a0 4 6 = 0 → y1 = 0) from by omega)
      ·
        have h804_ : jxw (y2 + 1) = y2 + 1 := jxw_id (by omega) (by omega)
        have h805_ := jxw_im (y1 + 1)
        have h806_ := jxw_rg (y1 + 1)
        exact ih4 (jxw (y1 + 1)) (jxw (y2 + 1)) (show (((40 - (jxw (y2 + 1))) * 1) + 0).toNat < n from by omega) (show 0 ≤ jxw (y2 + 1) from by omega) (show jxw (y2 + 1) ≤ 40 from by omega) (show (a0 4 6 = 0 → jxw (y1 + 1) = 0) from by omega)
    ·
      exact jt_rI ⟨rfl, rfl, (show (a0 4 6 = 0 → y1 = 0) from by omega)⟩
  exact hc4
theorem sp_X3_howManyThere (E : jxE) (d : Nat) (hd : Nat.ble 3 d = true) (a0 b0 : Nat → Nat → Int) (hv0 : iv a0) : jt (jxC E d 53 [.inr (.inr (.inl 4))] (jxSH, a0, b0)) (jQ_X3_howManyThere a0 b0) := by
  obtain ⟨d, rfl⟩ := jd_succ hd
  refine jt_eq (bq_X3_howManyThere E d a0 b0) ?_
  have h807_ := iv_get hv0 (k := 4) (j := 6) (l := 0) (u := 40) rfl
  exact (cp_X3_howManyThere_4 E d hd a0 b0 hv0 _) 0 0 (Nat.le_refl _) (show 0 ≤ 0 from by omega) (show 0 ≤ 40 from by omega) (show (a0 4 6 = 0 → 0 = 0) from by omega)
abbrev jQ_X11_count (x1 : Int) (a0 b0 : Nat → Nat → Int) : List jxV → (Nat → Nat → Int) → (Nat → Nat → Int) → Prop := rI (fun r a b => (a0 = a) ∧ (b0 = b) ∧ ((x1 = 0 → r = a0 0 0)) ∧ ((x1 = 1 → r = a0 4 6)) ∧ ((x1 = 3 → r = a0 58 8)) ∧ ((x1 = 4 → r = a0 58 12)) ∧ ((x1 = 5 → r = a0 83 6)) ∧ ((x1 = 6 → r = a0 83 7)) ∧ ((x1 = 7 → r = a0 105 5)) ∧ ((x1 = 8 → r = a0 2 1)) ∧ ((x1 = 9 → r = a0 0 9)) ∧ (((x1 = 2 ∧ a0 4 6 = 0) → r = 0)) ∧ ((x1 = 10 → r = a0 56 0)) ∧ ((x1 = 11 → r = a0 56 1)) ∧ ((x1 = 12 → r = a0 56 2)) ∧ ((x1 = 13 → r = a0 56 3)) ∧ ((x1 = 14 → r = a0 56 4)) ∧ (20 ≤ x1 ∧ x1 ≤ 27 → r = a0 143 (jxw (x1 - 20)).toNat) ∧ (30 ≤ x1 ∧ x1 ≤ 37 → r = a0 142 (jxw (x1 - 30)).toNat) ∧ (((((x1 < 0 ∨ (14 < x1 ∧ x1 < 20)) ∨ (27 < x1 ∧ x1 < 30)) ∨ 37 < x1) → r = 0 - 1)))
theorem sp_X11_count (E : jxE) (d : Nat) (hd : Nat.ble 4 d = true) (x1 : Int) (a0 b0 : Nat → Nat → Int) (hv0 : iv a0) : jt (jxC E d 197 [.inr (.inr (.inl 0)), .inl x1] (jxSH, a0, b0)) (jQ_X11_count x1 a0 b0) := by
  obtain ⟨d, rfl⟩ := jd_succ hd
  refine jt_eq (bq_X11_count E d x1 a0 b0) ?_
  refine jt_ite (fun c808_ => ?_) (fun c808_ => ?_)
  ·
    refine jt_eI (eq_X11_countOfDrawer E d (jd_le hd rfl) x1 a0 b0) ?_
    have h809_ := f_X11_countOfDrawer_eq a0 b0 x1
    have h810_ := f_X11_within_eq a0 b0 x1 20 27
    have h811_ := f_X11_within_eq a0 b0 x1 30 37
    have h812_ := jxw_im (x1 - 30)
    have h813_ := jxw_rg (x1 - 30)
    have h814_ := f_X1_valueOf_eq a0 b0 (jxw (x1 - 30))
    have h815_ := f_X11_entry_r142_eq a0 b0 8 (jxw (x1 - 30))
    have h816_ := jxw_im (x1 - 20)
    have h817_ := jxw_rg (x1 - 20)
    have h818_ := f_X1_manyOf_eq a0 b0 (jxw (x1 - 20))
    have h819_ := f_X11_entry_r143_eq a0 b0 8 (jxw (x1 - 20))
    have h820_ := iv_get hv0 (k := 0) (j := 0) (l := 0) (u := 1999) rfl
    have h821_ := iv_get hv0 (k := 4) (j := 6) (l := 0) (u := 40) rfl
    have h822_ := iv_get hv0 (k := 58) (j := 8) (l := 0) (u := 300) rfl
    have h823_ := iv_get hv0 (k := 58) (j := 12) (l := 0) (u := 600) rfl
    have h824_ := iv_get hv0 (k := 83) (j := 6) (l := 0) (u := 20) rfl
    have h825_ := iv_get hv0 (k := 105) (j := 5) (l := 0) (u := 10) rfl
    have h826_ := iv_get hv0 (k := 2) (j := 1) (l := 0) (u := 200) rfl
    have h827_ := iv_get hv0 (k := 0) (j := 9) (l := 0) (u := 8) rfl
    exact jt_rI ⟨rfl, rfl, (show (x1 = 0 → f_X11_countOfDrawer a0 b0 x1 = a0 0 0) from by omega), (show (x1 = 1 → f_X11_countOfDrawer a0 b0 x1 = a0 4 6) from by omega), (show (x1 = 3 → f_X11_countOfDrawer a0 b0 x1 = a0 58 8) from by omega), (show (x1 = 4 → f_X11_countOfDrawer a0 b0 x1 = a0 58 12) from by omega), (show (x1 = 5 → f_X11_countOfDrawer a0 b0 x1 = a0 83 6) from by omega), (show (x1 = 6 → f_X11_countOfDrawer a0 b0 x1 = a0 83 7) from by omega), (show (x1 = 7 → f_X11_countOfDrawer a0 b0 x1 = a0 105 5) from by omega), (show (x1 = 8 → f_X11_countOfDrawer a0 b0 x1 = a0 2 1) from by omega), (show (x1 = 9 → f_X11_countOfDrawer a0 b0 x1 = a0 0 9) from by omega), (show ((x1 = 2 ∧ a0 4 6 = 0) → f_X11_countOfDrawer a0 b0 x1 = 0) from by omega), (show (x1 = 10 → f_X11_countOfDrawer a0 b0 x1 = a0 56 0) from by omega), (show (x1 = 11 → f_X11_countOfDrawer a0 b0 x1 = a0 56 1) from by omega), (show (x1 = 12 → f_X11_countOfDrawer a0 b0 x1 = a0 56 2) from by omega), (show (x1 = 13 → f_X11_countOfDrawer a0 b0 x1 = a0 56 3) from by omega), (show (x1 = 14 → f_X11_countOfDrawer a0 b0 x1 = a0 56 4) from by omega), (by omega), (by omega), (show ((((x1 < 0 ∨ (14 < x1 ∧ x1 < 20)) ∨ (27 < x1 ∧ x1 < 30)) ∨ 37 < x1) → f_X11_countOfDrawer a0 b0 x1 = 0 - 1) from by omega)⟩
  ·
    refine jt_ite (fun c828_ => ?_) (fun c828_ => ?_)
    ·
      have h829_ := iv_get hv0 (k := 0) (j := 0) (l := 0) (u := 1999) rfl
      have h830_ := iv_get hv0 (k := 4) (j := 6) (l := 0) (u := 40) rfl
      have h831_ := iv_get hv0 (k := 58) (j := 8) (l := 0) (u := 300) rfl
      have h832_ := iv_get hv0 (k := 58) (j := 12) (l := 0) (u := 600) rfl
      have h833_ := iv_get hv0 (k := 83) (j := 6) (l := 0) (u := 20) rfl
      have h834_ := iv_get hv0 (k := 105) (j := 5) (l := 0) (u := 10) rfl
      have h835_ := iv_get hv0 (k := 2) (j := 1) (l := 0) (u := 200) rfl
      have h836_ := iv_get hv0 (k := 0) (j := 9) (l := 0) (u := 8) rfl
      exact jt_rI ⟨rfl, rfl, (show (x1 = 0 → a0 0 0 = a0 0 0) from by omega), (show (x1 = 1 → a0 0 0 = a0 4 6) from by omega), (show (x1 = 3 → a0 0 0 = a0 58 8) from by omega), (show (x1 = 4 → a0 0 0 = a0 58 12) from by omega), (show (x1 = 5 → a0 0 0 = a0 83 6) from by omega), (show (x1 = 6 → a0 0 0 = a0 83 7) from by omega), (show (x1 = 7 → a0 0 0 = a0 105 5) from by omega), (show (x1 = 8 → a0 0 0 = a0 2 1) from by omega), (show (x1 = 9 → a0 0 0 = a0 0 9) from by omega), (show ((x1 = 2 ∧ a0 4 6 = 0) → a0 0 0 = 0) from by omega), (show (x1 = 10 → a0 0 0 = a0 56 0) from by omega), (show (x1 = 11 → a0 0 0 = a0 56 1) from by omega), (show (x1 = 12 → a0 0 0 = a0 56 2) from by omega), (show (x1 = 13 → a0 0 0 = a0 56 3) from by omega), (show (x1 = 14 → a0 0 0 = a0 56 4) from by omega), (by omega), (by omega), (show ((((x1 < 0 ∨ (14 < x1 ∧ x1 < 20)) ∨ (27 < x1 ∧ x1 < 30)) ∨ 37 < x1) → a0 0 0 = 0 - 1) from by omega)⟩
    ·
      refine jt_ite (fun c837_ => ?_) (fun c837_ => ?_)
      ·
        refine jt_eI (eq_X3_size E d (jd_le hd rfl) a0 b0) ?_
        have h838_ := f_X3_size_eq a0 b0
        have h839_ := iv_get hv0 (k := 4) (j := 6) (l := 0) (u := 40) rfl
        have h840_ := iv_get hv0 (k := 0) (j := 0) (l := 0) (u := 1999) rfl
        have h841_ := iv_get hv0 (k := 58) (j := 8) (l := 0) (u := 300) rfl
        have h842_ := iv_get hv0 (k := 58) (j := 12) (l := 0) (u := 600) rfl
        have h843_ := iv_get hv0 (k := 83) (j := 6) (l := 0) (u := 20) rfl
        have h844_ := iv_get hv0 (k := 105) (j := 5) (l := 0) (u := 10) rfl
        have h845_ := iv_get hv0 (k := 2) (j := 1) (l := 0) (u := 200) rfl
        have h846_ := iv_get hv0 (k := 0) (j := 9) (l := 0) (u := 8) rfl
        exact jt_rI ⟨rfl, rfl, (show (x1 = 0 → f_X3_size a0 b0 = a0 0 0) from by omega), (show (x1 = 1 → f_X3_size a0 b0 = a0 4 6) from by omega), (show (x1 = 3 → f_X3_size a0 b0 = a0 58 8) from by omega), (show (x1 = 4 → f_X3_size a0 b0 = a0 58 12) from by omega), (show (x1 = 5 → f_X3_size a0 b0 = a0 83 6) from by omega), (show (x1 = 6 → f_X3_size a0 b0 = a0 83 7) from by omega), (show (x1 = 7 → f_X3_size a0 b0 = a0 105 5) from by omega), (show (x1 = 8 → f_X3_size a0 b0 = a0 2 1) from by omega), (show (x1 = 9 → f_X3_size a0 b0 = a0 0 9) from by omega), (show ((x1 = 2 ∧ a0 4 6 = 0) → f_X3_size a0 b0 = 0) from by omega), (show (x1 = 10 → f_X3_size a0 b0 = a0 56 0) from by omega), (show (x1 = 11 → f_X3_size a0 b0 = a0 56 1) from by omega), (show (x1 = 12 → f_X3_size a0 b0 = a0 56 2) from by omega), (show (x1 = 13 → f_X3_size a0 b0 = a0 56 3) from by omega), (show (x1 = 14 → f_X3_size a0 b0 = a0 56 4) from by omega), (by omega), (by omega), (show ((((x1 < 0 ∨ (14 < x1 ∧ x1 < 20)) ∨ (27 < x1 ∧ x1 < 30)) ∨ 37 < x1) → f_X3_size a0 b0 = 0 - 1) from by omega)⟩
      ·
        refine jt_ite (fun c847_ => ?_) (fun c847_ => ?_)
        ·
          refine jt_bI (sp_X3_howManyThere E d (jd_le hd rfl) a0 b0 hv0) (fun r848_ a848_ b848_ h848_ => ?_)
          obtain ⟨rfl, rfl, hq848_0⟩ := h848_
          have h849_ := iv_get hv0 (k := 4) (j := 6) (l := 0) (u := 40) rfl
          have h850_ := iv_get hv0 (k := 0) (j := 0) (l := 0) (u := 1999) rfl
          have h851_ := iv_get hv0 (k := 58) (j := 8) (l := 0) (u := 300) rfl
          have h852_ := iv_get hv0 (k := 58) (j := 12) (l := 0) (u := 600) rfl
          have h853_ := iv_get hv0 (k := 83) (j := 6) (l := 0) (u := 20) rfl
          have h854_ := iv_get hv0 (k := 105) (j := 5) (l := 0) (u := 10) rfl
          have h855_ := iv_get hv0 (k := 2) (j := 1) (l := 0) (u := 200) rfl
          have h856_ := iv_get hv0 (k := 0) (j := 9) (l := 0) (u := 8) rfl
          exact jt_rI ⟨rfl, rfl, (show (x1 = 0 → r848_ = a0 0 0) from by omega), (show (x1 = 1 → r848_ = a0 4 6) from by omega), (show (x1 = 3 → r848_ = a0 58 8) from by omega), (show (x1 = 4 → r848_ = a0 58 12) from by omega), (show (x1 = 5 → r848_ = a0 83 6) from by omega), (show (x1 = 6 → r848_ = a0 83 7) from by omega), (show (x1 = 7 → r848_ = a0 105 5) from by omega), (show (x1 = 8 → r848_ = a0 2 1) from by omega), (show (x1 = 9 → r848_ = a0 0 9) from by omega), (show ((x1 = 2 ∧ a0 4 6 = 0) → r848_ = 0) from by omega), (show (x1 = 10 → r848_ = a0 56 0) from by omega), (show (x1 = 11 → r848_ = a0 56 1) from by omega), (show (x1 = 12 → r848_ = a0 56 2) from by omega), (show (x1 = 13 → r848_ = a0 56 3) from by omega), (show (x1 = 14 → r848_ = a0 56 4) from by omega), (by omega), (by omega), (show ((((x1 < 0 ∨ (14 < x1 ∧ x1 < 20)) ∨ (27 < x1 ∧ x1 < 30)) ∨ 37 < x1) → r848_ = 0 - 1) from by omega)⟩
        ·
          refine jt_ite (fun c857_ => ?_) (fun c857_ => ?_)
          ·
            refine jt_eI (eq_X0_size E d (jd_le hd rfl) a0 b0) ?_
            have h858_ := f_X0_size_eq a0 b0
            have h859_ := iv_get hv0 (k := 58) (j := 8) (l := 0) (u := 300) rfl
            have h860_ := iv_get hv0 (k := 0) (j := 0) (l := 0) (u := 1999) rfl
            have h861_ := iv_get hv0 (k := 4) (j := 6) (l := 0) (u := 40) rfl
            have h862_ := iv_get hv0 (k := 58) (j := 12) (l := 0) (u := 600) rfl
            have h863_ := iv_get hv0 (k := 83) (j := 6) (l := 0) (u := 20) rfl
            have h864_ := iv_get hv0 (k := 105) (j := 5) (l := 0) (u := 10) rfl
            have h865_ := iv_get hv0 (k := 2) (j := 1) (l := 0) (u := 200) rfl
            have h866_ := iv_get hv0 (k := 0) (j := 9) (l := 0) (u := 8) rfl
            exact jt_rI ⟨rfl, rfl, (show (x1 = 0 → f_X0_size a0 b0 = a0 0 0) from by omega), (show (x1 = 1 → f_X0_size a0 b0 = a0 4 6) from by omega), (show (x1 = 3 → f_X0_size a0 b0 = a0 58 8) from by omega), (show (x1 = 4 → f_X0_size a0 b0 = a0 58 12) from by omega), (show (x1 = 5 → f_X0_size a0 b0 = a0 83 6) from by omega), (show (x1 = 6 → f_X0_size a0 b0 = a0 83 7) from by omega), (show (x1 = 7 → f_X0_size a0 b0 = a0 105 5) from by omega), (show (x1 = 8 → f_X0_size a0 b0 = a0 2 1) from by omega), (show (x1 = 9 → f_X0_size a0 b0 = a0 0 9) from by omega), (show ((x1 = 2 ∧ a0 4 6 = 0) → f_X0_size a0 b0 = 0) from by omega), (show (x1 = 10 → f_X0_size a0 b0 = a0 56 0) from by omega), (show (x1 = 11 → f_X0_size a0 b0 = a0 56 1) from by omega), (show (x1 = 12 → f_X0_size a0 b0 = a0 56 2) from by omega), (show (x1 = 13 → f_X0_size a0 b0 = a0 56 3) from by omega), (show (x1 = 14 → f_X0_size a0 b0 = a0 56 4) from by omega), (by omega), (by omega), (show ((((x1 < 0 ∨ (14 < x1 ∧ x1 < 20)) ∨ (27 < x1 ∧ x1 < 30)) ∨ 37 < x1) → f_X0_size a0 b0 = 0 - 1) from by omega)⟩
          ·
            refine jt_ite (fun c867_ => ?_) (fun c867_ => ?_)
            ·
              refine jt_eI (eq_X0_tellings E d (jd_le hd rfl) a0 b0) ?_
              have h868_ := f_X0_tellings_eq a0 b0
              have h869_ := iv_get hv0 (k := 58) (j := 12) (l := 0) (u := 600) rfl
              have h870_ := iv_get hv0 (k := 0) (j := 0) (l := 0) (u := 1999) rfl
              have h871_ := iv_get hv0 (k := 4) (j := 6) (l := 0) (u := 40) rfl
              have h872_ := iv_get hv0 (k := 58) (j := 8) (l := 0) (u := 300) rfl
              have h873_ := iv_get hv0 (k := 83) (j := 6) (l := 0) (u := 20) rfl
              have h874_ := iv_get hv0 (k := 105) (j := 5) (l := 0) (u := 10) rfl
              have h875_ := iv_get hv0 (k := 2) (j := 1) (l := 0) (u := 200) rfl
              have h876_ := iv_get hv0 (k := 0) (j := 9) (l := 0) (u := 8) rfl
              exact jt_rI ⟨rfl, rfl, (show (x1 = 0 → f_X0_tellings a0 b0 = a0 0 0) from by omega), (show (x1 = 1 → f_X0_tellings a0 b0 = a0 4 6) from by omega), (show (x1 = 3 → f_X0_tellings a0 b0 = a0 58 8) from by omega), (show (x1 = 4 → f_X0_tellings a0 b0 = a0 58 12) from by omega), (show (x1 = 5 → f_X0_tellings a0 b0 = a0 83 6) from by omega), (show (x1 = 6 → f_X0_tellings a0 b0 = a0 83 7) from by omega), (show (x1 = 7 → f_X0_tellings a0 b0 = a0 105 5) from by omega), (show (x1 = 8 → f_X0_tellings a0 b0 = a0 2 1) from by omega), (show (x1 = 9 → f_X0_tellings a0 b0 = a0 0 9) from by omega), (show ((x1 = 2 ∧ a0 4 6 = 0) → f_X0_tellings a0 b0 = 0) from by omega), (show (x1 = 10 → f_X0_tellings a0 b0 = a0 56 0) from by omega), (show (x1 = 11 → f_X0_tellings a0 b0 = a0 56 1) from by omega), (show (x1 = 12 → f_X0_tellings a0 b0 = a0 56 2) from by omega), (show (x1 = 13 → f_X0_tellings a0 b0 = a0 56 3) from by omega), (show (x1 = 14 → f_X0_tellings a0 b0 = a0 56 4) from by omega), (by omega), (by omega), (show ((((x1 < 0 ∨ (14 < x1 ∧ x1 < 20)) ∨ (27 < x1 ∧ x1 < 30)) ∨ 37 < x1) → f_X0_tellings a0 b0 = 0 - 1) from by omega)⟩
            ·
              refine jt_ite (fun c877_ => ?_) (fun c877_ => ?_)
              ·
                refine jt_eI (eq_X4_size E d (jd_le hd rfl) a0 b0) ?_
                have h878_ := f_X4_size_eq a0 b0
                have h879_ := iv_get hv0 (k := 83) (j := 6) (l := 0) (u := 20) rfl
                have h880_ := iv_get hv0 (k := 0) (j := 0) (l := 0) (u := 1999) rfl
                have h881_ := iv_get hv0 (k := 4) (j := 6) (l := 0) (u := 40) rfl
                have h882_ := iv_get hv0 (k := 58) (j := 8) (l := 0) (u := 300) rfl
                have h883_ := iv_get hv0 (k := 58) (j := 12) (l := 0) (u := 600) rfl
                have h884_ := iv_get hv0 (k := 105) (j := 5) (l := 0) (u := 10) rfl
                have h885_ := iv_get hv0 (k := 2) (j := 1) (l := 0) (u := 200) rfl
                have h886_ := iv_get hv0 (k := 0) (j := 9) (l := 0) (u := 8) rfl
                exact jt_rI ⟨rfl, rfl, (show (x1 = 0 → f_X4_size a0 b0 = a0 0 0) from by omega), (show (x1 = 1 → f_X4_size a0 b0 = a0 4 6) from by omega), (show (x1 = 3 → f_X4_size a0 b0 = a0 58 8) from by omega), (show (x1 = 4 → f_X4_size a0 b0 = a0 58 12) from by omega), (show (x1 = 5 → f_X4_size a0 b0 = a0 83 6) from by omega), (show (x1 = 6 → f_X4_size a0 b0 = a0 83 7) from by omega), (show (x1 = 7 → f_X4_size a0 b0 = a0 105 5) from by omega), (show (x1 = 8 → f_X4_size a0 b0 = a0 2 1) from by omega), (show (x1 = 9 → f_X4_size a0 b0 = a0 0 9) from by omega), (show ((x1 = 2 ∧ a0 4 6 = 0) → f_X4_size a0 b0 = 0) from by omega), (show (x1 = 10 → f_X4_size a0 b0 = a0 56 0) from by omega), (show (x1 = 11 → f_X4_size a0 b0 = a0 56 1) from by omega), (show (x1 = 12 → f_X4_size a0 b0 = a0 56 2) from by omega), (show (x1 = 13 → f_X4_size a0 b0 = a0 56 3) from by omega), (show (x1 = 14 → f_X4_size a0 b0 = a0 56 4) from by omega), (by omega), (by omega), (show ((((x1 < 0 ∨ (14 < x1 ∧ x1 < 20)) ∨ (27 < x1 ∧ x1 < 30)) ∨ 37 < x1) → f_X4_size a0 b0 = 0 - 1) from by omega)⟩
              ·
                refine jt_ite (fun c887_ => ?_) (fun c887_ => ?_)
                ·
                  refine jt_eI (eq_X4_ringsClosed E d (jd_le hd rfl) a0 b0) ?_
                  have h888_ := f_X4_ringsClosed_eq a0 b0
                  have h889_ := iv_get hv0 (k := 0) (j := 0) (l := 0) (u := 1999) rfl
                  have h890_ := iv_get hv0 (k := 4) (j := 6) (l := 0) (u := 40) rfl
                  have h891_ := iv_get hv0 (k := 58) (j := 8) (l := 0) (u := 300) rfl
                  have h892_ := iv_get hv0 (k := 58) (j := 12) (l := 0) (u := 600) rfl
                  have h893_ := iv_get hv0 (k := 83) (j := 6) (l := 0) (u := 20) rfl
                  have h894_ := iv_get hv0 (k := 105) (j := 5) (l := 0) (u := 10) rfl
                  have h895_ := iv_get hv0 (k := 2) (j := 1) (l := 0) (u := 200) rfl
                  have h896_ := iv_get hv0 (k := 0) (j := 9) (l := 0) (u := 8) rfl
                  exact jt_rI ⟨rfl, rfl, (show (x1 = 0 → f_X4_ringsClosed a0 b0 = a0 0 0) from by omega), (show (x1 = 1 → f_X4_ringsClosed a0 b0 = a0 4 6) from by omega), (show (x1 = 3 → f_X4_ringsClosed a0 b0 = a0 58 8) from by omega), (show (x1 = 4 → f_X4_ringsClosed a0 b0 = a0 58 12) from by omega), (show (x1 = 5 → f_X4_ringsClosed a0 b0 = a0 83 6) from by omega), (show (x1 = 6 → f_X4_ringsClosed a0 b0 = a0 83 7) from by omega), (show (x1 = 7 → f_X4_ringsClosed a0 b0 = a0 105 5) from by omega), (show (x1 = 8 → f_X4_ringsClosed a0 b0 = a0 2 1) from by omega), (show (x1 = 9 → f_X4_ringsClosed a0 b0 = a0 0 9) from by omega), (show ((x1 = 2 ∧ a0 4 6 = 0) → f_X4_ringsClosed a0 b0 = 0) from by omega), (show (x1 = 10 → f_X4_ringsClosed a0 b0 = a0 56 0) from by omega), (show (x1 = 11 → f_X4_ringsClosed a0 b0 = a0 56 1) from by omega), (show (x1 = 12 → f_X4_ringsClosed a0 b0 = a0 56 2) from by omega), (show (x1 = 13 → f_X4_ringsClosed a0 b0 = a0 56 3) from by omega), (show (x1 = 14 → f_X4_ringsClosed a0 b0 = a0 56 4) from by omega), (by omega), (by omega), (show ((((x1 < 0 ∨ (14 < x1 ∧ x1 < 20)) ∨ (27 < x1 ∧ x1 < 30)) ∨ 37 < x1) → f_X4_ringsClosed a0 b0 = 0 - 1) from by omega)⟩
                ·
                  refine jt_ite (fun c897_ => ?_) (fun c897_ => ?_)
                  ·
                    refine jt_eI (eq_X9_size E d (jd_le hd rfl) a0 b0) ?_
                    have h898_ := f_X9_size_eq a0 b0
                    have h899_ := iv_get hv0 (k := 105) (j := 5) (l := 0) (u := 10) rfl
                    have h900_ := iv_get hv0 (k := 0) (j := 0) (l := 0) (u := 1999) rfl
                    have h901_ := iv_get hv0 (k := 4) (j := 6) (l := 0) (u := 40) rfl
                    have h902_ := iv_get hv0 (k := 58) (j := 8) (l := 0) (u := 300) rfl
                    have h903_ := iv_get hv0 (k := 58) (j := 12) (l := 0) (u := 600) rfl
                    have h904_ := iv_get hv0 (k := 83) (j := 6) (l := 0) (u := 20) rfl
                    have h905_ := iv_get hv0 (k := 2) (j := 1) (l := 0) (u := 200) rfl
                    have h906_ := iv_get hv0 (k := 0) (j := 9) (l := 0) (u := 8) rfl
                    exact jt_rI ⟨rfl, rfl, (show (x1 = 0 → f_X9_size a0 b0 = a0 0 0) from by omega), (show (x1 = 1 → f_X9_size a0 b0 = a0 4 6) from by omega), (show (x1 = 3 → f_X9_size a0 b0 = a0 58 8) from by omega), (show (x1 = 4 → f_X9_size a0 b0 = a0 58 12) from by omega), (show (x1 = 5 → f_X9_size a0 b0 = a0 83 6) from by omega), (show (x1 = 6 → f_X9_size a0 b0 = a0 83 7) from by omega), (show (x1 = 7 → f_X9_size a0 b0 = a0 105 5) from by omega), (show (x1 = 8 → f_X9_size a0 b0 = a0 2 1) from by omega), (show (x1 = 9 → f_X9_size a0 b0 = a0 0 9) from by omega), (show ((x1 = 2 ∧ a0 4 6 = 0) → f_X9_size a0 b0 = 0) from by omega), (show (x1 = 10 → f_X9_size a0 b0 = a0 56 0) from by omega), (show (x1 = 11 → f_X9_size a0 b0 = a0 56 1) from by omega), (show (x1 = 12 → f_X9_size a0 b0 = a0 56 2) from by omega), (show (x1 = 13 → f_X9_size a0 b0 = a0 56 3) from by omega), (show (x1 = 14 → f_X9_size a0 b0 = a0 56 4) from by omega), (by omega), (by omega), (show ((((x1 < 0 ∨ (14 < x1 ∧ x1 < 20)) ∨ (27 < x1 ∧ x1 < 30)) ∨ 37 < x1) → f_X9_size a0 b0 = 0 - 1) from by omega)⟩
                  ·
                    refine jt_ite (fun c907_ => ?_) (fun c907_ => ?_)
                    ·
                      refine jt_eI (eq_X8_length E d (jd_le hd rfl) a0 b0) ?_
                      have h908_ := f_X8_length_eq a0 b0
                      have h909_ := iv_get hv0 (k := 2) (j := 1) (l := 0) (u := 200) rfl
                      have h910_ := iv_get hv0 (k := 0) (j := 0) (l := 0) (u := 1999) rfl
                      have h911_ := iv_get hv0 (k := 4) (j := 6) (l := 0) (u := 40) rfl
                      have h912_ := iv_get hv0 (k := 58) (j := 8) (l := 0) (u := 300) rfl
                      have h913_ := iv_get hv0 (k := 58) (j := 12) (l := 0) (u := 600) rfl
                      have h914_ := iv_get hv0 (k := 83) (j := 6) (l := 0) (u := 20) rfl
                      have h915_ := iv_get hv0 (k := 105) (j := 5) (l := 0) (u := 10) rfl
                      have h916_ := iv_get hv0 (k := 0) (j := 9) (l := 0) (u := 8) rfl
                      exact jt_rI ⟨rfl, rfl, (show (x1 = 0 → f_X8_length a0 b0 = a0 0 0) from by omega), (show (x1 = 1 → f_X8_length a0 b0 = a0 4 6) from by omega), (show (x1 = 3 → f_X8_length a0 b0 = a0 58 8) from by omega), (show (x1 = 4 → f_X8_length a0 b0 = a0 58 12) from by omega), (show (x1 = 5 → f_X8_length a0 b0 = a0 83 6) from by omega), (show (x1 = 6 → f_X8_length a0 b0 = a0 83 7) from by omega), (show (x1 = 7 → f_X8_length a0 b0 = a0 105 5) from by omega), (show (x1 = 8 → f_X8_length a0 b0 = a0 2 1) from by omega), (show (x1 = 9 → f_X8_length a0 b0 = a0 0 9) from by omega), (show ((x1 = 2 ∧ a0 4 6 = 0) → f_X8_length a0 b0 = 0) from by omega), (show (x1 = 10 → f_X8_length a0 b0 = a0 56 0) from by omega), (show (x1 = 11 → f_X8_length a0 b0 = a0 56 1) from by omega), (show (x1 = 12 → f_X8_length a0 b0 = a0 56 2) from by omega), (show (x1 = 13 → f_X8_length a0 b0 = a0 56 3) from by omega), (show (x1 = 14 → f_X8_length a0 b0 = a0 56 4) from by omega), (by omega), (by omega), (show ((((x1 < 0 ∨ (14 < x1 ∧ x1 < 20)) ∨ (27 < x1 ∧ x1 < 30)) ∨ 37 < x1) → f_X8_length a0 b0 = 0 - 1) from by omega)⟩
                    ·
                      refine jt_ite (fun c917_ => ?_) (fun c917_ => ?_)
                      ·
                        have h918_ := iv_get hv0 (k := 0) (j := 9) (l := 0) (u := 8) rfl
                        have h919_ := iv_get hv0 (k := 0) (j := 0) (l := 0) (u := 1999) rfl
                        have h920_ := iv_get hv0 (k := 4) (j := 6) (l := 0) (u := 40) rfl
                        have h921_ := iv_get hv0 (k := 58) (j := 8) (l := 0) (u := 300) rfl
                        have h922_ := iv_get hv0 (k := 58) (j := 12) (l := 0) (u := 600) rfl
                        have h923_ := iv_get hv0 (k := 83) (j := 6) (l := 0) (u := 20) rfl
                        have h924_ := iv_get hv0 (k := 105) (j := 5) (l := 0) (u := 10) rfl
                        have h925_ := iv_get hv0 (k := 2) (j := 1) (l := 0) (u := 200) rfl
                        exact jt_rI ⟨rfl, rfl, (show (x1 = 0 → a0 0 9 = a0 0 0) from by omega), (show (x1 = 1 → a0 0 9 = a0 4 6) from by omega), (show (x1 = 3 → a0 0 9 = a0 58 8) from by omega), (show (x1 = 4 → a0 0 9 = a0 58 12) from by omega), (show (x1 = 5 → a0 0 9 = a0 83 6) from by omega), (show (x1 = 6 → a0 0 9 = a0 83 7) from by omega), (show (x1 = 7 → a0 0 9 = a0 105 5) from by omega), (show (x1 = 8 → a0 0 9 = a0 2 1) from by omega), (show (x1 = 9 → a0 0 9 = a0 0 9) from by omega), (show ((x1 = 2 ∧ a0 4 6 = 0) → a0 0 9 = 0) from by omega), (show (x1 = 10 → a0 0 9 = a0 56 0) from by omega), (show (x1 = 11 → a0 0 9 = a0 56 1) from by omega), (show (x1 = 12 → a0 0 9 = a0 56 2) from by omega), (show (x1 = 13 → a0 0 9 = a0 56 3) from by omega), (show (x1 = 14 → a0 0 9 = a0 56 4) from by omega), (by omega), (by omega), (show ((((x1 < 0 ∨ (14 < x1 ∧ x1 < 20)) ∨ (27 < x1 ∧ x1 < 30)) ∨ 37 < x1) → a0 0 9 = 0 - 1) from by omega)⟩
                      ·
                        refine jt_ite (fun c926_ => ?_) (fun c926_ => ?_)
                        ·
                          refine jt_eI (eq_X6_under E d (jd_le hd rfl) a0 b0) ?_
                          have h927_ := f_X6_under_eq a0 b0
                          have h928_ := iv_get hv0 (k := 0) (j := 0) (l := 0) (u := 1999) rfl
                          have h929_ := iv_get hv0 (k := 4) (j := 6) (l := 0) (u := 40) rfl
                          have h930_ := iv_get hv0 (k := 58) (j := 8) (l := 0) (u := 300) rfl
                          have h931_ := iv_get hv0 (k := 58) (j := 12) (l := 0) (u := 600) rfl
                          have h932_ := iv_get hv0 (k := 83) (j := 6) (l := 0) (u := 20) rfl
                          have h933_ := iv_get hv0 (k := 105) (j := 5) (l := 0) (u := 10) rfl
                          have h934_ := iv_get hv0 (k := 2) (j := 1) (l := 0) (u := 200) rfl
                          have h935_ := iv_get hv0 (k := 0) (j := 9) (l := 0) (u := 8) rfl
                          exact jt_rI ⟨rfl, rfl, (show (x1 = 0 → f_X6_under a0 b0 = a0 0 0) from by omega), (show (x1 = 1 → f_X6_under a0 b0 = a0 4 6) from by omega), (show (x1 = 3 → f_X6_under a0 b0 = a0 58 8) from by omega), (show (x1 = 4 → f_X6_under a0 b0 = a0 58 12) from by omega), (show (x1 = 5 → f_X6_under a0 b0 = a0 83 6) from by omega), (show (x1 = 6 → f_X6_under a0 b0 = a0 83 7) from by omega), (show (x1 = 7 → f_X6_under a0 b0 = a0 105 5) from by omega), (show (x1 = 8 → f_X6_under a0 b0 = a0 2 1) from by omega), (show (x1 = 9 → f_X6_under a0 b0 = a0 0 9) from by omega), (show ((x1 = 2 ∧ a0 4 6 = 0) → f_X6_under a0 b0 = 0) from by omega), (show (x1 = 10 → f_X6_under a0 b0 = a0 56 0) from by omega), (show (x1 = 11 → f_X6_under a0 b0 = a0 56 1) from by omega), (show (x1 = 12 → f_X6_under a0 b0 = a0 56 2) from by omega), (show (x1 = 13 → f_X6_under a0 b0 = a0 56 3) from by omega), (show (x1 = 14 → f_X6_under a0 b0 = a0 56 4) from by omega), (by omega), (by omega), (show ((((x1 < 0 ∨ (14 < x1 ∧ x1 < 20)) ∨ (27 < x1 ∧ x1 < 30)) ∨ 37 < x1) → f_X6_under a0 b0 = 0 - 1) from by omega)⟩
                        ·
                          refine jt_ite (fun c936_ => ?_) (fun c936_ => ?_)
                          ·
                            refine jt_eI (eq_X6_more E d (jd_le hd rfl) a0 b0) ?_
                            have h937_ := f_X6_more_eq a0 b0
                            have h938_ := iv_get hv0 (k := 0) (j := 0) (l := 0) (u := 1999) rfl
                            have h939_ := iv_get hv0 (k := 4) (j := 6) (l := 0) (u := 40) rfl
                            have h940_ := iv_get hv0 (k := 58) (j := 8) (l := 0) (u := 300) rfl
                            have h941_ := iv_get hv0 (k := 58) (j := 12) (l := 0) (u := 600) rfl
                            have h942_ := iv_get hv0 (k := 83) (j := 6) (l := 0) (u := 20) rfl
                            have h943_ := iv_get hv0 (k := 105) (j := 5) (l := 0) (u := 10) rfl
                            have h944_ := iv_get hv0 (k := 2) (j := 1) (l := 0) (u := 200) rfl
                            have h945_ := iv_get hv0 (k := 0) (j := 9) (l := 0) (u := 8) rfl
                            exact jt_rI ⟨rfl, rfl, (show (x1 = 0 → f_X6_more a0 b0 = a0 0 0) from by omega), (show (x1 = 1 → f_X6_more a0 b0 = a0 4 6) from by omega), (show (x1 = 3 → f_X6_more a0 b0 = a0 58 8) from by omega), (show (x1 = 4 → f_X6_more a0 b0 = a0 58 12) from by omega), (show (x1 = 5 → f_X6_more a0 b0 = a0 83 6) from by omega), (show (x1 = 6 → f_X6_more a0 b0 = a0 83 7) from by omega), (show (x1 = 7 → f_X6_more a0 b0 = a0 105 5) from by omega), (show (x1 = 8 → f_X6_more a0 b0 = a0 2 1) from by omega), (show (x1 = 9 → f_X6_more a0 b0 = a0 0 9) from by omega), (show ((x1 = 2 ∧ a0 4 6 = 0) → f_X6_more a0 b0 = 0) from by omega), (show (x1 = 10 → f_X6_more a0 b0 = a0 56 0) from by omega), (show (x1 = 11 → f_X6_more a0 b0 = a0 56 1) from by omega), (show (x1 = 12 → f_X6_more a0 b0 = a0 56 2) from by omega), (show (x1 = 13 → f_X6_more a0 b0 = a0 56 3) from by omega), (show (x1 = 14 → f_X6_more a0 b0 = a0 56 4) from by omega), (by omega), (by omega), (show ((((x1 < 0 ∨ (14 < x1 ∧ x1 < 20)) ∨ (27 < x1 ∧ x1 < 30)) ∨ 37 < x1) → f_X6_more a0 b0 = 0 - 1) from by omega)⟩
                          ·
                            refine jt_ite (fun c946_ => ?_) (fun c946_ => ?_)
                            ·
                              refine jt_eI (eq_X6_slack E d (jd_le hd rfl) a0 b0) ?_
                              have h947_ := f_X6_slack_eq a0 b0
                              have h948_ := iv_get hv0 (k := 0) (j := 0) (l := 0) (u := 1999) rfl
                              have h949_ := iv_get hv0 (k := 4) (j := 6) (l := 0) (u := 40) rfl
                              have h950_ := iv_get hv0 (k := 58) (j := 8) (l := 0) (u := 300) rfl
                              have h951_ := iv_get hv0 (k := 58) (j := 12) (l := 0) (u := 600) rfl
                              have h952_ := iv_get hv0 (k := 83) (j := 6) (l := 0) (u := 20) rfl
                              have h953_ := iv_get hv0 (k := 105) (j := 5) (l := 0) (u := 10) rfl
                              have h954_ := iv_get hv0 (k := 2) (j := 1) (l := 0) (u := 200) rfl
                              have h955_ := iv_get hv0 (k := 0) (j := 9) (l := 0) (u := 8) rfl
                              exact jt_rI ⟨rfl, rfl, (show (x1 = 0 → f_X6_slack a0 b0 = a0 0 0) from by omega), (show (x1 = 1 → f_X6_slack a0 b0 = a0 4 6) from by omega), (show (x1 = 3 → f_X6_slack a0 b0 = a0 58 8) from by omega), (show (x1 = 4 → f_X6_slack a0 b0 = a0 58 12) from by omega), (show (x1 = 5 → f_X6_slack a0 b0 = a0 83 6) from by omega), (show (x1 = 6 → f_X6_slack a0 b0 = a0 83 7) from by omega), (show (x1 = 7 → f_X6_slack a0 b0 = a0 105 5) from by omega), (show (x1 = 8 → f_X6_slack a0 b0 = a0 2 1) from by omega), (show (x1 = 9 → f_X6_slack a0 b0 = a0 0 9) from by omega), (show ((x1 = 2 ∧ a0 4 6 = 0) → f_X6_slack a0 b0 = 0) from by omega), (show (x1 = 10 → f_X6_slack a0 b0 = a0 56 0) from by omega), (show (x1 = 11 → f_X6_slack a0 b0 = a0 56 1) from by omega), (show (x1 = 12 → f_X6_slack a0 b0 = a0 56 2) from by omega), (show (x1 = 13 → f_X6_slack a0 b0 = a0 56 3) from by omega), (show (x1 = 14 → f_X6_slack a0 b0 = a0 56 4) from by omega), (by omega), (by omega), (show ((((x1 < 0 ∨ (14 < x1 ∧ x1 < 20)) ∨ (27 < x1 ∧ x1 < 30)) ∨ 37 < x1) → f_X6_slack a0 b0 = 0 - 1) from by omega)⟩
                            ·
                              refine jt_ite (fun c956_ => ?_) (fun c956_ => ?_)
                              ·
                                refine jt_eI (eq_X6_lost E d (jd_le hd rfl) a0 b0) ?_
                                have h957_ := f_X6_lost_eq a0 b0
                                have h958_ := iv_get hv0 (k := 0) (j := 0) (l := 0) (u := 1999) rfl
                                have h959_ := iv_get hv0 (k := 4) (j := 6) (l := 0) (u := 40) rfl
                                have h960_ := iv_get hv0 (k := 58) (j := 8) (l := 0) (u := 300) rfl
                                have h961_ := iv_get hv0 (k := 58) (j := 12) (l := 0) (u := 600) rfl
                                have h962_ := iv_get hv0 (k := 83) (j := 6) (l := 0) (u := 20) rfl
                                have h963_ := iv_get hv0 (k := 105) (j := 5) (l := 0) (u := 10) rfl
                                have h964_ := iv_get hv0 (k := 2) (j := 1) (l := 0) (u := 200) rfl
                                have h965_ := iv_get hv0 (k := 0) (j := 9) (l := 0) (u := 8) rfl
                                exact jt_rI ⟨rfl, rfl, (show (x1 = 0 → f_X6_lost a0 b0 = a0 0 0) from by omega), (show (x1 = 1 → f_X6_lost a0 b0 = a0 4 6) from by omega), (show (x1 = 3 → f_X6_lost a0 b0 = a0 58 8) from by omega), (show (x1 = 4 → f_X6_lost a0 b0 = a0 58 12) from by omega), (show (x1 = 5 → f_X6_lost a0 b0 = a0 83 6) from by omega), (show (x1 = 6 → f_X6_lost a0 b0 = a0 83 7) from by omega), (show (x1 = 7 → f_X6_lost a0 b0 = a0 105 5) from by omega), (show (x1 = 8 → f_X6_lost a0 b0 = a0 2 1) from by omega), (show (x1 = 9 → f_X6_lost a0 b0 = a0 0 9) from by omega), (show ((x1 = 2 ∧ a0 4 6 = 0) → f_X6_lost a0 b0 = 0) from by omega), (show (x1 = 10 → f_X6_lost a0 b0 = a0 56 0) from by omega), (show (x1 = 11 → f_X6_lost a0 b0 = a0 56 1) from by omega), (show (x1 = 12 → f_X6_lost a0 b0 = a0 56 2) from by omega), (show (x1 = 13 → f_X6_lost a0 b0 = a0 56 3) from by omega), (show (x1 = 14 → f_X6_lost a0 b0 = a0 56 4) from by omega), (by omega), (by omega), (show ((((x1 < 0 ∨ (14 < x1 ∧ x1 < 20)) ∨ (27 < x1 ∧ x1 < 30)) ∨ 37 < x1) → f_X6_lost a0 b0 = 0 - 1) from by omega)⟩
                              ·
                                refine jt_ite (fun c966_ => ?_) (fun c966_ => ?_)
                                ·
                                  refine jt_eI (eq_X6_strict E d (jd_le hd rfl) a0 b0) ?_
                                  have h967_ := f_X6_strict_eq a0 b0
                                  have h968_ := iv_get hv0 (k := 0) (j := 0) (l := 0) (u := 1999) rfl
                                  have h969_ := iv_get hv0 (k := 4) (j := 6) (l := 0) (u := 40) rfl
                                  have h970_ := iv_get hv0 (k := 58) (j := 8) (l := 0) (u := 300) rfl
                                  have h971_ := iv_get hv0 (k := 58) (j := 12) (l := 0) (u := 600) rfl
                                  have h972_ := iv_get hv0 (k := 83) (j := 6) (l := 0) (u := 20) rfl
                                  have h973_ := iv_get hv0 (k := 105) (j := 5) (l := 0) (u := 10) rfl
                                  have h974_ := iv_get hv0 (k := 2) (j := 1) (l := 0) (u := 200) rfl
                                  have h975_ := iv_get hv0 (k := 0) (j := 9) (l := 0) (u := 8) rfl
                                  exact jt_rI ⟨rfl, rfl, (show (x1 = 0 → f_X6_strict a0 b0 = a0 0 0) from by omega), (show (x1 = 1 → f_X6_strict a0 b0 = a0 4 6) from by omega), (show (x1 = 3 → f_X6_strict a0 b0 = a0 58 8) from by omega), (show (x1 = 4 → f_X6_strict a0 b0 = a0 58 12) from by omega), (show (x1 = 5 → f_X6_strict a0 b0 = a0 83 6) from by omega), (show (x1 = 6 → f_X6_strict a0 b0 = a0 83 7) from by omega), (show (x1 = 7 → f_X6_strict a0 b0 = a0 105 5) from by omega), (show (x1 = 8 → f_X6_strict a0 b0 = a0 2 1) from by omega), (show (x1 = 9 → f_X6_strict a0 b0 = a0 0 9) from by omega), (show ((x1 = 2 ∧ a0 4 6 = 0) → f_X6_strict a0 b0 = 0) from by omega), (show (x1 = 10 → f_X6_strict a0 b0 = a0 56 0) from by omega), (show (x1 = 11 → f_X6_strict a0 b0 = a0 56 1) from by omega), (show (x1 = 12 → f_X6_strict a0 b0 = a0 56 2) from by omega), (show (x1 = 13 → f_X6_strict a0 b0 = a0 56 3) from by omega), (show (x1 = 14 → f_X6_strict a0 b0 = a0 56 4) from by omega), (by omega), (by omega), (show ((((x1 < 0 ∨ (14 < x1 ∧ x1 < 20)) ∨ (27 < x1 ∧ x1 < 30)) ∨ 37 < x1) → f_X6_strict a0 b0 = 0 - 1) from by omega)⟩
                                ·
                                  exact absurd (by omega : False) id
abbrev jQ_X4_offerInRing (x1 x2 : Int) (a0 b0 : Nat → Nat → Int) : List jxV → (Nat → Nat → Int) → (Nat → Nat → Int) → Prop := rI (fun r a b => (a0 = a) ∧ (b0 = b) ∧ ((a0 83 6 = 0 → r = 0 - 1)))
theorem cp_X4_offerInRing_2 (E : jxE) (d : Nat) (hd : Nat.ble 3 (d + 1) = true) (x1 x2 : Int) (a0 b0 : Nat → Nat → Int) (hv0 : iv a0) : ∀ n : Nat, (∀ (y1 y2 y3 : Int), (((20 - y3) * 1) + 0).toNat ≤ n → 0 ≤ y3 → y3 ≤ 19 → jt (jxX E d 72 40 [some (.inr (.inr (.inl 83))), some (.inl y1), some (.inl y2), some (.inl y3)] [] (jxSH, a0, b0)) (jQ_X4_offerInRing x1 x2 a0 b0)) ∧ (∀ (y1 y2 y3 : Int), (((20 - y3) * 1) + 0).toNat ≤ n → 0 ≤ y3 → y3 ≤ 19 → 1 ≤ a0 83 6 → jt (jxX E d 72 28 [some (.inr (.inr (.inl 83))), some (.inl y1), some (.inl y2), some (.inl y3)] [] (jxSH, a0, b0)) (jQ_X4_offerInRing x1 x2 a0 b0)) ∧ (∀ (y1 y2 y3 : Int), (((20 - y3) * 1) + 0).toNat ≤ n → 0 ≤ y3 → y3 ≤ 20 → jt (jxX E d 72 2 [some (.inr (.inr (.inl 83))), some (.inl y1), some (.inl y2), some (.inl y3)] [] (jxSH, a0, b0)) (jQ_X4_offerInRing x1 x2 a0 b0)) := by
  refine jx_ind fun n ih => ?_
  have ih40 : ∀ (y1 y2 y3 : Int), (((20 - y3) * 1) + 0).toNat < n → 0 ≤ y3 → y3 ≤ 19 → jt (jxX E d 72 40 [some (.inr (.inr (.inl 83))), some (.inl y1), some (.inl y2), some (.inl y3)] [] (jxSH, a0, b0)) (jQ_X4_offerInRing x1 x2 a0 b0) := fun y1 y2 y3 hlt i0 i1 => (ih _ hlt).1 y1 y2 y3 (Nat.le_refl _) i0 i1
  have ih28 : ∀ (y1 y2 y3 : Int), (((20 - y3) * 1) + 0).toNat < n → 0 ≤ y3 → y3 ≤ 19 → 1 ≤ a0 83 6 → jt (jxX E d 72 28 [some (.inr (.inr (.inl 83))), some (.inl y1), some (.inl y2), some (.inl y3)] [] (jxSH, a0, b0)) (jQ_X4_offerInRing x1 x2 a0 b0) := fun y1 y2 y3 hlt i0 i1 i2 => (ih _ hlt).2.1 y1 y2 y3 (Nat.le_refl _) i0 i1 i2
  have ih2 : ∀ (y1 y2 y3 : Int), (((20 - y3) * 1) + 0).toNat < n → 0 ≤ y3 → y3 ≤ 20 → jt (jxX E d 72 2 [some (.inr (.inr (.inl 83))), some (.inl y1), some (.inl y2), some (.inl y3)] [] (jxSH, a0, b0)) (jQ_X4_offerInRing x1 x2 a0 b0) := fun y1 y2 y3 hlt i0 i1 => (ih _ hlt).2.2 y1 y2 y3 (Nat.le_refl _) i0 i1
  have hc40 : ∀ (y1 y2 y3 : Int), (((20 - y3) * 1) + 0).toNat ≤ n → 0 ≤ y3 → y3 ≤ 19 → jt (jxX E d 72 40 [some (.inr (.inr (.inl 83))), some (.inl y1), some (.inl y2), some (.inl y3)] [] (jxSH, a0, b0)) (jQ_X4_offerInRing x1 x2 a0 b0) := by
    intro y1 y2 y3 hm hi0 hi1
    refine jt_eq (bq_X4_offerInRing_40 E d y1 y2 y3 a0 b0) ?_
    have h976_ : jxw (y3 + 1) = y3 + 1 := jxw_id (by omega) (by omega)
    exact ih2 y1 y2 (jxw (y3 + 1)) (show (((20 - (jxw (y3 + 1))) * 1) + 0).toNat < n from by omega) (show 0 ≤ jxw (y3 + 1) from by omega) (show jxw (y3 + 1) ≤ 20 from by omega)
  have hc28 : ∀ (y1 y2 y3 : Int), (((20 - y3) * 1) + 0).toNat ≤ n → 0 ≤ y3 → y3 ≤ 19 → 1 ≤ a0 83 6 → jt (jxX E d 72 28 [some (.inr (.inr (.inl 83))), some (.inl y1), some (.inl y2), some (.inl y3)] [] (jxSH, a0, b0)) (jQ_X4_offerInRing x1 x2 a0 b0) := by
    intro y1 y2 y3 hm hi0 hi1 hi2
    refine jt_eq (bq_X4_offerInRing_28 E d y1 y2 y3 a0 b0) ?_
    have h977_ := iv_get hv0 (k := 83) (j := 6) (l := 0) (u := 20) rfl
    refine jt_grd (by omega) ?_
    refine jt_ite (fun c978_ => ?_) (fun c978_ => ?_)
    ·
      exact jt_rI ⟨rfl, rfl, (show (a0 83 6 = 0 → y3 = 0 - 1) from by omega)⟩
    ·
      exact hc40 y1 y2 y3 (show (((20 - y3) * 1) + 0).toNat ≤ n from by omega) (show 0 ≤ y3 from by omega) (show y3 ≤ 19 from by omega)
  have hc2 : ∀ (y1 y2 y3 : Int), (((20 - y3) * 1) + 0).toNat ≤ n → 0 ≤ y3 → y3 ≤ 20 → jt (jxX E d 72 2 [some (.inr (.inr (.inl 83))), some (.inl y1), some (.inl y2), some (.inl y3)] [] (jxSH, a0, b0)) (jQ_X4_offerInRing x1 x2 a0 b0) := by
    intro y1 y2 y3 hm hi0 hi1
    refine jt_eq (bq_X4_offerInRing_2 E d y1 y2 y3 a0 b0) ?_
    have h979_ := iv_get hv0 (k := 83) (j := 6) (l := 0) (u := 20) rfl
    refine jt_ite (fun c980_ => ?_) (fun c980_ => ?_)
    ·
      refine jt_eI (eq_X4_isInRing E d (jd_le hd rfl) y3 a0 b0) ?_
      have h981_ := f_X4_isInRing_eq a0 b0 y3
      have h982_ := f_X4_has_eq a0 b0 y3
      refine jt_ite (fun c983_ => ?_) (fun c983_ => ?_)
      ·
        exact hc40 y1 y2 y3 (show (((20 - y3) * 1) + 0).toNat ≤ n from by omega) (show 0 ≤ y3 from by omega) (show y3 ≤ 19 from by omega)
      ·
        refine jt_grd (by omega) ?_
        refine jt_ite (fun c984_ => ?_) (fun c984_ => ?_)
        ·
          exact hc28 y1 y2 y3 (show (((20 - y3) * 1) + 0).toNat ≤ n from by omega) (show 0 ≤ y3 from by omega) (show y3 ≤ 19 from by omega) (show 1 ≤ a0 83 6 from by omega)
        ·
          exact hc40 y1 y2 y3 (show (((20 - y3) * 1) + 0).toNat ≤ n from by omega) (show 0 ≤ y3 from by omega) (show y3 ≤ 19 from by omega)
    ·
      exact jt_rI ⟨rfl, rfl, (show (a0 83 6 = 0 → (-1) = 0 - 1) from by omega)⟩
  exact ⟨hc40, hc28, hc2⟩
theorem sp_X4_offerInRing (E : jxE) (d : Nat) (hd : Nat.ble 3 d = true) (x1 x2 : Int) (a0 b0 : Nat → Nat → Int) (hv0 : iv a0) : jt (jxC E d 72 [.inr (.inr (.inl 83)), .inl x1, .inl x2] (jxSH, a0, b0)) (jQ_X4_offerInRing x1 x2 a0 b0) := by
  obtain ⟨d, rfl⟩ := jd_succ hd
  refine jt_eq (bq_X4_offerInRing E d x1 x2 a0 b0) ?_
  exact (cp_X4_offerInRing_2 E d hd x1 x2 a0 b0 hv0 _).2.2 x1 x2 0 (Nat.le_refl _) (show 0 ≤ 0 from by omega) (show 0 ≤ 20 from by omega)
def jW_X8_cut : List (Nat × Nat) := [(2, 1)]
abbrev jQ_X8_cut (x1 : Int) (a0 b0 : Nat → Nat → Int) : List jxV → (Nat → Nat → Int) → (Nat → Nat → Int) → Prop := rV (fun a b => (iv a) ∧ (jfr jW_X8_cut a0 a) ∧ (b0 = b) ∧ ((((0 ≤ x1 ∧ x1 ≤ a0 2 1) ∧ a 2 1 = x1) ∨ ((x1 < 0 ∨ a0 2 1 < x1) ∧ a 2 1 = a0 2 1))))
theorem sp_X8_cut (E : jxE) (d : Nat) (hd : Nat.ble 1 d = true) (x1 : Int) (a0 b0 : Nat → Nat → Int) (hv0 : iv a0) : jt (jxC E d 120 [.inr (.inr (.inl 2)), .inl x1] (jxSH, a0, b0)) (jQ_X8_cut x1 a0 b0) := by
  obtain ⟨d, rfl⟩ := jd_succ hd
  refine jt_eq (bq_X8_cut E d x1 a0 b0) ?_
  refine jt_ite (fun c985_ => ?_) (fun c985_ => ?_)
  ·
    have h986_ := iv_get hv0 (k := 2) (j := 1) (l := 0) (u := 200) rfl
    exact jt_rV ⟨hv0, (jfr_rf _ _), rfl, (show (((0 ≤ x1 ∧ x1 ≤ a0 2 1) ∧ a0 2 1 = x1) ∨ ((x1 < 0 ∨ a0 2 1 < x1) ∧ a0 2 1 = a0 2 1)) from by omega)⟩
  ·
    have h987_ := iv_get hv0 (k := 2) (j := 1) (l := 0) (u := 200) rfl
    refine jt_ite (fun c988_ => ?_) (fun c988_ => ?_)
    ·
      exact jt_rV ⟨hv0, (jfr_rf _ _), rfl, (show (((0 ≤ x1 ∧ x1 ≤ a0 2 1) ∧ a0 2 1 = x1) ∨ ((x1 < 0 ∨ a0 2 1 < x1) ∧ a0 2 1 = a0 2 1)) from by omega)⟩
    ·
      have hv989_ : iv (jxu a0 2 1 x1) := iv_put hv0 (l := 0) (u := 200) rfl (by omega) (by omega)
      have hf990_ : jfr jW_X8_cut a0 (jxu a0 2 1 x1) := jfr_put (jfr_rf _ _) rfl
      exact jt_rV ⟨hv989_, hf990_, rfl, (show (((0 ≤ x1 ∧ x1 ≤ a0 2 1) ∧ x1 = x1) ∨ ((x1 < 0 ∨ a0 2 1 < x1) ∧ x1 = a0 2 1)) from by omega)⟩
def jW_X11_end : List (Nat × Nat) := [(2, 1)]
abbrev jQ_X11_end (x1 : Int) (a0 b0 : Nat → Nat → Int) : List jxV → (Nat → Nat → Int) → (Nat → Nat → Int) → Prop := rI (fun r a b => (iv a) ∧ (jfr jW_X11_end a0 a) ∧ (b0 = b) ∧ (((((0 ≤ x1 ∧ x1 ≤ a0 2 1) ∧ r = x1) ∧ a 2 1 = x1) ∨ (((x1 < 0 ∨ a0 2 1 < x1) ∧ r = 0 - 1) ∧ a 2 1 = a0 2 1))))
theorem sp_X11_end (E : jxE) (d : Nat) (hd : Nat.ble 2 d = true) (x1 : Int) (a0 b0 : Nat → Nat → Int) (hv0 : iv a0) : jt (jxC E d 161 [.inr (.inr (.inl 0)), .inl x1] (jxSH, a0, b0)) (jQ_X11_end x1 a0 b0) := by
  obtain ⟨d, rfl⟩ := jd_succ hd
  refine jt_eq (bq_X11_end E d x1 a0 b0) ?_
  refine jt_eI (eq_X8_length E d (jd_le hd rfl) a0 b0) ?_
  refine jt_eI (eq_X11_within E d (jd_le hd rfl) x1 0 (f_X8_length a0 b0) a0 b0) ?_
  have h991_ := f_X8_length_eq a0 b0
  have h992_ := iv_get hv0 (k := 2) (j := 1) (l := 0) (u := 200) rfl
  have h993_ := f_X11_within_eq a0 b0 x1 0 (f_X8_length a0 b0)
  refine jt_ite (fun c994_ => ?_) (fun c994_ => ?_)
  ·
    exact jt_rI ⟨hv0, (jfr_rf _ _), rfl, (show ((((0 ≤ x1 ∧ x1 ≤ a0 2 1) ∧ (-1) = x1) ∧ a0 2 1 = x1) ∨ (((x1 < 0 ∨ a0 2 1 < x1) ∧ (-1) = 0 - 1) ∧ a0 2 1 = a0 2 1)) from by omega)⟩
  ·
    refine jt_bV (sp_X8_cut E d (jd_le hd rfl) x1 a0 b0 hv0) (fun a995_ b995_ h995_ => ?_)
    obtain ⟨hv995_, hf995_, rfl, hq995_0⟩ := h995_
    have h996_ := iv_get hv995_ (k := 2) (j := 1) (l := 0) (u := 200) rfl
    have hf997_ : jfr jW_X11_end a0 a995_ := jfr_tr (jfr_rf _ _) hf995_ rfl
    exact jt_rI ⟨hv995_, hf997_, rfl, (show ((((0 ≤ x1 ∧ x1 ≤ a0 2 1) ∧ x1 = x1) ∧ a995_ 2 1 = x1) ∨ (((x1 < 0 ∨ a0 2 1 < x1) ∧ x1 = 0 - 1) ∧ a995_ 2 1 = a0 2 1)) from by omega)⟩
def jWe_X11_far : List (Nat × Nat) := []
def jW_X11_far : List (Nat × Nat) := [(1, 9999)]
abbrev jQ_X11_far (x1 x2 x3 : Int) (a0 b0 : Nat → Nat → Int) : List jxV → (Nat → Nat → Int) → (Nat → Nat → Int) → Prop := rI (fun r a b => (iv a) ∧ (jfr jW_X11_far a0 a) ∧ (b0 = b) ∧ (FarP (a0 1) (a 1) x1 x2 x3 r))
theorem cp_X11_far_29 (E : jxE) (d : Nat) (hd : Nat.ble 3 (d + 1) = true) (x1 x2 x3 : Int) (a0 b0 : Nat → Nat → Int) (hv0 : iv a0) : ∀ (a : Nat → Nat → Int), iv a → jfr jW_X11_far a0 a → ((((((x1 < 0 ∨ 15 < x1) ∨ x2 < 0) ∨ 15 < x2) ∨ x1 = x2) ∨ x3 < 0) ∨ 99 < x3) → (jfr jWe_X11_far a0 a) → jt (jxX E d 155 29 [none, none, none, none, none] [] (jxSH, a, b0)) (jQ_X11_far x1 x2 x3 a0 b0) := by
  intro a hv hf hi0 hfe
  refine jt_eq (bq_X11_far_29 E d a b0) ?_
  exact jt_rI ⟨hv, hf, rfl, (Or.inr ⟨by omega, rfl, fun j => hfe 1 j rfl⟩)⟩
theorem cp_X11_far_56 (E : jxE) (d : Nat) (hd : Nat.ble 3 (d + 1) = true) (x1 x2 x3 : Int) (a0 b0 : Nat → Nat → Int) (hv0 : iv a0) : ∀ (y1 y2 y3 y4 : Int) (a : Nat → Nat → Int), iv a → jfr jW_X11_far a0 a → 0 ≤ y1 → y1 ≤ 15 → 0 ≤ y2 → y2 ≤ 15 → 0 ≤ y3 → y3 ≤ 99 → 0 ≤ y4 → y4 ≤ 99 → y1 = x1 → y2 = x2 → y3 = x3 → ((((((0 ≤ x1 ∧ x1 ≤ 15) ∧ 0 ≤ x2) ∧ x2 ≤ 15) ∧ ¬ x1 = x2) ∧ 0 ≤ x3) ∧ x3 ≤ 99) → (∀ j, a 1 j = if j = (16 * x1 + x2).toNat then x3 else a0 1 j) → (y4 = a0 1 (16 * x1 + x2).toNat) → jt (jxX E d 155 56 [some (.inr (.inr (.inl 0))), some (.inl y1), some (.inl y2), some (.inl y3), some (.inl y4)] [] (jxSH, a, b0)) (jQ_X11_far x1 x2 x3 a0 b0) := by
  intro y1 y2 y3 y4 a hv hf hi0 hi1 hi2 hi3 hi4 hi5 hi6 hi7 hi8 hi9 hi10 hi11 hf56 hy4
  refine jt_eq (bq_X11_far_56 E d y1 y2 y3 y4 a b0) ?_
  have hix2 : (jxw ((jxw (y2 * 16)) + y1)).toNat = (16 * x2 + x1).toNat := by rw [jxw_id (x := y2 * 16) (by omega) (by omega), jxw_id (by omega) (by omega)]; omega
  have h998_ : jxw (y2 * 16) = y2 * 16 := jxw_id (by omega) (by omega)
  have h999_ : jxw ((jxw (y2 * 16)) + y1) = (jxw (y2 * 16)) + y1 := jxw_id (by omega) (by omega)
  refine jt_grd (by omega) ?_
  have hv1000_ : iv (jxu a 1 ((jxw ((jxw (y2 * 16)) + y1)).toNat) y3) := iv_put hv (l := 0) (u := 99) rfl (by omega) (by omega)
  have hf1001_ : jfr jW_X11_far a0 (jxu a 1 ((jxw ((jxw (y2 * 16)) + y1)).toNat) y3) := jfr_put hf rfl
  exact jt_rI ⟨hv1000_, hf1001_, rfl, (Or.inl ⟨by omega, by omega, by omega, by omega, by omega, by omega, by omega, hy4, fun j => by rw [hix2]; simp only [jxu]; rw [hf56 j, show y3 = x3 from (by omega)]; simp⟩)⟩
theorem cp_X11_far_31 (E : jxE) (d : Nat) (hd : Nat.ble 3 (d + 1) = true) (x1 x2 x3 : Int) (a0 b0 : Nat → Nat → Int) (hv0 : iv a0) : ∀ (y1 y2 y3 : Int) (a : Nat → Nat → Int), iv a → jfr jW_X11_far a0 a → 0 ≤ y1 → y1 ≤ 15 → 0 ≤ y2 → y2 ≤ 15 → 0 ≤ y3 → y3 ≤ 99 → y1 = x1 → y2 = x2 → y3 = x3 → ((((((0 ≤ x1 ∧ x1 ≤ 15) ∧ 0 ≤ x2) ∧ x2 ≤ 15) ∧ ¬ x1 = x2) ∧ 0 ≤ x3) ∧ x3 ≤ 99) → (jfr jWe_X11_far a0 a) → jt (jxX E d 155 31 [some (.inr (.inr (.inl 0))), some (.inl y1), some (.inl y2), some (.inl y3), none] [] (jxSH, a, b0)) (jQ_X11_far x1 x2 x3 a0 b0) := by
  intro y1 y2 y3 a hv hf hi0 hi1 hi2 hi3 hi4 hi5 hi6 hi7 hi8 hi9 hfe
  refine jt_eq (bq_X11_far_31 E d y1 y2 y3 a b0) ?_
  have hix : (jxw ((jxw (y1 * 16)) + y2)).toNat = (16 * x1 + x2).toNat := by rw [jxw_id (x := y1 * 16) (by omega) (by omega), jxw_id (by omega) (by omega)]; omega
  have h1002_ : jxw (y1 * 16) = y1 * 16 := jxw_id (by omega) (by omega)
  have h1003_ : jxw ((jxw (y1 * 16)) + y2) = (jxw (y1 * 16)) + y2 := jxw_id (by omega) (by omega)
  refine jt_grd (by omega) ?_
  refine jt_grd (by omega) ?_
  have hv1004_ : iv (jxu a 1 ((jxw ((jxw (y1 * 16)) + y2)).toNat) y3) := iv_put hv (l := 0) (u := 99) rfl (by omega) (by omega)
  have hf1005_ : jfr jW_X11_far a0 (jxu a 1 ((jxw ((jxw (y1 * 16)) + y2)).toNat) y3) := jfr_put hf rfl
  have h1006_ := iv_get hv (k := 1) (j := (jxw ((jxw (y1 * 16)) + y2)).toNat) (l := 0) (u := 99) rfl
  exact cp_X11_far_56 E d hd x1 x2 x3 a0 b0 hv0 y1 y2 y3 (a 1 ((jxw ((jxw (y1 * 16)) + y2)).toNat)) (jxu a 1 ((jxw ((jxw (y1 * 16)) + y2)).toNat) y3) hv1004_ hf1005_ (show 0 ≤ y1 from by omega) (show y1 ≤ 15 from by omega) (show 0 ≤ y2 from by omega) (show y2 ≤ 15 from by omega) (show 0 ≤ y3 from by omega) (show y3 ≤ 99 from by omega) (show 0 ≤ a 1 ((jxw ((jxw (y1 * 16)) + y2)).toNat) from by omega) (show a 1 ((jxw ((jxw (y1 * 16)) + y2)).toNat) ≤ 99 from by omega) (show y1 = x1 from by omega) (show y2 = x2 from by omega) (show y3 = x3 from by omega) (show ((((((0 ≤ x1 ∧ x1 ≤ 15) ∧ 0 ≤ x2) ∧ x2 ≤ 15) ∧ ¬ x1 = x2) ∧ 0 ≤ x3) ∧ x3 ≤ 99) from by omega) (by intro j; rw [hix]; simp only [jxu]; rw [hfe 1 j rfl, show y3 = x3 from (by omega)]; simp) (by rw [hix]; exact hfe 1 _ rfl)
theorem sp_X11_far (E : jxE) (d : Nat) (hd : Nat.ble 3 d = true) (x1 x2 x3 : Int) (a0 b0 : Nat → Nat → Int) (hv0 : iv a0) : jt (jxC E d 155 [.inr (.inr (.inl 0)), .inl x1, .inl x2, .inl x3] (jxSH, a0, b0)) (jQ_X11_far x1 x2 x3 a0 b0) := by
  obtain ⟨d, rfl⟩ := jd_succ hd
  refine jt_eq (bq_X11_far E d x1 x2 x3 a0 b0) ?_
  refine jt_eI (eq_X11_isLand E d (jd_le hd rfl) x1 a0 b0) ?_
  have h1007_ := f_X11_isLand_eq a0 b0 x1
  have h1008_ := f_X11_within_eq a0 b0 x1 0 15
  refine jt_ite (fun c1009_ => ?_) (fun c1009_ => ?_)
  ·
    exact cp_X11_far_29 E d hd x1 x2 x3 a0 b0 hv0 a0 hv0 (jfr_rf _ _) (show ((((((x1 < 0 ∨ 15 < x1) ∨ x2 < 0) ∨ 15 < x2) ∨ x1 = x2) ∨ x3 < 0) ∨ 99 < x3) from by omega) (jfr_rf _ _)
  ·
    refine jt_eI (eq_X11_isLand E d (jd_le hd rfl) x2 a0 b0) ?_
    have h1010_ := f_X11_isLand_eq a0 b0 x2
    have h1011_ := f_X11_within_eq a0 b0 x2 0 15
    refine jt_ite (fun c1012_ => ?_) (fun c1012_ => ?_)
    ·
      exact cp_X11_far_29 E d hd x1 x2 x3 a0 b0 hv0 a0 hv0 (jfr_rf _ _) (show ((((((x1 < 0 ∨ 15 < x1) ∨ x2 < 0) ∨ 15 < x2) ∨ x1 = x2) ∨ x3 < 0) ∨ 99 < x3) from by omega) (jfr_rf _ _)
    ·
      refine jt_ite (fun c1013_ => ?_) (fun c1013_ => ?_)
      ·
        exact cp_X11_far_29 E d hd x1 x2 x3 a0 b0 hv0 a0 hv0 (jfr_rf _ _) (show ((((((x1 < 0 ∨ 15 < x1) ∨ x2 < 0) ∨ 15 < x2) ∨ x1 = x2) ∨ x3 < 0) ∨ 99 < x3) from by omega) (jfr_rf _ _)
      ·
        refine jt_eI (eq_X11_within E d (jd_le hd rfl) x3 0 99 a0 b0) ?_
        have h1014_ := f_X11_within_eq a0 b0 x3 0 99
        refine jt_ite (fun c1015_ => ?_) (fun c1015_ => ?_)
        ·
          exact cp_X11_far_29 E d hd x1 x2 x3 a0 b0 hv0 a0 hv0 (jfr_rf _ _) (show ((((((x1 < 0 ∨ 15 < x1) ∨ x2 < 0) ∨ 15 < x2) ∨ x1 = x2) ∨ x3 < 0) ∨ 99 < x3) from by omega) (jfr_rf _ _)
        ·
          exact cp_X11_far_31 E d hd x1 x2 x3 a0 b0 hv0 x1 x2 x3 a0 hv0 (jfr_rf _ _) (show 0 ≤ x1 from by omega) (show x1 ≤ 15 from by omega) (show 0 ≤ x2 from by omega) (show x2 ≤ 15 from by omega) (show 0 ≤ x3 from by omega) (show x3 ≤ 99 from by omega) (show x1 = x1 from by omega) (show x2 = x2 from by omega) (show x3 = x3 from by omega) (show ((((((0 ≤ x1 ∧ x1 ≤ 15) ∧ 0 ≤ x2) ∧ x2 ≤ 15) ∧ ¬ x1 = x2) ∧ 0 ≤ x3) ∧ x3 ≤ 99) from by omega) (jfr_rf _ _)
def jW_X8_append : List (Nat × Nat) := [(2, 1), (3, 9999)]
abbrev jQ_X8_append (x1 : Int) (a0 b0 : Nat → Nat → Int) : List jxV → (Nat → Nat → Int) → (Nat → Nat → Int) → Prop := rV (fun a b => (iv a) ∧ (jfr jW_X8_append a0 a) ∧ (b0 = b) ∧ ((a0 2 1 ≤ 196 → a 2 1 = (a0 2 1) + 4)) ∧ (a0 2 1 ≤ 196 → APP (a0 3) (a 3) (a0 2 1) x1 (a0 2 1 + 4)))
theorem cp_X8_append_3 (E : jxE) (d : Nat) (hd : Nat.ble 1 (d + 1) = true) (x1 : Int) (a0 b0 : Nat → Nat → Int) (hv0 : iv a0) : ∀ n : Nat, (∀ (y1 y2 : Int) (a : Nat → Nat → Int), (((y2 + 8) * 1) + 0).toNat ≤ n → iv a → jfr jW_X8_append a0 a → 0 ≤ y2 → y2 ≤ 24 → 1 ≤ a 2 1 → (a0 2 1 ≤ 196 → (8 * (a 2 1)) + y2 = (8 * (a0 2 1)) + 32) → 0 ≤ y2 → (y1 = x1) → (a0 2 1 ≤ 196 → APP (a0 3) (a 3) (a0 2 1) x1 (a 2 1)) → jt (jxX E d 119 42 [some (.inr (.inr (.inl 2))), some (.inl y1), some (.inl y2)] [] (jxSH, a, b0)) (jQ_X8_append x1 a0 b0)) ∧ (∀ (y1 y2 : Int) (a : Nat → Nat → Int), (((y2 + 8) * 1) + 0).toNat ≤ n → iv a → jfr jW_X8_append a0 a → 0 - 8 ≤ y2 → y2 ≤ 24 → (a0 2 1 ≤ 196 → (8 * (a 2 1)) + y2 = (8 * (a0 2 1)) + 24) → (y1 = x1) → (a0 2 1 ≤ 196 → APP (a0 3) (a 3) (a0 2 1) x1 (a 2 1)) → jt (jxX E d 119 3 [some (.inr (.inr (.inl 2))), some (.inl y1), some (.inl y2)] [] (jxSH, a, b0)) (jQ_X8_append x1 a0 b0)) := by
  refine jx_ind fun n ih => ?_
  have ih42 : ∀ (y1 y2 : Int) (a : Nat → Nat → Int), (((y2 + 8) * 1) + 0).toNat < n → iv a → jfr jW_X8_append a0 a → 0 ≤ y2 → y2 ≤ 24 → 1 ≤ a 2 1 → (a0 2 1 ≤ 196 → (8 * (a 2 1)) + y2 = (8 * (a0 2 1)) + 32) → 0 ≤ y2 → (y1 = x1) → (a0 2 1 ≤ 196 → APP (a0 3) (a 3) (a0 2 1) x1 (a 2 1)) → jt (jxX E d 119 42 [some (.inr (.inr (.inl 2))), some (.inl y1), some (.inl y2)] [] (jxSH, a, b0)) (jQ_X8_append x1 a0 b0) := fun y1 y2 a hlt i0 i1 i2 i3 i4 i5 i6 i7 i8 => (ih _ hlt).1 y1 y2 a (Nat.le_refl _) i0 i1 i2 i3 i4 i5 i6 i7 i8
  have ih3 : ∀ (y1 y2 : Int) (a : Nat → Nat → Int), (((y2 + 8) * 1) + 0).toNat < n → iv a → jfr jW_X8_append a0 a → 0 - 8 ≤ y2 → y2 ≤ 24 → (a0 2 1 ≤ 196 → (8 * (a 2 1)) + y2 = (8 * (a0 2 1)) + 24) → (y1 = x1) → (a0 2 1 ≤ 196 → APP (a0 3) (a 3) (a0 2 1) x1 (a 2 1)) → jt (jxX E d 119 3 [some (.inr (.inr (.inl 2))), some (.inl y1), some (.inl y2)] [] (jxSH, a, b0)) (jQ_X8_append x1 a0 b0) := fun y1 y2 a hlt i0 i1 i2 i3 i4 i5 i6 => (ih _ hlt).2 y1 y2 a (Nat.le_refl _) i0 i1 i2 i3 i4 i5 i6
  have hc42 : ∀ (y1 y2 : Int) (a : Nat → Nat → Int), (((y2 + 8) * 1) + 0).toNat ≤ n → iv a → jfr jW_X8_append a0 a → 0 ≤ y2 → y2 ≤ 24 → 1 ≤ a 2 1 → (a0 2 1 ≤ 196 → (8 * (a 2 1)) + y2 = (8 * (a0 2 1)) + 32) → 0 ≤ y2 → (y1 = x1) → (a0 2 1 ≤ 196 → APP (a0 3) (a 3) (a0 2 1) x1 (a 2 1)) → jt (jxX E d 119 42 [some (.inr (.inr (.inl 2))), some (.inl y1), some (.inl y2)] [] (jxSH, a, b0)) (jQ_X8_append x1 a0 b0) := by
    intro y1 y2 a hm hv hf hi0 hi1 hi2 hi3 hi4 hy1 hap
    refine jt_eq (bq_X8_append_42 E d y1 y2 a b0) ?_
    have h1016_ := iv_get hv (k := 2) (j := 1) (l := 0) (u := 200) rfl
    have h1017_ := iv_get hv0 (k := 2) (j := 1) (l := 0) (u := 200) rfl
    have h1018_ : jxw (y2 + (-8)) = y2 + (-8) := jxw_id (by omega) (by omega)
    exact ih3 y1 (jxw (y2 + (-8))) a (show ((((jxw (y2 + (-8))) + 8) * 1) + 0).toNat < n from by omega) hv hf (show 0 - 8 ≤ jxw (y2 + (-8)) from by omega) (show jxw (y2 + (-8)) ≤ 24 from by omega) (show (a0 2 1 ≤ 196 → (8 * (a 2 1)) + (jxw (y2 + (-8))) = (8 * (a0 2 1)) + 24) from by omega) (by first | rfl | assumption) hap
  have hc3 : ∀ (y1 y2 : Int) (a : Nat → Nat → Int), (((y2 + 8) * 1) + 0).toNat ≤ n → iv a → jfr jW_X8_append a0 a → 0 - 8 ≤ y2 → y2 ≤ 24 → (a0 2 1 ≤ 196 → (8 * (a 2 1)) + y2 = (8 * (a0 2 1)) + 24) → (y1 = x1) → (a0 2 1 ≤ 196 → APP (a0 3) (a 3) (a0 2 1) x1 (a 2 1)) → jt (jxX E d 119 3 [some (.inr (.inr (.inl 2))), some (.inl y1), some (.inl y2)] [] (jxSH, a, b0)) (jQ_X8_append x1 a0 b0) := by
    intro y1 y2 a hm hv hf hi0 hi1 hi2 hy1 hap
    refine jt_eq (bq_X8_append_3 E d y1 y2 a b0) ?_
    have h1019_ := iv_get hv0 (k := 2) (j := 1) (l := 0) (u := 200) rfl
    have h1020_ := iv_get hv (k := 2) (j := 1) (l := 0) (u := 200) rfl
    refine jt_ite (fun c1021_ => ?_) (fun c1021_ => ?_)
    ·
      exact jt_rV ⟨hv, hf, rfl, (show (a0 2 1 ≤ 196 → a 2 1 = (a0 2 1) + 4) from by omega), (fun h => by rw [show a0 2 1 + 4 = a 2 1 from by omega]; exact hap h)⟩
    ·
      refine jt_ite (fun c1022_ => ?_) (fun c1022_ => ?_)
      ·
        refine jt_grd (by omega) ?_
        have h1024_ : jxw ((a 2 1) + 1) = (a 2 1) + 1 := jxw_id (by omega) (by omega)
        have hv1023_ : iv (jxu a 2 1 (jxw ((a 2 1) + 1))) := iv_put hv (l := 0) (u := 200) rfl (by omega) (by omega)
        have h1026_ := jxshr_b y1 y2
        have h1027_ := jxand_r (jxshr y1 y2) 255 (by decide) (by decide)
        have hv1025_ : iv (jxu (jxu a 2 1 (jxw ((a 2 1) + 1))) 3 ((a 2 1).toNat) (jxand (jxshr y1 y2) 255)) := iv_put hv1023_ (l := 0) (u := 255) rfl (by omega) (by omega)
        have hf1028_ : jfr jW_X8_append a0 (jxu a 2 1 (jxw ((a 2 1) + 1))) := jfr_put hf rfl
        have hf1029_ : jfr jW_X8_append a0 (jxu (jxu a 2 1 (jxw ((a 2 1) + 1))) 3 ((a 2 1).toNat) (jxand (jxshr y1 y2) 255)) := jfr_put hf1028_ rfl
        exact hc42 y1 y2 (jxu (jxu a 2 1 (jxw ((a 2 1) + 1))) 3 ((a 2 1).toNat) (jxand (jxshr y1 y2) 255)) (show (((y2 + 8) * 1) + 0).toNat ≤ n from by omega) hv1025_ hf1029_ (show 0 ≤ y2 from by omega) (show y2 ≤ 24 from by omega) (show 1 ≤ jxw ((a 2 1) + 1) from by omega) (show (a0 2 1 ≤ 196 → (8 * (jxw ((a 2 1) + 1))) + y2 = (8 * (a0 2 1)) + 32) from by omega) (show 0 ≤ y2 from by omega) (by first | rfl | assumption) (fun h => by rw [show jxu (jxu a 2 1 (jxw ((a 2 1) + 1))) 3 ((a 2 1).toNat) (jxand (jxshr y1 y2) 255) 2 1 = a 2 1 + 1 from (show jxw ((a 2 1) + 1) = _ from by omega)]; exact APP_s (s := y2) (hap h) (UP_put (fun _ => rfl)) (by omega) (by omega) (by omega) (by rw [← hy1]))
      ·
        exact hc42 y1 y2 a (show (((y2 + 8) * 1) + 0).toNat ≤ n from by omega) hv hf (show 0 ≤ y2 from by omega) (show y2 ≤ 24 from by omega) (show 1 ≤ a 2 1 from by omega) (show (a0 2 1 ≤ 196 → (8 * (a 2 1)) + y2 = (8 * (a0 2 1)) + 32) from by omega) (show 0 ≤ y2 from by omega) (by first | rfl | assumption) (fun h => absurd h (by omega))
  exact ⟨hc42, hc3⟩
theorem sp_X8_append (E : jxE) (d : Nat) (hd : Nat.ble 1 d = true) (x1 : Int) (a0 b0 : Nat → Nat → Int) (hv0 : iv a0) : jt (jxC E d 119 [.inr (.inr (.inl 2)), .inl x1] (jxSH, a0, b0)) (jQ_X8_append x1 a0 b0) := by
  obtain ⟨d, rfl⟩ := jd_succ hd
  refine jt_eq (bq_X8_append E d x1 a0 b0) ?_
  have h1030_ := iv_get hv0 (k := 2) (j := 1) (l := 0) (u := 200) rfl
  exact (cp_X8_append_3 E d hd x1 a0 b0 hv0 _).2 x1 24 a0 (Nat.le_refl _) hv0 (jfr_rf _ _) (show 0 - 8 ≤ 24 from by omega) (show 24 ≤ 24 from by omega) (show (a0 2 1 ≤ 196 → (8 * (a0 2 1)) + 24 = (8 * (a0 2 1)) + 24) from by omega) (by first | rfl | assumption) (fun _ => APP_0 _ _ _)
def jW_X11_feed : List (Nat × Nat) := [(2, 1), (3, 9999)]
abbrev jQ_X11_feed (x1 x2 x3 x4 x5 : Int) (a0 b0 : Nat → Nat → Int) : List jxV → (Nat → Nat → Int) → (Nat → Nat → Int) → Prop := rI (fun r a b => (iv a) ∧ (jfr jW_X11_feed a0 a) ∧ (b0 = b) ∧ ((((a0 2 1 ≤ 180 ∧ r = (a0 2 1) + 20) ∧ a 2 1 = (a0 2 1) + 20) ∨ ((180 < a0 2 1 ∧ r = 0 - 1) ∧ a 2 1 = a0 2 1))) ∧ (a0 2 1 ≤ 180 → FED (a0 3) (a 3) (a0 2 1) x1 x2 x3 x4 x5) ∧ (180 < a0 2 1 → ∀ j, a 3 j = a0 3 j))
theorem cp_X11_feed_38 (E : jxE) (d : Nat) (hd : Nat.ble 2 (d + 1) = true) (x1 x2 x3 x4 x5 : Int) (a0 b0 : Nat → Nat → Int) (hv0 : iv a0) : ∀ (y4 y5 : Int) (a : Nat → Nat → Int), iv a → jfr jW_X11_feed a0 a → a 2 1 = (a0 2 1) + 12 → a0 2 1 ≤ 180 → (∃ g1 g2 : Nat → Int, APP (a0 3) g1 (a0 2 1) x1 ((a0 2 1) + 4) ∧ APP g1 g2 ((a0 2 1) + 4) x2 ((a0 2 1) + 8) ∧ APP g2 (a 3) ((a0 2 1) + 8) x3 ((a0 2 1) + 12)) → (y4 = x4) → (y5 = x5) → jt (jxX E d 160 38 [some (.inr (.inr (.inl 0))), none, none, none, some (.inl y4), some (.inl y5)] [] (jxSH, a, b0)) (jQ_X11_feed x1 x2 x3 x4 x5 a0 b0) := by
  intro y4 y5 a hv hf hi0 hi1 hfd hy4 hy5
  refine jt_eq (bq_X11_feed_38 E d y4 y5 a b0) ?_
  have h1031_ := iv_get hv (k := 2) (j := 1) (l := 0) (u := 200) rfl
  have h1032_ := iv_get hv0 (k := 2) (j := 1) (l := 0) (u := 200) rfl
  refine jt_bV (sp_X8_append E d (jd_le hd rfl) y4 a b0 hv) (fun a1033_ b1033_ h1033_ => ?_)
  obtain ⟨hv1033_, hf1033_, rfl, hq1033_0, hq1033_1⟩ := h1033_
  have h1034_ := iv_get hv1033_ (k := 2) (j := 1) (l := 0) (u := 200) rfl
  refine jt_bV (sp_X8_append E d (jd_le hd rfl) y5 a1033_ b0 hv1033_) (fun a1035_ b1035_ h1035_ => ?_)
  obtain ⟨hv1035_, hf1035_, rfl, hq1035_0, hq1035_1⟩ := h1035_
  have h1036_ := iv_get hv1035_ (k := 2) (j := 1) (l := 0) (u := 200) rfl
  refine jt_eI (eq_X8_length E d (jd_le hd rfl) a1035_ b0) ?_
  have hf1037_ : jfr jW_X11_feed a0 a1033_ := jfr_tr hf hf1033_ rfl
  have hf1038_ : jfr jW_X11_feed a0 a1035_ := jfr_tr hf1037_ hf1035_ rfl
  have h1039_ := f_X8_length_eq a1035_ b0
  exact jt_rI ⟨hv1035_, hf1038_, rfl, (show (((a0 2 1 ≤ 180 ∧ f_X8_length a1035_ b0 = (a0 2 1) + 20) ∧ a1035_ 2 1 = (a0 2 1) + 20) ∨ ((180 < a0 2 1 ∧ f_X8_length a1035_ b0 = 0 - 1) ∧ a1035_ 2 1 = a0 2 1)) from by omega), (fun _ => by obtain ⟨g1, g2, p1, p2, p3⟩ := hfd; subst hy4; subst hy5; exact ⟨g1, g2, (a 3), (a1033_ 3), p1, p2, p3, APP_c (hq1033_1 (by omega)) (by omega) (by omega), APP_c (hq1035_1 (by omega)) (by omega) (by omega)⟩), (fun h => absurd h (by omega))⟩
theorem sp_X11_feed (E : jxE) (d : Nat) (hd : Nat.ble 2 d = true) (x1 x2 x3 x4 x5 : Int) (a0 b0 : Nat → Nat → Int) (hv0 : iv a0) : jt (jxC E d 160 [.inr (.inr (.inl 0)), .inl x1, .inl x2, .inl x3, .inl x4, .inl x5] (jxSH, a0, b0)) (jQ_X11_feed x1 x2 x3 x4 x5 a0 b0) := by
  obtain ⟨d, rfl⟩ := jd_succ hd
  refine jt_eq (bq_X11_feed E d x1 x2 x3 x4 x5 a0 b0) ?_
  refine jt_eI (eq_X8_hasRoom E d (jd_le hd rfl) 20 a0 b0) ?_
  have h1040_ := f_X8_hasRoom_eq a0 b0 20
  have h1041_ := iv_get hv0 (k := 2) (j := 1) (l := 0) (u := 200) rfl
  have h1042_ : jxw (200 - (a0 2 1)) = 200 - (a0 2 1) := jxw_id (by omega) (by omega)
  refine jt_ite (fun c1043_ => ?_) (fun c1043_ => ?_)
  ·
    exact jt_rI ⟨hv0, (jfr_rf _ _), rfl, (show (((a0 2 1 ≤ 180 ∧ (-1) = (a0 2 1) + 20) ∧ a0 2 1 = (a0 2 1) + 20) ∨ ((180 < a0 2 1 ∧ (-1) = 0 - 1) ∧ a0 2 1 = a0 2 1)) from by omega), (fun h => absurd h (by omega)), (fun _ _ => rfl)⟩
  ·
    refine jt_bV (sp_X8_append E d (jd_le hd rfl) x1 a0 b0 hv0) (fun a1044_ b1044_ h1044_ => ?_)
    obtain ⟨hv1044_, hf1044_, rfl, hq1044_0, hq1044_1⟩ := h1044_
    have h1045_ := iv_get hv1044_ (k := 2) (j := 1) (l := 0) (u := 200) rfl
    refine jt_bV (sp_X8_append E d (jd_le hd rfl) x2 a1044_ b0 hv1044_) (fun a1046_ b1046_ h1046_ => ?_)
    obtain ⟨hv1046_, hf1046_, rfl, hq1046_0, hq1046_1⟩ := h1046_
    have h1047_ := iv_get hv1046_ (k := 2) (j := 1) (l := 0) (u := 200) rfl
    refine jt_bV (sp_X8_append E d (jd_le hd rfl) x3 a1046_ b0 hv1046_) (fun a1048_ b1048_ h1048_ => ?_)
    obtain ⟨hv1048_, hf1048_, rfl, hq1048_0, hq1048_1⟩ := h1048_
    have h1049_ := iv_get hv1048_ (k := 2) (j := 1) (l := 0) (u := 200) rfl
    have hf1050_ : jfr jW_X11_feed a0 a1044_ := jfr_tr (jfr_rf _ _) hf1044_ rfl
    have hf1051_ : jfr jW_X11_feed a0 a1046_ := jfr_tr hf1050_ hf1046_ rfl
    have hf1052_ : jfr jW_X11_feed a0 a1048_ := jfr_tr hf1051_ hf1048_ rfl
    exact cp_X11_feed_38 E d hd x1 x2 x3 x4 x5 a0 b0 hv0 x4 x5 a1048_ hv1048_ hf1052_ (show a1048_ 2 1 = (a0 2 1) + 12 from by omega) (show a0 2 1 ≤ 180 from by omega) ⟨_, _, hq1044_1 (by omega), APP_c (hq1046_1 (by omega)) (by omega) (by omega), APP_c (hq1048_1 (by omega)) (by omega) (by omega)⟩ rfl rfl
abbrev jQ_X2_allow (x1 x2 x3 : Int) (a0 b0 : Nat → Nat → Int) : List jxV → (Nat → Nat → Int) → (Nat → Nat → Int) → Prop := rV (fun a b => (a0 = a) ∧ (0 ≤ x1 → x1 ≤ 7 → b = jxu b0 82 x1.toNat (jxwl ((jxwl ((jxwl (x2 * 1048576)) - x3)) - 1099511627776))))
theorem cp_X2_allow_29 (E : jxE) (d : Nat) (hd : Nat.ble 2 (d + 1) = true) (x1 x2 x3 : Int) (a0 b0 : Nat → Nat → Int) (hv0 : iv a0) : ∀ (b : Nat → Nat → Int), (0 ≤ x1 → x1 ≤ 7 → b = jxu b0 82 x1.toNat (jxwl ((jxwl ((jxwl (x2 * 1048576)) - x3)) - 1099511627776))) → jt (jxX E d 43 29 [none, none, none, none] [] (jxSH, a0, b)) (jQ_X2_allow x1 x2 x3 a0 b0) := by
  intro b hb
  refine jt_eq (bq_X2_allow_29 E d a0 b) ?_
  exact jt_rV ⟨rfl, hb⟩
theorem sp_X2_allow (E : jxE) (d : Nat) (hd : Nat.ble 2 d = true) (x1 x2 x3 : Int) (a0 b0 : Nat → Nat → Int) (hv0 : iv a0) : jt (jxC E d 43 [.inr (.inr (.inl 79)), .inl x1, .inl x2, .inl x3] (jxSH, a0, b0)) (jQ_X2_allow x1 x2 x3 a0 b0) := by
  obtain ⟨d, rfl⟩ := jd_succ hd
  refine jt_eq (bq_X2_allow E d x1 x2 x3 a0 b0) ?_
  refine jt_eI (eq_X11_within E d (jd_le hd rfl) x1 0 7 a0 b0) ?_
  have h1053_ := f_X11_within_eq a0 b0 x1 0 7
  refine jt_ite (fun c1054_ => ?_) (fun c1054_ => ?_)
  ·
    exact cp_X2_allow_29 E d hd x1 x2 x3 a0 b0 hv0 b0 (by first | exact (fun _ _ => rfl) | exact (fun h1 h2 => absurd (by omega : False) id))
  ·
    refine jt_grd (by omega) ?_
    exact cp_X2_allow_29 E d hd x1 x2 x3 a0 b0 hv0 (jxu b0 82 (x1.toNat) (jxwl ((jxwl ((jxwl (x2 * 1048576)) - x3)) - 1099511627776))) (by first | exact (fun _ _ => rfl) | exact (fun h1 h2 => absurd (by omega : False) id))
abbrev jQ_X2_forbidAll (a0 b0 : Nat → Nat → Int) : List jxV → (Nat → Nat → Int) → (Nat → Nat → Int) → Prop := rV (fun a b => (a0 = a) ∧ (∀ i : Nat, i < 8 → b 82 i = IMPO) ∧ (jbf [82] b0 b))
theorem cp_X2_forbidAll_2 (E : jxE) (d : Nat) (hd : Nat.ble 1 (d + 1) = true) (a0 b0 : Nat → Nat → Int) (hv0 : iv a0) : ∀ n : Nat, (∀ (y1 : Int) (b : Nat → Nat → Int), (((8 - y1) * 1) + 0).toNat ≤ n → 0 ≤ y1 → y1 ≤ 8 → 0 ≤ y1 → y1 ≤ 8 → (∀ i : Nat, (i : Int) < y1 → b 82 i = IMPO) → (jbf [82] b0 b) → jt (jxX E d 42 2 [some (.inr (.inr (.inl 79))), some (.inl y1)] [] (jxSH, a0, b)) (jQ_X2_forbidAll a0 b0)) := by
  refine jx_ind fun n ih => ?_
  have ih2 : ∀ (y1 : Int) (b : Nat → Nat → Int), (((8 - y1) * 1) + 0).toNat < n → 0 ≤ y1 → y1 ≤ 8 → 0 ≤ y1 → y1 ≤ 8 → (∀ i : Nat, (i : Int) < y1 → b 82 i = IMPO) → (jbf [82] b0 b) → jt (jxX E d 42 2 [some (.inr (.inr (.inl 79))), some (.inl y1)] [] (jxSH, a0, b)) (jQ_X2_forbidAll a0 b0) := fun y1 b hlt i0 i1 i2 i3 i4 i5 => (ih _ hlt) y1 b (Nat.le_refl _) i0 i1 i2 i3 i4 i5
  have hc2 : ∀ (y1 : Int) (b : Nat → Nat → Int), (((8 - y1) * 1) + 0).toNat ≤ n → 0 ≤ y1 → y1 ≤ 8 → 0 ≤ y1 → y1 ≤ 8 → (∀ i : Nat, (i : Int) < y1 → b 82 i = IMPO) → (jbf [82] b0 b) → jt (jxX E d 42 2 [some (.inr (.inr (.inl 79))), some (.inl y1)] [] (jxSH, a0, b)) (jQ_X2_forbidAll a0 b0) := by
    intro y1 b hm hi0 hi1 hi2 hi3 hz hbf
    refine jt_eq (bq_X2_forbidAll_2 E d y1 a0 b) ?_
    refine jt_ite (fun c1055_ => ?_) (fun c1055_ => ?_)
    ·
      refine jt_grd (by omega) ?_
      have h1056_ : jxw (y1 + 1) = y1 + 1 := jxw_id (by omega) (by omega)
      exact ih2 (jxw (y1 + 1)) (jxu b 82 (y1.toNat) 4611686018427387904) (show (((8 - (jxw (y1 + 1))) * 1) + 0).toNat < n from by omega) (show 0 ≤ jxw (y1 + 1) from by omega) (show jxw (y1 + 1) ≤ 8 from by omega) (show 0 ≤ jxw (y1 + 1) from by omega) (show jxw (y1 + 1) ≤ 8 from by omega) (by first | exact (fun i h => absurd h (by omega)) | (intro i h; by_cases e : i = y1.toNat <;> first | (rw [e, jxu_at]; rfl) | (rw [jxu_nj e]; exact hz i (by omega)))) (by first | exact jbf_rf _ _ | exact jbf_put hbf rfl)
    ·
      exact jt_rV ⟨rfl, (fun i h => hz i (by omega)), hbf⟩
  exact hc2
theorem sp_X2_forbidAll (E : jxE) (d : Nat) (hd : Nat.ble 1 d = true) (a0 b0 : Nat → Nat → Int) (hv0 : iv a0) : jt (jxC E d 42 [.inr (.inr (.inl 79))] (jxSH, a0, b0)) (jQ_X2_forbidAll a0 b0) := by
  obtain ⟨d, rfl⟩ := jd_succ hd
  refine jt_eq (bq_X2_forbidAll E d a0 b0) ?_
  exact (cp_X2_forbidAll_2 E d hd a0 b0 hv0 _) 0 b0 (Nat.le_refl _) (show 0 ≤ 0 from by omega) (show 0 ≤ 8 from by omega) (show 0 ≤ 0 from by omega) (show 0 ≤ 8 from by omega) (by first | exact (fun i h => absurd h (by omega)) | (intro i h; by_cases e : i = y1.toNat <;> first | (rw [e, jxu_at]; rfl) | (rw [jxu_nj e]; exact hz i (by omega)))) (by first | exact jbf_rf _ _ | exact jbf_put hbf rfl)
def jWbe : List (Nat × Nat) := [(79, 3)]
def jW_X2_begin : List (Nat × Nat) := [(79, 3)]
abbrev jQ_X2_begin (x1 : Int) (a0 b0 : Nat → Nat → Int) : List jxV → (Nat → Nat → Int) → (Nat → Nat → Int) → Prop := rV (fun a b => (iv a) ∧ (jfr jW_X2_begin a0 a) ∧ (0 ≤ x1 → x1 ≤ 8 → a 79 3 = x1 ∧ ∀ (A : Nat → Nat → Prop) (p : Nat → Nat → Int), DPC A p x1.toNat 0 (b 80) (b 81)) ∧ (∀ i : Nat, i < 8 → b 82 i = IMPO) ∧ (jbf [80, 81, 82] b0 b))
theorem cp_X2_begin_56 (E : jxE) (d : Nat) (hd : Nat.ble 2 (d + 1) = true) (x1 : Int) (a0 b0 : Nat → Nat → Int) (hv0 : iv a0) : ∀ n : Nat, (∀ (y2 : Int) (a b : Nat → Nat → Int), (((8 - y2) * 1) + 0).toNat ≤ n → iv a → jfr jW_X2_begin a0 a → 0 ≤ y2 → y2 ≤ 7 → 1 ≤ a 79 3 → (0 ≤ x1 → x1 ≤ 8 → a 79 3 = x1) → (jbf [80, 81, 82] b0 b) → (b 80 0 = 0 ∧ ∀ s : Nat, 0 < s → s < 256 → b 80 s = IMPO) → 0 ≤ y2 → y2 < a 79 3 → (b 81 0 = SUMN (fun i => 40 * PW i) (y2.toNat + 1)) → jt (jxX E d 41 81 [some (.inr (.inr (.inl 79))), none, some (.inl y2)] [] (jxSH, a, b)) (jQ_X2_begin x1 a0 b0)) ∧ (∀ (y2 : Int) (a b : Nat → Nat → Int), (((8 - y2) * 1) + 0).toNat ≤ n → iv a → jfr jW_X2_begin a0 a → 0 ≤ y2 → y2 ≤ 8 → (0 ≤ x1 → x1 ≤ 8 → a 79 3 = x1) → (jbf [80, 81, 82] b0 b) → (b 80 0 = 0 ∧ ∀ s : Nat, 0 < s → s < 256 → b 80 s = IMPO) → 0 ≤ y2 → y2 ≤ a 79 3 → (b 81 0 = SUMN (fun i => 40 * PW i) y2.toNat) → jt (jxX E d 41 56 [some (.inr (.inr (.inl 79))), none, some (.inl y2)] [] (jxSH, a, b)) (jQ_X2_begin x1 a0 b0)) := by
  refine jx_ind fun n ih => ?_
  have ih81 : ∀ (y2 : Int) (a b : Nat → Nat → Int), (((8 - y2) * 1) + 0).toNat < n → iv a → jfr jW_X2_begin a0 a → 0 ≤ y2 → y2 ≤ 7 → 1 ≤ a 79 3 → (0 ≤ x1 → x1 ≤ 8 → a 79 3 = x1) → (jbf [80, 81, 82] b0 b) → (b 80 0 = 0 ∧ ∀ s : Nat, 0 < s → s < 256 → b 80 s = IMPO) → 0 ≤ y2 → y2 < a 79 3 → (b 81 0 = SUMN (fun i => 40 * PW i) (y2.toNat + 1)) → jt (jxX E d 41 81 [some (.inr (.inr (.inl 79))), none, some (.inl y2)] [] (jxSH, a, b)) (jQ_X2_begin x1 a0 b0) := fun y2 a b hlt i0 i1 i2 i3 i4 i5 i6 i7 i8 i9 i10 => (ih _ hlt).1 y2 a b (Nat.le_refl _) i0 i1 i2 i3 i4 i5 i6 i7 i8 i9 i10
  have ih56 : ∀ (y2 : Int) (a b : Nat → Nat → Int), (((8 - y2) * 1) + 0).toNat < n → iv a → jfr jW_X2_begin a0 a → 0 ≤ y2 → y2 ≤ 8 → (0 ≤ x1 → x1 ≤ 8 → a 79 3 = x1) → (jbf [80, 81, 82] b0 b) → (b 80 0 = 0 ∧ ∀ s : Nat, 0 < s → s < 256 → b 80 s = IMPO) → 0 ≤ y2 → y2 ≤ a 79 3 → (b 81 0 = SUMN (fun i => 40 * PW i) y2.toNat) → jt (jxX E d 41 56 [some (.inr (.inr (.inl 79))), none, some (.inl y2)] [] (jxSH, a, b)) (jQ_X2_begin x1 a0 b0) := fun y2 a b hlt i0 i1 i2 i3 i4 i5 i6 i7 i8 i9 => (ih _ hlt).2 y2 a b (Nat.le_refl _) i0 i1 i2 i3 i4 i5 i6 i7 i8 i9
  have hc81 : ∀ (y2 : Int) (a b : Nat → Nat → Int), (((8 - y2) * 1) + 0).toNat ≤ n → iv a → jfr jW_X2_begin a0 a → 0 ≤ y2 → y2 ≤ 7 → 1 ≤ a 79 3 → (0 ≤ x1 → x1 ≤ 8 → a 79 3 = x1) → (jbf [80, 81, 82] b0 b) → (b 80 0 = 0 ∧ ∀ s : Nat, 0 < s → s < 256 → b 80 s = IMPO) → 0 ≤ y2 → y2 < a 79 3 → (b 81 0 = SUMN (fun i => 40 * PW i) (y2.toNat + 1)) → jt (jxX E d 41 81 [some (.inr (.inr (.inl 79))), none, some (.inl y2)] [] (jxSH, a, b)) (jQ_X2_begin x1 a0 b0) := by
    intro y2 a b hm hv hf hi0 hi1 hi2 hm hbf hc0 hi6 hi7 ho0
    refine jt_eq (bq_X2_begin_81 E d y2 a b) ?_
    have h1057_ := iv_get hv (k := 79) (j := 3) (l := 0) (u := 8) rfl
    have i793 := iv_get hv (k := 79) (j := 3) (l := 0) (u := 8) rfl
    have h1058_ : jxw (y2 + 1) = y2 + 1 := jxw_id (by omega) (by omega)
    exact ih56 (jxw (y2 + 1)) a b (show (((8 - (jxw (y2 + 1))) * 1) + 0).toNat < n from by omega) hv hf (show 0 ≤ jxw (y2 + 1) from by omega) (show jxw (y2 + 1) ≤ 8 from by omega) (by first | assumption | (intro h1 h2; show (if (if 0 < x1 then x1 else 0) > 8 then _ else _) = _; split <;> split <;> omega) | (intro h1 h2; show f_J9_min_7cf53 a0 b0 (f_J9_max_7cf53 a0 b0 x1 0) 8 = x1; rw [f_J9_min_7cf53_eq, f_J9_max_7cf53_eq]; split <;> split <;> omega)) (by first | exact jbf_rf _ _ | exact hbf | exact jbf_put hbf rfl | exact jbf_put (jbf_put hbf rfl) rfl) (by first | exact hc0 | exact ⟨(jxu_nk (by decide)).trans hc0.1, fun s h1 h2 => (jxu_nk (by decide)).trans (hc0.2 s h1 h2)⟩) (show 0 ≤ jxw (y2 + 1) from by omega) (show jxw (y2 + 1) ≤ a 79 3 from by omega) (by first | exact ho0 | (rw [show (jxw (y2 + 1)).toNat = y2.toNat + 1 from by omega]; exact ho0))
  have hc56 : ∀ (y2 : Int) (a b : Nat → Nat → Int), (((8 - y2) * 1) + 0).toNat ≤ n → iv a → jfr jW_X2_begin a0 a → 0 ≤ y2 → y2 ≤ 8 → (0 ≤ x1 → x1 ≤ 8 → a 79 3 = x1) → (jbf [80, 81, 82] b0 b) → (b 80 0 = 0 ∧ ∀ s : Nat, 0 < s → s < 256 → b 80 s = IMPO) → 0 ≤ y2 → y2 ≤ a 79 3 → (b 81 0 = SUMN (fun i => 40 * PW i) y2.toNat) → jt (jxX E d 41 56 [some (.inr (.inr (.inl 79))), none, some (.inl y2)] [] (jxSH, a, b)) (jQ_X2_begin x1 a0 b0) := by
    intro y2 a b hm hv hf hi0 hi1 hm hbf hc0 hi5 hi6 ho0
    refine jt_eq (bq_X2_begin_56 E d y2 a b) ?_
    have h1059_ := iv_get hv (k := 79) (j := 3) (l := 0) (u := 8) rfl
    have i793 := iv_get hv (k := 79) (j := 3) (l := 0) (u := 8) rfl
    refine jt_ite (fun c1060_ => ?_) (fun c1060_ => ?_)
    ·
      refine jt_eI (eq_X2_shiftOf E d (jd_le hd rfl) y2 a b) ?_
      exact hc81 y2 a (jxu b 81 0 (jxwl ((b 81 0) + (jxshll 40 (f_X2_shiftOf a b y2))))) (show (((8 - y2) * 1) + 0).toNat ≤ n from by omega) hv hf (show 0 ≤ y2 from by omega) (show y2 ≤ 7 from by omega) (show 1 ≤ a 79 3 from by omega) (by first | assumption | (intro h1 h2; show (if (if 0 < x1 then x1 else 0) > 8 then _ else _) = _; split <;> split <;> omega) | (intro h1 h2; show f_J9_min_7cf53 a0 b0 (f_J9_max_7cf53 a0 b0 x1 0) 8 = x1; rw [f_J9_min_7cf53_eq, f_J9_max_7cf53_eq]; split <;> split <;> omega)) (by first | exact jbf_rf _ _ | exact hbf | exact jbf_put hbf rfl | exact jbf_put (jbf_put hbf rfl) rfl) (by first | exact hc0 | exact ⟨(jxu_nk (by decide)).trans hc0.1, fun s h1 h2 => (jxu_nk (by decide)).trans (hc0.2 s h1 h2)⟩) (show 0 ≤ y2 from by omega) (show y2 < a 79 3 from by omega) (by rw [jxu_at]; have esh : jxshll 40 (f_X2_shiftOf a b y2) = 40 * PW y2.toNat := (by show jxshll 40 (jxw (6 * (jxw (7 - y2)))) = _; have q := shiftPW (x := 40) (i := y2.toNat) (by decide) (by decide) (by omega); rw [show ((y2.toNat : Nat) : Int) = y2 from by omega] at q; exact q); rw [esh, ho0]; show jxwl (SUMN (fun i => 40 * PW i) y2.toNat + 40 * PW y2.toNat) = SUMN (fun i => 40 * PW i) y2.toNat + 40 * PW y2.toNat; have bd := SUMN_bd2 (f := fun i => 40 * PW i) (l := 0) (u := 175921860444160) (n := y2.toNat) (fun k _ => by have q1 := PW_pos k; have q2 := PW_le k; show 0 ≤ 40 * PW k ∧ 40 * PW k ≤ 175921860444160; omega); have q1 := PW_pos y2.toNat; have q2 := PW_le y2.toNat; exact jxwl_id (by omega) (by omega))
    ·
      refine jt_bV (sp_X2_forbidAll E d (jd_le hd rfl) a b hv) (fun a1061_ b1061_ h1061_ => ?_)
      obtain ⟨rfl, hq1061_0, hq1061_1⟩ := h1061_
      exact jt_rV ⟨hv, hf, (fun h1 h2 => ⟨hm h1 h2, fun A p => DPC_0 ((hq1061_1 80 0 rfl).trans hc0.1) ((hq1061_1 81 0 rfl).trans (by rw [ho0]; have e := hm h1 h2; rw [show y2.toNat = x1.toNat from by omega])) (fun s q1 q2 => (hq1061_1 80 s rfl).trans (hc0.2 s q1 (Nat.lt_of_lt_of_le q2 (Nat.pow_le_pow_right (n := 2) (by decide) (show x1.toNat ≤ 8 by omega)))))⟩), hq1061_0, (jbf_tr hbf hq1061_1 rfl)⟩
  exact ⟨hc81, hc56⟩
theorem cp_X2_begin_54 (E : jxE) (d : Nat) (hd : Nat.ble 2 (d + 1) = true) (x1 : Int) (a0 b0 : Nat → Nat → Int) (hv0 : iv a0) : ∀ (a b : Nat → Nat → Int), iv a → jfr jW_X2_begin a0 a → (0 ≤ x1 → x1 ≤ 8 → a 79 3 = x1) → (jbf [80, 81, 82] b0 b) → (b 80 0 = 0 ∧ ∀ s : Nat, 0 < s → s < 256 → b 80 s = IMPO) → (b 81 0 = 0) → jt (jxX E d 41 54 [some (.inr (.inr (.inl 79))), none, none] [] (jxSH, a, b)) (jQ_X2_begin x1 a0 b0) := by
  intro a b hv hf hm hbf hc0 ho0
  refine jt_eq (bq_X2_begin_54 E d a b) ?_
  have h1062_ := iv_get hv (k := 79) (j := 3) (l := 0) (u := 8) rfl
  exact (cp_X2_begin_56 E d hd x1 a0 b0 hv0 _).2 0 a b (Nat.le_refl _) hv hf (show 0 ≤ 0 from by omega) (show 0 ≤ 8 from by omega) (by first | assumption | (intro h1 h2; show (if (if 0 < x1 then x1 else 0) > 8 then _ else _) = _; split <;> split <;> omega) | (intro h1 h2; show f_J9_min_7cf53 a0 b0 (f_J9_max_7cf53 a0 b0 x1 0) 8 = x1; rw [f_J9_min_7cf53_eq, f_J9_max_7cf53_eq]; split <;> split <;> omega)) (by first | exact jbf_rf _ _ | exact hbf | exact jbf_put hbf rfl | exact jbf_put (jbf_put hbf rfl) rfl) (by first | exact hc0 | exact ⟨(jxu_nk (by decide)).trans hc0.1, fun s h1 h2 => (jxu_nk (by decide)).trans (hc0.2 s h1 h2)⟩) (show 0 ≤ 0 from by omega) (show 0 ≤ a 79 3 from by omega) (by first | exact ho0 | (rw [show (jxw (y2 + 1)).toNat = y2.toNat + 1 from by omega]; exact ho0))
theorem cp_X2_begin_16 (E : jxE) (d : Nat) (hd : Nat.ble 2 (d + 1) = true) (x1 : Int) (a0 b0 : Nat → Nat → Int) (hv0 : iv a0) : ∀ n : Nat, (∀ (y2 : Int) (a b : Nat → Nat → Int), (((256 - y2) * 1) + 0).toNat ≤ n → iv a → jfr jW_X2_begin a0 a → 0 ≤ y2 → y2 ≤ 256 → (0 ≤ x1 → x1 ≤ 8 → a 79 3 = x1) → (jbf [80, 81, 82] b0 b) → 0 ≤ y2 → (∀ s : Nat, (s : Int) < y2 → b 80 s = IMPO) → jt (jxX E d 41 16 [some (.inr (.inr (.inl 79))), none, some (.inl y2)] [] (jxSH, a, b)) (jQ_X2_begin x1 a0 b0)) := by
  refine jx_ind fun n ih => ?_
  have ih16 : ∀ (y2 : Int) (a b : Nat → Nat → Int), (((256 - y2) * 1) + 0).toNat < n → iv a → jfr jW_X2_begin a0 a → 0 ≤ y2 → y2 ≤ 256 → (0 ≤ x1 → x1 ≤ 8 → a 79 3 = x1) → (jbf [80, 81, 82] b0 b) → 0 ≤ y2 → (∀ s : Nat, (s : Int) < y2 → b 80 s = IMPO) → jt (jxX E d 41 16 [some (.inr (.inr (.inl 79))), none, some (.inl y2)] [] (jxSH, a, b)) (jQ_X2_begin x1 a0 b0) := fun y2 a b hlt i0 i1 i2 i3 i4 i5 i6 i7 => (ih _ hlt) y2 a b (Nat.le_refl _) i0 i1 i2 i3 i4 i5 i6 i7
  have hc16 : ∀ (y2 : Int) (a b : Nat → Nat → Int), (((256 - y2) * 1) + 0).toNat ≤ n → iv a → jfr jW_X2_begin a0 a → 0 ≤ y2 → y2 ≤ 256 → (0 ≤ x1 → x1 ≤ 8 → a 79 3 = x1) → (jbf [80, 81, 82] b0 b) → 0 ≤ y2 → (∀ s : Nat, (s : Int) < y2 → b 80 s = IMPO) → jt (jxX E d 41 16 [some (.inr (.inr (.inl 79))), none, some (.inl y2)] [] (jxSH, a, b)) (jQ_X2_begin x1 a0 b0) := by
    intro y2 a b hm hv hf hi0 hi1 hm hbf hi4 hz
    refine jt_eq (bq_X2_begin_16 E d y2 a b) ?_
    refine jt_ite (fun c1063_ => ?_) (fun c1063_ => ?_)
    ·
      refine jt_grd (by omega) ?_
      have h1064_ : jxw (y2 + 1) = y2 + 1 := jxw_id (by omega) (by omega)
      exact ih16 (jxw (y2 + 1)) a (jxu b 80 (y2.toNat) 4611686018427387904) (show (((256 - (jxw (y2 + 1))) * 1) + 0).toNat < n from by omega) hv hf (show 0 ≤ jxw (y2 + 1) from by omega) (show jxw (y2 + 1) ≤ 256 from by omega) (by first | assumption | (intro h1 h2; show (if (if 0 < x1 then x1 else 0) > 8 then _ else _) = _; split <;> split <;> omega) | (intro h1 h2; show f_J9_min_7cf53 a0 b0 (f_J9_max_7cf53 a0 b0 x1 0) 8 = x1; rw [f_J9_min_7cf53_eq, f_J9_max_7cf53_eq]; split <;> split <;> omega)) (by first | exact jbf_rf _ _ | exact hbf | exact jbf_put hbf rfl | exact jbf_put (jbf_put hbf rfl) rfl) (show 0 ≤ jxw (y2 + 1) from by omega) (by first | exact (fun i h => absurd h (by omega)) | (intro i h; by_cases e : i = y2.toNat <;> first | (rw [e, jxu_at]; rfl) | (rw [jxu_nj e]; exact hz i (by omega))))
    ·
      exact cp_X2_begin_54 E d hd x1 a0 b0 hv0 a (jxu (jxu b 80 0 0) 81 0 0) hv hf (by first | assumption | (intro h1 h2; show (if (if 0 < x1 then x1 else 0) > 8 then _ else _) = _; split <;> split <;> omega) | (intro h1 h2; show f_J9_min_7cf53 a0 b0 (f_J9_max_7cf53 a0 b0 x1 0) 8 = x1; rw [f_J9_min_7cf53_eq, f_J9_max_7cf53_eq]; split <;> split <;> omega)) (by first | exact jbf_rf _ _ | exact hbf | exact jbf_put hbf rfl | exact jbf_put (jbf_put hbf rfl) rfl) (by refine ⟨by rw [jxu_nk (by decide), jxu_at], fun s h1 h2 => ?_⟩; rw [jxu_nk (by decide), jxu_nj (by omega)]; exact hz s (by omega)) (jxu_at _ _ _ _)
  exact hc16
theorem sp_X2_begin (E : jxE) (d : Nat) (hd : Nat.ble 2 d = true) (x1 : Int) (a0 b0 : Nat → Nat → Int) (hv0 : iv a0) : jt (jxC E d 41 [.inr (.inr (.inl 79)), .inl x1] (jxSH, a0, b0)) (jQ_X2_begin x1 a0 b0) := by
  obtain ⟨d, rfl⟩ := jd_succ hd
  refine jt_eq (bq_X2_begin E d x1 a0 b0) ?_
  refine jt_eI (eq_J9_max_7cf53 E d (jd_le hd rfl) x1 0 a0 b0) ?_
  refine jt_eI (eq_J9_min_7cf53 E d (jd_le hd rfl) (f_J9_max_7cf53 a0 b0 x1 0) 8 a0 b0) ?_
  have h1066_ := f_J9_max_7cf53_eq a0 b0 x1 0
  have h1067_ := f_J9_min_7cf53_eq a0 b0 (f_J9_max_7cf53 a0 b0 x1 0) 8
  have hv1065_ : iv (jxu a0 79 3 (f_J9_min_7cf53 a0 b0 (f_J9_max_7cf53 a0 b0 x1 0) 8)) := iv_put hv0 (l := 0) (u := 8) rfl (by omega) (by omega)
  have hf1068_ : jfr jW_X2_begin a0 (jxu a0 79 3 (f_J9_min_7cf53 a0 b0 (f_J9_max_7cf53 a0 b0 x1 0) 8)) := jfr_put (jfr_rf _ _) rfl
  exact (cp_X2_begin_16 E d hd x1 a0 b0 hv0 _) 0 (jxu a0 79 3 (f_J9_min_7cf53 a0 b0 (f_J9_max_7cf53 a0 b0 x1 0) 8)) b0 (Nat.le_refl _) hv1065_ hf1068_ (show 0 ≤ 0 from by omega) (show 0 ≤ 256 from by omega) (by first | assumption | (intro h1 h2; show (if (if 0 < x1 then x1 else 0) > 8 then _ else _) = _; split <;> split <;> omega) | (intro h1 h2; show f_J9_min_7cf53 a0 b0 (f_J9_max_7cf53 a0 b0 x1 0) 8 = x1; rw [f_J9_min_7cf53_eq, f_J9_max_7cf53_eq]; split <;> split <;> omega)) (by first | exact jbf_rf _ _ | exact hbf | exact jbf_put hbf rfl | exact jbf_put (jbf_put hbf rfl) rfl) (show 0 ≤ 0 from by omega) (by first | exact (fun i h => absurd h (by omega)) | (intro i h; by_cases e : i = y2.toNat <;> first | (rw [e, jxu_at]; rfl) | (rw [jxu_nj e]; exact hz i (by omega))))
abbrev jQ_X2_finish (a0 b0 : Nat → Nat → Int) : List jxV → (Nat → Nat → Int) → (Nat → Nat → Int) → Prop := rV (fun a b => (a0 = a) ∧ (∃ sb : Nat, sb < 2 ^ (a0 79 3).toNat ∧ b = jxu b0 79 4 (b0 81 sb) ∧ ∀ s : Nat, s < 2 ^ (a0 79 3).toNat → (b0 80 sb < b0 80 s ∨ (b0 80 sb = b0 80 s ∧ b0 81 sb ≤ b0 81 s))))
theorem cp_X2_finish_4 (E : jxE) (d : Nat) (hd : Nat.ble 1 (d + 1) = true) (a0 b0 : Nat → Nat → Int) (hv0 : iv a0) : ∀ n : Nat, (∀ (y1 y2 : Int) (b : Nat → Nat → Int), (((256 - y2) * 1) + 0).toNat ≤ n → 0 ≤ y1 → y1 ≤ 255 → 1 ≤ y2 → y2 ≤ 255 → 0 ≤ y1 → 0 ≤ y2 → (y1 < 2 ^ (a0 79 3).toNat) → (y2 < 2 ^ (a0 79 3).toNat) → (b = b0) → (∀ s : Nat, (s : Int) < y2 + 1 → (b0 80 y1.toNat < b0 80 s ∨ (b0 80 y1.toNat = b0 80 s ∧ b0 81 y1.toNat ≤ b0 81 s))) → jt (jxX E d 46 64 [some (.inr (.inr (.inl 79))), some (.inl y1), some (.inl y2)] [] (jxSH, a0, b)) (jQ_X2_finish a0 b0)) ∧ (∀ (y2 : Int) (b : Nat → Nat → Int), (((256 - y2) * 1) + 0).toNat ≤ n → 1 ≤ y2 → y2 ≤ 255 → 0 ≤ y2 → (y2 < 2 ^ (a0 79 3).toNat) → (b = b0) → (∀ s : Nat, (s : Int) < y2 + 1 → (b0 80 y2.toNat < b0 80 s ∨ (b0 80 y2.toNat = b0 80 s ∧ b0 81 y2.toNat ≤ b0 81 s))) → jt (jxX E d 46 62 [some (.inr (.inr (.inl 79))), none, some (.inl y2)] [] (jxSH, a0, b)) (jQ_X2_finish a0 b0)) ∧ (∀ (y1 y2 : Int) (b : Nat → Nat → Int), (((256 - y2) * 1) + 0).toNat ≤ n → 0 ≤ y1 → y1 ≤ 255 → 1 ≤ y2 → y2 ≤ 255 → 0 ≤ y1 → 0 ≤ y2 → (y1 < 2 ^ (a0 79 3).toNat) → (y2 < 2 ^ (a0 79 3).toNat) → (b = b0) → (∀ s : Nat, (s : Int) < y2 → (b0 80 y1.toNat < b0 80 s ∨ (b0 80 y1.toNat = b0 80 s ∧ b0 81 y1.toNat ≤ b0 81 s))) → (b0 80 y1.toNat ≤ b0 80 y2.toNat) → jt (jxX E d 46 30 [some (.inr (.inr (.inl 79))), some (.inl y1), some (.inl y2)] [] (jxSH, a0, b)) (jQ_X2_finish a0 b0)) ∧ (∀ (y1 y2 : Int) (b : Nat → Nat → Int), (((256 - y2) * 1) + 0).toNat ≤ n → 0 ≤ y1 → y1 ≤ 255 → 1 ≤ y2 → y2 ≤ 256 → 0 ≤ y1 → 0 ≤ y2 → (y1 < 2 ^ (a0 79 3).toNat) → (b = b0) → (y2 ≤ 2 ^ (a0 79 3).toNat) → 1 ≤ y2 → (∀ s : Nat, (s : Int) < y2 → (b0 80 y1.toNat < b0 80 s ∨ (b0 80 y1.toNat = b0 80 s ∧ b0 81 y1.toNat ≤ b0 81 s))) → jt (jxX E d 46 4 [some (.inr (.inr (.inl 79))), some (.inl y1), some (.inl y2)] [] (jxSH, a0, b)) (jQ_X2_finish a0 b0)) := by
  refine jx_ind fun n ih => ?_
  have ih64 : ∀ (y1 y2 : Int) (b : Nat → Nat → Int), (((256 - y2) * 1) + 0).toNat < n → 0 ≤ y1 → y1 ≤ 255 → 1 ≤ y2 → y2 ≤ 255 → 0 ≤ y1 → 0 ≤ y2 → (y1 < 2 ^ (a0 79 3).toNat) → (y2 < 2 ^ (a0 79 3).toNat) → (b = b0) → (∀ s : Nat, (s : Int) < y2 + 1 → (b0 80 y1.toNat < b0 80 s ∨ (b0 80 y1.toNat = b0 80 s ∧ b0 81 y1.toNat ≤ b0 81 s))) → jt (jxX E d 46 64 [some (.inr (.inr (.inl 79))), some (.inl y1), some (.inl y2)] [] (jxSH, a0, b)) (jQ_X2_finish a0 b0) := fun y1 y2 b hlt i0 i1 i2 i3 i4 i5 i6 i7 i8 i9 => (ih _ hlt).1 y1 y2 b (Nat.le_refl _) i0 i1 i2 i3 i4 i5 i6 i7 i8 i9
  have ih62 : ∀ (y2 : Int) (b : Nat → Nat → Int), (((256 - y2) * 1) + 0).toNat < n → 1 ≤ y2 → y2 ≤ 255 → 0 ≤ y2 → (y2 < 2 ^ (a0 79 3).toNat) → (b = b0) → (∀ s : Nat, (s : Int) < y2 + 1 → (b0 80 y2.toNat < b0 80 s ∨ (b0 80 y2.toNat = b0 80 s ∧ b0 81 y2.toNat ≤ b0 81 s))) → jt (jxX E d 46 62 [some (.inr (.inr (.inl 79))), none, some (.inl y2)] [] (jxSH, a0, b)) (jQ_X2_finish a0 b0) := fun y2 b hlt i0 i1 i2 i3 i4 i5 => (ih _ hlt).2.1 y2 b (Nat.le_refl _) i0 i1 i2 i3 i4 i5
  have ih30 : ∀ (y1 y2 : Int) (b : Nat → Nat → Int), (((256 - y2) * 1) + 0).toNat < n → 0 ≤ y1 → y1 ≤ 255 → 1 ≤ y2 → y2 ≤ 255 → 0 ≤ y1 → 0 ≤ y2 → (y1 < 2 ^ (a0 79 3).toNat) → (y2 < 2 ^ (a0 79 3).toNat) → (b = b0) → (∀ s : Nat, (s : Int) < y2 → (b0 80 y1.toNat < b0 80 s ∨ (b0 80 y1.toNat = b0 80 s ∧ b0 81 y1.toNat ≤ b0 81 s))) → (b0 80 y1.toNat ≤ b0 80 y2.toNat) → jt (jxX E d 46 30 [some (.inr (.inr (.inl 79))), some (.inl y1), some (.inl y2)] [] (jxSH, a0, b)) (jQ_X2_finish a0 b0) := fun y1 y2 b hlt i0 i1 i2 i3 i4 i5 i6 i7 i8 i9 i10 => (ih _ hlt).2.2.1 y1 y2 b (Nat.le_refl _) i0 i1 i2 i3 i4 i5 i6 i7 i8 i9 i10
  have ih4 : ∀ (y1 y2 : Int) (b : Nat → Nat → Int), (((256 - y2) * 1) + 0).toNat < n → 0 ≤ y1 → y1 ≤ 255 → 1 ≤ y2 → y2 ≤ 256 → 0 ≤ y1 → 0 ≤ y2 → (y1 < 2 ^ (a0 79 3).toNat) → (b = b0) → (y2 ≤ 2 ^ (a0 79 3).toNat) → 1 ≤ y2 → (∀ s : Nat, (s : Int) < y2 → (b0 80 y1.toNat < b0 80 s ∨ (b0 80 y1.toNat = b0 80 s ∧ b0 81 y1.toNat ≤ b0 81 s))) → jt (jxX E d 46 4 [some (.inr (.inr (.inl 79))), some (.inl y1), some (.inl y2)] [] (jxSH, a0, b)) (jQ_X2_finish a0 b0) := fun y1 y2 b hlt i0 i1 i2 i3 i4 i5 i6 i7 i8 i9 i10 => (ih _ hlt).2.2.2 y1 y2 b (Nat.le_refl _) i0 i1 i2 i3 i4 i5 i6 i7 i8 i9 i10
  have hc64 : ∀ (y1 y2 : Int) (b : Nat → Nat → Int), (((256 - y2) * 1) + 0).toNat ≤ n → 0 ≤ y1 → y1 ≤ 255 → 1 ≤ y2 → y2 ≤ 255 → 0 ≤ y1 → 0 ≤ y2 → (y1 < 2 ^ (a0 79 3).toNat) → (y2 < 2 ^ (a0 79 3).toNat) → (b = b0) → (∀ s : Nat, (s : Int) < y2 + 1 → (b0 80 y1.toNat < b0 80 s ∨ (b0 80 y1.toNat = b0 80 s ∧ b0 81 y1.toNat ≤ b0 81 s))) → jt (jxX E d 46 64 [some (.inr (.inr (.inl 79))), some (.inl y1), some (.inl y2)] [] (jxSH, a0, b)) (jQ_X2_finish a0 b0) := by
    intro y1 y2 b hm hi0 hi1 hi2 hi3 hi4 hi5 hm2 hm3 hbb hbest
    refine jt_eq (bq_X2_finish_64 E d y1 y2 a0 b) ?_
    have i793 := iv_get hv0 (k := 79) (j := 3) (l := 0) (u := 8) rfl
    have h1069_ : jxw (y2 + 1) = y2 + 1 := jxw_id (by omega) (by omega)
    exact ih4 y1 (jxw (y2 + 1)) b (show (((256 - (jxw (y2 + 1))) * 1) + 0).toNat < n from by omega) (show 0 ≤ y1 from by omega) (show y1 ≤ 255 from by omega) (show 1 ≤ jxw (y2 + 1) from by omega) (show jxw (y2 + 1) ≤ 256 from by omega) (show 0 ≤ y1 from by omega) (show 0 ≤ jxw (y2 + 1) from by omega) (by first | exact hm2 | (have e := pow79 i793.1 i793.2; omega)) (by first | rfl | assumption) (by first | (have e := pow79 i793.1 i793.2; omega) | omega) (show 1 ≤ jxw (y2 + 1) from by omega) (by first | (intro s h; have e : s = 0 := (by omega); rw [e]; exact Or.inr ⟨rfl, Int.le_refl _⟩) | exact (fun s h => hbest s (by omega)))
  have hc62 : ∀ (y2 : Int) (b : Nat → Nat → Int), (((256 - y2) * 1) + 0).toNat ≤ n → 1 ≤ y2 → y2 ≤ 255 → 0 ≤ y2 → (y2 < 2 ^ (a0 79 3).toNat) → (b = b0) → (∀ s : Nat, (s : Int) < y2 + 1 → (b0 80 y2.toNat < b0 80 s ∨ (b0 80 y2.toNat = b0 80 s ∧ b0 81 y2.toNat ≤ b0 81 s))) → jt (jxX E d 46 62 [some (.inr (.inr (.inl 79))), none, some (.inl y2)] [] (jxSH, a0, b)) (jQ_X2_finish a0 b0) := by
    intro y2 b hm hi0 hi1 hi2 hm3 hbb hbest
    refine jt_eq (bq_X2_finish_62 E d y2 a0 b) ?_
    have i793 := iv_get hv0 (k := 79) (j := 3) (l := 0) (u := 8) rfl
    exact hc64 y2 y2 b (show (((256 - y2) * 1) + 0).toNat ≤ n from by omega) (show 0 ≤ y2 from by omega) (show y2 ≤ 255 from by omega) (show 1 ≤ y2 from by omega) (show y2 ≤ 255 from by omega) (show 0 ≤ y2 from by omega) (show 0 ≤ y2 from by omega) (by first | exact hm2 | (have e := pow79 i793.1 i793.2; omega)) (by first | exact hm3 | (have e := pow79 i793.1 i793.2; omega)) (by first | rfl | assumption) hbest
  have hc30 : ∀ (y1 y2 : Int) (b : Nat → Nat → Int), (((256 - y2) * 1) + 0).toNat ≤ n → 0 ≤ y1 → y1 ≤ 255 → 1 ≤ y2 → y2 ≤ 255 → 0 ≤ y1 → 0 ≤ y2 → (y1 < 2 ^ (a0 79 3).toNat) → (y2 < 2 ^ (a0 79 3).toNat) → (b = b0) → (∀ s : Nat, (s : Int) < y2 → (b0 80 y1.toNat < b0 80 s ∨ (b0 80 y1.toNat = b0 80 s ∧ b0 81 y1.toNat ≤ b0 81 s))) → (b0 80 y1.toNat ≤ b0 80 y2.toNat) → jt (jxX E d 46 30 [some (.inr (.inr (.inl 79))), some (.inl y1), some (.inl y2)] [] (jxSH, a0, b)) (jQ_X2_finish a0 b0) := by
    intro y1 y2 b hm hi0 hi1 hi2 hi3 hi4 hi5 hm2 hm3 hbb hbest hge
    refine jt_eq (bq_X2_finish_30 E d y1 y2 a0 b) ?_
    have i793 := iv_get hv0 (k := 79) (j := 3) (l := 0) (u := 8) rfl
    refine jt_grd (by omega) ?_
    refine jt_grd (by omega) ?_
    have h1070_ := jxlcmp_b (b 80 (y2.toNat)) (b 80 (y1.toNat))
    refine jt_ite (fun c1071_ => ?_) (fun c1071_ => ?_)
    ·
      refine jt_grd (by omega) ?_
      refine jt_grd (by omega) ?_
      have h1072_ := jxlcmp_b (b 81 (y2.toNat)) (b 81 (y1.toNat))
      refine jt_ite (fun c1073_ => ?_) (fun c1073_ => ?_)
      ·
        exact hc62 y2 b (show (((256 - y2) * 1) + 0).toNat ≤ n from by omega) (show 1 ≤ y2 from by omega) (show y2 ≤ 255 from by omega) (show 0 ≤ y2 from by omega) (by first | exact hm3 | (have e := pow79 i793.1 i793.2; omega)) (by first | rfl | assumption) (fun s h => by by_cases e : (s : Int) = y2 <;> first | (have e2 : s = y2.toNat := (by omega); rw [e2]; exact Or.inr ⟨rfl, Int.le_refl _⟩) | (have q := hbest s (by omega); have e1 : b 80 (y2.toNat) = b0 80 (y2.toNat) := (by rw [hbb]); have e2 : b 80 (y1.toNat) = b0 80 (y1.toNat) := (by rw [hbb]); have e3 : b 81 (y2.toNat) = b0 81 (y2.toNat) := (by rw [hbb]); have e4 : b 81 (y1.toNat) = b0 81 (y1.toNat) := (by rw [hbb]); omega))
      ·
        exact hc64 y1 y2 b (show (((256 - y2) * 1) + 0).toNat ≤ n from by omega) (show 0 ≤ y1 from by omega) (show y1 ≤ 255 from by omega) (show 1 ≤ y2 from by omega) (show y2 ≤ 255 from by omega) (show 0 ≤ y1 from by omega) (show 0 ≤ y2 from by omega) (by first | exact hm2 | (have e := pow79 i793.1 i793.2; omega)) (by first | exact hm3 | (have e := pow79 i793.1 i793.2; omega)) (by first | rfl | assumption) (fun s h => by by_cases e : (s : Int) = y2 <;> first | (have e2 : s = y2.toNat := (by omega); rw [e2]; have e1 : b 80 (y2.toNat) = b0 80 (y2.toNat) := (by rw [hbb]); have e4 : b 80 (y1.toNat) = b0 80 (y1.toNat) := (by rw [hbb]); have e3 : b 81 (y2.toNat) = b0 81 (y2.toNat) := (by rw [hbb]); have e5 : b 81 (y1.toNat) = b0 81 (y1.toNat) := (by rw [hbb]); omega) | exact hbest s (by omega))
    ·
      exact hc64 y1 y2 b (show (((256 - y2) * 1) + 0).toNat ≤ n from by omega) (show 0 ≤ y1 from by omega) (show y1 ≤ 255 from by omega) (show 1 ≤ y2 from by omega) (show y2 ≤ 255 from by omega) (show 0 ≤ y1 from by omega) (show 0 ≤ y2 from by omega) (by first | exact hm2 | (have e := pow79 i793.1 i793.2; omega)) (by first | exact hm3 | (have e := pow79 i793.1 i793.2; omega)) (by first | rfl | assumption) (fun s h => by by_cases e : (s : Int) = y2 <;> first | (have e2 : s = y2.toNat := (by omega); rw [e2]; have e1 : b 80 (y2.toNat) = b0 80 (y2.toNat) := (by rw [hbb]); have e4 : b 80 (y1.toNat) = b0 80 (y1.toNat) := (by rw [hbb]); have e3 : b 81 (y2.toNat) = b0 81 (y2.toNat) := (by rw [hbb]); have e5 : b 81 (y1.toNat) = b0 81 (y1.toNat) := (by rw [hbb]); omega) | exact hbest s (by omega))
  have hc4 : ∀ (y1 y2 : Int) (b : Nat → Nat → Int), (((256 - y2) * 1) + 0).toNat ≤ n → 0 ≤ y1 → y1 ≤ 255 → 1 ≤ y2 → y2 ≤ 256 → 0 ≤ y1 → 0 ≤ y2 → (y1 < 2 ^ (a0 79 3).toNat) → (b = b0) → (y2 ≤ 2 ^ (a0 79 3).toNat) → 1 ≤ y2 → (∀ s : Nat, (s : Int) < y2 → (b0 80 y1.toNat < b0 80 s ∨ (b0 80 y1.toNat = b0 80 s ∧ b0 81 y1.toNat ≤ b0 81 s))) → jt (jxX E d 46 4 [some (.inr (.inr (.inl 79))), some (.inl y1), some (.inl y2)] [] (jxSH, a0, b)) (jQ_X2_finish a0 b0) := by
    intro y1 y2 b hm hi0 hi1 hi2 hi3 hi4 hi5 hm2 hbb hm4 hi9 hbest
    refine jt_eq (bq_X2_finish_4 E d y1 y2 a0 b) ?_
    have i793 := iv_get hv0 (k := 79) (j := 3) (l := 0) (u := 8) rfl
    have e79 := pow79 i793.1 i793.2
    have h1074_ := iv_get hv0 (k := 79) (j := 3) (l := 0) (u := 8) rfl
    have h1075_ := jxshl1_b (a0 79 3)
    refine jt_ite (fun c1076_ => ?_) (fun c1076_ => ?_)
    ·
      refine jt_grd (by omega) ?_
      refine jt_grd (by omega) ?_
      have h1077_ := jxlcmp_b (b 80 (y2.toNat)) (b 80 (y1.toNat))
      refine jt_ite (fun c1078_ => ?_) (fun c1078_ => ?_)
      ·
        exact hc62 y2 b (show (((256 - y2) * 1) + 0).toNat ≤ n from by omega) (show 1 ≤ y2 from by omega) (show y2 ≤ 255 from by omega) (show 0 ≤ y2 from by omega) (by first | exact hm3 | (have e := pow79 i793.1 i793.2; omega)) (by first | rfl | assumption) (fun s h => by by_cases e : (s : Int) = y2 <;> first | (have e2 : s = y2.toNat := (by omega); rw [e2]; exact Or.inr ⟨rfl, Int.le_refl _⟩) | (have q := hbest s (by omega); have e1 : b 80 (y2.toNat) = b0 80 (y2.toNat) := (by rw [hbb]); have e2 : b 80 (y1.toNat) = b0 80 (y1.toNat) := (by rw [hbb]); have e3 : b 81 (y2.toNat) = b0 81 (y2.toNat) := (by rw [hbb]); have e4 : b 81 (y1.toNat) = b0 81 (y1.toNat) := (by rw [hbb]); omega))
      ·
        exact hc30 y1 y2 b (show (((256 - y2) * 1) + 0).toNat ≤ n from by omega) (show 0 ≤ y1 from by omega) (show y1 ≤ 255 from by omega) (show 1 ≤ y2 from by omega) (show y2 ≤ 255 from by omega) (show 0 ≤ y1 from by omega) (show 0 ≤ y2 from by omega) (by first | exact hm2 | (have e := pow79 i793.1 i793.2; omega)) (by first | exact hm3 | (have e := pow79 i793.1 i793.2; omega)) (by first | rfl | assumption) hbest (by rw [← hbb]; omega)
    ·
      refine jt_grd (by omega) ?_
      exact jt_rV ⟨rfl, ⟨y1.toNat, by omega, by rw [hbb], fun s h => hbest s (by have e : ((2 ^ (a0 79 3).toNat : Nat) : Int) = 2 ^ (a0 79 3).toNat := (by rw [Int.natCast_pow]; rfl); omega)⟩⟩
  exact ⟨hc64, hc62, hc30, hc4⟩
theorem sp_X2_finish (E : jxE) (d : Nat) (hd : Nat.ble 1 d = true) (a0 b0 : Nat → Nat → Int) (hv0 : iv a0) : jt (jxC E d 46 [.inr (.inr (.inl 79))] (jxSH, a0, b0)) (jQ_X2_finish a0 b0) := by
  obtain ⟨d, rfl⟩ := jd_succ hd
  refine jt_eq (bq_X2_finish E d a0 b0) ?_
  have i793 := iv_get hv0 (k := 79) (j := 3) (l := 0) (u := 8) rfl
  exact (cp_X2_finish_4 E d hd a0 b0 hv0 _).2.2.2 0 1 b0 (Nat.le_refl _) (show 0 ≤ 0 from by omega) (show 0 ≤ 255 from by omega) (show 1 ≤ 1 from by omega) (show 1 ≤ 256 from by omega) (show 0 ≤ 0 from by omega) (show 0 ≤ 1 from by omega) (by first | exact hm2 | (have e := pow79 i793.1 i793.2; omega)) (by first | rfl | assumption) (by first | (have e := pow79 i793.1 i793.2; omega) | omega) (show 1 ≤ 1 from by omega) (by first | (intro s h; have e : s = 0 := (by omega); rw [e]; exact Or.inr ⟨rfl, Int.le_refl _⟩) | exact (fun s h => hbest s (by omega)))
abbrev jQ_X2_tryPair (x1 x2 x3 : Int) (a0 b0 : Nat → Nat → Int) : List jxV → (Nat → Nat → Int) → (Nat → Nat → Int) → Prop := rV (fun a b => (a0 = a) ∧ (TPR b0 b x1 x2 x3))
theorem cp_X2_tryPair_110 (E : jxE) (d : Nat) (hd : Nat.ble 2 (d + 1) = true) (x1 x2 x3 : Int) (a0 b0 : Nat → Nat → Int) (hv0 : iv a0) (hp0 : 0 ≤ x1) (hp1 : x1 ≤ 255) (hp2 : 0 ≤ x2) (hp3 : x2 ≤ 7) : ∀ (b : Nat → Nat → Int), (TPR b0 b x1 x2 x3) → jt (jxX E d 45 110 [none, none, none, none, none, none, none, none, none] [] (jxSH, a0, b)) (jQ_X2_tryPair x1 x2 x3 a0 b0) := by
  intro b htp
  refine jt_eq (bq_X2_tryPair_110 E d a0 b) ?_
  exact jt_rV ⟨rfl, htp⟩
theorem cp_X2_tryPair_94 (E : jxE) (d : Nat) (hd : Nat.ble 2 (d + 1) = true) (x1 x2 x3 : Int) (a0 b0 : Nat → Nat → Int) (hv0 : iv a0) (hp0 : 0 ≤ x1) (hp1 : x1 ≤ 255) (hp2 : 0 ≤ x2) (hp3 : x2 ≤ 7) : ∀ (y1 y5 y7 : Int) (b : Nat → Nat → Int), 0 ≤ y1 → y1 ≤ 255 → (y1 = x1) → (y5 = TPN b0 x1 x2) → (y7 = TPO b0 x1 x2 x3) → (b = b0) → (¬ b0 80 (TPW x1 x2) = IMPO) → ((TPN b0 x1 x2 < b0 80 x1.toNat ∨ (TPN b0 x1 x2 = b0 80 x1.toNat ∧ TPO b0 x1 x2 x3 < b0 81 x1.toNat))) → jt (jxX E d 45 94 [some (.inr (.inr (.inl 79))), some (.inl y1), none, none, none, some (.inr (.inl y5)), none, some (.inr (.inl y7)), none] [] (jxSH, a0, b)) (jQ_X2_tryPair x1 x2 x3 a0 b0) := by
  intro y1 y5 y7 b hi0 hi1 hy1 hy5 hy7 hbb hni hlt
  refine jt_eq (bq_X2_tryPair_94 E d y1 y5 y7 a0 b) ?_
  refine jt_grd (by omega) ?_
  refine jt_grd (by omega) ?_
  exact cp_X2_tryPair_110 E d hd x1 x2 x3 a0 b0 hv0 hp0 hp1 hp2 hp3 (jxu (jxu b 80 (y1.toNat) y5) 81 (y1.toNat) y7) (Or.inr ⟨hni, Or.inl ⟨hlt, by rw [hbb, hy1, hy5, hy7]⟩⟩)
theorem cp_X2_tryPair_70 (E : jxE) (d : Nat) (hd : Nat.ble 2 (d + 1) = true) (x1 x2 x3 : Int) (a0 b0 : Nat → Nat → Int) (hv0 : iv a0) (hp0 : 0 ≤ x1) (hp1 : x1 ≤ 255) (hp2 : 0 ≤ x2) (hp3 : x2 ≤ 7) : ∀ (y1 y5 y7 : Int) (b : Nat → Nat → Int), 0 ≤ y1 → y1 ≤ 255 → (y1 = x1) → (y5 = TPN b0 x1 x2) → (y7 = TPO b0 x1 x2 x3) → (b = b0) → (¬ b0 80 (TPW x1 x2) = IMPO) → (¬ TPN b0 x1 x2 < b0 80 x1.toNat) → jt (jxX E d 45 70 [some (.inr (.inr (.inl 79))), some (.inl y1), none, none, none, some (.inr (.inl y5)), none, some (.inr (.inl y7)), none] [] (jxSH, a0, b)) (jQ_X2_tryPair x1 x2 x3 a0 b0) := by
  intro y1 y5 y7 b hi0 hi1 hy1 hy5 hy7 hbb hni hge
  refine jt_eq (bq_X2_tryPair_70 E d y1 y5 y7 a0 b) ?_
  refine jt_grd (by omega) ?_
  have h1079_ := jxlcmp_b y5 (b 80 (y1.toNat))
  refine jt_ite (fun c1080_ => ?_) (fun c1080_ => ?_)
  ·
    refine jt_grd (by omega) ?_
    have h1081_ := jxlcmp_b y7 (b 81 (y1.toNat))
    refine jt_ite (fun c1082_ => ?_) (fun c1082_ => ?_)
    ·
      exact cp_X2_tryPair_94 E d hd x1 x2 x3 a0 b0 hv0 hp0 hp1 hp2 hp3 y1 y5 y7 b (show 0 ≤ y1 from by omega) (show y1 ≤ 255 from by omega) (by first | rfl | assumption) hy5 (by first | exact hy7 | (rw [hbb, hy4, hy2, hy3]; rfl)) (by first | rfl | assumption) hni (by have e1 : b 80 (y1.toNat) = b0 80 (x1.toNat) := (by rw [hbb, hy1]); have e2 : b 81 (y1.toNat) = b0 81 (x1.toNat) := (by rw [hbb, hy1]); omega)
    ·
      exact cp_X2_tryPair_110 E d hd x1 x2 x3 a0 b0 hv0 hp0 hp1 hp2 hp3 b (Or.inr ⟨hni, Or.inr ⟨by have e1 : b 80 (y1.toNat) = b0 80 (x1.toNat) := (by rw [hbb, hy1]); have e2 : b 81 (y1.toNat) = b0 81 (x1.toNat) := (by rw [hbb, hy1]); omega, hbb⟩⟩)
  ·
    exact cp_X2_tryPair_110 E d hd x1 x2 x3 a0 b0 hv0 hp0 hp1 hp2 hp3 b (Or.inr ⟨hni, Or.inr ⟨by have e1 : b 80 (y1.toNat) = b0 80 (x1.toNat) := (by rw [hbb, hy1]); have e2 : b 81 (y1.toNat) = b0 81 (x1.toNat) := (by rw [hbb, hy1]); omega, hbb⟩⟩)
theorem cp_X2_tryPair_38 (E : jxE) (d : Nat) (hd : Nat.ble 2 (d + 1) = true) (x1 x2 x3 : Int) (a0 b0 : Nat → Nat → Int) (hv0 : iv a0) (hp0 : 0 ≤ x1) (hp1 : x1 ≤ 255) (hp2 : 0 ≤ x2) (hp3 : x2 ≤ 7) : ∀ (y1 y2 y3 y4 y5 : Int) (b : Nat → Nat → Int), 0 ≤ y1 → y1 ≤ 255 → 0 ≤ y2 → y2 ≤ 7 → 0 ≤ y4 → y4 ≤ 255 → (y1 = x1) → (y2 = x2) → (y3 = x3) → (y4 = jxxor x1 (jxshl 1 x2)) → (y5 = TPN b0 x1 x2) → (b = b0) → (¬ b0 80 (TPW x1 x2) = IMPO) → jt (jxX E d 45 38 [some (.inr (.inr (.inl 79))), some (.inl y1), some (.inl y2), some (.inl y3), some (.inl y4), some (.inr (.inl y5)), none, none, none] [] (jxSH, a0, b)) (jQ_X2_tryPair x1 x2 x3 a0 b0) := by
  intro y1 y2 y3 y4 y5 b hi0 hi1 hi2 hi3 hi4 hi5 hy1 hy2 hy3 hy4 hy5 hbb hni
  refine jt_eq (bq_X2_tryPair_38 E d y1 y2 y3 y4 y5 a0 b) ?_
  refine jt_grd (by omega) ?_
  refine jt_eI (eq_X2_shiftOf E d (jd_le hd rfl) y2 a0 b) ?_
  refine jt_grd (by omega) ?_
  have h1083_ := jxlcmp_b y5 (b 80 (y1.toNat))
  refine jt_ite (fun c1084_ => ?_) (fun c1084_ => ?_)
  ·
    have h1085_ := jxw_im (40 - y3)
    have h1086_ := jxw_rg (40 - y3)
    have h1087_ := f_X2_shiftOf_eq a0 b y2
    have h1088_ : jxw (7 - y2) = 7 - y2 := jxw_id (by omega) (by omega)
    have h1089_ : jxw (6 * (jxw (7 - y2))) = 6 * (jxw (7 - y2)) := jxw_id (by omega) (by omega)
    exact cp_X2_tryPair_94 E d hd x1 x2 x3 a0 b0 hv0 hp0 hp1 hp2 hp3 y1 y5 (jxwl ((b 81 (y4.toNat)) - (jxshll (jxw (40 - y3)) (f_X2_shiftOf a0 b y2)))) b (show 0 ≤ y1 from by omega) (show y1 ≤ 255 from by omega) (by first | rfl | assumption) hy5 (by first | exact hy7 | (rw [hbb, hy4, hy2, hy3]; rfl)) (by first | rfl | assumption) hni (by have e1 : b 80 (y1.toNat) = b0 80 (x1.toNat) := (by rw [hbb, hy1]); have e2 : b 81 (y1.toNat) = b0 81 (x1.toNat) := (by rw [hbb, hy1]); omega)
  ·
    have h1090_ := jxw_im (40 - y3)
    have h1091_ := jxw_rg (40 - y3)
    have h1092_ := f_X2_shiftOf_eq a0 b y2
    have h1093_ : jxw (7 - y2) = 7 - y2 := jxw_id (by omega) (by omega)
    have h1094_ : jxw (6 * (jxw (7 - y2))) = 6 * (jxw (7 - y2)) := jxw_id (by omega) (by omega)
    exact cp_X2_tryPair_70 E d hd x1 x2 x3 a0 b0 hv0 hp0 hp1 hp2 hp3 y1 y5 (jxwl ((b 81 (y4.toNat)) - (jxshll (jxw (40 - y3)) (f_X2_shiftOf a0 b y2)))) b (show 0 ≤ y1 from by omega) (show y1 ≤ 255 from by omega) (by first | rfl | assumption) hy5 (by first | exact hy7 | (rw [hbb, hy4, hy2, hy3]; rfl)) (by first | rfl | assumption) hni (by have e1 : b 80 (y1.toNat) = b0 80 (x1.toNat) := (by rw [hbb, hy1]); have e2 : b 81 (y1.toNat) = b0 81 (x1.toNat) := (by rw [hbb, hy1]); omega)
theorem sp_X2_tryPair (E : jxE) (d : Nat) (hd : Nat.ble 2 d = true) (x1 x2 x3 : Int) (a0 b0 : Nat → Nat → Int) (hv0 : iv a0) (hp0 : 0 ≤ x1) (hp1 : x1 ≤ 255) (hp2 : 0 ≤ x2) (hp3 : x2 ≤ 7) : jt (jxC E d 45 [.inr (.inr (.inl 79)), .inl x1, .inl x2, .inl x3] (jxSH, a0, b0)) (jQ_X2_tryPair x1 x2 x3 a0 b0) := by
  obtain ⟨d, rfl⟩ := jd_succ hd
  refine jt_eq (bq_X2_tryPair E d x1 x2 x3 a0 b0) ?_
  have h1095_ := jxshl1_b x2
  have h1096_ := jxxor_b x1 (jxshl 1 x2)
  refine jt_grd (by omega) ?_
  have h1097_ := jxlcmp_b (b0 80 ((jxxor x1 (jxshl 1 x2)).toNat)) 4611686018427387904
  refine jt_ite (fun c1098_ => ?_) (fun c1098_ => ?_)
  ·
    exact jt_rV ⟨rfl, (Or.inl ⟨show b0 80 ((jxxor x1 (jxshl 1 x2)).toNat) = 4611686018427387904 from by omega, rfl⟩)⟩
  ·
    refine jt_grd (by omega) ?_
    refine jt_grd (by omega) ?_
    exact cp_X2_tryPair_38 E d hd x1 x2 x3 a0 b0 hv0 hp0 hp1 hp2 hp3 x1 x2 x3 (jxxor x1 (jxshl 1 x2)) (jxwl ((b0 80 ((jxxor x1 (jxshl 1 x2)).toNat)) + (b0 82 (x2.toNat)))) b0 (show 0 ≤ x1 from by omega) (show x1 ≤ 255 from by omega) (show 0 ≤ x2 from by omega) (show x2 ≤ 7 from by omega) (show 0 ≤ jxxor x1 (jxshl 1 x2) from by omega) (show jxxor x1 (jxshl 1 x2) ≤ 255 from by omega) (by first | rfl | assumption) (by first | rfl | assumption) (by first | rfl | assumption) rfl rfl (by first | rfl | assumption) (show ¬ b0 80 ((jxxor x1 (jxshl 1 x2)).toNat) = 4611686018427387904 from by omega)
