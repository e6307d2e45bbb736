def jWad1 : List (Nat × Nat) := [(59, 9999), (60, 9999)]
def jWad2 : List (Nat × Nat) := [(59, 9999), (60, 9999), (61, 9999), (62, 9999), (63, 9999)]
def jW_X0_add : List (Nat × Nat) := [(58, 8), (59, 9999), (60, 9999), (61, 9999), (62, 9999), (63, 9999), (64, 9999), (65, 9999)]
abbrev jQ_X0_add (x1 x2 x3 x4 x5 : Int) (a0 b0 : Nat → Nat → Int) : List jxV → (Nat → Nat → Int) → (Nat → Nat → Int) → Prop := rI (fun r a b => (iv a) ∧ (jfr jW_X0_add a0 a) ∧ (b0 = b) ∧ (a0 58 8 < 300 → cvC a = vAdd (cvC a0) x1 x2 x3 x4 x5) ∧ (((a0 58 8 < 300 ∧ r = a0 58 8) ∨ (300 ≤ a0 58 8 ∧ r = 0 - 1))) ∧ (300 ≤ a0 58 8 → cvC a = cvC a0))
theorem cp_X0_add_64 (E : jxE) (d : Nat) (hd : Nat.ble 1 (d + 1) = true) (x1 x2 x3 x4 x5 : Int) (a0 b0 : Nat → Nat → Int) (hv0 : iv a0) : ∀ (a : Nat → Nat → Int), iv a → jfr jW_X0_add a0 a → a 58 8 ≤ 299 → (jfr jWad2 a0 a) → (a 59 = rup (a0 59) (a0 58 8).toNat x1 ∧ a 60 = rup (a0 60) (a0 58 8).toNat x2 ∧ a 61 = rup (a0 61) (a0 58 8).toNat x3 ∧ a 62 = rup (a0 62) (a0 58 8).toNat x4 ∧ a 63 = rup (a0 63) (a0 58 8).toNat x5) → a 58 8 = a0 58 8 → a0 58 8 < 300 → jt (jxX E d 5 64 [some (.inr (.inr (.inl 58))), none, none, none, none, none] [] (jxSH, a, b0)) (jQ_X0_add x1 x2 x3 x4 x5 a0 b0) := by
  intro a hv hf hi0 hfa hr1 hi3 hi4
  refine jt_eq (bq_X0_add_64 E d a b0) ?_
  have h1_ := iv_get hv (k := 58) (j := 8) (l := 0) (u := 300) rfl
  have h2_ := iv_get hv0 (k := 58) (j := 8) (l := 0) (u := 300) rfl
  refine jt_grd (by omega) ?_
  refine jt_grd (by omega) ?_
  have hv3_ : iv (jxu a 64 ((a 58 8).toNat) (-1)) := iv_putf hv rfl
  have hv4_ : iv (jxu (jxu a 64 ((a 58 8).toNat) (-1)) 65 ((a 58 8).toNat) (-1)) := iv_putf hv3_ rfl
  have h6_ : jxw ((a 58 8) + 1) = (a 58 8) + 1 := jxw_id (by omega) (by omega)
  have hv5_ : iv (jxu (jxu (jxu a 64 ((a 58 8).toNat) (-1)) 65 ((a 58 8).toNat) (-1)) 58 8 (jxw ((a 58 8) + 1))) := iv_put hv4_ (l := 0) (u := 300) rfl (by omega) (by omega)
  have hf7_ : jfr jW_X0_add a0 (jxu a 64 ((a 58 8).toNat) (-1)) := jfr_put hf rfl
  have hf8_ : jfr jW_X0_add a0 (jxu (jxu a 64 ((a 58 8).toNat) (-1)) 65 ((a 58 8).toNat) (-1)) := jfr_put hf7_ rfl
  have hf9_ : jfr jW_X0_add a0 (jxu (jxu (jxu a 64 ((a 58 8).toNat) (-1)) 65 ((a 58 8).toNat) (-1)) 58 8 (jxw ((a 58 8) + 1))) := jfr_put hf8_ rfl
  exact jt_rI ⟨hv5_, hf9_, rfl, (fun _ => mkCV_eq (show jxw ((a 58 8) + 1) = a0 58 8 + 1 from by omega) (hfa 58 12 rfl) hr1.1 hr1.2.1 hr1.2.2.1 hr1.2.2.2.1 hr1.2.2.2.2 (funext fun j => by show (if j = (a 58 8).toNat then _ else a 64 j) = (if j = (a0 58 8).toNat then _ else a0 64 j); rw [show (a 58 8).toNat = (a0 58 8).toNat from by omega, hfa 64 j rfl]) (funext fun j => by show (if j = (a 58 8).toNat then _ else a 65 j) = (if j = (a0 58 8).toNat then _ else a0 65 j); rw [show (a 58 8).toNat = (a0 58 8).toNat from by omega, hfa 65 j rfl]) (funext fun j => hfa 66 j rfl) (funext fun j => hfa 67 j rfl) (funext fun j => hfa 68 j rfl)), (show ((a0 58 8 < 300 ∧ a 58 8 = a0 58 8) ∨ (300 ≤ a0 58 8 ∧ a 58 8 = 0 - 1)) from by omega), (fun h => absurd h (by omega))⟩
theorem cp_X0_add_32 (E : jxE) (d : Nat) (hd : Nat.ble 1 (d + 1) = true) (x1 x2 x3 x4 x5 : Int) (a0 b0 : Nat → Nat → Int) (hv0 : iv a0) : ∀ (y3 y4 y5 : Int) (a : Nat → Nat → Int), iv a → jfr jW_X0_add a0 a → a 58 8 ≤ 299 → (jfr jWad1 a0 a) → (a 59 = rup (a0 59) (a0 58 8).toNat x1 ∧ a 60 = rup (a0 60) (a0 58 8).toNat x2) → (y3 = x3) → (y4 = x4) → (y5 = x5) → a 58 8 = a0 58 8 → a0 58 8 < 300 → jt (jxX E d 5 32 [some (.inr (.inr (.inl 58))), none, none, some (.inl y3), some (.inl y4), some (.inl y5)] [] (jxSH, a, b0)) (jQ_X0_add x1 x2 x3 x4 x5 a0 b0) := by
  intro y3 y4 y5 a hv hf hi0 hfa hr1 hy3 hy4 hy5 hi6 hi7
  refine jt_eq (bq_X0_add_32 E d y3 y4 y5 a b0) ?_
  have h10_ := iv_get hv (k := 58) (j := 8) (l := 0) (u := 300) rfl
  have h11_ := iv_get hv0 (k := 58) (j := 8) (l := 0) (u := 300) rfl
  refine jt_grd (by omega) ?_
  refine jt_grd (by omega) ?_
  refine jt_grd (by omega) ?_
  have hv12_ : iv (jxu a 61 ((a 58 8).toNat) y3) := iv_putf hv rfl
  have hv13_ : iv (jxu (jxu a 61 ((a 58 8).toNat) y3) 62 ((a 58 8).toNat) y4) := iv_putf hv12_ rfl
  have hv14_ : iv (jxu (jxu (jxu a 61 ((a 58 8).toNat) y3) 62 ((a 58 8).toNat) y4) 63 ((a 58 8).toNat) y5) := iv_putf hv13_ rfl
  have hf15_ : jfr jW_X0_add a0 (jxu a 61 ((a 58 8).toNat) y3) := jfr_put hf rfl
  have hf16_ : jfr jW_X0_add a0 (jxu (jxu a 61 ((a 58 8).toNat) y3) 62 ((a 58 8).toNat) y4) := jfr_put hf15_ rfl
  have hf17_ : jfr jW_X0_add a0 (jxu (jxu (jxu a 61 ((a 58 8).toNat) y3) 62 ((a 58 8).toNat) y4) 63 ((a 58 8).toNat) y5) := jfr_put hf16_ rfl
  have hf18_ : jfr jWad2 a0 (jxu a 61 ((a 58 8).toNat) y3) := jfr_put (jfr_tr (jfr_rf _ _) hfa rfl) rfl
  have hf19_ : jfr jWad2 a0 (jxu (jxu a 61 ((a 58 8).toNat) y3) 62 ((a 58 8).toNat) y4) := jfr_put hf18_ rfl
  have hf20_ : jfr jWad2 a0 (jxu (jxu (jxu a 61 ((a 58 8).toNat) y3) 62 ((a 58 8).toNat) y4) 63 ((a 58 8).toNat) y5) := jfr_put hf19_ rfl
  exact cp_X0_add_64 E d hd x1 x2 x3 x4 x5 a0 b0 hv0 (jxu (jxu (jxu a 61 ((a 58 8).toNat) y3) 62 ((a 58 8).toNat) y4) 63 ((a 58 8).toNat) y5) hv14_ hf17_ (show a 58 8 ≤ 299 from by omega) hf20_ (by subst hy3; subst hy4; subst hy5; exact ⟨hr1.1, hr1.2, (funext fun j => by show (if j = (a 58 8).toNat then _ else a 61 j) = (if j = (a0 58 8).toNat then _ else a0 61 j); rw [show (a 58 8).toNat = (a0 58 8).toNat from by omega, hfa 61 j rfl]), (funext fun j => by show (if j = (a 58 8).toNat then _ else a 62 j) = (if j = (a0 58 8).toNat then _ else a0 62 j); rw [show (a 58 8).toNat = (a0 58 8).toNat from by omega, hfa 62 j rfl]), (funext fun j => by show (if j = (a 58 8).toNat then _ else a 63 j) = (if j = (a0 58 8).toNat then _ else a0 63 j); rw [show (a 58 8).toNat = (a0 58 8).toNat from by omega, hfa 63 j rfl])⟩) (show a 58 8 = a0 58 8 from by omega) (show a0 58 8 < 300 from by omega)
theorem sp_X0_add (E : jxE) (d : Nat) (hd : Nat.ble 1 d = true) (x1 x2 x3 x4 x5 : Int) (a0 b0 : Nat → Nat → Int) (hv0 : iv a0) : jt (jxC E d 5 [.inr (.inr (.inl 58)), .inl x1, .inl x2, .inl x3, .inl x4, .inl x5] (jxSH, a0, b0)) (jQ_X0_add x1 x2 x3 x4 x5 a0 b0) := by
  obtain ⟨d, rfl⟩ := jd_succ hd
  refine jt_eq (bq_X0_add E d x1 x2 x3 x4 x5 a0 b0) ?_
  have h21_ := iv_get hv0 (k := 58) (j := 8) (l := 0) (u := 300) rfl
  refine jt_ite (fun c22_ => ?_) (fun c22_ => ?_)
  ·
    refine jt_grd (by omega) ?_
    refine jt_grd (by omega) ?_
    have hv23_ : iv (jxu a0 59 ((a0 58 8).toNat) x1) := iv_putf hv0 rfl
    have hv24_ : iv (jxu (jxu a0 59 ((a0 58 8).toNat) x1) 60 ((a0 58 8).toNat) x2) := iv_putf hv23_ rfl
    have hf25_ : jfr jW_X0_add a0 (jxu a0 59 ((a0 58 8).toNat) x1) := jfr_put (jfr_rf _ _) rfl
    have hf26_ : jfr jW_X0_add a0 (jxu (jxu a0 59 ((a0 58 8).toNat) x1) 60 ((a0 58 8).toNat) x2) := jfr_put hf25_ rfl
    have hf27_ : jfr jWad1 a0 (jxu a0 59 ((a0 58 8).toNat) x1) := jfr_put (jfr_rf _ _) rfl
    have hf28_ : jfr jWad1 a0 (jxu (jxu a0 59 ((a0 58 8).toNat) x1) 60 ((a0 58 8).toNat) x2) := jfr_put hf27_ rfl
    exact cp_X0_add_32 E d hd x1 x2 x3 x4 x5 a0 b0 hv0 x3 x4 x5 (jxu (jxu a0 59 ((a0 58 8).toNat) x1) 60 ((a0 58 8).toNat) x2) hv24_ hf26_ (show a0 58 8 ≤ 299 from by omega) hf28_ ⟨rfl, rfl⟩ (by first | rfl | assumption) (by first | rfl | assumption) (by first | rfl | assumption) (show a0 58 8 = a0 58 8 from by omega) (show a0 58 8 < 300 from by omega)
  ·
    exact jt_rI ⟨hv0, (jfr_rf _ _), rfl, (fun h => absurd h (by omega)), (show ((a0 58 8 < 300 ∧ (-1) = a0 58 8) ∨ (300 ≤ a0 58 8 ∧ (-1) = 0 - 1)) from by omega), (fun _ => rfl)⟩
def jWam : List (Nat × Nat) := []
def jW_X0_addMeasured : List (Nat × Nat) := [(58, 13), (58, 14), (58, 15)]
abbrev jQ_X0_addMeasured (x1 : Int) (a0 b0 : Nat → Nat → Int) : List jxV → (Nat → Nat → Int) → (Nat → Nat → Int) → Prop := rV (fun a b => (iv a) ∧ (jfr jW_X0_addMeasured a0 a) ∧ (b0 = b) ∧ (a 58 13 = (a0 58 13) + 1) ∧ (a 58 14 = (if a0 58 13 = 0 then x1 else if x1 < a0 58 14 then x1 else a0 58 14)) ∧ (a 58 15 = (if a0 58 15 < x1 then x1 else a0 58 15)))
theorem cp_X0_addMeasured_20 (E : jxE) (d : Nat) (hd : Nat.ble 2 (d + 1) = true) (x1 : Int) (a0 b0 : Nat → Nat → Int) (hv0 : iv a0) (hp0 : a0 58 13 < 10) : ∀ (y1 s1 : Int) (a : Nat → Nat → Int), iv a → jfr jW_X0_addMeasured a0 a → a 58 13 ≤ 9 → (s1 = (if a0 58 13 = 0 then x1 else if x1 < a0 58 14 then x1 else a0 58 14)) → (y1 = x1) → a 58 13 = a0 58 13 → (jfr jWam a0 a) → jt (jxX E d 24 20 [some (.inr (.inr (.inl 58))), some (.inl y1)] [.inl s1, .inr (.inr (.inl 58))] (jxSH, a, b0)) (jQ_X0_addMeasured x1 a0 b0) := by
  intro y1 s1 a hv hf hi0 hs1 hy1 hi3 hfe
  refine jt_eq (bq_X0_addMeasured_20 E d y1 s1 a b0) ?_
  have h29_ := iv_get hv (k := 58) (j := 13) (l := 0) (u := 10) rfl
  have h30_ := iv_get hv0 (k := 58) (j := 13) (l := 0) (u := 10) rfl
  refine jt_eI (eq_J9_max_7cf53 E d (jd_le hd rfl) (a 58 15) y1 (jxu a 58 14 s1) b0) ?_
  have hv31_ : iv (jxu a 58 14 s1) := iv_putf hv rfl
  have hv32_ : iv (jxu (jxu a 58 14 s1) 58 15 (f_J9_max_7cf53 (jxu a 58 14 s1) b0 (a 58 15) y1)) := iv_putf hv31_ rfl
  have h34_ : jxw ((a 58 13) + 1) = (a 58 13) + 1 := jxw_id (by omega) (by omega)
  have hv33_ : iv (jxu (jxu (jxu a 58 14 s1) 58 15 (f_J9_max_7cf53 (jxu a 58 14 s1) b0 (a 58 15) y1)) 58 13 (jxw ((a 58 13) + 1))) := iv_put hv32_ (l := 0) (u := 10) rfl (by omega) (by omega)
  have hf35_ : jfr jW_X0_addMeasured a0 (jxu a 58 14 s1) := jfr_put hf rfl
  have hf36_ : jfr jW_X0_addMeasured a0 (jxu (jxu a 58 14 s1) 58 15 (f_J9_max_7cf53 (jxu a 58 14 s1) b0 (a 58 15) y1)) := jfr_put hf35_ rfl
  have hf37_ : jfr jW_X0_addMeasured a0 (jxu (jxu (jxu a 58 14 s1) 58 15 (f_J9_max_7cf53 (jxu a 58 14 s1) b0 (a 58 15) y1)) 58 13 (jxw ((a 58 13) + 1))) := jfr_put hf36_ rfl
  exact jt_rV ⟨hv33_, hf37_, rfl, (show jxw ((a 58 13) + 1) = (a0 58 13) + 1 from by omega), (by show s1 = _; exact hs1), (by show f_J9_max_7cf53 (jxu a 58 14 s1) b0 (a 58 15) y1 = _; rw [hy1, hfe 58 15 rfl]; rfl)⟩
theorem sp_X0_addMeasured (E : jxE) (d : Nat) (hd : Nat.ble 2 d = true) (x1 : Int) (a0 b0 : Nat → Nat → Int) (hv0 : iv a0) (hp0 : a0 58 13 < 10) : jt (jxC E d 24 [.inr (.inr (.inl 58)), .inl x1] (jxSH, a0, b0)) (jQ_X0_addMeasured x1 a0 b0) := by
  obtain ⟨d, rfl⟩ := jd_succ hd
  refine jt_eq (bq_X0_addMeasured E d x1 a0 b0) ?_
  have h38_ := iv_get hv0 (k := 58) (j := 13) (l := 0) (u := 10) rfl
  refine jt_ite (fun c39_ => ?_) (fun c39_ => ?_)
  ·
    exact cp_X0_addMeasured_20 E d hd x1 a0 b0 hv0 hp0 x1 x1 a0 hv0 (jfr_rf _ _) (show a0 58 13 ≤ 9 from by omega) (by first | (rw [if_pos (by assumption)]) | (rw [if_neg (by assumption)]; rfl)) (by first | rfl | assumption) (show a0 58 13 = a0 58 13 from by omega) (jfr_rf _ _)
  ·
    refine jt_eI (eq_J9_min_7cf53 E d (jd_le hd rfl) (a0 58 14) x1 a0 b0) ?_
    have h40_ := f_J9_min_7cf53_eq a0 b0 (a0 58 14) x1
    exact cp_X0_addMeasured_20 E d hd x1 a0 b0 hv0 hp0 x1 (f_J9_min_7cf53 a0 b0 (a0 58 14) x1) a0 hv0 (jfr_rf _ _) (show a0 58 13 ≤ 9 from by omega) (by first | (rw [if_pos (by assumption)]) | (rw [if_neg (by assumption)]; rfl)) (by first | rfl | assumption) (show a0 58 13 = a0 58 13 from by omega) (jfr_rf _ _)
def jW_X0_measure : List (Nat × Nat) := [(58, 13), (58, 14), (58, 15)]
abbrev jQ_X0_measure (x1 x2 : Int) (a0 b0 : Nat → Nat → Int) : List jxV → (Nat → Nat → Int) → (Nat → Nat → Int) → Prop := rV (fun a b => (iv a) ∧ (jfr jW_X0_measure a0 a) ∧ (b0 = b) ∧ ((a0 58 12 = 0 → ((a 58 13 = 0 ∧ a 58 14 = 0 - 1) ∧ a 58 15 = 0 - 1))) ∧ ((a 58 13, a 58 14, a 58 15) = SPC a0 b0 x1 x2))
theorem cp_X0_measure_22 (E : jxE) (d : Nat) (hd : Nat.ble 3 (d + 1) = true) (x1 x2 : Int) (a0 b0 : Nat → Nat → Int) (hv0 : iv a0) : ∀ n : Nat, (∀ (y1 y2 y3 : Int) (a : Nat → Nat → Int), (((y3 + 1) * 1) + 0).toNat ≤ n → iv a → jfr jW_X0_measure a0 a → 0 ≤ y3 → y3 ≤ 599 → 1 ≤ a0 58 12 → y1 = x1 → y2 = x2 → 0 ≤ a 58 13 → 0 ≤ y3 → y3 < a0 58 12 → y3 ≤ 599 → (SPN (pC a0 b0 x1 x2) (dC a0) 0 y3.toNat (a 58 13, a 58 14, a 58 15) = SPC a0 b0 x1 x2) → jt (jxX E d 23 139 [some (.inr (.inr (.inl 58))), some (.inl y1), some (.inl y2), some (.inl y3), none, none] [] (jxSH, a, b0)) (jQ_X0_measure x1 x2 a0 b0)) ∧ (∀ (y1 y2 y3 y4 : Int) (a : Nat → Nat → Int), (((y3 + 1) * 1) + 0).toNat ≤ n → iv a → jfr jW_X0_measure a0 a → 0 ≤ y3 → y3 ≤ 599 → 0 ≤ y4 → y4 ≤ 299 → a 58 13 ≤ 9 → 1 ≤ a0 58 12 → y1 = x1 → y2 = x2 → 0 ≤ a 58 13 → 0 ≤ y3 → y3 < a0 58 12 → y3 ≤ 599 → (SPN (pC a0 b0 x1 x2) (dC a0) 0 (y3.toNat + 1) (a 58 13, a 58 14, a 58 15) = SPC a0 b0 x1 x2) → (y4 = a0 66 y3.toNat) → a 58 13 < 10 → (pC a0 b0 x1 x2 y3.toNat = 1) → jt (jxX E d 23 121 [some (.inr (.inr (.inl 58))), some (.inl y1), some (.inl y2), some (.inl y3), some (.inl y4), none] [] (jxSH, a, b0)) (jQ_X0_measure x1 x2 a0 b0)) ∧ (∀ (y1 y2 y3 y4 s0 : Int) (a : Nat → Nat → Int), (((y3 + 1) * 1) + 0).toNat ≤ n → iv a → jfr jW_X0_measure a0 a → 0 ≤ y3 → y3 ≤ 599 → 0 ≤ s0 → s0 ≤ 1 → a 58 13 ≤ 9 → 1 ≤ a0 58 12 → y1 = x1 → y2 = x2 → 0 ≤ a 58 13 → 0 ≤ y3 → y3 < a0 58 12 → y3 ≤ 599 → (SPN (pC a0 b0 x1 x2) (dC a0) 0 (y3.toNat + 1) (a 58 13, a 58 14, a 58 15) = SPC a0 b0 x1 x2) → (y4 = a0 66 y3.toNat) → a 58 13 < 10 → (s0 = 0 → ¬ pC a0 b0 x1 x2 y3.toNat = 1) → (s0 = 1 → ¬ f_X0_has a0 b0 y4 = 0 ∧ a0 65 y4.toNat = y3 ∧ ¬ a0 67 y3.toNat = -1) → (s0 = 0 ∨ s0 = 1) → (s0 = 1 → (0 ≤ y4 ∧ y4 ≤ 299)) → jt (jxX E d 23 78 [some (.inr (.inr (.inl 58))), some (.inl y1), some (.inl y2), some (.inl y3), some (.inl y4), none] [.inl s0] (jxSH, a, b0)) (jQ_X0_measure x1 x2 a0 b0)) ∧ (∀ (y1 y2 y3 y4 : Int) (a : Nat → Nat → Int), (((y3 + 1) * 1) + 0).toNat ≤ n → iv a → jfr jW_X0_measure a0 a → 0 ≤ y3 → y3 ≤ 599 → a 58 13 ≤ 9 → 1 ≤ a0 58 12 → y1 = x1 → y2 = x2 → 0 ≤ a 58 13 → 0 ≤ y3 → y3 < a0 58 12 → y3 ≤ 599 → (SPN (pC a0 b0 x1 x2) (dC a0) 0 (y3.toNat + 1) (a 58 13, a 58 14, a 58 15) = SPC a0 b0 x1 x2) → (y4 = a0 66 y3.toNat) → a 58 13 < 10 → (¬ pC a0 b0 x1 x2 y3.toNat = 1) → jt (jxX E d 23 77 [some (.inr (.inr (.inl 58))), some (.inl y1), some (.inl y2), some (.inl y3), some (.inl y4), none] [] (jxSH, a, b0)) (jQ_X0_measure x1 x2 a0 b0)) ∧ (∀ (y1 y2 y3 y4 : Int) (a : Nat → Nat → Int), (((y3 + 1) * 1) + 0).toNat ≤ n → iv a → jfr jW_X0_measure a0 a → 0 ≤ y3 → y3 ≤ 599 → 0 ≤ y4 → y4 ≤ 299 → a 58 13 ≤ 9 → 1 ≤ a0 58 12 → y1 = x1 → y2 = x2 → 0 ≤ a 58 13 → 0 ≤ y3 → y3 < a0 58 12 → y3 ≤ 599 → (SPN (pC a0 b0 x1 x2) (dC a0) 0 (y3.toNat + 1) (a 58 13, a 58 14, a 58 15) = SPC a0 b0 x1 x2) → (y4 = a0 66 y3.toNat) → a 58 13 < 10 → (¬ f_X0_has a0 b0 y4 = 0) → jt (jxX E d 23 52 [some (.inr (.inr (.inl 58))), some (.inl y1), some (.inl y2), some (.inl y3), some (.inl y4), none] [] (jxSH, a, b0)) (jQ_X0_measure x1 x2 a0 b0)) ∧ (∀ (y1 y2 y3 : Int) (a : Nat → Nat → Int), (((y3 + 1) * 1) + 0).toNat ≤ n → iv a → jfr jW_X0_measure a0 a → 0 - 1 ≤ y3 → y3 ≤ 599 → (a0 58 12 = 0 → (((y3 < 0 ∧ a 58 13 = 0) ∧ a 58 14 = 0 - 1) ∧ a 58 15 = 0 - 1)) → y1 = x1 → y2 = x2 → 0 ≤ a 58 13 → 0 - 1 ≤ y3 → y3 < a0 58 12 → (SPN (pC a0 b0 x1 x2) (dC a0) 0 (y3 + 1).toNat (a 58 13, a 58 14, a 58 15) = SPC a0 b0 x1 x2) → jt (jxX E d 23 22 [some (.inr (.inr (.inl 58))), some (.inl y1), some (.inl y2), some (.inl y3), none, none] [] (jxSH, a, b0)) (jQ_X0_measure x1 x2 a0 b0)) := by
  refine jx_ind fun n ih => ?_
  have ih139 : ∀ (y1 y2 y3 : Int) (a : Nat → Nat → Int), (((y3 + 1) * 1) + 0).toNat < n → iv a → jfr jW_X0_measure a0 a → 0 ≤ y3 → y3 ≤ 599 → 1 ≤ a0 58 12 → y1 = x1 → y2 = x2 → 0 ≤ a 58 13 → 0 ≤ y3 → y3 < a0 58 12 → y3 ≤ 599 → (SPN (pC a0 b0 x1 x2) (dC a0) 0 y3.toNat (a 58 13, a 58 14, a 58 15) = SPC a0 b0 x1 x2) → jt (jxX E d 23 139 [some (.inr (.inr (.inl 58))), some (.inl y1), some (.inl y2), some (.inl y3), none, none] [] (jxSH, a, b0)) (jQ_X0_measure x1 x2 a0 b0) := fun y1 y2 y3 a hlt i0 i1 i2 i3 i4 i5 i6 i7 i8 i9 i10 i11 => (ih _ hlt).1 y1 y2 y3 a (Nat.le_refl _) i0 i1 i2 i3 i4 i5 i6 i7 i8 i9 i10 i11
  have ih121 : ∀ (y1 y2 y3 y4 : Int) (a : Nat → Nat → Int), (((y3 + 1) * 1) + 0).toNat < n → iv a → jfr jW_X0_measure a0 a → 0 ≤ y3 → y3 ≤ 599 → 0 ≤ y4 → y4 ≤ 299 → a 58 13 ≤ 9 → 1 ≤ a0 58 12 → y1 = x1 → y2 = x2 → 0 ≤ a 58 13 → 0 ≤ y3 → y3 < a0 58 12 → y3 ≤ 599 → (SPN (pC a0 b0 x1 x2) (dC a0) 0 (y3.toNat + 1) (a 58 13, a 58 14, a 58 15) = SPC a0 b0 x1 x2) → (y4 = a0 66 y3.toNat) → a 58 13 < 10 → (pC a0 b0 x1 x2 y3.toNat = 1) → jt (jxX E d 23 121 [some (.inr (.inr (.inl 58))), some (.inl y1), some (.inl y2), some (.inl y3), some (.inl y4), none] [] (jxSH, a, b0)) (jQ_X0_measure x1 x2 a0 b0) := fun y1 y2 y3 y4 a hlt i0 i1 i2 i3 i4 i5 i6 i7 i8 i9 i10 i11 i12 i13 i14 i15 i16 i17 => (ih _ hlt).2.1 y1 y2 y3 y4 a (Nat.le_refl _) i0 i1 i2 i3 i4 i5 i6 i7 i8 i9 i10 i11 i12 i13 i14 i15 i16 i17
  have ih78 : ∀ (y1 y2 y3 y4 s0 : Int) (a : Nat → Nat → Int), (((y3 + 1) * 1) + 0).toNat < n → iv a → jfr jW_X0_measure a0 a → 0 ≤ y3 → y3 ≤ 599 → 0 ≤ s0 → s0 ≤ 1 → a 58 13 ≤ 9 → 1 ≤ a0 58 12 → y1 = x1 → y2 = x2 → 0 ≤ a 58 13 → 0 ≤ y3 → y3 < a0 58 12 → y3 ≤ 599 → (SPN (pC a0 b0 x1 x2) (dC a0) 0 (y3.toNat + 1) (a 58 13, a 58 14, a 58 15) = SPC a0 b0 x1 x2) → (y4 = a0 66 y3.toNat) → a 58 13 < 10 → (s0 = 0 → ¬ pC a0 b0 x1 x2 y3.toNat = 1) → (s0 = 1 → ¬ f_X0_has a0 b0 y4 = 0 ∧ a0 65 y4.toNat = y3 ∧ ¬ a0 67 y3.toNat = -1) → (s0 = 0 ∨ s0 = 1) → (s0 = 1 → (0 ≤ y4 ∧ y4 ≤ 299)) → jt (jxX E d 23 78 [some (.inr (.inr (.inl 58))), some (.inl y1), some (.inl y2), some (.inl y3), some (.inl y4), none] [.inl s0] (jxSH, a, b0)) (jQ_X0_measure x1 x2 a0 b0) := fun y1 y2 y3 y4 s0 a hlt i0 i1 i2 i3 i4 i5 i6 i7 i8 i9 i10 i11 i12 i13 i14 i15 i16 i17 i18 i19 i20 => (ih _ hlt).2.2.1 y1 y2 y3 y4 s0 a (Nat.le_refl _) i0 i1 i2 i3 i4 i5 i6 i7 i8 i9 i10 i11 i12 i13 i14 i15 i16 i17 i18 i19 i20
  have ih77 : ∀ (y1 y2 y3 y4 : Int) (a : Nat → Nat → Int), (((y3 + 1) * 1) + 0).toNat < n → iv a → jfr jW_X0_measure a0 a → 0 ≤ y3 → y3 ≤ 599 → a 58 13 ≤ 9 → 1 ≤ a0 58 12 → y1 = x1 → y2 = x2 → 0 ≤ a 58 13 → 0 ≤ y3 → y3 < a0 58 12 → y3 ≤ 599 → (SPN (pC a0 b0 x1 x2) (dC a0) 0 (y3.toNat + 1) (a 58 13, a 58 14, a 58 15) = SPC a0 b0 x1 x2) → (y4 = a0 66 y3.toNat) → a 58 13 < 10 → (¬ pC a0 b0 x1 x2 y3.toNat = 1) → jt (jxX E d 23 77 [some (.inr (.inr (.inl 58))), some (.inl y1), some (.inl y2), some (.inl y3), some (.inl y4), none] [] (jxSH, a, b0)) (jQ_X0_measure x1 x2 a0 b0) := fun y1 y2 y3 y4 a hlt i0 i1 i2 i3 i4 i5 i6 i7 i8 i9 i10 i11 i12 i13 i14 i15 => (ih _ hlt).2.2.2.1 y1 y2 y3 y4 a (Nat.le_refl _) i0 i1 i2 i3 i4 i5 i6 i7 i8 i9 i10 i11 i12 i13 i14 i15
  have ih52 : ∀ (y1 y2 y3 y4 : Int) (a : Nat → Nat → Int), (((y3 + 1) * 1) + 0).toNat < n → iv a → jfr jW_X0_measure a0 a → 0 ≤ y3 → y3 ≤ 599 → 0 ≤ y4 → y4 ≤ 299 → a 58 13 ≤ 9 → 1 ≤ a0 58 12 → y1 = x1 → y2 = x2 → 0 ≤ a 58 13 → 0 ≤ y3 → y3 < a0 58 12 → y3 ≤ 599 → (SPN (pC a0 b0 x1 x2) (dC a0) 0 (y3.toNat + 1) (a 58 13, a 58 14, a 58 15) = SPC a0 b0 x1 x2) → (y4 = a0 66 y3.toNat) → a 58 13 < 10 → (¬ f_X0_has a0 b0 y4 = 0) → jt (jxX E d 23 52 [some (.inr (.inr (.inl 58))), some (.inl y1), some (.inl y2), some (.inl y3), some (.inl y4), none] [] (jxSH, a, b0)) (jQ_X0_measure x1 x2 a0 b0) := fun y1 y2 y3 y4 a hlt i0 i1 i2 i3 i4 i5 i6 i7 i8 i9 i10 i11 i12 i13 i14 i15 i16 i17 => (ih _ hlt).2.2.2.2.1 y1 y2 y3 y4 a (Nat.le_refl _) i0 i1 i2 i3 i4 i5 i6 i7 i8 i9 i10 i11 i12 i13 i14 i15 i16 i17
  have ih22 : ∀ (y1 y2 y3 : Int) (a : Nat → Nat → Int), (((y3 + 1) * 1) + 0).toNat < n → iv a → jfr jW_X0_measure a0 a → 0 - 1 ≤ y3 → y3 ≤ 599 → (a0 58 12 = 0 → (((y3 < 0 ∧ a 58 13 = 0) ∧ a 58 14 = 0 - 1) ∧ a 58 15 = 0 - 1)) → y1 = x1 → y2 = x2 → 0 ≤ a 58 13 → 0 - 1 ≤ y3 → y3 < a0 58 12 → (SPN (pC a0 b0 x1 x2) (dC a0) 0 (y3 + 1).toNat (a 58 13, a 58 14, a 58 15) = SPC a0 b0 x1 x2) → jt (jxX E d 23 22 [some (.inr (.inr (.inl 58))), some (.inl y1), some (.inl y2), some (.inl y3), none, none] [] (jxSH, a, b0)) (jQ_X0_measure x1 x2 a0 b0) := fun y1 y2 y3 a hlt i0 i1 i2 i3 i4 i5 i6 i7 i8 i9 i10 => (ih _ hlt).2.2.2.2.2 y1 y2 y3 a (Nat.le_refl _) i0 i1 i2 i3 i4 i5 i6 i7 i8 i9 i10
  have hc139 : ∀ (y1 y2 y3 : Int) (a : Nat → Nat → Int), (((y3 + 1) * 1) + 0).toNat ≤ n → iv a → jfr jW_X0_measure a0 a → 0 ≤ y3 → y3 ≤ 599 → 1 ≤ a0 58 12 → y1 = x1 → y2 = x2 → 0 ≤ a 58 13 → 0 ≤ y3 → y3 < a0 58 12 → y3 ≤ 599 → (SPN (pC a0 b0 x1 x2) (dC a0) 0 y3.toNat (a 58 13, a 58 14, a 58 15) = SPC a0 b0 x1 x2) → jt (jxX E d 23 139 [some (.inr (.inr (.inl 58))), some (.inl y1), some (.inl y2), some (.inl y3), none, none] [] (jxSH, a, b0)) (jQ_X0_measure x1 x2 a0 b0) := by
    intro y1 y2 y3 a hm hv hf hi0 hi1 hi2 hi3 hi4 hi5 hi6 hi7 hi8 hm
    refine jt_eq (bq_X0_measure_139 E d y1 y2 y3 a b0) ?_
    have h41_ := iv_get hv0 (k := 58) (j := 12) (l := 0) (u := 600) rfl
    have h42_ := iv_get hv (k := 58) (j := 13) (l := 0) (u := 10) rfl
    have h43_ : jxw (y3 + (-1)) = y3 + (-1) := jxw_id (by omega) (by omega)
    exact ih22 y1 y2 (jxw (y3 + (-1))) a (show ((((jxw (y3 + (-1))) + 1) * 1) + 0).toNat < n from by omega) hv hf (show 0 - 1 ≤ jxw (y3 + (-1)) from by omega) (show jxw (y3 + (-1)) ≤ 599 from by omega) (show (a0 58 12 = 0 → (((jxw (y3 + (-1)) < 0 ∧ a 58 13 = 0) ∧ a 58 14 = 0 - 1) ∧ a 58 15 = 0 - 1)) from by omega) (show y1 = x1 from by omega) (show y2 = x2 from by omega) (show 0 ≤ a 58 13 from by omega) (show 0 - 1 ≤ jxw (y3 + (-1)) from by omega) (show jxw (y3 + (-1)) < a0 58 12 from by omega) (by rw [show (jxw (y3 + (-1)) + 1).toNat = y3.toNat from by omega]; exact hm)
  have hc121 : ∀ (y1 y2 y3 y4 : Int) (a : Nat → Nat → Int), (((y3 + 1) * 1) + 0).toNat ≤ n → iv a → jfr jW_X0_measure a0 a → 0 ≤ y3 → y3 ≤ 599 → 0 ≤ y4 → y4 ≤ 299 → a 58 13 ≤ 9 → 1 ≤ a0 58 12 → y1 = x1 → y2 = x2 → 0 ≤ a 58 13 → 0 ≤ y3 → y3 < a0 58 12 → y3 ≤ 599 → (SPN (pC a0 b0 x1 x2) (dC a0) 0 (y3.toNat + 1) (a 58 13, a 58 14, a 58 15) = SPC a0 b0 x1 x2) → (y4 = a0 66 y3.toNat) → a 58 13 < 10 → (pC a0 b0 x1 x2 y3.toNat = 1) → jt (jxX E d 23 121 [some (.inr (.inr (.inl 58))), some (.inl y1), some (.inl y2), some (.inl y3), some (.inl y4), none] [] (jxSH, a, b0)) (jQ_X0_measure x1 x2 a0 b0) := by
    intro y1 y2 y3 y4 a hm hv hf hi0 hi1 hi2 hi3 hi4 hi5 hi6 hi7 hi8 hi9 hi10 hi11 hm hy4 hi14 hp
    refine jt_eq (bq_X0_measure_121 E d y1 y2 y3 y4 a b0) ?_
    have h44_ := iv_get hv (k := 58) (j := 13) (l := 0) (u := 10) rfl
    have h45_ := iv_get hv0 (k := 58) (j := 12) (l := 0) (u := 600) rfl
    refine jt_grd (by omega) ?_
    refine jt_grd (by omega) ?_
    refine jt_bV (sp_X0_addMeasured E d (jd_le hd rfl) (jxw ((a 67 (y3.toNat)) - (a 61 (y4.toNat)))) a b0 hv (show a 58 13 < 10 from by omega)) (fun a46_ b46_ h46_ => ?_)
    obtain ⟨hv46_, hf46_, rfl, hq46_0, hq46_1, hq46_2⟩ := h46_
    have h47_ := iv_get hv46_ (k := 58) (j := 13) (l := 0) (u := 10) rfl
    have hf48_ : jfr jW_X0_measure a0 a46_ := jfr_tr hf hf46_ rfl
    exact hc139 y1 y2 y3 a46_ (show (((y3 + 1) * 1) + 0).toNat ≤ n from by omega) hv46_ hf48_ (show 0 ≤ y3 from by omega) (show y3 ≤ 599 from by omega) (show 1 ≤ a0 58 12 from by omega) (show y1 = x1 from by omega) (show y2 = x2 from by omega) (show 0 ≤ a46_ 58 13 from by omega) (show 0 ≤ y3 from by omega) (show y3 < a0 58 12 from by omega) (show y3 ≤ 599 from by omega) (by have q := hm; rw [SPN_yes (by omega) hp] at q; have ed : dC a0 y3.toNat = jxw ((a 67 (y3.toNat)) - (a 61 (y4.toNat))) := (by show jxw (a0 67 y3.toNat - a0 61 (a0 66 y3.toNat).toNat) = _; rw [← hy4, hf 67 _ rfl, hf 61 _ rfl]); rw [show a46_ 58 13 = a 58 13 + 1 from by omega, hq46_1, hq46_2, ← ed]; have eif : (if a 58 13 = 0 then dC a0 y3.toNat else if dC a0 y3.toNat < a 58 14 then dC a0 y3.toNat else a 58 14) = (if a 58 13 = 0 ∧ (0 : Int) = 0 then dC a0 y3.toNat else if dC a0 y3.toNat < a 58 14 then dC a0 y3.toNat else a 58 14) := (by split <;> split <;> first | rfl | omega); rw [eif]; exact q)
  have hc78 : ∀ (y1 y2 y3 y4 s0 : Int) (a : Nat → Nat → Int), (((y3 + 1) * 1) + 0).toNat ≤ n → iv a → jfr jW_X0_measure a0 a → 0 ≤ y3 → y3 ≤ 599 → 0 ≤ s0 → s0 ≤ 1 → a 58 13 ≤ 9 → 1 ≤ a0 58 12 → y1 = x1 → y2 = x2 → 0 ≤ a 58 13 → 0 ≤ y3 → y3 < a0 58 12 → y3 ≤ 599 → (SPN (pC a0 b0 x1 x2) (dC a0) 0 (y3.toNat + 1) (a 58 13, a 58 14, a 58 15) = SPC a0 b0 x1 x2) → (y4 = a0 66 y3.toNat) → a 58 13 < 10 → (s0 = 0 → ¬ pC a0 b0 x1 x2 y3.toNat = 1) → (s0 = 1 → ¬ f_X0_has a0 b0 y4 = 0 ∧ a0 65 y4.toNat = y3 ∧ ¬ a0 67 y3.toNat = -1) → (s0 = 0 ∨ s0 = 1) → (s0 = 1 → (0 ≤ y4 ∧ y4 ≤ 299)) → jt (jxX E d 23 78 [some (.inr (.inr (.inl 58))), some (.inl y1), some (.inl y2), some (.inl y3), some (.inl y4), none] [.inl s0] (jxSH, a, b0)) (jQ_X0_measure x1 x2 a0 b0) := by
    intro y1 y2 y3 y4 s0 a hm hv hf hi0 hi1 hi2 hi3 hi4 hi5 hi6 hi7 hi8 hi9 hi10 hi11 hm hy4 hi14 hnp hyp hi17 hi18
    refine jt_eq (bq_X0_measure_78 E d y1 y2 y3 y4 s0 a b0) ?_
    have h49_ := iv_get hv (k := 58) (j := 13) (l := 0) (u := 10) rfl
    have h50_ := iv_get hv0 (k := 58) (j := 12) (l := 0) (u := 600) rfl
    have hl1 := (show f_X3_landOf a b0 (a 59 (y4.toNat)) = f_X3_landOf a0 b0 (a0 59 (y4.toNat)) from by rw [hf 59 _ rfl]; show (if _ < 0 then _ else (if _ < a 4 6 then (if _ < 40 then a 5 _ else _) else _)) = (if _ < 0 then _ else (if _ < a0 4 6 then (if _ < 40 then a0 5 _ else _) else _)); rw [hf 4 6 rfl, hf 5 _ rfl])
    have hl2 := (show f_X3_landOf a b0 (a 60 (y4.toNat)) = f_X3_landOf a0 b0 (a0 60 (y4.toNat)) from by rw [hf 60 _ rfl]; show (if _ < 0 then _ else (if _ < a 4 6 then (if _ < 40 then a 5 _ else _) else _)) = (if _ < 0 then _ else (if _ < a0 4 6 then (if _ < 40 then a0 5 _ else _) else _)); rw [hf 4 6 rfl, hf 5 _ rfl])
    refine jt_ite (fun c51_ => ?_) (fun c51_ => ?_)
    ·
      exact hc139 y1 y2 y3 a (show (((y3 + 1) * 1) + 0).toNat ≤ n from by omega) hv hf (show 0 ≤ y3 from by omega) (show y3 ≤ 599 from by omega) (show 1 ≤ a0 58 12 from by omega) (show y1 = x1 from by omega) (show y2 = x2 from by omega) (show 0 ≤ a 58 13 from by omega) (show 0 ≤ y3 from by omega) (show y3 < a0 58 12 from by omega) (show y3 ≤ 599 from by omega) (by have q := hm; rw [SPN_no (by omega) (by first | exact hnp (by omega) | exact (fun h => by have q := pC_iff.1 h; rw [← hy4, ← hl1, ← hl2] at q; omega))] at q; exact q)
    ·
      refine jt_grd (by omega) ?_
      refine jt_eI (eq_X3_landOf E d (jd_le hd rfl) (a 59 (y4.toNat)) a b0) ?_
      have h52_ : a 59 (y4.toNat) = a0 59 (y4.toNat) := hf 59 (y4.toNat) rfl
      have h53_ := f_X3_landOf_eq a b0 (a 59 (y4.toNat))
      have h54_ := iv_get hv (k := 4) (j := 6) (l := 0) (u := 40) rfl
      have h55_ : a 4 6 = a0 4 6 := hf 4 6 rfl
      have h56_ := iv_get hv0 (k := 4) (j := 6) (l := 0) (u := 40) rfl
      have h57_ := f_X11_entry_r5_eq a b0 (a 4 6) (a 59 (y4.toNat))
      have h58_ : a 5 ((a 59 (y4.toNat)).toNat) = a0 5 ((a 59 (y4.toNat)).toNat) := hf 5 ((a 59 (y4.toNat)).toNat) rfl
      refine jt_ite (fun c59_ => ?_) (fun c59_ => ?_)
      ·
        refine jt_grd (by omega) ?_
        refine jt_eI (eq_X3_landOf E d (jd_le hd rfl) (a 60 (y4.toNat)) a b0) ?_
        have h60_ : a 60 (y4.toNat) = a0 60 (y4.toNat) := hf 60 (y4.toNat) rfl
        have h61_ := f_X3_landOf_eq a b0 (a 60 (y4.toNat))
        have h62_ := f_X11_entry_r5_eq a b0 (a 4 6) (a 60 (y4.toNat))
        have h63_ : a 5 ((a 60 (y4.toNat)).toNat) = a0 5 ((a 60 (y4.toNat)).toNat) := hf 5 ((a 60 (y4.toNat)).toNat) rfl
        refine jt_ite (fun c64_ => ?_) (fun c64_ => ?_)
        ·
          exact hc121 y1 y2 y3 y4 a (show (((y3 + 1) * 1) + 0).toNat ≤ n from by omega) hv hf (show 0 ≤ y3 from by omega) (show y3 ≤ 599 from by omega) (show 0 ≤ y4 from by omega) (show y4 ≤ 299 from by omega) (show a 58 13 ≤ 9 from by omega) (show 1 ≤ a0 58 12 from by omega) (show y1 = x1 from by omega) (show y2 = x2 from by omega) (show 0 ≤ a 58 13 from by omega) (show 0 ≤ y3 from by omega) (show y3 < a0 58 12 from by omega) (show y3 ≤ 599 from by omega) hm (by first | assumption | exact hf 66 _ rfl) (show a 58 13 < 10 from by omega) (pC_iff.2 (by rw [← hy4]; have q := hyp (by omega); exact ⟨q.1, by rw [q.2.1]; omega, q.2.2, by rw [← hl1]; omega, by rw [← hl2]; omega⟩))
        ·
          exact hc139 y1 y2 y3 a (show (((y3 + 1) * 1) + 0).toNat ≤ n from by omega) hv hf (show 0 ≤ y3 from by omega) (show y3 ≤ 599 from by omega) (show 1 ≤ a0 58 12 from by omega) (show y1 = x1 from by omega) (show y2 = x2 from by omega) (show 0 ≤ a 58 13 from by omega) (show 0 ≤ y3 from by omega) (show y3 < a0 58 12 from by omega) (show y3 ≤ 599 from by omega) (by have q := hm; rw [SPN_no (by omega) (by first | exact hnp (by omega) | exact (fun h => by have q := pC_iff.1 h; rw [← hy4, ← hl1, ← hl2] at q; omega))] at q; exact q)
      ·
        exact hc139 y1 y2 y3 a (show (((y3 + 1) * 1) + 0).toNat ≤ n from by omega) hv hf (show 0 ≤ y3 from by omega) (show y3 ≤ 599 from by omega) (show 1 ≤ a0 58 12 from by omega) (show y1 = x1 from by omega) (show y2 = x2 from by omega) (show 0 ≤ a 58 13 from by omega) (show 0 ≤ y3 from by omega) (show y3 < a0 58 12 from by omega) (show y3 ≤ 599 from by omega) (by have q := hm; rw [SPN_no (by omega) (by first | exact hnp (by omega) | exact (fun h => by have q := pC_iff.1 h; rw [← hy4, ← hl1, ← hl2] at q; omega))] at q; exact q)
  have hc77 : ∀ (y1 y2 y3 y4 : Int) (a : Nat → Nat → Int), (((y3 + 1) * 1) + 0).toNat ≤ n → iv a → jfr jW_X0_measure a0 a → 0 ≤ y3 → y3 ≤ 599 → a 58 13 ≤ 9 → 1 ≤ a0 58 12 → y1 = x1 → y2 = x2 → 0 ≤ a 58 13 → 0 ≤ y3 → y3 < a0 58 12 → y3 ≤ 599 → (SPN (pC a0 b0 x1 x2) (dC a0) 0 (y3.toNat + 1) (a 58 13, a 58 14, a 58 15) = SPC a0 b0 x1 x2) → (y4 = a0 66 y3.toNat) → a 58 13 < 10 → (¬ pC a0 b0 x1 x2 y3.toNat = 1) → jt (jxX E d 23 77 [some (.inr (.inr (.inl 58))), some (.inl y1), some (.inl y2), some (.inl y3), some (.inl y4), none] [] (jxSH, a, b0)) (jQ_X0_measure x1 x2 a0 b0) := by
    intro y1 y2 y3 y4 a hm hv hf hi0 hi1 hi2 hi3 hi4 hi5 hi6 hi7 hi8 hi9 hm hy4 hi12 hnp
    refine jt_eq (bq_X0_measure_77 E d y1 y2 y3 y4 a b0) ?_
    have h65_ := iv_get hv (k := 58) (j := 13) (l := 0) (u := 10) rfl
    have h66_ := iv_get hv0 (k := 58) (j := 12) (l := 0) (u := 600) rfl
    exact hc78 y1 y2 y3 y4 0 a (show (((y3 + 1) * 1) + 0).toNat ≤ n from by omega) hv hf (show 0 ≤ y3 from by omega) (show y3 ≤ 599 from by omega) (show 0 ≤ 0 from by omega) (show 0 ≤ 1 from by omega) (show a 58 13 ≤ 9 from by omega) (show 1 ≤ a0 58 12 from by omega) (show y1 = x1 from by omega) (show y2 = x2 from by omega) (show 0 ≤ a 58 13 from by omega) (show 0 ≤ y3 from by omega) (show y3 < a0 58 12 from by omega) (show y3 ≤ 599 from by omega) hm (by first | assumption | exact hf 66 _ rfl) (show a 58 13 < 10 from by omega) (by first | exact (fun _ => hnp) | exact (fun h => absurd h (by decide))) (by first | exact (fun h => absurd h (by decide)) | exact (fun _ => ⟨hhas, by have e1 := hf 65 (y4.toNat) rfl; omega, by have e2 := hf 67 (y3.toNat) rfl; omega⟩)) (show (0 = 0 ∨ 0 = 1) from by omega) (show (0 = 1 → (0 ≤ y4 ∧ y4 ≤ 299)) from by omega)
  have hc52 : ∀ (y1 y2 y3 y4 : Int) (a : Nat → Nat → Int), (((y3 + 1) * 1) + 0).toNat ≤ n → iv a → jfr jW_X0_measure a0 a → 0 ≤ y3 → y3 ≤ 599 → 0 ≤ y4 → y4 ≤ 299 → a 58 13 ≤ 9 → 1 ≤ a0 58 12 → y1 = x1 → y2 = x2 → 0 ≤ a 58 13 → 0 ≤ y3 → y3 < a0 58 12 → y3 ≤ 599 → (SPN (pC a0 b0 x1 x2) (dC a0) 0 (y3.toNat + 1) (a 58 13, a 58 14, a 58 15) = SPC a0 b0 x1 x2) → (y4 = a0 66 y3.toNat) → a 58 13 < 10 → (¬ f_X0_has a0 b0 y4 = 0) → jt (jxX E d 23 52 [some (.inr (.inr (.inl 58))), some (.inl y1), some (.inl y2), some (.inl y3), some (.inl y4), none] [] (jxSH, a, b0)) (jQ_X0_measure x1 x2 a0 b0) := by
    intro y1 y2 y3 y4 a hm hv hf hi0 hi1 hi2 hi3 hi4 hi5 hi6 hi7 hi8 hi9 hi10 hi11 hm hy4 hi14 hhas
    refine jt_eq (bq_X0_measure_52 E d y1 y2 y3 y4 a b0) ?_
    have h67_ := iv_get hv (k := 58) (j := 13) (l := 0) (u := 10) rfl
    have h68_ := iv_get hv0 (k := 58) (j := 12) (l := 0) (u := 600) rfl
    refine jt_grd (by omega) ?_
    have h69_ : a 65 (y4.toNat) = a0 65 (y4.toNat) := hf 65 (y4.toNat) rfl
    refine jt_ite (fun c70_ => ?_) (fun c70_ => ?_)
    ·
      refine jt_grd (by omega) ?_
      have h71_ : a 67 (y3.toNat) = a0 67 (y3.toNat) := hf 67 (y3.toNat) rfl
      refine jt_ite (fun c72_ => ?_) (fun c72_ => ?_)
      ·
        exact hc77 y1 y2 y3 y4 a (show (((y3 + 1) * 1) + 0).toNat ≤ n from by omega) hv hf (show 0 ≤ y3 from by omega) (show y3 ≤ 599 from by omega) (show a 58 13 ≤ 9 from by omega) (show 1 ≤ a0 58 12 from by omega) (show y1 = x1 from by omega) (show y2 = x2 from by omega) (show 0 ≤ a 58 13 from by omega) (show 0 ≤ y3 from by omega) (show y3 < a0 58 12 from by omega) (show y3 ≤ 599 from by omega) hm (by first | assumption | exact hf 66 _ rfl) (show a 58 13 < 10 from by omega) (fun h => by have q := pC_iff.1 h; rw [← hy4] at q; have q2 := q.2.1; have q3 := q.2.2.1; have e1 := hf 65 (y4.toNat) rfl; have e2 := hf 67 (y3.toNat) rfl; omega)
      ·
        exact hc78 y1 y2 y3 y4 1 a (show (((y3 + 1) * 1) + 0).toNat ≤ n from by omega) hv hf (show 0 ≤ y3 from by omega) (show y3 ≤ 599 from by omega) (show 0 ≤ 1 from by omega) (show 1 ≤ 1 from by omega) (show a 58 13 ≤ 9 from by omega) (show 1 ≤ a0 58 12 from by omega) (show y1 = x1 from by omega) (show y2 = x2 from by omega) (show 0 ≤ a 58 13 from by omega) (show 0 ≤ y3 from by omega) (show y3 < a0 58 12 from by omega) (show y3 ≤ 599 from by omega) hm (by first | assumption | exact hf 66 _ rfl) (show a 58 13 < 10 from by omega) (by first | exact (fun _ => hnp) | exact (fun h => absurd h (by decide))) (by first | exact (fun h => absurd h (by decide)) | exact (fun _ => ⟨hhas, by have e1 := hf 65 (y4.toNat) rfl; omega, by have e2 := hf 67 (y3.toNat) rfl; omega⟩)) (show (1 = 0 ∨ 1 = 1) from by omega) (show (1 = 1 → (0 ≤ y4 ∧ y4 ≤ 299)) from by omega)
    ·
      exact hc77 y1 y2 y3 y4 a (show (((y3 + 1) * 1) + 0).toNat ≤ n from by omega) hv hf (show 0 ≤ y3 from by omega) (show y3 ≤ 599 from by omega) (show a 58 13 ≤ 9 from by omega) (show 1 ≤ a0 58 12 from by omega) (show y1 = x1 from by omega) (show y2 = x2 from by omega) (show 0 ≤ a 58 13 from by omega) (show 0 ≤ y3 from by omega) (show y3 < a0 58 12 from by omega) (show y3 ≤ 599 from by omega) hm (by first | assumption | exact hf 66 _ rfl) (show a 58 13 < 10 from by omega) (fun h => by have q := pC_iff.1 h; rw [← hy4] at q; have q2 := q.2.1; have q3 := q.2.2.1; have e1 := hf 65 (y4.toNat) rfl; have e2 := hf 67 (y3.toNat) rfl; omega)
  have hc22 : ∀ (y1 y2 y3 : Int) (a : Nat → Nat → Int), (((y3 + 1) * 1) + 0).toNat ≤ n → iv a → jfr jW_X0_measure a0 a → 0 - 1 ≤ y3 → y3 ≤ 599 → (a0 58 12 = 0 → (((y3 < 0 ∧ a 58 13 = 0) ∧ a 58 14 = 0 - 1) ∧ a 58 15 = 0 - 1)) → y1 = x1 → y2 = x2 → 0 ≤ a 58 13 → 0 - 1 ≤ y3 → y3 < a0 58 12 → (SPN (pC a0 b0 x1 x2) (dC a0) 0 (y3 + 1).toNat (a 58 13, a 58 14, a 58 15) = SPC a0 b0 x1 x2) → jt (jxX E d 23 22 [some (.inr (.inr (.inl 58))), some (.inl y1), some (.inl y2), some (.inl y3), none, none] [] (jxSH, a, b0)) (jQ_X0_measure x1 x2 a0 b0) := by
    intro y1 y2 y3 a hm hv hf hi0 hi1 hi2 hi3 hi4 hi5 hi6 hi7 hm
    refine jt_eq (bq_X0_measure_22 E d y1 y2 y3 a b0) ?_
    have h73_ := iv_get hv0 (k := 58) (j := 12) (l := 0) (u := 600) rfl
    have h74_ := iv_get hv (k := 58) (j := 13) (l := 0) (u := 10) rfl
    refine jt_ite (fun c75_ => ?_) (fun c75_ => ?_)
    ·
      exact jt_rV ⟨hv, hf, rfl, (show (a0 58 12 = 0 → ((a 58 13 = 0 ∧ a 58 14 = 0 - 1) ∧ a 58 15 = 0 - 1)) from by omega), (by first | (have q := hm; rw [show (y3 + 1).toNat = 0 from by omega] at q; exact q) | (have q := hm; rw [SPN_stop (by omega)] at q; exact q))⟩
    ·
      refine jt_ite (fun c76_ => ?_) (fun c76_ => ?_)
      ·
        refine jt_grd (by omega) ?_
        refine jt_eI (eq_X0_has E d (jd_le hd rfl) (a 66 (y3.toNat)) a b0) ?_
        have h77_ : a 66 (y3.toNat) = a0 66 (y3.toNat) := hf 66 (y3.toNat) rfl
        have h78_ := f_X0_has_eq a b0 (a 66 (y3.toNat))
        have h79_ := iv_get hv (k := 58) (j := 8) (l := 0) (u := 300) rfl
        have h80_ : a 58 8 = a0 58 8 := hf 58 8 rfl
        have h81_ := iv_get hv0 (k := 58) (j := 8) (l := 0) (u := 300) rfl
        refine jt_ite (fun c82_ => ?_) (fun c82_ => ?_)
        ·
          exact hc77 y1 y2 y3 (a 66 (y3.toNat)) a (show (((y3 + 1) * 1) + 0).toNat ≤ n from by omega) hv hf (show 0 ≤ y3 from by omega) (show y3 ≤ 599 from by omega) (show a 58 13 ≤ 9 from by omega) (show 1 ≤ a0 58 12 from by omega) (show y1 = x1 from by omega) (show y2 = x2 from by omega) (show 0 ≤ a 58 13 from by omega) (show 0 ≤ y3 from by omega) (show y3 < a0 58 12 from by omega) (show y3 ≤ 599 from by omega) (by have q := hm; rw [show (y3 + 1).toNat = y3.toNat + 1 from by omega] at q; exact q) (by first | assumption | exact hf 66 _ rfl) (show a 58 13 < 10 from by omega) (fun h => by have q := (pC_iff.1 h).1; apply q; rw [show a0 66 (y3.toNat) = a 66 (y3.toNat) from (hf 66 _ rfl).symm]; rw [← (show f_X0_has a b0 (a 66 (y3.toNat)) = f_X0_has a0 b0 (a 66 (y3.toNat)) from (by show (if _ < 0 then 0 else (if _ < a 58 8 then _ else 0)) = (if _ < 0 then 0 else (if _ < a0 58 8 then _ else 0)); rw [hf 58 8 rfl]))]; assumption)
        ·
          exact hc52 y1 y2 y3 (a 66 (y3.toNat)) a (show (((y3 + 1) * 1) + 0).toNat ≤ n from by omega) hv hf (show 0 ≤ y3 from by omega) (show y3 ≤ 599 from by omega) (show 0 ≤ a 66 (y3.toNat) from by omega) (show a 66 (y3.toNat) ≤ 299 from by omega) (show a 58 13 ≤ 9 from by omega) (show 1 ≤ a0 58 12 from by omega) (show y1 = x1 from by omega) (show y2 = x2 from by omega) (show 0 ≤ a 58 13 from by omega) (show 0 ≤ y3 from by omega) (show y3 < a0 58 12 from by omega) (show y3 ≤ 599 from by omega) (by have q := hm; rw [show (y3 + 1).toNat = y3.toNat + 1 from by omega] at q; exact q) (by first | assumption | exact hf 66 _ rfl) (show a 58 13 < 10 from by omega) (by have e : f_X0_has a b0 (a 66 (y3.toNat)) = f_X0_has a0 b0 (a 66 (y3.toNat)) := (by show (if _ < 0 then 0 else (if _ < a 58 8 then _ else 0)) = (if _ < 0 then 0 else (if _ < a0 58 8 then _ else 0)); rw [hf 58 8 rfl]); rw [← e]; assumption)
      ·
        exact jt_rV ⟨hv, hf, rfl, (show (a0 58 12 = 0 → ((a 58 13 = 0 ∧ a 58 14 = 0 - 1) ∧ a 58 15 = 0 - 1)) from by omega), (by first | (have q := hm; rw [show (y3 + 1).toNat = 0 from by omega] at q; exact q) | (have q := hm; rw [SPN_stop (by omega)] at q; exact q))⟩
  exact ⟨hc139, hc121, hc78, hc77, hc52, hc22⟩
theorem sp_X0_measure (E : jxE) (d : Nat) (hd : Nat.ble 3 d = true) (x1 x2 : Int) (a0 b0 : Nat → Nat → Int) (hv0 : iv a0) : jt (jxC E d 23 [.inr (.inr (.inl 58)), .inl x1, .inl x2] (jxSH, a0, b0)) (jQ_X0_measure x1 x2 a0 b0) := by
  obtain ⟨d, rfl⟩ := jd_succ hd
  refine jt_eq (bq_X0_measure E d x1 x2 a0 b0) ?_
  have hv83_ : iv (jxu a0 58 13 0) := iv_put hv0 (l := 0) (u := 10) rfl (by omega) (by omega)
  have hv84_ : iv (jxu (jxu a0 58 13 0) 58 14 (-1)) := iv_putf hv83_ rfl
  have hv85_ : iv (jxu (jxu (jxu a0 58 13 0) 58 14 (-1)) 58 15 (-1)) := iv_putf hv84_ rfl
  have hf86_ : jfr jW_X0_measure a0 (jxu a0 58 13 0) := jfr_put (jfr_rf _ _) rfl
  have hf87_ : jfr jW_X0_measure a0 (jxu (jxu a0 58 13 0) 58 14 (-1)) := jfr_put hf86_ rfl
  have hf88_ : jfr jW_X0_measure a0 (jxu (jxu (jxu a0 58 13 0) 58 14 (-1)) 58 15 (-1)) := jfr_put hf87_ rfl
  have h89_ := iv_get hv0 (k := 58) (j := 12) (l := 0) (u := 600) rfl
  have h90_ : jxw ((a0 58 12) - 1) = (a0 58 12) - 1 := jxw_id (by omega) (by omega)
  exact (cp_X0_measure_22 E d hd x1 x2 a0 b0 hv0 _).2.2.2.2.2 x1 x2 (jxw ((a0 58 12) - 1)) (jxu (jxu (jxu a0 58 13 0) 58 14 (-1)) 58 15 (-1)) (Nat.le_refl _) hv85_ hf88_ (show 0 - 1 ≤ jxw ((a0 58 12) - 1) from by omega) (show jxw ((a0 58 12) - 1) ≤ 599 from by omega) (show (a0 58 12 = 0 → (((jxw ((a0 58 12) - 1) < 0 ∧ 0 = 0) ∧ (-1) = 0 - 1) ∧ (-1) = 0 - 1)) from by omega) (show x1 = x1 from by omega) (show x2 = x2 from by omega) (show 0 ≤ 0 from by omega) (show 0 - 1 ≤ jxw ((a0 58 12) - 1) from by omega) (show jxw ((a0 58 12) - 1) < a0 58 12 from by omega) (by show SPN _ _ 0 (jxw ((a0 58 12) - 1) + 1).toNat (0, -1, -1) = _; rw [show (jxw ((a0 58 12) - 1) + 1).toNat = (a0 58 12).toNat from by omega]; rfl)
def jW_X0_boundBetween : List (Nat × Nat) := [(58, 13), (58, 14), (58, 15)]
abbrev jQ_X0_boundBetween (x1 x2 x3 : Int) (a0 b0 : Nat → Nat → Int) : List jxV → (Nat → Nat → Int) → (Nat → Nat → Int) → Prop := rI (fun r a b => (iv a) ∧ (jfr jW_X0_boundBetween a0 a) ∧ (b0 = b) ∧ (r = BNC a0 b0 x1 x2 x3))
theorem sp_X0_boundBetween (E : jxE) (d : Nat) (hd : Nat.ble 4 d = true) (x1 x2 x3 : Int) (a0 b0 : Nat → Nat → Int) (hv0 : iv a0) : jt (jxC E d 22 [.inr (.inr (.inl 58)), .inl x1, .inl x2, .inl x3] (jxSH, a0, b0)) (jQ_X0_boundBetween x1 x2 x3 a0 b0) := by
  obtain ⟨d, rfl⟩ := jd_succ hd
  refine jt_eq (bq_X0_boundBetween E d x1 x2 x3 a0 b0) ?_
  refine jt_bV (sp_X0_measure E d (jd_le hd rfl) x1 x2 a0 b0 hv0) (fun a91_ b91_ h91_ => ?_)
  obtain ⟨hv91_, hf91_, rfl, hq91_0, hq91_1⟩ := h91_
  have h92_ := iv_get hv0 (k := 58) (j := 12) (l := 0) (u := 600) rfl
  have h93_ := iv_get hv91_ (k := 58) (j := 13) (l := 0) (u := 10) rfl
  refine jt_ite (fun c94_ => ?_) (fun c94_ => ?_)
  ·
    have hf95_ : jfr jW_X0_boundBetween a0 a91_ := jfr_tr (jfr_rf _ _) hf91_ rfl
    exact jt_rI ⟨hv91_, hf95_, rfl, (by unfold BNC; rw [← hq91_1]; first | (rw [if_pos (by assumption)]) | (rw [if_neg (by assumption)]; rfl))⟩
  ·
    refine jt_eI (eq_J9_min_7cf53 E d (jd_le hd rfl) x3 (jxw ((jxw (2 * (a91_ 58 15))) + 7)) a91_ b0) ?_
    have hf96_ : jfr jW_X0_boundBetween a0 a91_ := jfr_tr (jfr_rf _ _) hf91_ rfl
    have h97_ := jxw_im (2 * (a91_ 58 15))
    have h98_ := jxw_rg (2 * (a91_ 58 15))
    have h99_ := jxw_im ((jxw (2 * (a91_ 58 15))) + 7)
    have h100_ := jxw_rg ((jxw (2 * (a91_ 58 15))) + 7)
    have h101_ := f_J9_min_7cf53_eq a91_ b0 x3 (jxw ((jxw (2 * (a91_ 58 15))) + 7))
    exact jt_rI ⟨hv91_, hf96_, rfl, (by unfold BNC; rw [← hq91_1]; first | (rw [if_pos (by assumption)]) | (rw [if_neg (by assumption)]; rfl))⟩
def jW_X0_cancel : List (Nat × Nat) := [(64, 9999)]
abbrev jQ_X0_cancel (x1 x2 : Int) (a0 b0 : Nat → Nat → Int) : List jxV → (Nat → Nat → Int) → (Nat → Nat → Int) → Prop := rV (fun a b => (iv a) ∧ (jfr jW_X0_cancel a0 a) ∧ (b0 = b) ∧ (0 ≤ x1 → x1 < a0 58 8 → x1 < 300 → cvC a = vOff (cvC a0) x1 x2))
theorem sp_X0_cancel (E : jxE) (d : Nat) (hd : Nat.ble 2 d = true) (x1 x2 : Int) (a0 b0 : Nat → Nat → Int) (hv0 : iv a0) : jt (jxC E d 13 [.inr (.inr (.inl 58)), .inl x1, .inl x2] (jxSH, a0, b0)) (jQ_X0_cancel x1 x2 a0 b0) := by
  obtain ⟨d, rfl⟩ := jd_succ hd
  refine jt_eq (bq_X0_cancel E d x1 x2 a0 b0) ?_
  refine jt_eI (eq_X0_has E d (jd_le hd rfl) x1 a0 b0) ?_
  have h102_ := f_X0_has_eq a0 b0 x1
  have h103_ := iv_get hv0 (k := 58) (j := 8) (l := 0) (u := 300) rfl
  refine jt_ite (fun c104_ => ?_) (fun c104_ => ?_)
  ·
    exact jt_rV ⟨hv0, (jfr_rf _ _), rfl, (fun h1 h2 h3 => by omega)⟩
  ·
    refine jt_grd (by omega) ?_
    have hv105_ : iv (jxu a0 64 (x1.toNat) x2) := iv_putf hv0 rfl
    have hf106_ : jfr jW_X0_cancel a0 (jxu a0 64 (x1.toNat) x2) := jfr_put (jfr_rf _ _) rfl
    exact jt_rV ⟨hv105_, hf106_, rfl, (fun _ _ _ => mkCV_eq rfl rfl rfl rfl rfl rfl rfl (jxu_rup _ _ _ _) rfl rfl rfl rfl)⟩
abbrev jQ_X0_landsArrivedTo (x1 x2 : Int) (a0 b0 : Nat → Nat → Int) : List jxV → (Nat → Nat → Int) → (Nat → Nat → Int) → Prop := rI (fun r a b => (a0 = a) ∧ (b0 = b) ∧ (r = ALC a0 b0 x1 x2 (a0 58 8).toNat))
theorem cp_X0_landsArrivedTo_5 (E : jxE) (d : Nat) (hd : Nat.ble 4 (d + 1) = true) (x1 x2 : Int) (a0 b0 : Nat → Nat → Int) (hv0 : iv a0) : ∀ n : Nat, (∀ (y1 y2 y3 y4 : Int), (((300 - y4) * 1) + 0).toNat ≤ n → 0 ≤ y4 → y4 ≤ 299 → y1 = x1 → y2 = x2 → 0 ≤ y4 → y4 < a0 58 8 → (y3 = ALC a0 b0 x1 x2 (y4.toNat + 1)) → jt (jxX E d 21 65 [some (.inr (.inr (.inl 58))), some (.inl y1), some (.inl y2), some (.inl y3), some (.inl y4), none] [] (jxSH, a0, b0)) (jQ_X0_landsArrivedTo x1 x2 a0 b0)) ∧ (∀ (y1 y2 y3 y4 : Int), (((300 - y4) * 1) + 0).toNat ≤ n → 0 ≤ y4 → y4 ≤ 299 → y1 = x1 → y2 = x2 → 0 ≤ y4 → y4 < a0 58 8 → (y3 = ALC a0 b0 x1 x2 y4.toNat) → (a0 60 y4.toNat = x1) → (f_X0_stateNow a0 b0 y4 x2 = 1 ∨ f_X0_stateNow a0 b0 y4 x2 = 3) → jt (jxX E d 21 46 [some (.inr (.inr (.inl 58))), some (.inl y1), some (.inl y2), some (.inl y3), some (.inl y4), none] [] (jxSH, a0, b0)) (jQ_X0_landsArrivedTo x1 x2 a0 b0)) ∧ (∀ (y1 y2 y3 y4 y5 : Int), (((300 - y4) * 1) + 0).toNat ≤ n → 0 ≤ y4 → y4 ≤ 299 → y1 = x1 → y2 = x2 → 0 ≤ y4 → y4 < a0 58 8 → (y3 = ALC a0 b0 x1 x2 y4.toNat) → (a0 60 y4.toNat = x1) → (y5 = f_X0_stateNow a0 b0 y4 x2) → jt (jxX E d 21 34 [some (.inr (.inr (.inl 58))), some (.inl y1), some (.inl y2), some (.inl y3), some (.inl y4), some (.inl y5)] [] (jxSH, a0, b0)) (jQ_X0_landsArrivedTo x1 x2 a0 b0)) ∧ (∀ (y1 y2 y3 y4 : Int), (((300 - y4) * 1) + 0).toNat ≤ n → 0 ≤ y4 → y4 ≤ 300 → y1 = x1 → y2 = x2 → 0 ≤ y4 → y4 ≤ a0 58 8 → (y3 = ALC a0 b0 x1 x2 y4.toNat) → jt (jxX E d 21 5 [some (.inr (.inr (.inl 58))), some (.inl y1), some (.inl y2), some (.inl y3), some (.inl y4), none] [] (jxSH, a0, b0)) (jQ_X0_landsArrivedTo x1 x2 a0 b0)) := by
  refine jx_ind fun n ih => ?_
  have ih65 : ∀ (y1 y2 y3 y4 : Int), (((300 - y4) * 1) + 0).toNat < n → 0 ≤ y4 → y4 ≤ 299 → y1 = x1 → y2 = x2 → 0 ≤ y4 → y4 < a0 58 8 → (y3 = ALC a0 b0 x1 x2 (y4.toNat + 1)) → jt (jxX E d 21 65 [some (.inr (.inr (.inl 58))), some (.inl y1), some (.inl y2), some (.inl y3), some (.inl y4), none] [] (jxSH, a0, b0)) (jQ_X0_landsArrivedTo x1 x2 a0 b0) := fun y1 y2 y3 y4 hlt i0 i1 i2 i3 i4 i5 i6 => (ih _ hlt).1 y1 y2 y3 y4 (Nat.le_refl _) i0 i1 i2 i3 i4 i5 i6
  have ih46 : ∀ (y1 y2 y3 y4 : Int), (((300 - y4) * 1) + 0).toNat < n → 0 ≤ y4 → y4 ≤ 299 → y1 = x1 → y2 = x2 → 0 ≤ y4 → y4 < a0 58 8 → (y3 = ALC a0 b0 x1 x2 y4.toNat) → (a0 60 y4.toNat = x1) → (f_X0_stateNow a0 b0 y4 x2 = 1 ∨ f_X0_stateNow a0 b0 y4 x2 = 3) → jt (jxX E d 21 46 [some (.inr (.inr (.inl 58))), some (.inl y1), some (.inl y2), some (.inl y3), some (.inl y4), none] [] (jxSH, a0, b0)) (jQ_X0_landsArrivedTo x1 x2 a0 b0) := fun y1 y2 y3 y4 hlt i0 i1 i2 i3 i4 i5 i6 i7 i8 => (ih _ hlt).2.1 y1 y2 y3 y4 (Nat.le_refl _) i0 i1 i2 i3 i4 i5 i6 i7 i8
  have ih34 : ∀ (y1 y2 y3 y4 y5 : Int), (((300 - y4) * 1) + 0).toNat < n → 0 ≤ y4 → y4 ≤ 299 → y1 = x1 → y2 = x2 → 0 ≤ y4 → y4 < a0 58 8 → (y3 = ALC a0 b0 x1 x2 y4.toNat) → (a0 60 y4.toNat = x1) → (y5 = f_X0_stateNow a0 b0 y4 x2) → jt (jxX E d 21 34 [some (.inr (.inr (.inl 58))), some (.inl y1), some (.inl y2), some (.inl y3), some (.inl y4), some (.inl y5)] [] (jxSH, a0, b0)) (jQ_X0_landsArrivedTo x1 x2 a0 b0) := fun y1 y2 y3 y4 y5 hlt i0 i1 i2 i3 i4 i5 i6 i7 i8 => (ih _ hlt).2.2.1 y1 y2 y3 y4 y5 (Nat.le_refl _) i0 i1 i2 i3 i4 i5 i6 i7 i8
  have ih5 : ∀ (y1 y2 y3 y4 : Int), (((300 - y4) * 1) + 0).toNat < n → 0 ≤ y4 → y4 ≤ 300 → y1 = x1 → y2 = x2 → 0 ≤ y4 → y4 ≤ a0 58 8 → (y3 = ALC a0 b0 x1 x2 y4.toNat) → jt (jxX E d 21 5 [some (.inr (.inr (.inl 58))), some (.inl y1), some (.inl y2), some (.inl y3), some (.inl y4), none] [] (jxSH, a0, b0)) (jQ_X0_landsArrivedTo x1 x2 a0 b0) := fun y1 y2 y3 y4 hlt i0 i1 i2 i3 i4 i5 i6 => (ih _ hlt).2.2.2 y1 y2 y3 y4 (Nat.le_refl _) i0 i1 i2 i3 i4 i5 i6
  have hc65 : ∀ (y1 y2 y3 y4 : Int), (((300 - y4) * 1) + 0).toNat ≤ n → 0 ≤ y4 → y4 ≤ 299 → y1 = x1 → y2 = x2 → 0 ≤ y4 → y4 < a0 58 8 → (y3 = ALC a0 b0 x1 x2 (y4.toNat + 1)) → jt (jxX E d 21 65 [some (.inr (.inr (.inl 58))), some (.inl y1), some (.inl y2), some (.inl y3), some (.inl y4), none] [] (jxSH, a0, b0)) (jQ_X0_landsArrivedTo x1 x2 a0 b0) := by
    intro y1 y2 y3 y4 hm hi0 hi1 hi2 hi3 hi4 hi5 hr
    refine jt_eq (bq_X0_landsArrivedTo_65 E d y1 y2 y3 y4 a0 b0) ?_
    have h107_ := iv_get hv0 (k := 58) (j := 8) (l := 0) (u := 300) rfl
    have h108_ : jxw (y4 + 1) = y4 + 1 := jxw_id (by omega) (by omega)
    exact ih5 y1 y2 y3 (jxw (y4 + 1)) (show (((300 - (jxw (y4 + 1))) * 1) + 0).toNat < n from by omega) (show 0 ≤ jxw (y4 + 1) from by omega) (show jxw (y4 + 1) ≤ 300 from by omega) (show y1 = x1 from by omega) (show y2 = x2 from by omega) (show 0 ≤ jxw (y4 + 1) from by omega) (show jxw (y4 + 1) ≤ a0 58 8 from by omega) (by first | rfl | (rw [show (jxw (y4 + 1)).toNat = y4.toNat + 1 from by omega]; exact hr))
  have hc46 : ∀ (y1 y2 y3 y4 : Int), (((300 - y4) * 1) + 0).toNat ≤ n → 0 ≤ y4 → y4 ≤ 299 → y1 = x1 → y2 = x2 → 0 ≤ y4 → y4 < a0 58 8 → (y3 = ALC a0 b0 x1 x2 y4.toNat) → (a0 60 y4.toNat = x1) → (f_X0_stateNow a0 b0 y4 x2 = 1 ∨ f_X0_stateNow a0 b0 y4 x2 = 3) → jt (jxX E d 21 46 [some (.inr (.inr (.inl 58))), some (.inl y1), some (.inl y2), some (.inl y3), some (.inl y4), none] [] (jxSH, a0, b0)) (jQ_X0_landsArrivedTo x1 x2 a0 b0) := by
    intro y1 y2 y3 y4 hm hi0 hi1 hi2 hi3 hi4 hi5 hr h60 hs
    refine jt_eq (bq_X0_landsArrivedTo_46 E d y1 y2 y3 y4 a0 b0) ?_
    have h109_ := iv_get hv0 (k := 58) (j := 8) (l := 0) (u := 300) rfl
    have hst : ALC a0 b0 x1 x2 (y4.toNat + 1) = if a0 60 y4.toNat = x1 ∧ (f_X0_stateNow a0 b0 ((y4.toNat : Nat) : Int) x2 = 1 ∨ f_X0_stateNow a0 b0 ((y4.toNat : Nat) : Int) x2 = 3) then jxor (ALC a0 b0 x1 x2 y4.toNat) (jxshl 1 (f_X3_landOf a0 b0 (a0 59 y4.toNat))) else ALC a0 b0 x1 x2 y4.toNat := rfl
    rw [show ((y4.toNat : Nat) : Int) = y4 from by omega] at hst
    refine jt_grd (by omega) ?_
    refine jt_eI (eq_X3_landOf E d (jd_le hd rfl) (a0 59 (y4.toNat)) a0 b0) ?_
    have h110_ := f_X3_landOf_eq a0 b0 (a0 59 (y4.toNat))
    have h111_ := iv_get hv0 (k := 4) (j := 6) (l := 0) (u := 40) rfl
    have h112_ := f_X11_entry_r5_eq a0 b0 (a0 4 6) (a0 59 (y4.toNat))
    have h113_ := jxshl1_b (f_X3_landOf a0 b0 (a0 59 (y4.toNat)))
    have h114_ := jxor_b y3 (jxshl 1 (f_X3_landOf a0 b0 (a0 59 (y4.toNat))))
    exact hc65 y1 y2 (jxor y3 (jxshl 1 (f_X3_landOf a0 b0 (a0 59 (y4.toNat))))) y4 (show (((300 - y4) * 1) + 0).toNat ≤ n from by omega) (show 0 ≤ y4 from by omega) (show y4 ≤ 299 from by omega) (show y1 = x1 from by omega) (show y2 = x2 from by omega) (show 0 ≤ y4 from by omega) (show y4 < a0 58 8 from by omega) (by rw [hst, if_pos ⟨h60, hs⟩, ← hr])
  have hc34 : ∀ (y1 y2 y3 y4 y5 : Int), (((300 - y4) * 1) + 0).toNat ≤ n → 0 ≤ y4 → y4 ≤ 299 → y1 = x1 → y2 = x2 → 0 ≤ y4 → y4 < a0 58 8 → (y3 = ALC a0 b0 x1 x2 y4.toNat) → (a0 60 y4.toNat = x1) → (y5 = f_X0_stateNow a0 b0 y4 x2) → jt (jxX E d 21 34 [some (.inr (.inr (.inl 58))), some (.inl y1), some (.inl y2), some (.inl y3), some (.inl y4), some (.inl y5)] [] (jxSH, a0, b0)) (jQ_X0_landsArrivedTo x1 x2 a0 b0) := by
    intro y1 y2 y3 y4 y5 hm hi0 hi1 hi2 hi3 hi4 hi5 hr h60 hy5
    refine jt_eq (bq_X0_landsArrivedTo_34 E d y1 y2 y3 y4 y5 a0 b0) ?_
    have h115_ := iv_get hv0 (k := 58) (j := 8) (l := 0) (u := 300) rfl
    have hst : ALC a0 b0 x1 x2 (y4.toNat + 1) = if a0 60 y4.toNat = x1 ∧ (f_X0_stateNow a0 b0 ((y4.toNat : Nat) : Int) x2 = 1 ∨ f_X0_stateNow a0 b0 ((y4.toNat : Nat) : Int) x2 = 3) then jxor (ALC a0 b0 x1 x2 y4.toNat) (jxshl 1 (f_X3_landOf a0 b0 (a0 59 y4.toNat))) else ALC a0 b0 x1 x2 y4.toNat := rfl
    rw [show ((y4.toNat : Nat) : Int) = y4 from by omega] at hst
    refine jt_ite (fun c116_ => ?_) (fun c116_ => ?_)
    ·
      exact hc46 y1 y2 y3 y4 (show (((300 - y4) * 1) + 0).toNat ≤ n from by omega) (show 0 ≤ y4 from by omega) (show y4 ≤ 299 from by omega) (show y1 = x1 from by omega) (show y2 = x2 from by omega) (show 0 ≤ y4 from by omega) (show y4 < a0 58 8 from by omega) hr (by first | assumption | omega) (by rw [← hy5]; omega)
    ·
      refine jt_ite (fun c117_ => ?_) (fun c117_ => ?_)
      ·
        exact hc46 y1 y2 y3 y4 (show (((300 - y4) * 1) + 0).toNat ≤ n from by omega) (show 0 ≤ y4 from by omega) (show y4 ≤ 299 from by omega) (show y1 = x1 from by omega) (show y2 = x2 from by omega) (show 0 ≤ y4 from by omega) (show y4 < a0 58 8 from by omega) hr (by first | assumption | omega) (by rw [← hy5]; omega)
      ·
        exact hc65 y1 y2 y3 y4 (show (((300 - y4) * 1) + 0).toNat ≤ n from by omega) (show 0 ≤ y4 from by omega) (show y4 ≤ 299 from by omega) (show y1 = x1 from by omega) (show y2 = x2 from by omega) (show 0 ≤ y4 from by omega) (show y4 < a0 58 8 from by omega) (by rw [hst, if_neg (fun q => by rw [← hy5] at q; omega)]; exact hr)
  have hc5 : ∀ (y1 y2 y3 y4 : Int), (((300 - y4) * 1) + 0).toNat ≤ n → 0 ≤ y4 → y4 ≤ 300 → y1 = x1 → y2 = x2 → 0 ≤ y4 → y4 ≤ a0 58 8 → (y3 = ALC a0 b0 x1 x2 y4.toNat) → jt (jxX E d 21 5 [some (.inr (.inr (.inl 58))), some (.inl y1), some (.inl y2), some (.inl y3), some (.inl y4), none] [] (jxSH, a0, b0)) (jQ_X0_landsArrivedTo x1 x2 a0 b0) := by
    intro y1 y2 y3 y4 hm hi0 hi1 hi2 hi3 hi4 hi5 hr
    refine jt_eq (bq_X0_landsArrivedTo_5 E d y1 y2 y3 y4 a0 b0) ?_
    have h118_ := iv_get hv0 (k := 58) (j := 8) (l := 0) (u := 300) rfl
    have hst : ALC a0 b0 x1 x2 (y4.toNat + 1) = if a0 60 y4.toNat = x1 ∧ (f_X0_stateNow a0 b0 ((y4.toNat : Nat) : Int) x2 = 1 ∨ f_X0_stateNow a0 b0 ((y4.toNat : Nat) : Int) x2 = 3) then jxor (ALC a0 b0 x1 x2 y4.toNat) (jxshl 1 (f_X3_landOf a0 b0 (a0 59 y4.toNat))) else ALC a0 b0 x1 x2 y4.toNat := rfl
    rw [show ((y4.toNat : Nat) : Int) = y4 from by omega] at hst
    refine jt_ite (fun c119_ => ?_) (fun c119_ => ?_)
    ·
      refine jt_eI (eq_X0_stateNow E d (jd_le hd rfl) y4 y2 a0 b0) ?_
      refine jt_grd (by omega) ?_
      refine jt_ite (fun c120_ => ?_) (fun c120_ => ?_)
      ·
        have h121_ := f_X0_stateNow_eq a0 b0 y4 y2
        have h122_ := f_X0_arrivedOnOf_eq a0 b0 y4
        have h123_ := iv_get hv0 (k := 58) (j := 12) (l := 0) (u := 600) rfl
        have h124_ := f_X11_entry_r65_eq a0 b0 (a0 58 8) y4
        have h125_ := f_X11_entry_r67_eq a0 b0 (a0 58 12) (f_X11_entry_r65 a0 b0 (a0 58 8) y4)
        exact hc34 y1 y2 y3 y4 (f_X0_stateNow a0 b0 y4 y2) (show (((300 - y4) * 1) + 0).toNat ≤ n from by omega) (show 0 ≤ y4 from by omega) (show y4 ≤ 299 from by omega) (show y1 = x1 from by omega) (show y2 = x2 from by omega) (show 0 ≤ y4 from by omega) (show y4 < a0 58 8 from by omega) hr (by first | assumption | omega) (by rw [show y2 = x2 from by omega])
      ·
        exact hc65 y1 y2 y3 y4 (show (((300 - y4) * 1) + 0).toNat ≤ n from by omega) (show 0 ≤ y4 from by omega) (show y4 ≤ 299 from by omega) (show y1 = x1 from by omega) (show y2 = x2 from by omega) (show 0 ≤ y4 from by omega) (show y4 < a0 58 8 from by omega) (by rw [hst, if_neg (fun q => by omega)]; exact hr)
    ·
      exact jt_rI ⟨rfl, rfl, (by rw [show (a0 58 8).toNat = y4.toNat from by omega]; exact hr)⟩
  exact ⟨hc65, hc46, hc34, hc5⟩
theorem sp_X0_landsArrivedTo (E : jxE) (d : Nat) (hd : Nat.ble 4 d = true) (x1 x2 : Int) (a0 b0 : Nat → Nat → Int) (hv0 : iv a0) : jt (jxC E d 21 [.inr (.inr (.inl 58)), .inl x1, .inl x2] (jxSH, a0, b0)) (jQ_X0_landsArrivedTo x1 x2 a0 b0) := by
  obtain ⟨d, rfl⟩ := jd_succ hd
  refine jt_eq (bq_X0_landsArrivedTo E d x1 x2 a0 b0) ?_
  have h126_ := iv_get hv0 (k := 58) (j := 8) (l := 0) (u := 300) rfl
  exact (cp_X0_landsArrivedTo_5 E d hd x1 x2 a0 b0 hv0 _).2.2.2 x1 x2 0 0 (Nat.le_refl _) (show 0 ≤ 0 from by omega) (show 0 ≤ 300 from by omega) (show x1 = x1 from by omega) (show x2 = x2 from by omega) (show 0 ≤ 0 from by omega) (show 0 ≤ a0 58 8 from by omega) (by first | rfl | (rw [show (jxw (y4 + 1)).toNat = y4.toNat + 1 from by omega]; exact hr))
abbrev jQ_X0_reachedBy (x1 : Int) (a0 b0 : Nat → Nat → Int) : List jxV → (Nat → Nat → Int) → (Nat → Nat → Int) → Prop := rJ (fun r a b => (a0 = a) ∧ (b0 = b) ∧ (r = RBC a0 b0 x1 (a0 58 8).toNat))
theorem cp_X0_reachedBy_5 (E : jxE) (d : Nat) (hd : Nat.ble 3 (d + 1) = true) (x1 : Int) (a0 b0 : Nat → Nat → Int) (hv0 : iv a0) : ∀ n : Nat, (∀ (y1 y2 y4 : Int), (((300 - y4) * 1) + 0).toNat ≤ n → 0 ≤ y4 → y4 ≤ 299 → y1 = x1 → 0 ≤ y4 → y4 < a0 58 8 → (y2 = RBC a0 b0 x1 (y4.toNat + 1)) → jt (jxX E d 20 44 [some (.inr (.inr (.inl 58))), some (.inl y1), some (.inr (.inl y2)), none, some (.inl y4)] [] (jxSH, a0, b0)) (jQ_X0_reachedBy x1 a0 b0)) ∧ (∀ (y1 y2 y4 : Int), (((300 - y4) * 1) + 0).toNat ≤ n → 0 ≤ y4 → y4 ≤ 300 → y1 = x1 → 0 ≤ y4 → y4 ≤ a0 58 8 → (y2 = RBC a0 b0 x1 y4.toNat) → jt (jxX E d 20 5 [some (.inr (.inr (.inl 58))), some (.inl y1), some (.inr (.inl y2)), none, some (.inl y4)] [] (jxSH, a0, b0)) (jQ_X0_reachedBy x1 a0 b0)) := by
  refine jx_ind fun n ih => ?_
  have ih44 : ∀ (y1 y2 y4 : Int), (((300 - y4) * 1) + 0).toNat < n → 0 ≤ y4 → y4 ≤ 299 → y1 = x1 → 0 ≤ y4 → y4 < a0 58 8 → (y2 = RBC a0 b0 x1 (y4.toNat + 1)) → jt (jxX E d 20 44 [some (.inr (.inr (.inl 58))), some (.inl y1), some (.inr (.inl y2)), none, some (.inl y4)] [] (jxSH, a0, b0)) (jQ_X0_reachedBy x1 a0 b0) := fun y1 y2 y4 hlt i0 i1 i2 i3 i4 i5 => (ih _ hlt).1 y1 y2 y4 (Nat.le_refl _) i0 i1 i2 i3 i4 i5
  have ih5 : ∀ (y1 y2 y4 : Int), (((300 - y4) * 1) + 0).toNat < n → 0 ≤ y4 → y4 ≤ 300 → y1 = x1 → 0 ≤ y4 → y4 ≤ a0 58 8 → (y2 = RBC a0 b0 x1 y4.toNat) → jt (jxX E d 20 5 [some (.inr (.inr (.inl 58))), some (.inl y1), some (.inr (.inl y2)), none, some (.inl y4)] [] (jxSH, a0, b0)) (jQ_X0_reachedBy x1 a0 b0) := fun y1 y2 y4 hlt i0 i1 i2 i3 i4 i5 => (ih _ hlt).2 y1 y2 y4 (Nat.le_refl _) i0 i1 i2 i3 i4 i5
  have hc44 : ∀ (y1 y2 y4 : Int), (((300 - y4) * 1) + 0).toNat ≤ n → 0 ≤ y4 → y4 ≤ 299 → y1 = x1 → 0 ≤ y4 → y4 < a0 58 8 → (y2 = RBC a0 b0 x1 (y4.toNat + 1)) → jt (jxX E d 20 44 [some (.inr (.inr (.inl 58))), some (.inl y1), some (.inr (.inl y2)), none, some (.inl y4)] [] (jxSH, a0, b0)) (jQ_X0_reachedBy x1 a0 b0) := by
    intro y1 y2 y4 hm hi0 hi1 hi2 hi3 hi4 hr
    refine jt_eq (bq_X0_reachedBy_44 E d y1 y2 y4 a0 b0) ?_
    have h127_ := iv_get hv0 (k := 58) (j := 8) (l := 0) (u := 300) rfl
    have h128_ : jxw (y4 + 1) = y4 + 1 := jxw_id (by omega) (by omega)
    exact ih5 y1 y2 (jxw (y4 + 1)) (show (((300 - (jxw (y4 + 1))) * 1) + 0).toNat < n from by omega) (show 0 ≤ jxw (y4 + 1) from by omega) (show jxw (y4 + 1) ≤ 300 from by omega) (show y1 = x1 from by omega) (show 0 ≤ jxw (y4 + 1) from by omega) (show jxw (y4 + 1) ≤ a0 58 8 from by omega) (by first | rfl | (rw [show (jxw (y4 + 1)).toNat = y4.toNat + 1 from by omega]; exact hr))
  have hc5 : ∀ (y1 y2 y4 : Int), (((300 - y4) * 1) + 0).toNat ≤ n → 0 ≤ y4 → y4 ≤ 300 → y1 = x1 → 0 ≤ y4 → y4 ≤ a0 58 8 → (y2 = RBC a0 b0 x1 y4.toNat) → jt (jxX E d 20 5 [some (.inr (.inr (.inl 58))), some (.inl y1), some (.inr (.inl y2)), none, some (.inl y4)] [] (jxSH, a0, b0)) (jQ_X0_reachedBy x1 a0 b0) := by
    intro y1 y2 y4 hm hi0 hi1 hi2 hi3 hi4 hr
    refine jt_eq (bq_X0_reachedBy_5 E d y1 y2 y4 a0 b0) ?_
    have h129_ := iv_get hv0 (k := 58) (j := 8) (l := 0) (u := 300) rfl
    have hst : RBC a0 b0 x1 (y4.toNat + 1) = if f_X3_areKin a0 b0 x1 (a0 59 y4.toNat) = 0 then RBC a0 b0 x1 y4.toNat else jxorl (RBC a0 b0 x1 y4.toNat) (jxshll 1 (a0 60 y4.toNat)) := rfl
    refine jt_ite (fun c130_ => ?_) (fun c130_ => ?_)
    ·
      refine jt_grd (by omega) ?_
      refine jt_eI (eq_X3_areKin E d (jd_le hd rfl) y1 (a0 59 (y4.toNat)) a0 b0) ?_
      have h131_ := f_X3_areKin_bool a0 b0 y1 (a0 59 (y4.toNat))
      refine jt_ite (fun c132_ => ?_) (fun c132_ => ?_)
      ·
        exact hc44 y1 y2 y4 (show (((300 - y4) * 1) + 0).toNat ≤ n from by omega) (show 0 ≤ y4 from by omega) (show y4 ≤ 299 from by omega) (show y1 = x1 from by omega) (show 0 ≤ y4 from by omega) (show y4 < a0 58 8 from by omega) (by rw [hst, show x1 = y1 from by omega]; first | (rw [if_pos (by assumption), show y1 = x1 from by omega]; exact hr) | (rw [if_neg (by assumption), show y1 = x1 from by omega, ← hr]))
      ·
        refine jt_grd (by omega) ?_
        exact hc44 y1 (jxorl y2 (jxshll 1 (a0 60 (y4.toNat)))) y4 (show (((300 - y4) * 1) + 0).toNat ≤ n from by omega) (show 0 ≤ y4 from by omega) (show y4 ≤ 299 from by omega) (show y1 = x1 from by omega) (show 0 ≤ y4 from by omega) (show y4 < a0 58 8 from by omega) (by rw [hst, show x1 = y1 from by omega]; first | (rw [if_pos (by assumption), show y1 = x1 from by omega]; exact hr) | (rw [if_neg (by assumption), show y1 = x1 from by omega, ← hr]))
    ·
      exact jt_rJ ⟨rfl, rfl, (by rw [show (a0 58 8).toNat = y4.toNat from by omega]; exact hr)⟩
  exact ⟨hc44, hc5⟩
theorem sp_X0_reachedBy (E : jxE) (d : Nat) (hd : Nat.ble 3 d = true) (x1 : Int) (a0 b0 : Nat → Nat → Int) (hv0 : iv a0) : jt (jxC E d 20 [.inr (.inr (.inl 58)), .inl x1] (jxSH, a0, b0)) (jQ_X0_reachedBy x1 a0 b0) := by
  obtain ⟨d, rfl⟩ := jd_succ hd
  refine jt_eq (bq_X0_reachedBy E d x1 a0 b0) ?_
  have h133_ := iv_get hv0 (k := 58) (j := 8) (l := 0) (u := 300) rfl
  exact (cp_X0_reachedBy_5 E d hd x1 a0 b0 hv0 _).2 x1 0 0 (Nat.le_refl _) (show 0 ≤ 0 from by omega) (show 0 ≤ 300 from by omega) (show x1 = x1 from by omega) (show 0 ≤ 0 from by omega) (show 0 ≤ a0 58 8 from by omega) (by first | rfl | (rw [show (jxw (y4 + 1)).toNat = y4.toNat + 1 from by omega]; exact hr))
abbrev jQ_X0_stateAsKnown (x1 x2 x3 : Int) (a0 b0 : Nat → Nat → Int) : List jxV → (Nat → Nat → Int) → (Nat → Nat → Int) → Prop := rI (fun r a b => (a0 = a) ∧ (b0 = b) ∧ (r = f_X0_stateOn a0 b0 x1 x2 x3 (lastd (a0 66) (a0 67) (a0 68) x1 x3 (a0 58 12).toNat)))
theorem cp_X0_stateAsKnown_6 (E : jxE) (d : Nat) (hd : Nat.ble 3 (d + 1) = true) (x1 x2 x3 : Int) (a0 b0 : Nat → Nat → Int) (hv0 : iv a0) : ∀ n : Nat, (∀ (y1 y2 y3 y4 y5 : Int), (((600 - y5) * 1) + 0).toNat ≤ n → 0 ≤ y5 → y5 ≤ 599 → y1 = x1 → y2 = x2 → y3 = x3 → 0 ≤ y5 → y5 < a0 58 12 → (y4 = lastd (a0 66) (a0 67) (a0 68) x1 x3 (y5.toNat + 1)) → jt (jxX E d 18 46 [some (.inr (.inr (.inl 58))), some (.inl y1), some (.inl y2), some (.inl y3), some (.inl y4), some (.inl y5)] [] (jxSH, a0, b0)) (jQ_X0_stateAsKnown x1 x2 x3 a0 b0)) ∧ (∀ (y1 y2 y3 y5 : Int), (((600 - y5) * 1) + 0).toNat ≤ n → 0 ≤ y5 → y5 ≤ 599 → y1 = x1 → y2 = x2 → y3 = x3 → 0 ≤ y5 → y5 < a0 58 12 → (a0 67 y5.toNat = lastd (a0 66) (a0 67) (a0 68) x1 x3 (y5.toNat + 1)) → jt (jxX E d 18 37 [some (.inr (.inr (.inl 58))), some (.inl y1), some (.inl y2), some (.inl y3), none, some (.inl y5)] [] (jxSH, a0, b0)) (jQ_X0_stateAsKnown x1 x2 x3 a0 b0)) ∧ (∀ (y1 y2 y3 y4 y5 : Int), (((600 - y5) * 1) + 0).toNat ≤ n → 0 ≤ y5 → y5 ≤ 600 → y1 = x1 → y2 = x2 → y3 = x3 → 0 ≤ y5 → y5 ≤ a0 58 12 → (y4 = lastd (a0 66) (a0 67) (a0 68) x1 x3 y5.toNat) → jt (jxX E d 18 6 [some (.inr (.inr (.inl 58))), some (.inl y1), some (.inl y2), some (.inl y3), some (.inl y4), some (.inl y5)] [] (jxSH, a0, b0)) (jQ_X0_stateAsKnown x1 x2 x3 a0 b0)) := by
  refine jx_ind fun n ih => ?_
  have ih46 : ∀ (y1 y2 y3 y4 y5 : Int), (((600 - y5) * 1) + 0).toNat < n → 0 ≤ y5 → y5 ≤ 599 → y1 = x1 → y2 = x2 → y3 = x3 → 0 ≤ y5 → y5 < a0 58 12 → (y4 = lastd (a0 66) (a0 67) (a0 68) x1 x3 (y5.toNat + 1)) → jt (jxX E d 18 46 [some (.inr (.inr (.inl 58))), some (.inl y1), some (.inl y2), some (.inl y3), some (.inl y4), some (.inl y5)] [] (jxSH, a0, b0)) (jQ_X0_stateAsKnown x1 x2 x3 a0 b0) := fun y1 y2 y3 y4 y5 hlt i0 i1 i2 i3 i4 i5 i6 i7 => (ih _ hlt).1 y1 y2 y3 y4 y5 (Nat.le_refl _) i0 i1 i2 i3 i4 i5 i6 i7
  have ih37 : ∀ (y1 y2 y3 y5 : Int), (((600 - y5) * 1) + 0).toNat < n → 0 ≤ y5 → y5 ≤ 599 → y1 = x1 → y2 = x2 → y3 = x3 → 0 ≤ y5 → y5 < a0 58 12 → (a0 67 y5.toNat = lastd (a0 66) (a0 67) (a0 68) x1 x3 (y5.toNat + 1)) → jt (jxX E d 18 37 [some (.inr (.inr (.inl 58))), some (.inl y1), some (.inl y2), some (.inl y3), none, some (.inl y5)] [] (jxSH, a0, b0)) (jQ_X0_stateAsKnown x1 x2 x3 a0 b0) := fun y1 y2 y3 y5 hlt i0 i1 i2 i3 i4 i5 i6 i7 => (ih _ hlt).2.1 y1 y2 y3 y5 (Nat.le_refl _) i0 i1 i2 i3 i4 i5 i6 i7
  have ih6 : ∀ (y1 y2 y3 y4 y5 : Int), (((600 - y5) * 1) + 0).toNat < n → 0 ≤ y5 → y5 ≤ 600 → y1 = x1 → y2 = x2 → y3 = x3 → 0 ≤ y5 → y5 ≤ a0 58 12 → (y4 = lastd (a0 66) (a0 67) (a0 68) x1 x3 y5.toNat) → jt (jxX E d 18 6 [some (.inr (.inr (.inl 58))), some (.inl y1), some (.inl y2), some (.inl y3), some (.inl y4), some (.inl y5)] [] (jxSH, a0, b0)) (jQ_X0_stateAsKnown x1 x2 x3 a0 b0) := fun y1 y2 y3 y4 y5 hlt i0 i1 i2 i3 i4 i5 i6 i7 => (ih _ hlt).2.2 y1 y2 y3 y4 y5 (Nat.le_refl _) i0 i1 i2 i3 i4 i5 i6 i7
  have hc46 : ∀ (y1 y2 y3 y4 y5 : Int), (((600 - y5) * 1) + 0).toNat ≤ n → 0 ≤ y5 → y5 ≤ 599 → y1 = x1 → y2 = x2 → y3 = x3 → 0 ≤ y5 → y5 < a0 58 12 → (y4 = lastd (a0 66) (a0 67) (a0 68) x1 x3 (y5.toNat + 1)) → jt (jxX E d 18 46 [some (.inr (.inr (.inl 58))), some (.inl y1), some (.inl y2), some (.inl y3), some (.inl y4), some (.inl y5)] [] (jxSH, a0, b0)) (jQ_X0_stateAsKnown x1 x2 x3 a0 b0) := by
    intro y1 y2 y3 y4 y5 hm hi0 hi1 hi2 hi3 hi4 hi5 hi6 hl
    refine jt_eq (bq_X0_stateAsKnown_46 E d y1 y2 y3 y4 y5 a0 b0) ?_
    have h134_ := iv_get hv0 (k := 58) (j := 12) (l := 0) (u := 600) rfl
    have h135_ : jxw (y5 + 1) = y5 + 1 := jxw_id (by omega) (by omega)
    exact ih6 y1 y2 y3 y4 (jxw (y5 + 1)) (show (((600 - (jxw (y5 + 1))) * 1) + 0).toNat < n from by omega) (show 0 ≤ jxw (y5 + 1) from by omega) (show jxw (y5 + 1) ≤ 600 from by omega) (show y1 = x1 from by omega) (show y2 = x2 from by omega) (show y3 = x3 from by omega) (show 0 ≤ jxw (y5 + 1) from by omega) (show jxw (y5 + 1) ≤ a0 58 12 from by omega) (by first | rfl | (rw [show (jxw (y5 + 1)).toNat = y5.toNat + 1 from by omega]; exact hl))
  have hc37 : ∀ (y1 y2 y3 y5 : Int), (((600 - y5) * 1) + 0).toNat ≤ n → 0 ≤ y5 → y5 ≤ 599 → y1 = x1 → y2 = x2 → y3 = x3 → 0 ≤ y5 → y5 < a0 58 12 → (a0 67 y5.toNat = lastd (a0 66) (a0 67) (a0 68) x1 x3 (y5.toNat + 1)) → jt (jxX E d 18 37 [some (.inr (.inr (.inl 58))), some (.inl y1), some (.inl y2), some (.inl y3), none, some (.inl y5)] [] (jxSH, a0, b0)) (jQ_X0_stateAsKnown x1 x2 x3 a0 b0) := by
    intro y1 y2 y3 y5 hm hi0 hi1 hi2 hi3 hi4 hi5 hi6 hl
    refine jt_eq (bq_X0_stateAsKnown_37 E d y1 y2 y3 y5 a0 b0) ?_
    have h136_ := iv_get hv0 (k := 58) (j := 12) (l := 0) (u := 600) rfl
    refine jt_grd (by omega) ?_
    exact hc46 y1 y2 y3 (a0 67 (y5.toNat)) y5 (show (((600 - y5) * 1) + 0).toNat ≤ n from by omega) (show 0 ≤ y5 from by omega) (show y5 ≤ 599 from by omega) (show y1 = x1 from by omega) (show y2 = x2 from by omega) (show y3 = x3 from by omega) (show 0 ≤ y5 from by omega) (show y5 < a0 58 12 from by omega) (by first | exact hl | (rw [hls, if_neg (fun q => by omega)]; exact hl))
  have hc6 : ∀ (y1 y2 y3 y4 y5 : Int), (((600 - y5) * 1) + 0).toNat ≤ n → 0 ≤ y5 → y5 ≤ 600 → y1 = x1 → y2 = x2 → y3 = x3 → 0 ≤ y5 → y5 ≤ a0 58 12 → (y4 = lastd (a0 66) (a0 67) (a0 68) x1 x3 y5.toNat) → jt (jxX E d 18 6 [some (.inr (.inr (.inl 58))), some (.inl y1), some (.inl y2), some (.inl y3), some (.inl y4), some (.inl y5)] [] (jxSH, a0, b0)) (jQ_X0_stateAsKnown x1 x2 x3 a0 b0) := by
    intro y1 y2 y3 y4 y5 hm hi0 hi1 hi2 hi3 hi4 hi5 hi6 hl
    refine jt_eq (bq_X0_stateAsKnown_6 E d y1 y2 y3 y4 y5 a0 b0) ?_
    have h137_ := iv_get hv0 (k := 58) (j := 12) (l := 0) (u := 600) rfl
    have hls : lastd (a0 66) (a0 67) (a0 68) x1 x3 (y5.toNat + 1) = if a0 66 y5.toNat = x1 ∧ a0 68 y5.toNat ≤ x3 then a0 67 y5.toNat else lastd (a0 66) (a0 67) (a0 68) x1 x3 y5.toNat := rfl
    refine jt_ite (fun c138_ => ?_) (fun c138_ => ?_)
    ·
      refine jt_grd (by omega) ?_
      refine jt_ite (fun c139_ => ?_) (fun c139_ => ?_)
      ·
        refine jt_grd (by omega) ?_
        refine jt_ite (fun c140_ => ?_) (fun c140_ => ?_)
        ·
          exact hc46 y1 y2 y3 y4 y5 (show (((600 - y5) * 1) + 0).toNat ≤ n from by omega) (show 0 ≤ y5 from by omega) (show y5 ≤ 599 from by omega) (show y1 = x1 from by omega) (show y2 = x2 from by omega) (show y3 = x3 from by omega) (show 0 ≤ y5 from by omega) (show y5 < a0 58 12 from by omega) (by first | exact hl | (rw [hls, if_neg (fun q => by omega)]; exact hl))
        ·
          exact hc37 y1 y2 y3 y5 (show (((600 - y5) * 1) + 0).toNat ≤ n from by omega) (show 0 ≤ y5 from by omega) (show y5 ≤ 599 from by omega) (show y1 = x1 from by omega) (show y2 = x2 from by omega) (show y3 = x3 from by omega) (show 0 ≤ y5 from by omega) (show y5 < a0 58 12 from by omega) (by rw [hls, if_pos ⟨by omega, by omega⟩])
      ·
        exact hc46 y1 y2 y3 y4 y5 (show (((600 - y5) * 1) + 0).toNat ≤ n from by omega) (show 0 ≤ y5 from by omega) (show y5 ≤ 599 from by omega) (show y1 = x1 from by omega) (show y2 = x2 from by omega) (show y3 = x3 from by omega) (show 0 ≤ y5 from by omega) (show y5 < a0 58 12 from by omega) (by first | exact hl | (rw [hls, if_neg (fun q => by omega)]; exact hl))
    ·
      refine jt_eI (eq_X0_stateOn E d (jd_le hd rfl) y1 y2 y3 y4 a0 b0) ?_
      exact jt_rI ⟨rfl, rfl, (by rw [show (a0 58 12).toNat = y5.toNat from by omega, ← hl, show y1 = x1 from by omega, show y2 = x2 from by omega, show y3 = x3 from by omega])⟩
  exact ⟨hc46, hc37, hc6⟩
theorem sp_X0_stateAsKnown (E : jxE) (d : Nat) (hd : Nat.ble 3 d = true) (x1 x2 x3 : Int) (a0 b0 : Nat → Nat → Int) (hv0 : iv a0) : jt (jxC E d 18 [.inr (.inr (.inl 58)), .inl x1, .inl x2, .inl x3] (jxSH, a0, b0)) (jQ_X0_stateAsKnown x1 x2 x3 a0 b0) := by
  obtain ⟨d, rfl⟩ := jd_succ hd
  refine jt_eq (bq_X0_stateAsKnown E d x1 x2 x3 a0 b0) ?_
  have h141_ := iv_get hv0 (k := 58) (j := 12) (l := 0) (u := 600) rfl
  exact (cp_X0_stateAsKnown_6 E d hd x1 x2 x3 a0 b0 hv0 _).2.2 x1 x2 x3 (-1) 0 (Nat.le_refl _) (show 0 ≤ 0 from by omega) (show 0 ≤ 600 from by omega) (show x1 = x1 from by omega) (show x2 = x2 from by omega) (show x3 = x3 from by omega) (show 0 ≤ 0 from by omega) (show 0 ≤ a0 58 12 from by omega) (by first | rfl | (rw [show (jxw (y5 + 1)).toNat = y5.toNat + 1 from by omega]; exact hl))
def jWte : List (Nat × Nat) := []
def jWt1 : List (Nat × Nat) := [(66, 9999), (67, 9999), (68, 9999)]
def jW_X0_tell : List (Nat × Nat) := [(58, 12), (65, 9999), (66, 9999), (67, 9999), (68, 9999)]
abbrev jQ_X0_tell (x1 x2 x3 : Int) (a0 b0 : Nat → Nat → Int) : List jxV → (Nat → Nat → Int) → (Nat → Nat → Int) → Prop := rI (fun r a b => (iv a) ∧ (jfr jW_X0_tell a0 a) ∧ (b0 = b) ∧ ((0 ≤ r ∧ r ≤ 1)) ∧ (((((((r = 1 ∧ 0 ≤ x1) ∧ x1 < a0 58 8) ∧ x1 < 300) ∧ a0 64 (x1.toNat) = 0 - 1) ∧ a0 58 12 < 600) ∨ (r = 0 ∧ ((((x1 < 0 ∨ a0 58 8 ≤ x1) ∨ 300 ≤ x1) ∨ ¬ a0 64 (x1.toNat) = 0 - 1) ∨ 600 ≤ a0 58 12)))) ∧ (r = 1 → cvC a = vTell (cvC a0) x1 x2 x3) ∧ (r = 0 → cvC a = cvC a0))
theorem cp_X0_tell_28 (E : jxE) (d : Nat) (hd : Nat.ble 2 (d + 1) = true) (x1 x2 x3 : Int) (a0 b0 : Nat → Nat → Int) (hv0 : iv a0) : ∀ (a : Nat → Nat → Int), iv a → jfr jW_X0_tell a0 a → (jfr jWte a0 a) → ((((x1 < 0 ∨ a0 58 8 ≤ x1) ∨ 300 ≤ x1) ∨ ¬ a0 64 (x1.toNat) = 0 - 1) ∨ 600 ≤ a0 58 12) → jt (jxX E d 16 28 [none, none, none, none] [] (jxSH, a, b0)) (jQ_X0_tell x1 x2 x3 a0 b0) := by
  intro a hv hf hfe hi1
  refine jt_eq (bq_X0_tell_28 E d a b0) ?_
  have h142_ := iv_get hv0 (k := 58) (j := 8) (l := 0) (u := 300) rfl
  have h143_ := iv_get hv0 (k := 58) (j := 12) (l := 0) (u := 600) rfl
  exact jt_rI ⟨hv, hf, rfl, (show (0 ≤ 0 ∧ 0 ≤ 1) from by omega), (show ((((((0 = 1 ∧ 0 ≤ x1) ∧ x1 < a0 58 8) ∧ x1 < 300) ∧ a0 64 (x1.toNat) = 0 - 1) ∧ a0 58 12 < 600) ∨ (0 = 0 ∧ ((((x1 < 0 ∨ a0 58 8 ≤ x1) ∨ 300 ≤ x1) ∨ ¬ a0 64 (x1.toNat) = 0 - 1) ∨ 600 ≤ a0 58 12))) from by omega), (fun h => absurd h (by decide)), (fun _ => cvC_fr hfe rfl)⟩
theorem cp_X0_tell_60 (E : jxE) (d : Nat) (hd : Nat.ble 2 (d + 1) = true) (x1 x2 x3 : Int) (a0 b0 : Nat → Nat → Int) (hv0 : iv a0) : ∀ (y1 : Int) (a : Nat → Nat → Int), iv a → jfr jW_X0_tell a0 a → 0 ≤ y1 → y1 ≤ 299 → a 58 12 ≤ 599 → (jfr jWt1 a0 a) → ((((0 ≤ x1 ∧ x1 < a0 58 8) ∧ x1 < 300) ∧ a0 64 (x1.toNat) = 0 - 1) ∧ a0 58 12 < 600) → (y1 = x1) → (a 66 = rup (a0 66) (a0 58 12).toNat x1 ∧ a 67 = rup (a0 67) (a0 58 12).toNat x2 ∧ a 68 = rup (a0 68) (a0 58 12).toNat x3) → a 58 12 = a0 58 12 → jt (jxX E d 16 60 [some (.inr (.inr (.inl 58))), some (.inl y1), none, none] [] (jxSH, a, b0)) (jQ_X0_tell x1 x2 x3 a0 b0) := by
  intro y1 a hv hf hi0 hi1 hi2 hfa hi4 hy1 hr1 hi7
  refine jt_eq (bq_X0_tell_60 E d y1 a b0) ?_
  have h144_ := iv_get hv (k := 58) (j := 12) (l := 0) (u := 600) rfl
  have h145_ := iv_get hv0 (k := 58) (j := 8) (l := 0) (u := 300) rfl
  have h146_ := iv_get hv0 (k := 58) (j := 12) (l := 0) (u := 600) rfl
  refine jt_grd (by omega) ?_
  have hv147_ : iv (jxu a 65 (y1.toNat) (a 58 12)) := iv_putf hv rfl
  have h149_ : jxw ((a 58 12) + 1) = (a 58 12) + 1 := jxw_id (by omega) (by omega)
  have hv148_ : iv (jxu (jxu a 65 (y1.toNat) (a 58 12)) 58 12 (jxw ((a 58 12) + 1))) := iv_put hv147_ (l := 0) (u := 600) rfl (by omega) (by omega)
  have hf150_ : jfr jW_X0_tell a0 (jxu a 65 (y1.toNat) (a 58 12)) := jfr_put hf rfl
  have hf151_ : jfr jW_X0_tell a0 (jxu (jxu a 65 (y1.toNat) (a 58 12)) 58 12 (jxw ((a 58 12) + 1))) := jfr_put hf150_ rfl
  exact jt_rI ⟨hv148_, hf151_, rfl, (show (0 ≤ 1 ∧ 1 ≤ 1) from by omega), (show ((((((1 = 1 ∧ 0 ≤ x1) ∧ x1 < a0 58 8) ∧ x1 < 300) ∧ a0 64 (x1.toNat) = 0 - 1) ∧ a0 58 12 < 600) ∨ (1 = 0 ∧ ((((x1 < 0 ∨ a0 58 8 ≤ x1) ∨ 300 ≤ x1) ∨ ¬ a0 64 (x1.toNat) = 0 - 1) ∨ 600 ≤ a0 58 12))) from by omega), (fun _ => mkCV_eq (hfa 58 8 rfl) (show jxw ((a 58 12) + 1) = a0 58 12 + 1 from by omega) (funext fun j => hfa 59 j rfl) (funext fun j => hfa 60 j rfl) (funext fun j => hfa 61 j rfl) (funext fun j => hfa 62 j rfl) (funext fun j => hfa 63 j rfl) (funext fun j => hfa 64 j rfl) (funext fun j => by show (if j = y1.toNat then a 58 12 else a 65 j) = (if j = x1.toNat then a0 58 12 else a0 65 j); rw [show y1.toNat = x1.toNat from by omega, hfa 65 j rfl, show a 58 12 = a0 58 12 from by omega]) hr1.1 hr1.2.1 hr1.2.2), (fun h => absurd h (by decide))⟩
theorem cp_X0_tell_30 (E : jxE) (d : Nat) (hd : Nat.ble 2 (d + 1) = true) (x1 x2 x3 : Int) (a0 b0 : Nat → Nat → Int) (hv0 : iv a0) : ∀ (y1 y2 y3 : Int) (a : Nat → Nat → Int), iv a → jfr jW_X0_tell a0 a → 0 ≤ y1 → y1 ≤ 299 → a 58 12 ≤ 599 → (jfr jWte a0 a) → ((((0 ≤ x1 ∧ x1 < a0 58 8) ∧ x1 < 300) ∧ a0 64 (x1.toNat) = 0 - 1) ∧ a0 58 12 < 600) → (y1 = x1) → (y2 = x2) → (y3 = x3) → jt (jxX E d 16 30 [some (.inr (.inr (.inl 58))), some (.inl y1), some (.inl y2), some (.inl y3)] [] (jxSH, a, b0)) (jQ_X0_tell x1 x2 x3 a0 b0) := by
  intro y1 y2 y3 a hv hf hi0 hi1 hi2 hfe hi4 hy1 hy2 hy3
  refine jt_eq (bq_X0_tell_30 E d y1 y2 y3 a b0) ?_
  have h152_ := iv_get hv (k := 58) (j := 12) (l := 0) (u := 600) rfl
  have h153_ := iv_get hv0 (k := 58) (j := 8) (l := 0) (u := 300) rfl
  have h154_ := iv_get hv0 (k := 58) (j := 12) (l := 0) (u := 600) rfl
  have e12 := hfe 58 12 rfl
  refine jt_grd (by omega) ?_
  refine jt_grd (by omega) ?_
  refine jt_grd (by omega) ?_
  have hv155_ : iv (jxu a 66 ((a 58 12).toNat) y1) := iv_putf hv rfl
  have hv156_ : iv (jxu (jxu a 66 ((a 58 12).toNat) y1) 67 ((a 58 12).toNat) y2) := iv_putf hv155_ rfl
  have hv157_ : iv (jxu (jxu (jxu a 66 ((a 58 12).toNat) y1) 67 ((a 58 12).toNat) y2) 68 ((a 58 12).toNat) y3) := iv_putf hv156_ rfl
  have hf158_ : jfr jW_X0_tell a0 (jxu a 66 ((a 58 12).toNat) y1) := jfr_put hf rfl
  have hf159_ : jfr jW_X0_tell a0 (jxu (jxu a 66 ((a 58 12).toNat) y1) 67 ((a 58 12).toNat) y2) := jfr_put hf158_ rfl
  have hf160_ : jfr jW_X0_tell a0 (jxu (jxu (jxu a 66 ((a 58 12).toNat) y1) 67 ((a 58 12).toNat) y2) 68 ((a 58 12).toNat) y3) := jfr_put hf159_ rfl
  have hf161_ : jfr jWt1 a0 (jxu a 66 ((a 58 12).toNat) y1) := jfr_put (jfr_tr (jfr_rf _ _) hfe rfl) rfl
  have hf162_ : jfr jWt1 a0 (jxu (jxu a 66 ((a 58 12).toNat) y1) 67 ((a 58 12).toNat) y2) := jfr_put hf161_ rfl
  have hf163_ : jfr jWt1 a0 (jxu (jxu (jxu a 66 ((a 58 12).toNat) y1) 67 ((a 58 12).toNat) y2) 68 ((a 58 12).toNat) y3) := jfr_put hf162_ rfl
  exact cp_X0_tell_60 E d hd x1 x2 x3 a0 b0 hv0 y1 (jxu (jxu (jxu a 66 ((a 58 12).toNat) y1) 67 ((a 58 12).toNat) y2) 68 ((a 58 12).toNat) y3) hv157_ hf160_ (show 0 ≤ y1 from by omega) (show y1 ≤ 299 from by omega) (show a 58 12 ≤ 599 from by omega) hf163_ (show ((((0 ≤ x1 ∧ x1 < a0 58 8) ∧ x1 < 300) ∧ a0 64 (x1.toNat) = 0 - 1) ∧ a0 58 12 < 600) from by omega) (by first | rfl | assumption) (by subst hy1; subst hy2; subst hy3; exact ⟨(funext fun j => by show (if j = (a 58 12).toNat then _ else a 66 j) = (if j = (a0 58 12).toNat then _ else a0 66 j); rw [show (a 58 12).toNat = (a0 58 12).toNat from by omega, hfe 66 j rfl]), (funext fun j => by show (if j = (a 58 12).toNat then _ else a 67 j) = (if j = (a0 58 12).toNat then _ else a0 67 j); rw [show (a 58 12).toNat = (a0 58 12).toNat from by omega, hfe 67 j rfl]), (funext fun j => by show (if j = (a 58 12).toNat then _ else a 68 j) = (if j = (a0 58 12).toNat then _ else a0 68 j); rw [show (a 58 12).toNat = (a0 58 12).toNat from by omega, hfe 68 j rfl])⟩) (show a 58 12 = a0 58 12 from by omega)
theorem sp_X0_tell (E : jxE) (d : Nat) (hd : Nat.ble 2 d = true) (x1 x2 x3 : Int) (a0 b0 : Nat → Nat → Int) (hv0 : iv a0) : jt (jxC E d 16 [.inr (.inr (.inl 58)), .inl x1, .inl x2, .inl x3] (jxSH, a0, b0)) (jQ_X0_tell x1 x2 x3 a0 b0) := by
  obtain ⟨d, rfl⟩ := jd_succ hd
  refine jt_eq (bq_X0_tell E d x1 x2 x3 a0 b0) ?_
  refine jt_eI (eq_X0_has E d (jd_le hd rfl) x1 a0 b0) ?_
  have h164_ := f_X0_has_eq a0 b0 x1
  have h165_ := iv_get hv0 (k := 58) (j := 8) (l := 0) (u := 300) rfl
  refine jt_ite (fun c166_ => ?_) (fun c166_ => ?_)
  ·
    have h167_ := iv_get hv0 (k := 58) (j := 12) (l := 0) (u := 600) rfl
    exact cp_X0_tell_28 E d hd x1 x2 x3 a0 b0 hv0 a0 hv0 (jfr_rf _ _) (jfr_rf _ _) (show ((((x1 < 0 ∨ a0 58 8 ≤ x1) ∨ 300 ≤ x1) ∨ ¬ a0 64 (x1.toNat) = 0 - 1) ∨ 600 ≤ a0 58 12) from by omega)
  ·
    refine jt_grd (by omega) ?_
    refine jt_ite (fun c168_ => ?_) (fun c168_ => ?_)
    ·
      have h169_ := iv_get hv0 (k := 58) (j := 12) (l := 0) (u := 600) rfl
      refine jt_ite (fun c170_ => ?_) (fun c170_ => ?_)
      ·
        exact cp_X0_tell_30 E d hd x1 x2 x3 a0 b0 hv0 x1 x2 x3 a0 hv0 (jfr_rf _ _) (show 0 ≤ x1 from by omega) (show x1 ≤ 299 from by omega) (show a0 58 12 ≤ 599 from by omega) (jfr_rf _ _) (show ((((0 ≤ x1 ∧ x1 < a0 58 8) ∧ x1 < 300) ∧ a0 64 (x1.toNat) = 0 - 1) ∧ a0 58 12 < 600) from by omega) (by first | rfl | assumption) (by first | rfl | assumption) (by first | rfl | assumption)
      ·
        exact cp_X0_tell_28 E d hd x1 x2 x3 a0 b0 hv0 a0 hv0 (jfr_rf _ _) (jfr_rf _ _) (show ((((x1 < 0 ∨ a0 58 8 ≤ x1) ∨ 300 ≤ x1) ∨ ¬ a0 64 (x1.toNat) = 0 - 1) ∨ 600 ≤ a0 58 12) from by omega)
    ·
      have h171_ := iv_get hv0 (k := 58) (j := 12) (l := 0) (u := 600) rfl
      exact cp_X0_tell_28 E d hd x1 x2 x3 a0 b0 hv0 a0 hv0 (jfr_rf _ _) (jfr_rf _ _) (show ((((x1 < 0 ∨ a0 58 8 ≤ x1) ∨ 300 ≤ x1) ∨ ¬ a0 64 (x1.toNat) = 0 - 1) ∨ 600 ≤ a0 58 12) from by omega)
def jW_X0_takeBack : List (Nat × Nat) := [(58, 12), (65, 9999), (66, 9999), (67, 9999), (68, 9999)]
abbrev jQ_X0_takeBack (x1 x2 : Int) (a0 b0 : Nat → Nat → Int) : List jxV → (Nat → Nat → Int) → (Nat → Nat → Int) → Prop := rI (fun r a b => (iv a) ∧ (jfr jW_X0_takeBack a0 a) ∧ (b0 = b) ∧ ((0 ≤ r ∧ r ≤ 1)) ∧ ((a0 58 8 = 0 → r = 0)) ∧ (r = 1 → 0 ≤ x1 ∧ x1 < a0 58 8 ∧ a0 64 x1.toNat = -1 ∧ a0 58 12 < 600 ∧ ¬ (f_X0_arrivedOnOf a0 b0 x1) = -1) ∧ (r = 0 → ¬ (0 ≤ x1 ∧ x1 < a0 58 8 ∧ a0 64 x1.toNat = -1 ∧ a0 58 12 < 600 ∧ ¬ (f_X0_arrivedOnOf a0 b0 x1) = -1)) ∧ (r = 1 → cvC a = vTell (cvC a0) x1 (-1) x2) ∧ (r = 0 → cvC a = cvC a0))
theorem sp_X0_takeBack (E : jxE) (d : Nat) (hd : Nat.ble 3 d = true) (x1 x2 : Int) (a0 b0 : Nat → Nat → Int) (hv0 : iv a0) : jt (jxC E d 15 [.inr (.inr (.inl 58)), .inl x1, .inl x2] (jxSH, a0, b0)) (jQ_X0_takeBack x1 x2 a0 b0) := by
  obtain ⟨d, rfl⟩ := jd_succ hd
  refine jt_eq (bq_X0_takeBack E d x1 x2 a0 b0) ?_
  refine jt_eI (eq_X0_arrivedOnOf E d (jd_le hd rfl) x1 a0 b0) ?_
  have h172_ := f_X0_arrivedOnOf_eq a0 b0 x1
  have h173_ := iv_get hv0 (k := 58) (j := 12) (l := 0) (u := 600) rfl
  have h174_ := iv_get hv0 (k := 58) (j := 8) (l := 0) (u := 300) rfl
  have h175_ := f_X11_entry_r65_eq a0 b0 (a0 58 8) x1
  have h176_ := f_X11_entry_r67_eq a0 b0 (a0 58 12) (f_X11_entry_r65 a0 b0 (a0 58 8) x1)
  refine jt_ite (fun c177_ => ?_) (fun c177_ => ?_)
  ·
    exact jt_rI ⟨hv0, (jfr_rf _ _), rfl, (show (0 ≤ 0 ∧ 0 ≤ 1) from by omega), (show (a0 58 8 = 0 → 0 = 0) from by omega), (fun h => absurd h (by omega)), (fun _ q => by omega), (fun h => absurd h (by decide)), (fun _ => rfl)⟩
  ·
    refine jt_bI (sp_X0_tell E d (jd_le hd rfl) x1 (-1) x2 a0 b0 hv0) (fun r178_ a178_ b178_ h178_ => ?_)
    obtain ⟨hv178_, hf178_, rfl, hq178_0, hq178_1, hq178_2, hq178_3⟩ := h178_
    refine jt_ite (fun c179_ => ?_) (fun c179_ => ?_)
    ·
      have hf180_ : jfr jW_X0_takeBack a0 a178_ := jfr_tr (jfr_rf _ _) hf178_ rfl
      exact jt_rI ⟨hv178_, hf180_, rfl, (show (0 ≤ 0 ∧ 0 ≤ 1) from by omega), (show (a0 58 8 = 0 → 0 = 0) from by omega), (fun h => absurd h (by omega)), (fun _ q => by omega), (fun h => hq178_2 (by omega)), (fun h => hq178_3 (by omega))⟩
    ·
      have hf181_ : jfr jW_X0_takeBack a0 a178_ := jfr_tr (jfr_rf _ _) hf178_ rfl
      exact jt_rI ⟨hv178_, hf181_, rfl, (show (0 ≤ 1 ∧ 1 ≤ 1) from by omega), (show (a0 58 8 = 0 → 1 = 0) from by omega), (fun _ => by omega), (fun _ q => by omega), (fun h => hq178_2 (by omega)), (fun h => hq178_3 (by omega))⟩
def jW_X0_tellArrival : List (Nat × Nat) := [(58, 12), (65, 9999), (66, 9999), (67, 9999), (68, 9999)]
abbrev jQ_X0_tellArrival (x1 x2 x3 : Int) (a0 b0 : Nat → Nat → Int) : List jxV → (Nat → Nat → Int) → (Nat → Nat → Int) → Prop := rI (fun r a b => (iv a) ∧ (jfr jW_X0_tellArrival a0 a) ∧ (b0 = b) ∧ ((0 ≤ r ∧ r ≤ 1)) ∧ ((a0 58 8 = 0 → r = 0)) ∧ ((((((((r = 1 ∧ 0 ≤ x1) ∧ x1 < a0 58 8) ∧ a0 64 (x1.toNat) = 0 - 1) ∧ a0 58 12 < 600) ∧ a0 61 (x1.toNat) ≤ x2) ∧ x2 ≤ x3) ∨ (r = 0 ∧ (((((x1 < 0 ∨ a0 58 8 ≤ x1) ∨ ¬ a0 64 (x1.toNat) = 0 - 1) ∨ 600 ≤ a0 58 12) ∨ x2 < a0 61 (x1.toNat)) ∨ x3 < x2)))) ∧ (r = 1 → cvC a = vTell (cvC a0) x1 x2 x3) ∧ (r = 0 → cvC a = cvC a0))
theorem sp_X0_tellArrival (E : jxE) (d : Nat) (hd : Nat.ble 3 d = true) (x1 x2 x3 : Int) (a0 b0 : Nat → Nat → Int) (hv0 : iv a0) : jt (jxC E d 14 [.inr (.inr (.inl 58)), .inl x1, .inl x2, .inl x3] (jxSH, a0, b0)) (jQ_X0_tellArrival x1 x2 x3 a0 b0) := by
  obtain ⟨d, rfl⟩ := jd_succ hd
  refine jt_eq (bq_X0_tellArrival E d x1 x2 x3 a0 b0) ?_
  refine jt_eI (eq_X0_has E d (jd_le hd rfl) x1 a0 b0) ?_
  have h182_ := f_X0_has_eq a0 b0 x1
  have h183_ := iv_get hv0 (k := 58) (j := 8) (l := 0) (u := 300) rfl
  refine jt_ite (fun c184_ => ?_) (fun c184_ => ?_)
  ·
    have h185_ := iv_get hv0 (k := 58) (j := 12) (l := 0) (u := 600) rfl
    exact jt_rI ⟨hv0, (jfr_rf _ _), rfl, (show (0 ≤ 0 ∧ 0 ≤ 1) from by omega), (show (a0 58 8 = 0 → 0 = 0) from by omega), (show (((((((0 = 1 ∧ 0 ≤ x1) ∧ x1 < a0 58 8) ∧ a0 64 (x1.toNat) = 0 - 1) ∧ a0 58 12 < 600) ∧ a0 61 (x1.toNat) ≤ x2) ∧ x2 ≤ x3) ∨ (0 = 0 ∧ (((((x1 < 0 ∨ a0 58 8 ≤ x1) ∨ ¬ a0 64 (x1.toNat) = 0 - 1) ∨ 600 ≤ a0 58 12) ∨ x2 < a0 61 (x1.toNat)) ∨ x3 < x2))) from by omega), (fun h => absurd h (by decide)), (fun _ => rfl)⟩
  ·
    refine jt_grd (by omega) ?_
    refine jt_eI (eq_X11_within E d (jd_le hd rfl) x2 (a0 61 (x1.toNat)) x3 a0 b0) ?_
    have h186_ := f_X11_within_eq a0 b0 x2 (a0 61 (x1.toNat)) x3
    refine jt_ite (fun c187_ => ?_) (fun c187_ => ?_)
    ·
      have h188_ := iv_get hv0 (k := 58) (j := 12) (l := 0) (u := 600) rfl
      exact jt_rI ⟨hv0, (jfr_rf _ _), rfl, (show (0 ≤ 0 ∧ 0 ≤ 1) from by omega), (show (a0 58 8 = 0 → 0 = 0) from by omega), (show (((((((0 = 1 ∧ 0 ≤ x1) ∧ x1 < a0 58 8) ∧ a0 64 (x1.toNat) = 0 - 1) ∧ a0 58 12 < 600) ∧ a0 61 (x1.toNat) ≤ x2) ∧ x2 ≤ x3) ∨ (0 = 0 ∧ (((((x1 < 0 ∨ a0 58 8 ≤ x1) ∨ ¬ a0 64 (x1.toNat) = 0 - 1) ∨ 600 ≤ a0 58 12) ∨ x2 < a0 61 (x1.toNat)) ∨ x3 < x2))) from by omega), (fun h => absurd h (by decide)), (fun _ => rfl)⟩
    ·
      refine jt_bI (sp_X0_tell E d (jd_le hd rfl) x1 x2 x3 a0 b0 hv0) (fun r189_ a189_ b189_ h189_ => ?_)
      obtain ⟨hv189_, hf189_, rfl, hq189_0, hq189_1, hq189_2, hq189_3⟩ := h189_
      have h190_ := iv_get hv0 (k := 58) (j := 12) (l := 0) (u := 600) rfl
      refine jt_grd (by omega) ?_
      have hf191_ : jfr jW_X0_tellArrival a0 a189_ := jfr_tr (jfr_rf _ _) hf189_ rfl
      exact jt_rI ⟨hv189_, hf191_, rfl, (show (0 ≤ r189_ ∧ r189_ ≤ 1) from by omega), (show (a0 58 8 = 0 → r189_ = 0) from by omega), (show (((((((r189_ = 1 ∧ 0 ≤ x1) ∧ x1 < a0 58 8) ∧ a0 64 (x1.toNat) = 0 - 1) ∧ a0 58 12 < 600) ∧ a0 61 (x1.toNat) ≤ x2) ∧ x2 ≤ x3) ∨ (r189_ = 0 ∧ (((((x1 < 0 ∨ a0 58 8 ≤ x1) ∨ ¬ a0 64 (x1.toNat) = 0 - 1) ∨ 600 ≤ a0 58 12) ∨ x2 < a0 61 (x1.toNat)) ∨ x3 < x2))) from by omega), (hq189_2), (hq189_3)⟩
def jW_X10_addStep : List (Nat × Nat) := [(11, 6), (54, 9999)]
abbrev jQ_X10_addStep (x1 x2 : Int) (a0 b0 : Nat → Nat → Int) : List jxV → (Nat → Nat → Int) → (Nat → Nat → Int) → Prop := rV (fun a b => (iv a) ∧ (jfr jW_X10_addStep a0 a) ∧ (b0 = b) ∧ (a0 11 6 ≤ a 11 6) ∧ ((a0 11 6 < 40 → a 11 6 = (a0 11 6) + 1)) ∧ (a0 11 6 < 40 → UP (a0 54) (a 54) (a0 11 6).toNat (jxw ((jxw (x1 * 1000)) + x2))))
theorem cp_X10_addStep_35 (E : jxE) (d : Nat) (hd : Nat.ble 1 (d + 1) = true) (x1 x2 : Int) (a0 b0 : Nat → Nat → Int) (hv0 : iv a0) : ∀ (a : Nat → Nat → Int), iv a → jfr jW_X10_addStep a0 a → 1 ≤ a 11 6 → a0 11 6 ≤ a 11 6 → (a0 11 6 < 40 → a 11 6 = (a0 11 6) + 1) → (a0 11 6 < 40 → UP (a0 54) (a 54) (a0 11 6).toNat (jxw ((jxw (x1 * 1000)) + x2))) → jt (jxX E d 149 35 [none, none, none] [] (jxSH, a, b0)) (jQ_X10_addStep x1 x2 a0 b0) := by
  intro a hv hf hi0 hi1 hi2 hu
  refine jt_eq (bq_X10_addStep_35 E d a b0) ?_
  have h192_ := iv_get hv (k := 11) (j := 6) (l := 0) (u := 40) rfl
  have h193_ := iv_get hv0 (k := 11) (j := 6) (l := 0) (u := 40) rfl
  exact jt_rV ⟨hv, hf, rfl, (show a0 11 6 ≤ a 11 6 from by omega), (show (a0 11 6 < 40 → a 11 6 = (a0 11 6) + 1) from by omega), hu⟩
theorem sp_X10_addStep (E : jxE) (d : Nat) (hd : Nat.ble 1 d = true) (x1 x2 : Int) (a0 b0 : Nat → Nat → Int) (hv0 : iv a0) : jt (jxC E d 149 [.inr (.inr (.inl 11)), .inl x1, .inl x2] (jxSH, a0, b0)) (jQ_X10_addStep x1 x2 a0 b0) := by
  obtain ⟨d, rfl⟩ := jd_succ hd
  refine jt_eq (bq_X10_addStep E d x1 x2 a0 b0) ?_
  have h194_ := iv_get hv0 (k := 11) (j := 6) (l := 0) (u := 40) rfl
  refine jt_ite (fun c195_ => ?_) (fun c195_ => ?_)
  ·
    refine jt_grd (by omega) ?_
    have h197_ : jxw ((a0 11 6) + 1) = (a0 11 6) + 1 := jxw_id (by omega) (by omega)
    have hv196_ : iv (jxu a0 11 6 (jxw ((a0 11 6) + 1))) := iv_put hv0 (l := 0) (u := 40) rfl (by omega) (by omega)
    have hv198_ : iv (jxu (jxu a0 11 6 (jxw ((a0 11 6) + 1))) 54 ((a0 11 6).toNat) (jxw ((jxw (x1 * 1000)) + x2))) := iv_putf hv196_ rfl
    have hf199_ : jfr jW_X10_addStep a0 (jxu a0 11 6 (jxw ((a0 11 6) + 1))) := jfr_put (jfr_rf _ _) rfl
    have hf200_ : jfr jW_X10_addStep a0 (jxu (jxu a0 11 6 (jxw ((a0 11 6) + 1))) 54 ((a0 11 6).toNat) (jxw ((jxw (x1 * 1000)) + x2))) := jfr_put hf199_ rfl
    exact cp_X10_addStep_35 E d hd x1 x2 a0 b0 hv0 (jxu (jxu a0 11 6 (jxw ((a0 11 6) + 1))) 54 ((a0 11 6).toNat) (jxw ((jxw (x1 * 1000)) + x2))) hv198_ hf200_ (show 1 ≤ jxw ((a0 11 6) + 1) from by omega) (show a0 11 6 ≤ jxw ((a0 11 6) + 1) from by omega) (show (a0 11 6 < 40 → jxw ((a0 11 6) + 1) = (a0 11 6) + 1) from by omega) (by first | exact (fun _ => UP_put (fun _ => rfl)) | exact (fun h => absurd h (by omega)))
  ·
    exact cp_X10_addStep_35 E d hd x1 x2 a0 b0 hv0 a0 hv0 (jfr_rf _ _) (show 1 ≤ a0 11 6 from by omega) (show a0 11 6 ≤ a0 11 6 from by omega) (show (a0 11 6 < 40 → a0 11 6 = (a0 11 6) + 1) from by omega) (by first | exact (fun _ => UP_put (fun _ => rfl)) | exact (fun h => absurd h (by omega)))
abbrev jQ_X10_isMet (x1 x2 x3 : Int) (a0 b0 : Nat → Nat → Int) : List jxV → (Nat → Nat → Int) → (Nat → Nat → Int) → Prop := rI (fun r a b => (a0 = a) ∧ (b0 = b) ∧ ((0 ≤ r ∧ r ≤ 1)) ∧ (0 ≤ x1 → x1 < a0 4 6 → 0 ≤ x2 → x2 < a0 4 6 → r = METX a0 b0 x1 x2 x3))
theorem cp_X10_isMet_31 (E : jxE) (d : Nat) (hd : Nat.ble 5 (d + 1) = true) (x1 x2 x3 : Int) (a0 b0 : Nat → Nat → Int) (hv0 : iv a0) (hp0 : WISHR a0) : (0 ≤ x1 → x1 < a0 4 6 → 0 ≤ x2 → x2 < a0 4 6 → a0 53 x1.toNat = 0) → jt (jxX E d 150 31 [none, none, none, none, none, none, none, none, none] [] (jxSH, a0, b0)) (jQ_X10_isMet x1 x2 x3 a0 b0) := by
  intro h53
  refine jt_eq (bq_X10_isMet_31 E d a0 b0) ?_
  exact jt_rI ⟨rfl, rfl, (show (0 ≤ 1 ∧ 1 ≤ 1) from by omega), (fun h1 h2 h3 h4 => by unfold METX; rw [if_pos (h53 h1 h2 h3 h4)])⟩
theorem cp_X10_isMet_182 (E : jxE) (d : Nat) (hd : Nat.ble 5 (d + 1) = true) (x1 x2 x3 : Int) (a0 b0 : Nat → Nat → Int) (hv0 : iv a0) (hp0 : WISHR a0) : ∀ (y4 : Int), (0 ≤ x1 ∧ x1 ≤ 39) → ¬ a0 53 (x1.toNat) = 0 → (y4 = BN (EST (TRC a0 b0 x1 x2 x3) (fun k => a0 12 (x1.toNat * 40 + k)) (a0 53 x1.toNat).toNat)) → jt (jxX E d 150 182 [none, none, none, none, some (.inl y4), none, none, none, none] [] (jxSH, a0, b0)) (jQ_X10_isMet x1 x2 x3 a0 b0) := by
  intro y4 hi0 hi1 hb
  refine jt_eq (bq_X10_isMet_182 E d y4 a0 b0) ?_
  have h201_ := iv_get hv0 (k := 53) (j := x1.toNat) (l := 0) (u := 40) rfl
  have hwf := (WISHR_at hp0 (x := x1) (by omega) (by omega)).1
  have hir := IM_ret (TRC_b a0 b0 x1 x2 x3) hwf hb
  have h202_ := jxand_r y4 1 (by decide) (by decide)
  refine jt_ite (fun c203_ => ?_) (fun c203_ => ?_)
  ·
    exact jt_rI ⟨rfl, rfl, (show (0 ≤ 1 ∧ 1 ≤ 1) from by omega), (fun _ _ _ _ => by unfold METX; rw [if_neg (by omega)]; exact (hir.1 (by assumption)).symm)⟩
  ·
    exact jt_rI ⟨rfl, rfl, (show (0 ≤ 0 ∧ 0 ≤ 1) from by omega), (fun _ _ _ _ => by unfold METX; rw [if_neg (by omega)]; exact (hir.2 (by assumption)).symm)⟩
theorem cp_X10_isMet_39 (E : jxE) (d : Nat) (hd : Nat.ble 5 (d + 1) = true) (x1 x2 x3 : Int) (a0 b0 : Nat → Nat → Int) (hv0 : iv a0) (hp0 : WISHR a0) : ∀ n : Nat, (∀ (y1 y2 y3 y4 y5 : Int), (((40 - y5) * 1) + 0).toNat ≤ n → 0 ≤ y1 → y1 ≤ 39 → 0 ≤ y2 → y2 ≤ 39 → 0 ≤ y5 → y5 ≤ 39 → y1 = x1 → y2 = x2 → y3 = x3 → (0 ≤ x1 ∧ x1 ≤ 39) → ¬ a0 53 (x1.toNat) = 0 → 0 ≤ y5 → y5 ≤ a0 53 (x1.toNat) → y5 < a0 53 (x1.toNat) → y5 ≤ 39 → (y4 = BN (EST (TRC a0 b0 x1 x2 x3) (fun k => a0 12 (x1.toNat * 40 + k)) (y5.toNat + 1))) → jt (jxX E d 150 113 [some (.inr (.inr (.inl 11))), some (.inl y1), some (.inl y2), some (.inl y3), some (.inl y4), some (.inl y5), none, none, none] [] (jxSH, a0, b0)) (jQ_X10_isMet x1 x2 x3 a0 b0)) ∧ (∀ (y1 y2 y3 y4 y5 : Int), (((40 - y5) * 1) + 0).toNat ≤ n → 0 ≤ y1 → y1 ≤ 39 → 0 ≤ y2 → y2 ≤ 39 → 0 ≤ y5 → y5 ≤ 39 → y1 = x1 → y2 = x2 → y3 = x3 → (0 ≤ x1 ∧ x1 ≤ 39) → ¬ a0 53 (x1.toNat) = 0 → 0 ≤ y5 → y5 ≤ a0 53 (x1.toNat) → y5 < a0 53 (x1.toNat) → y5 ≤ 39 → (y4 = BN (EST (TRC a0 b0 x1 x2 x3) (fun k => a0 12 (x1.toNat * 40 + k)) (y5.toNat + 1))) → jt (jxX E d 150 132 [some (.inr (.inr (.inl 11))), some (.inl y1), some (.inl y2), some (.inl y3), some (.inl y4), some (.inl y5), none, none, none] [] (jxSH, a0, b0)) (jQ_X10_isMet x1 x2 x3 a0 b0)) ∧ (∀ (y1 y2 y3 y4 y5 y8 : Int), (((40 - y5) * 1) + 0).toNat ≤ n → 0 ≤ y1 → y1 ≤ 39 → 0 ≤ y2 → y2 ≤ 39 → 0 ≤ y5 → y5 ≤ 39 → 0 ≤ y8 → y8 ≤ 1 → y1 = x1 → y2 = x2 → y3 = x3 → (0 ≤ x1 ∧ x1 ≤ 39) → ¬ a0 53 (x1.toNat) = 0 → 0 ≤ y5 → y5 ≤ a0 53 (x1.toNat) → y5 < a0 53 (x1.toNat) → y5 ≤ 39 → (jxor (jxshl y4 1) (if y8 = 0 then 0 else 1) = BN (EST (TRC a0 b0 x1 x2 x3) (fun k => a0 12 (x1.toNat * 40 + k)) (y5.toNat + 1))) → jt (jxX E d 150 159 [some (.inr (.inr (.inl 11))), some (.inl y1), some (.inl y2), some (.inl y3), some (.inl y4), some (.inl y5), none, none, some (.inl y8)] [] (jxSH, a0, b0)) (jQ_X10_isMet x1 x2 x3 a0 b0)) ∧ (∀ (y1 y2 y3 y4 y5 y6 : Int), (((40 - y5) * 1) + 0).toNat ≤ n → 0 ≤ y1 → y1 ≤ 39 → 0 ≤ y2 → y2 ≤ 39 → 0 ≤ y5 → y5 ≤ 39 → y1 = x1 → y2 = x2 → y3 = x3 → (0 ≤ x1 ∧ x1 ≤ 39) → ¬ a0 53 (x1.toNat) = 0 → 0 ≤ y5 → y5 ≤ a0 53 (x1.toNat) → y5 < a0 53 (x1.toNat) → y5 ≤ 39 → (y4 = BN (EST (TRC a0 b0 x1 x2 x3) (fun k => a0 12 (x1.toNat * 40 + k)) y5.toNat)) → (y6 = jxw (Int.tdiv (a0 12 (x1.toNat * 40 + y5.toNat)) 1000)) → jt (jxX E d 150 72 [some (.inr (.inr (.inl 11))), some (.inl y1), some (.inl y2), some (.inl y3), some (.inl y4), some (.inl y5), some (.inl y6), none, none] [] (jxSH, a0, b0)) (jQ_X10_isMet x1 x2 x3 a0 b0)) ∧ (∀ (y1 y2 y3 y4 y5 : Int), (((40 - y5) * 1) + 0).toNat ≤ n → 0 ≤ y1 → y1 ≤ 39 → 0 ≤ y2 → y2 ≤ 39 → 0 ≤ y5 → y5 ≤ 40 → y1 = x1 → y2 = x2 → y3 = x3 → (0 ≤ x1 ∧ x1 ≤ 39) → ¬ a0 53 (x1.toNat) = 0 → 0 ≤ y5 → y5 ≤ a0 53 (x1.toNat) → (y4 = BN (EST (TRC a0 b0 x1 x2 x3) (fun k => a0 12 (x1.toNat * 40 + k)) y5.toNat)) → jt (jxX E d 150 39 [some (.inr (.inr (.inl 11))), some (.inl y1), some (.inl y2), some (.inl y3), some (.inl y4), some (.inl y5), none, none, none] [] (jxSH, a0, b0)) (jQ_X10_isMet x1 x2 x3 a0 b0)) := by
  refine jx_ind fun n ih => ?_
  have ih113 : ∀ (y1 y2 y3 y4 y5 : Int), (((40 - y5) * 1) + 0).toNat < n → 0 ≤ y1 → y1 ≤ 39 → 0 ≤ y2 → y2 ≤ 39 → 0 ≤ y5 → y5 ≤ 39 → y1 = x1 → y2 = x2 → y3 = x3 → (0 ≤ x1 ∧ x1 ≤ 39) → ¬ a0 53 (x1.toNat) = 0 → 0 ≤ y5 → y5 ≤ a0 53 (x1.toNat) → y5 < a0 53 (x1.toNat) → y5 ≤ 39 → (y4 = BN (EST (TRC a0 b0 x1 x2 x3) (fun k => a0 12 (x1.toNat * 40 + k)) (y5.toNat + 1))) → jt (jxX E d 150 113 [some (.inr (.inr (.inl 11))), some (.inl y1), some (.inl y2), some (.inl y3), some (.inl y4), some (.inl y5), none, none, none] [] (jxSH, a0, b0)) (jQ_X10_isMet x1 x2 x3 a0 b0) := fun y1 y2 y3 y4 y5 hlt i0 i1 i2 i3 i4 i5 i6 i7 i8 i9 i10 i11 i12 i13 i14 i15 => (ih _ hlt).1 y1 y2 y3 y4 y5 (Nat.le_refl _) i0 i1 i2 i3 i4 i5 i6 i7 i8 i9 i10 i11 i12 i13 i14 i15
  have ih132 : ∀ (y1 y2 y3 y4 y5 : Int), (((40 - y5) * 1) + 0).toNat < n → 0 ≤ y1 → y1 ≤ 39 → 0 ≤ y2 → y2 ≤ 39 → 0 ≤ y5 → y5 ≤ 39 → y1 = x1 → y2 = x2 → y3 = x3 → (0 ≤ x1 ∧ x1 ≤ 39) → ¬ a0 53 (x1.toNat) = 0 → 0 ≤ y5 → y5 ≤ a0 53 (x1.toNat) → y5 < a0 53 (x1.toNat) → y5 ≤ 39 → (y4 = BN (EST (TRC a0 b0 x1 x2 x3) (fun k => a0 12 (x1.toNat * 40 + k)) (y5.toNat + 1))) → jt (jxX E d 150 132 [some (.inr (.inr (.inl 11))), some (.inl y1), some (.inl y2), some (.inl y3), some (.inl y4), some (.inl y5), none, none, none] [] (jxSH, a0, b0)) (jQ_X10_isMet x1 x2 x3 a0 b0) := fun y1 y2 y3 y4 y5 hlt i0 i1 i2 i3 i4 i5 i6 i7 i8 i9 i10 i11 i12 i13 i14 i15 => (ih _ hlt).2.1 y1 y2 y3 y4 y5 (Nat.le_refl _) i0 i1 i2 i3 i4 i5 i6 i7 i8 i9 i10 i11 i12 i13 i14 i15
  have ih159 : ∀ (y1 y2 y3 y4 y5 y8 : Int), (((40 - y5) * 1) + 0).toNat < n → 0 ≤ y1 → y1 ≤ 39 → 0 ≤ y2 → y2 ≤ 39 → 0 ≤ y5 → y5 ≤ 39 → 0 ≤ y8 → y8 ≤ 1 → y1 = x1 → y2 = x2 → y3 = x3 → (0 ≤ x1 ∧ x1 ≤ 39) → ¬ a0 53 (x1.toNat) = 0 → 0 ≤ y5 → y5 ≤ a0 53 (x1.toNat) → y5 < a0 53 (x1.toNat) → y5 ≤ 39 → (jxor (jxshl y4 1) (if y8 = 0 then 0 else 1) = BN (EST (TRC a0 b0 x1 x2 x3) (fun k => a0 12 (x1.toNat * 40 + k)) (y5.toNat + 1))) → jt (jxX E d 150 159 [some (.inr (.inr (.inl 11))), some (.inl y1), some (.inl y2), some (.inl y3), some (.inl y4), some (.inl y5), none, none, some (.inl y8)] [] (jxSH, a0, b0)) (jQ_X10_isMet x1 x2 x3 a0 b0) := fun y1 y2 y3 y4 y5 y8 hlt i0 i1 i2 i3 i4 i5 i6 i7 i8 i9 i10 i11 i12 i13 i14 i15 i16 i17 => (ih _ hlt).2.2.1 y1 y2 y3 y4 y5 y8 (Nat.le_refl _) i0 i1 i2 i3 i4 i5 i6 i7 i8 i9 i10 i11 i12 i13 i14 i15 i16 i17
  have ih72 : ∀ (y1 y2 y3 y4 y5 y6 : Int), (((40 - y5) * 1) + 0).toNat < n → 0 ≤ y1 → y1 ≤ 39 → 0 ≤ y2 → y2 ≤ 39 → 0 ≤ y5 → y5 ≤ 39 → y1 = x1 → y2 = x2 → y3 = x3 → (0 ≤ x1 ∧ x1 ≤ 39) → ¬ a0 53 (x1.toNat) = 0 → 0 ≤ y5 → y5 ≤ a0 53 (x1.toNat) → y5 < a0 53 (x1.toNat) → y5 ≤ 39 → (y4 = BN (EST (TRC a0 b0 x1 x2 x3) (fun k => a0 12 (x1.toNat * 40 + k)) y5.toNat)) → (y6 = jxw (Int.tdiv (a0 12 (x1.toNat * 40 + y5.toNat)) 1000)) → jt (jxX E d 150 72 [some (.inr (.inr (.inl 11))), some (.inl y1), some (.inl y2), some (.inl y3), some (.inl y4), some (.inl y5), some (.inl y6), none, none] [] (jxSH, a0, b0)) (jQ_X10_isMet x1 x2 x3 a0 b0) := fun y1 y2 y3 y4 y5 y6 hlt i0 i1 i2 i3 i4 i5 i6 i7 i8 i9 i10 i11 i12 i13 i14 i15 i16 => (ih _ hlt).2.2.2.1 y1 y2 y3 y4 y5 y6 (Nat.le_refl _) i0 i1 i2 i3 i4 i5 i6 i7 i8 i9 i10 i11 i12 i13 i14 i15 i16
  have ih39 : ∀ (y1 y2 y3 y4 y5 : Int), (((40 - y5) * 1) + 0).toNat < n → 0 ≤ y1 → y1 ≤ 39 → 0 ≤ y2 → y2 ≤ 39 → 0 ≤ y5 → y5 ≤ 40 → y1 = x1 → y2 = x2 → y3 = x3 → (0 ≤ x1 ∧ x1 ≤ 39) → ¬ a0 53 (x1.toNat) = 0 → 0 ≤ y5 → y5 ≤ a0 53 (x1.toNat) → (y4 = BN (EST (TRC a0 b0 x1 x2 x3) (fun k => a0 12 (x1.toNat * 40 + k)) y5.toNat)) → jt (jxX E d 150 39 [some (.inr (.inr (.inl 11))), some (.inl y1), some (.inl y2), some (.inl y3), some (.inl y4), some (.inl y5), none, none, none] [] (jxSH, a0, b0)) (jQ_X10_isMet x1 x2 x3 a0 b0) := fun y1 y2 y3 y4 y5 hlt i0 i1 i2 i3 i4 i5 i6 i7 i8 i9 i10 i11 i12 i13 => (ih _ hlt).2.2.2.2 y1 y2 y3 y4 y5 (Nat.le_refl _) i0 i1 i2 i3 i4 i5 i6 i7 i8 i9 i10 i11 i12 i13
  have hc113 : ∀ (y1 y2 y3 y4 y5 : Int), (((40 - y5) * 1) + 0).toNat ≤ n → 0 ≤ y1 → y1 ≤ 39 → 0 ≤ y2 → y2 ≤ 39 → 0 ≤ y5 → y5 ≤ 39 → y1 = x1 → y2 = x2 → y3 = x3 → (0 ≤ x1 ∧ x1 ≤ 39) → ¬ a0 53 (x1.toNat) = 0 → 0 ≤ y5 → y5 ≤ a0 53 (x1.toNat) → y5 < a0 53 (x1.toNat) → y5 ≤ 39 → (y4 = BN (EST (TRC a0 b0 x1 x2 x3) (fun k => a0 12 (x1.toNat * 40 + k)) (y5.toNat + 1))) → jt (jxX E d 150 113 [some (.inr (.inr (.inl 11))), some (.inl y1), some (.inl y2), some (.inl y3), some (.inl y4), some (.inl y5), none, none, none] [] (jxSH, a0, b0)) (jQ_X10_isMet x1 x2 x3 a0 b0) := by
    intro y1 y2 y3 y4 y5 hm hi0 hi1 hi2 hi3 hi4 hi5 hi6 hi7 hi8 hi9 hi10 hi11 hi12 hi13 hi14 hb
    refine jt_eq (bq_X10_isMet_113 E d y1 y2 y3 y4 y5 a0 b0) ?_
    have h204_ := iv_get hv0 (k := 53) (j := x1.toNat) (l := 0) (u := 40) rfl
    have h205_ : jxw (y5 + 1) = y5 + 1 := jxw_id (by omega) (by omega)
    exact ih39 y1 y2 y3 y4 (jxw (y5 + 1)) (show (((40 - (jxw (y5 + 1))) * 1) + 0).toNat < n from by omega) (show 0 ≤ y1 from by omega) (show y1 ≤ 39 from by omega) (show 0 ≤ y2 from by omega) (show y2 ≤ 39 from by omega) (show 0 ≤ jxw (y5 + 1) from by omega) (show jxw (y5 + 1) ≤ 40 from by omega) (show y1 = x1 from by omega) (show y2 = x2 from by omega) (show y3 = x3 from by omega) (show (0 ≤ x1 ∧ x1 ≤ 39) from by omega) (show ¬ a0 53 (x1.toNat) = 0 from by omega) (show 0 ≤ jxw (y5 + 1) from by omega) (show jxw (y5 + 1) ≤ a0 53 (x1.toNat) from by omega) (by rw [show (jxw (y5 + 1)).toNat = y5.toNat + 1 from by omega]; exact hb)
  have hc132 : ∀ (y1 y2 y3 y4 y5 : Int), (((40 - y5) * 1) + 0).toNat ≤ n → 0 ≤ y1 → y1 ≤ 39 → 0 ≤ y2 → y2 ≤ 39 → 0 ≤ y5 → y5 ≤ 39 → y1 = x1 → y2 = x2 → y3 = x3 → (0 ≤ x1 ∧ x1 ≤ 39) → ¬ a0 53 (x1.toNat) = 0 → 0 ≤ y5 → y5 ≤ a0 53 (x1.toNat) → y5 < a0 53 (x1.toNat) → y5 ≤ 39 → (y4 = BN (EST (TRC a0 b0 x1 x2 x3) (fun k => a0 12 (x1.toNat * 40 + k)) (y5.toNat + 1))) → jt (jxX E d 150 132 [some (.inr (.inr (.inl 11))), some (.inl y1), some (.inl y2), some (.inl y3), some (.inl y4), some (.inl y5), none, none, none] [] (jxSH, a0, b0)) (jQ_X10_isMet x1 x2 x3 a0 b0) := by
    intro y1 y2 y3 y4 y5 hm hi0 hi1 hi2 hi3 hi4 hi5 hi6 hi7 hi8 hi9 hi10 hi11 hi12 hi13 hi14 hb
    refine jt_eq (bq_X10_isMet_132 E d y1 y2 y3 y4 y5 a0 b0) ?_
    have h206_ := iv_get hv0 (k := 53) (j := x1.toNat) (l := 0) (u := 40) rfl
    have h207_ : jxw (y5 + 1) = y5 + 1 := jxw_id (by omega) (by omega)
    exact ih39 y1 y2 y3 y4 (jxw (y5 + 1)) (show (((40 - (jxw (y5 + 1))) * 1) + 0).toNat < n from by omega) (show 0 ≤ y1 from by omega) (show y1 ≤ 39 from by omega) (show 0 ≤ y2 from by omega) (show y2 ≤ 39 from by omega) (show 0 ≤ jxw (y5 + 1) from by omega) (show jxw (y5 + 1) ≤ 40 from by omega) (show y1 = x1 from by omega) (show y2 = x2 from by omega) (show y3 = x3 from by omega) (show (0 ≤ x1 ∧ x1 ≤ 39) from by omega) (show ¬ a0 53 (x1.toNat) = 0 from by omega) (show 0 ≤ jxw (y5 + 1) from by omega) (show jxw (y5 + 1) ≤ a0 53 (x1.toNat) from by omega) (by rw [show (jxw (y5 + 1)).toNat = y5.toNat + 1 from by omega]; exact hb)
  have hc159 : ∀ (y1 y2 y3 y4 y5 y8 : Int), (((40 - y5) * 1) + 0).toNat ≤ n → 0 ≤ y1 → y1 ≤ 39 → 0 ≤ y2 → y2 ≤ 39 → 0 ≤ y5 → y5 ≤ 39 → 0 ≤ y8 → y8 ≤ 1 → y1 = x1 → y2 = x2 → y3 = x3 → (0 ≤ x1 ∧ x1 ≤ 39) → ¬ a0 53 (x1.toNat) = 0 → 0 ≤ y5 → y5 ≤ a0 53 (x1.toNat) → y5 < a0 53 (x1.toNat) → y5 ≤ 39 → (jxor (jxshl y4 1) (if y8 = 0 then 0 else 1) = BN (EST (TRC a0 b0 x1 x2 x3) (fun k => a0 12 (x1.toNat * 40 + k)) (y5.toNat + 1))) → jt (jxX E d 150 159 [some (.inr (.inr (.inl 11))), some (.inl y1), some (.inl y2), some (.inl y3), some (.inl y4), some (.inl y5), none, none, some (.inl y8)] [] (jxSH, a0, b0)) (jQ_X10_isMet x1 x2 x3 a0 b0) := by
    intro y1 y2 y3 y4 y5 y8 hm hi0 hi1 hi2 hi3 hi4 hi5 hi6 hi7 hi8 hi9 hi10 hi11 hi12 hi13 hi14 hi15 hi16 hb2
    refine jt_eq (bq_X10_isMet_159 E d y1 y2 y3 y4 y5 y8 a0 b0) ?_
    have h208_ := iv_get hv0 (k := 53) (j := x1.toNat) (l := 0) (u := 40) rfl
    refine jt_ite (fun c209_ => ?_) (fun c209_ => ?_)
    ·
      have h210_ : jxw (y5 + 1) = y5 + 1 := jxw_id (by omega) (by omega)
      have h211_ := jxor_b (jxshl y4 1) 0
      exact ih39 y1 y2 y3 (jxor (jxshl y4 1) 0) (jxw (y5 + 1)) (show (((40 - (jxw (y5 + 1))) * 1) + 0).toNat < n from by omega) (show 0 ≤ y1 from by omega) (show y1 ≤ 39 from by omega) (show 0 ≤ y2 from by omega) (show y2 ≤ 39 from by omega) (show 0 ≤ jxw (y5 + 1) from by omega) (show jxw (y5 + 1) ≤ 40 from by omega) (show y1 = x1 from by omega) (show y2 = x2 from by omega) (show y3 = x3 from by omega) (show (0 ≤ x1 ∧ x1 ≤ 39) from by omega) (show ¬ a0 53 (x1.toNat) = 0 from by omega) (show 0 ≤ jxw (y5 + 1) from by omega) (show jxw (y5 + 1) ≤ a0 53 (x1.toNat) from by omega) (by rw [show (jxw (y5 + 1)).toNat = y5.toNat + 1 from by omega]; have q := hb2; first | (rw [if_pos (by omega)] at q; exact q) | (rw [if_neg (by omega)] at q; exact q))
    ·
      have h212_ : jxw (y5 + 1) = y5 + 1 := jxw_id (by omega) (by omega)
      have h213_ := jxor_b (jxshl y4 1) 1
      exact ih39 y1 y2 y3 (jxor (jxshl y4 1) 1) (jxw (y5 + 1)) (show (((40 - (jxw (y5 + 1))) * 1) + 0).toNat < n from by omega) (show 0 ≤ y1 from by omega) (show y1 ≤ 39 from by omega) (show 0 ≤ y2 from by omega) (show y2 ≤ 39 from by omega) (show 0 ≤ jxw (y5 + 1) from by omega) (show jxw (y5 + 1) ≤ 40 from by omega) (show y1 = x1 from by omega) (show y2 = x2 from by omega) (show y3 = x3 from by omega) (show (0 ≤ x1 ∧ x1 ≤ 39) from by omega) (show ¬ a0 53 (x1.toNat) = 0 from by omega) (show 0 ≤ jxw (y5 + 1) from by omega) (show jxw (y5 + 1) ≤ a0 53 (x1.toNat) from by omega) (by rw [show (jxw (y5 + 1)).toNat = y5.toNat + 1 from by omega]; have q := hb2; first | (rw [if_pos (by omega)] at q; exact q) | (rw [if_neg (by omega)] at q; exact q))
  have hc72 : ∀ (y1 y2 y3 y4 y5 y6 : Int), (((40 - y5) * 1) + 0).toNat ≤ n → 0 ≤ y1 → y1 ≤ 39 → 0 ≤ y2 → y2 ≤ 39 → 0 ≤ y5 → y5 ≤ 39 → y1 = x1 → y2 = x2 → y3 = x3 → (0 ≤ x1 ∧ x1 ≤ 39) → ¬ a0 53 (x1.toNat) = 0 → 0 ≤ y5 → y5 ≤ a0 53 (x1.toNat) → y5 < a0 53 (x1.toNat) → y5 ≤ 39 → (y4 = BN (EST (TRC a0 b0 x1 x2 x3) (fun k => a0 12 (x1.toNat * 40 + k)) y5.toNat)) → (y6 = jxw (Int.tdiv (a0 12 (x1.toNat * 40 + y5.toNat)) 1000)) → jt (jxX E d 150 72 [some (.inr (.inr (.inl 11))), some (.inl y1), some (.inl y2), some (.inl y3), some (.inl y4), some (.inl y5), some (.inl y6), none, none] [] (jxSH, a0, b0)) (jQ_X10_isMet x1 x2 x3 a0 b0) := by
    intro y1 y2 y3 y4 y5 y6 hm hi0 hi1 hi2 hi3 hi4 hi5 hi6 hi7 hi8 hi9 hi10 hi11 hi12 hi13 hi14 hb hy6
    refine jt_eq (bq_X10_isMet_72 E d y1 y2 y3 y4 y5 y6 a0 b0) ?_
    have h214_ := iv_get hv0 (k := 53) (j := x1.toNat) (l := 0) (u := 40) rfl
    have hwf := (WISHR_at hp0 (x := x1) (by omega) (by omega)).1
    have him := IMC (t := TRC a0 b0 x1 x2 x3) (f := fun k => a0 12 (x1.toNat * 40 + k)) (n := (a0 53 x1.toNat).toNat) (v := a0 12 (x1.toNat * 40 + y5.toNat)) (TRC_b a0 b0 x1 x2 x3) hwf (by omega) (by omega) rfl hy6 hb
    refine jt_ite (fun c215_ => ?_) (fun c215_ => ?_)
    ·
      have h216_ : jxw (y5 + 1) = y5 + 1 := jxw_id (by omega) (by omega)
      have h217_ := jxxor_b y4 1
      exact ih39 y1 y2 y3 (jxxor y4 1) (jxw (y5 + 1)) (show (((40 - (jxw (y5 + 1))) * 1) + 0).toNat < n from by omega) (show 0 ≤ y1 from by omega) (show y1 ≤ 39 from by omega) (show 0 ≤ y2 from by omega) (show y2 ≤ 39 from by omega) (show 0 ≤ jxw (y5 + 1) from by omega) (show jxw (y5 + 1) ≤ 40 from by omega) (show y1 = x1 from by omega) (show y2 = x2 from by omega) (show y3 = x3 from by omega) (show (0 ≤ x1 ∧ x1 ≤ 39) from by omega) (show ¬ a0 53 (x1.toNat) = 0 from by omega) (show 0 ≤ jxw (y5 + 1) from by omega) (show jxw (y5 + 1) ≤ a0 53 (x1.toNat) from by omega) (by rw [show (jxw (y5 + 1)).toNat = y5.toNat + 1 from by omega]; exact him.1 (by omega))
    ·
      refine jt_ite (fun c218_ => ?_) (fun c218_ => ?_)
      ·
        have h219_ := jxshr_b y4 1
        have h220_ := jxand_r y4 1 (by decide) (by decide)
        have h221_ := jxor_b (jxand y4 1) (-2)
        have h222_ := jxand_b (jxshr y4 1) (jxor (jxand y4 1) (-2))
        exact hc113 y1 y2 y3 (jxand (jxshr y4 1) (jxor (jxand y4 1) (-2))) y5 (show (((40 - y5) * 1) + 0).toNat ≤ n from by omega) (show 0 ≤ y1 from by omega) (show y1 ≤ 39 from by omega) (show 0 ≤ y2 from by omega) (show y2 ≤ 39 from by omega) (show 0 ≤ y5 from by omega) (show y5 ≤ 39 from by omega) (show y1 = x1 from by omega) (show y2 = x2 from by omega) (show y3 = x3 from by omega) (show (0 ≤ x1 ∧ x1 ≤ 39) from by omega) (show ¬ a0 53 (x1.toNat) = 0 from by omega) (show 0 ≤ y5 from by omega) (show y5 ≤ a0 53 (x1.toNat) from by omega) (show y5 < a0 53 (x1.toNat) from by omega) (show y5 ≤ 39 from by omega) (him.2.1 (by omega))
      ·
        refine jt_ite (fun c223_ => ?_) (fun c223_ => ?_)
        ·
          have h224_ := jxshr_b y4 1
          have h225_ := jxand_r y4 1 (by decide) (by decide)
          have h226_ := jxor_b (jxshr y4 1) (jxand y4 1)
          exact hc132 y1 y2 y3 (jxor (jxshr y4 1) (jxand y4 1)) y5 (show (((40 - y5) * 1) + 0).toNat ≤ n from by omega) (show 0 ≤ y1 from by omega) (show y1 ≤ 39 from by omega) (show 0 ≤ y2 from by omega) (show y2 ≤ 39 from by omega) (show 0 ≤ y5 from by omega) (show y5 ≤ 39 from by omega) (show y1 = x1 from by omega) (show y2 = x2 from by omega) (show y3 = x3 from by omega) (show (0 ≤ x1 ∧ x1 ≤ 39) from by omega) (show ¬ a0 53 (x1.toNat) = 0 from by omega) (show 0 ≤ y5 from by omega) (show y5 ≤ a0 53 (x1.toNat) from by omega) (show y5 < a0 53 (x1.toNat) from by omega) (show y5 ≤ 39 from by omega) (him.2.2.1 (by omega))
        ·
          refine jt_grd (by omega) ?_
          refine jt_grd (by omega) ?_
          refine jt_grd (by omega) ?_
          refine jt_eI (eq_X10_holdsAtom E d (jd_le hd rfl) y6 (jxw (Int.tmod (a0 12 ((y1.toNat) * 40 + (y5.toNat))) 1000)) y1 y2 y3 a0 b0) ?_
          have h227_ := jx_tm (a0 12 ((y1.toNat) * 40 + (y5.toNat))) 1000
          have h228_ := jx_tmr (a0 12 ((y1.toNat) * 40 + (y5.toNat))) 1000 (by decide)
          have h229_ : jxw (Int.tmod (a0 12 ((y1.toNat) * 40 + (y5.toNat))) 1000) = Int.tmod (a0 12 ((y1.toNat) * 40 + (y5.toNat))) 1000 := jxw_id (by omega) (by omega)
          have h230_ := f_X10_holdsAtom_bool a0 b0 y6 (jxw (Int.tmod (a0 12 ((y1.toNat) * 40 + (y5.toNat))) 1000)) y1 y2 y3
          exact hc159 y1 y2 y3 y4 y5 (f_X10_holdsAtom a0 b0 y6 (jxw (Int.tmod (a0 12 ((y1.toNat) * 40 + (y5.toNat))) 1000)) y1 y2 y3) (show (((40 - y5) * 1) + 0).toNat ≤ n from by omega) (show 0 ≤ y1 from by omega) (show y1 ≤ 39 from by omega) (show 0 ≤ y2 from by omega) (show y2 ≤ 39 from by omega) (show 0 ≤ y5 from by omega) (show y5 ≤ 39 from by omega) (show 0 ≤ f_X10_holdsAtom a0 b0 y6 (jxw (Int.tmod (a0 12 ((y1.toNat) * 40 + (y5.toNat))) 1000)) y1 y2 y3 from by omega) (show f_X10_holdsAtom a0 b0 y6 (jxw (Int.tmod (a0 12 ((y1.toNat) * 40 + (y5.toNat))) 1000)) y1 y2 y3 ≤ 1 from by omega) (show y1 = x1 from by omega) (show y2 = x2 from by omega) (show y3 = x3 from by omega) (show (0 ≤ x1 ∧ x1 ≤ 39) from by omega) (show ¬ a0 53 (x1.toNat) = 0 from by omega) (show 0 ≤ y5 from by omega) (show y5 ≤ a0 53 (x1.toNat) from by omega) (show y5 < a0 53 (x1.toNat) from by omega) (show y5 ≤ 39 from by omega) (by have q := him.2.2.2 (by omega) (by omega) (by omega); unfold TRC at q; rw [← hy6] at q; rw [show y1 = x1 from by omega, show y2 = x2 from by omega, show y3 = x3 from by omega]; exact q)
  have hc39 : ∀ (y1 y2 y3 y4 y5 : Int), (((40 - y5) * 1) + 0).toNat ≤ n → 0 ≤ y1 → y1 ≤ 39 → 0 ≤ y2 → y2 ≤ 39 → 0 ≤ y5 → y5 ≤ 40 → y1 = x1 → y2 = x2 → y3 = x3 → (0 ≤ x1 ∧ x1 ≤ 39) → ¬ a0 53 (x1.toNat) = 0 → 0 ≤ y5 → y5 ≤ a0 53 (x1.toNat) → (y4 = BN (EST (TRC a0 b0 x1 x2 x3) (fun k => a0 12 (x1.toNat * 40 + k)) y5.toNat)) → jt (jxX E d 150 39 [some (.inr (.inr (.inl 11))), some (.inl y1), some (.inl y2), some (.inl y3), some (.inl y4), some (.inl y5), none, none, none] [] (jxSH, a0, b0)) (jQ_X10_isMet x1 x2 x3 a0 b0) := by
    intro y1 y2 y3 y4 y5 hm hi0 hi1 hi2 hi3 hi4 hi5 hi6 hi7 hi8 hi9 hi10 hi11 hi12 hb
    refine jt_eq (bq_X10_isMet_39 E d y1 y2 y3 y4 y5 a0 b0) ?_
    have h231_ := iv_get hv0 (k := 53) (j := x1.toNat) (l := 0) (u := 40) rfl
    have e53 : a0 53 (y1.toNat) = a0 53 (x1.toNat) := by rw [show y1 = x1 from by omega]
    refine jt_grd (by omega) ?_
    have h232_ := iv_get hv0 (k := 53) (j := y1.toNat) (l := 0) (u := 40) rfl
    refine jt_ite (fun c233_ => ?_) (fun c233_ => ?_)
    ·
      refine jt_ite (fun c234_ => ?_) (fun c234_ => ?_)
      ·
        refine jt_grd (by omega) ?_
        refine jt_grd (by omega) ?_
        refine jt_grd (by omega) ?_
        have h235_ := jx_td (a0 12 ((y1.toNat) * 40 + (y5.toNat))) 1000
        have h236_ := jx_tdr (a0 12 ((y1.toNat) * 40 + (y5.toNat))) 1000 (by decide)
        have h237_ := jxw_im (Int.tdiv (a0 12 ((y1.toNat) * 40 + (y5.toNat))) 1000)
        have h238_ := jxw_rg (Int.tdiv (a0 12 ((y1.toNat) * 40 + (y5.toNat))) 1000)
        exact hc72 y1 y2 y3 y4 y5 (jxw (Int.tdiv (a0 12 ((y1.toNat) * 40 + (y5.toNat))) 1000)) (show (((40 - y5) * 1) + 0).toNat ≤ n from by omega) (show 0 ≤ y1 from by omega) (show y1 ≤ 39 from by omega) (show 0 ≤ y2 from by omega) (show y2 ≤ 39 from by omega) (show 0 ≤ y5 from by omega) (show y5 ≤ 39 from by omega) (show y1 = x1 from by omega) (show y2 = x2 from by omega) (show y3 = x3 from by omega) (show (0 ≤ x1 ∧ x1 ≤ 39) from by omega) (show ¬ a0 53 (x1.toNat) = 0 from by omega) (show 0 ≤ y5 from by omega) (show y5 ≤ a0 53 (x1.toNat) from by omega) (show y5 < a0 53 (x1.toNat) from by omega) (show y5 ≤ 39 from by omega) hb (by rw [show y1 = x1 from by omega])
      ·
        exact cp_X10_isMet_182 E d hd x1 x2 x3 a0 b0 hv0 hp0 y4 (show (0 ≤ x1 ∧ x1 ≤ 39) from by omega) (show ¬ a0 53 (x1.toNat) = 0 from by omega) (by have i53 := iv_get hv0 (k := 53) (j := x1.toNat) (l := 0) (u := 40) rfl; rw [show (a0 53 x1.toNat).toNat = y5.toNat from by omega]; exact hb)
    ·
      exact cp_X10_isMet_182 E d hd x1 x2 x3 a0 b0 hv0 hp0 y4 (show (0 ≤ x1 ∧ x1 ≤ 39) from by omega) (show ¬ a0 53 (x1.toNat) = 0 from by omega) (by have i53 := iv_get hv0 (k := 53) (j := x1.toNat) (l := 0) (u := 40) rfl; rw [show (a0 53 x1.toNat).toNat = y5.toNat from by omega]; exact hb)
  exact ⟨hc113, hc132, hc159, hc72, hc39⟩
theorem cp_X10_isMet_33 (E : jxE) (d : Nat) (hd : Nat.ble 5 (d + 1) = true) (x1 x2 x3 : Int) (a0 b0 : Nat → Nat → Int) (hv0 : iv a0) (hp0 : WISHR a0) : ∀ (y1 y2 y3 : Int), 0 ≤ y1 → y1 ≤ 39 → 0 ≤ y2 → y2 ≤ 39 → y1 = x1 → y2 = x2 → y3 = x3 → (0 ≤ x1 ∧ x1 ≤ 39) → ¬ a0 53 (x1.toNat) = 0 → jt (jxX E d 150 33 [some (.inr (.inr (.inl 11))), some (.inl y1), some (.inl y2), some (.inl y3), none, none, none, none, none] [] (jxSH, a0, b0)) (jQ_X10_isMet x1 x2 x3 a0 b0) := by
  intro y1 y2 y3 hi0 hi1 hi2 hi3 hi4 hi5 hi6 hi7 hi8
  refine jt_eq (bq_X10_isMet_33 E d y1 y2 y3 a0 b0) ?_
  have h239_ := iv_get hv0 (k := 53) (j := x1.toNat) (l := 0) (u := 40) rfl
  exact (cp_X10_isMet_39 E d hd x1 x2 x3 a0 b0 hv0 hp0 _).2.2.2.2 y1 y2 y3 0 0 (Nat.le_refl _) (show 0 ≤ y1 from by omega) (show y1 ≤ 39 from by omega) (show 0 ≤ y2 from by omega) (show y2 ≤ 39 from by omega) (show 0 ≤ 0 from by omega) (show 0 ≤ 40 from by omega) (show y1 = x1 from by omega) (show y2 = x2 from by omega) (show y3 = x3 from by omega) (show (0 ≤ x1 ∧ x1 ≤ 39) from by omega) (show ¬ a0 53 (x1.toNat) = 0 from by omega) (show 0 ≤ 0 from by omega) (show 0 ≤ a0 53 (x1.toNat) from by omega) rfl
theorem sp_X10_isMet (E : jxE) (d : Nat) (hd : Nat.ble 5 d = true) (x1 x2 x3 : Int) (a0 b0 : Nat → Nat → Int) (hv0 : iv a0) (hp0 : WISHR a0) : jt (jxC E d 150 [.inr (.inr (.inl 11)), .inl x1, .inl x2, .inl x3] (jxSH, a0, b0)) (jQ_X10_isMet x1 x2 x3 a0 b0) := by
  obtain ⟨d, rfl⟩ := jd_succ hd
  refine jt_eq (bq_X10_isMet E d x1 x2 x3 a0 b0) ?_
  refine jt_eI (eq_X3_has E d (jd_le hd rfl) x1 a0 b0) ?_
  have h240_ := f_X3_has_eq a0 b0 x1
  have h241_ := iv_get hv0 (k := 4) (j := 6) (l := 0) (u := 40) rfl
  refine jt_ite (fun c242_ => ?_) (fun c242_ => ?_)
  ·
    exact cp_X10_isMet_31 E d hd x1 x2 x3 a0 b0 hv0 hp0 (fun h1 h2 h3 h4 => by omega)
  ·
    refine jt_eI (eq_X3_has E d (jd_le hd rfl) x2 a0 b0) ?_
    have h243_ := f_X3_has_eq a0 b0 x2
    refine jt_ite (fun c244_ => ?_) (fun c244_ => ?_)
    ·
      exact cp_X10_isMet_31 E d hd x1 x2 x3 a0 b0 hv0 hp0 (fun h1 h2 h3 h4 => by omega)
    ·
      refine jt_grd (by omega) ?_
      have h245_ := iv_get hv0 (k := 53) (j := x1.toNat) (l := 0) (u := 40) rfl
      refine jt_ite (fun c246_ => ?_) (fun c246_ => ?_)
      ·
        exact cp_X10_isMet_31 E d hd x1 x2 x3 a0 b0 hv0 hp0 (fun h1 h2 h3 h4 => by omega)
      ·
        exact cp_X10_isMet_33 E d hd x1 x2 x3 a0 b0 hv0 hp0 x1 x2 x3 (show 0 ≤ x1 from by omega) (show x1 ≤ 39 from by omega) (show 0 ≤ x2 from by omega) (show x2 ≤ 39 from by omega) (show x1 = x1 from by omega) (show x2 = x2 from by omega) (show x3 = x3 from by omega) (show (0 ≤ x1 ∧ x1 ≤ 39) from by omega) (show ¬ a0 53 (x1.toNat) = 0 from by omega)
def jW_X10_keepDraft : List (Nat × Nat) := [(12, 9999), (53, 9999)]
abbrev jQ_X10_keepDraft (x1 : Int) (a0 b0 : Nat → Nat → Int) : List jxV → (Nat → Nat → Int) → (Nat → Nat → Int) → Prop := rV (fun a b => (iv a) ∧ (jfr jW_X10_keepDraft a0 a) ∧ (b0 = b) ∧ (0 ≤ x1 → x1 < a0 4 6 → x1 < 40 → UP (a0 53) (a 53) x1.toNat (a0 11 6) ∧ (∀ k : Nat, (k : Int) < a0 11 6 → a 12 (x1.toNat * 40 + k) = a0 54 k) ∧ ∀ j : Nat, (j < x1.toNat * 40 ∨ x1.toNat * 40 + 40 ≤ j) → a 12 j = a0 12 j))
theorem cp_X10_keepDraft_14 (E : jxE) (d : Nat) (hd : Nat.ble 2 (d + 1) = true) (x1 : Int) (a0 b0 : Nat → Nat → Int) (hv0 : iv a0) : ∀ n : Nat, (∀ (y1 y2 : Int) (a : Nat → Nat → Int), (((40 - y2) * 1) + 0).toNat ≤ n → iv a → jfr jW_X10_keepDraft a0 a → 0 ≤ y1 → y1 ≤ 39 → 0 ≤ y2 → y2 ≤ 39 → 1 ≤ a 11 6 → y1 = x1 → 0 ≤ y2 → (∀ j, a 53 j = a0 53 j) → (∀ k : Nat, (k : Int) < y2 + 1 → a 12 (x1.toNat * 40 + k) = a0 54 k) → (∀ j : Nat, (j < x1.toNat * 40 ∨ x1.toNat * 40 + 40 ≤ j) → a 12 j = a0 12 j) → jt (jxX E d 142 36 [some (.inr (.inr (.inl 11))), some (.inl y1), some (.inl y2)] [] (jxSH, a, b0)) (jQ_X10_keepDraft x1 a0 b0)) ∧ (∀ (y1 y2 : Int) (a : Nat → Nat → Int), (((40 - y2) * 1) + 0).toNat ≤ n → iv a → jfr jW_X10_keepDraft a0 a → 0 ≤ y1 → y1 ≤ 39 → 0 ≤ y2 → y2 ≤ 40 → y1 = x1 → 0 ≤ y2 → (∀ j, a 53 j = a0 53 j) → (∀ k : Nat, (k : Int) < y2 → a 12 (x1.toNat * 40 + k) = a0 54 k) → (∀ j : Nat, (j < x1.toNat * 40 ∨ x1.toNat * 40 + 40 ≤ j) → a 12 j = a0 12 j) → jt (jxX E d 142 14 [some (.inr (.inr (.inl 11))), some (.inl y1), some (.inl y2)] [] (jxSH, a, b0)) (jQ_X10_keepDraft x1 a0 b0)) := by
  refine jx_ind fun n ih => ?_
  have ih36 : ∀ (y1 y2 : Int) (a : Nat → Nat → Int), (((40 - y2) * 1) + 0).toNat < n → iv a → jfr jW_X10_keepDraft a0 a → 0 ≤ y1 → y1 ≤ 39 → 0 ≤ y2 → y2 ≤ 39 → 1 ≤ a 11 6 → y1 = x1 → 0 ≤ y2 → (∀ j, a 53 j = a0 53 j) → (∀ k : Nat, (k : Int) < y2 + 1 → a 12 (x1.toNat * 40 + k) = a0 54 k) → (∀ j : Nat, (j < x1.toNat * 40 ∨ x1.toNat * 40 + 40 ≤ j) → a 12 j = a0 12 j) → jt (jxX E d 142 36 [some (.inr (.inr (.inl 11))), some (.inl y1), some (.inl y2)] [] (jxSH, a, b0)) (jQ_X10_keepDraft x1 a0 b0) := fun y1 y2 a hlt i0 i1 i2 i3 i4 i5 i6 i7 i8 i9 i10 i11 => (ih _ hlt).1 y1 y2 a (Nat.le_refl _) i0 i1 i2 i3 i4 i5 i6 i7 i8 i9 i10 i11
  have ih14 : ∀ (y1 y2 : Int) (a : Nat → Nat → Int), (((40 - y2) * 1) + 0).toNat < n → iv a → jfr jW_X10_keepDraft a0 a → 0 ≤ y1 → y1 ≤ 39 → 0 ≤ y2 → y2 ≤ 40 → y1 = x1 → 0 ≤ y2 → (∀ j, a 53 j = a0 53 j) → (∀ k : Nat, (k : Int) < y2 → a 12 (x1.toNat * 40 + k) = a0 54 k) → (∀ j : Nat, (j < x1.toNat * 40 ∨ x1.toNat * 40 + 40 ≤ j) → a 12 j = a0 12 j) → jt (jxX E d 142 14 [some (.inr (.inr (.inl 11))), some (.inl y1), some (.inl y2)] [] (jxSH, a, b0)) (jQ_X10_keepDraft x1 a0 b0) := fun y1 y2 a hlt i0 i1 i2 i3 i4 i5 i6 i7 i8 i9 i10 => (ih _ hlt).2 y1 y2 a (Nat.le_refl _) i0 i1 i2 i3 i4 i5 i6 i7 i8 i9 i10
  have hc36 : ∀ (y1 y2 : Int) (a : Nat → Nat → Int), (((40 - y2) * 1) + 0).toNat ≤ n → iv a → jfr jW_X10_keepDraft a0 a → 0 ≤ y1 → y1 ≤ 39 → 0 ≤ y2 → y2 ≤ 39 → 1 ≤ a 11 6 → y1 = x1 → 0 ≤ y2 → (∀ j, a 53 j = a0 53 j) → (∀ k : Nat, (k : Int) < y2 + 1 → a 12 (x1.toNat * 40 + k) = a0 54 k) → (∀ j : Nat, (j < x1.toNat * 40 ∨ x1.toNat * 40 + 40 ≤ j) → a 12 j = a0 12 j) → jt (jxX E d 142 36 [some (.inr (.inr (.inl 11))), some (.inl y1), some (.inl y2)] [] (jxSH, a, b0)) (jQ_X10_keepDraft x1 a0 b0) := by
    intro y1 y2 a hm hv hf hi0 hi1 hi2 hi3 hi4 hi5 hi6 hs53 hk ho
    refine jt_eq (bq_X10_keepDraft_36 E d y1 y2 a b0) ?_
    have h247_ := iv_get hv (k := 11) (j := 6) (l := 0) (u := 40) rfl
    have h248_ : a 11 6 = a0 11 6 := hf 11 6 rfl
    have h249_ := iv_get hv0 (k := 11) (j := 6) (l := 0) (u := 40) rfl
    have h250_ : jxw (y2 + 1) = y2 + 1 := jxw_id (by omega) (by omega)
    exact ih14 y1 (jxw (y2 + 1)) a (show (((40 - (jxw (y2 + 1))) * 1) + 0).toNat < n from by omega) hv hf (show 0 ≤ y1 from by omega) (show y1 ≤ 39 from by omega) (show 0 ≤ jxw (y2 + 1) from by omega) (show jxw (y2 + 1) ≤ 40 from by omega) (show y1 = x1 from by omega) (show 0 ≤ jxw (y2 + 1) from by omega) (fun j => (rfl).trans (hs53 j)) (by first | exact (fun k h => absurd h (by omega)) | exact (fun k h => hk k (by omega))) (by first | exact ho | exact (fun _ _ => rfl))
  have hc14 : ∀ (y1 y2 : Int) (a : Nat → Nat → Int), (((40 - y2) * 1) + 0).toNat ≤ n → iv a → jfr jW_X10_keepDraft a0 a → 0 ≤ y1 → y1 ≤ 39 → 0 ≤ y2 → y2 ≤ 40 → y1 = x1 → 0 ≤ y2 → (∀ j, a 53 j = a0 53 j) → (∀ k : Nat, (k : Int) < y2 → a 12 (x1.toNat * 40 + k) = a0 54 k) → (∀ j : Nat, (j < x1.toNat * 40 ∨ x1.toNat * 40 + 40 ≤ j) → a 12 j = a0 12 j) → jt (jxX E d 142 14 [some (.inr (.inr (.inl 11))), some (.inl y1), some (.inl y2)] [] (jxSH, a, b0)) (jQ_X10_keepDraft x1 a0 b0) := by
    intro y1 y2 a hm hv hf hi0 hi1 hi2 hi3 hi4 hi5 hs53 hk ho
    refine jt_eq (bq_X10_keepDraft_14 E d y1 y2 a b0) ?_
    have h251_ := iv_get hv (k := 11) (j := 6) (l := 0) (u := 40) rfl
    have h252_ : a 11 6 = a0 11 6 := hf 11 6 rfl
    have h253_ := iv_get hv0 (k := 11) (j := 6) (l := 0) (u := 40) rfl
    refine jt_ite (fun c254_ => ?_) (fun c254_ => ?_)
    ·
      refine jt_grd (by omega) ?_
      refine jt_grd (by omega) ?_
      refine jt_grd (by omega) ?_
      refine jt_grd (by omega) ?_
      have hv255_ : iv (jxu a 12 ((y1.toNat) * 40 + (y2.toNat)) (a 54 (y2.toNat))) := iv_putf hv rfl
      have hf256_ : jfr jW_X10_keepDraft a0 (jxu a 12 ((y1.toNat) * 40 + (y2.toNat)) (a 54 (y2.toNat))) := jfr_put hf rfl
      exact hc36 y1 y2 (jxu a 12 ((y1.toNat) * 40 + (y2.toNat)) (a 54 (y2.toNat))) (show (((40 - y2) * 1) + 0).toNat ≤ n from by omega) hv255_ hf256_ (show 0 ≤ y1 from by omega) (show y1 ≤ 39 from by omega) (show 0 ≤ y2 from by omega) (show y2 ≤ 39 from by omega) (show 1 ≤ a 11 6 from by omega) (show y1 = x1 from by omega) (show 0 ≤ y2 from by omega) (fun j => (rfl).trans (hs53 j)) (by intro k h; show (if x1.toNat * 40 + k = (y1.toNat) * 40 + (y2.toNat) then a 54 (y2.toNat) else a 12 (x1.toNat * 40 + k)) = a0 54 k; by_cases e : k = y2.toNat <;> first | (rw [if_pos (by omega), e]; exact hf 54 _ rfl) | (rw [if_neg (by omega)]; exact hk k (by omega))) (by intro j h; show (if j = (y1.toNat) * 40 + (y2.toNat) then a 54 (y2.toNat) else a 12 j) = _; rw [if_neg (by omega)]; exact ho j h)
    ·
      refine jt_grd (by omega) ?_
      have hv257_ : iv (jxu a 53 (y1.toNat) (a 11 6)) := iv_put hv (l := 0) (u := 40) rfl (by omega) (by omega)
      have hf258_ : jfr jW_X10_keepDraft a0 (jxu a 53 (y1.toNat) (a 11 6)) := jfr_put hf rfl
      exact jt_rV ⟨hv257_, hf258_, rfl, (fun _ _ _ => ⟨by rw [show x1.toNat = y1.toNat from by omega, show a0 11 6 = a 11 6 from (hf 11 6 rfl).symm]; exact UP_put hs53, fun k h => hk k (by have e := hf 11 6 rfl; omega), ho⟩)⟩
  exact ⟨hc36, hc14⟩
theorem sp_X10_keepDraft (E : jxE) (d : Nat) (hd : Nat.ble 2 d = true) (x1 : Int) (a0 b0 : Nat → Nat → Int) (hv0 : iv a0) : jt (jxC E d 142 [.inr (.inr (.inl 11)), .inl x1] (jxSH, a0, b0)) (jQ_X10_keepDraft x1 a0 b0) := by
  obtain ⟨d, rfl⟩ := jd_succ hd
  refine jt_eq (bq_X10_keepDraft E d x1 a0 b0) ?_
  refine jt_eI (eq_X3_has E d (jd_le hd rfl) x1 a0 b0) ?_
  have h259_ := f_X3_has_eq a0 b0 x1
  have h260_ := iv_get hv0 (k := 4) (j := 6) (l := 0) (u := 40) rfl
  refine jt_ite (fun c261_ => ?_) (fun c261_ => ?_)
  ·
    exact jt_rV ⟨hv0, (jfr_rf _ _), rfl, (fun h1 h2 h3 => by omega)⟩
  ·
    exact (cp_X10_keepDraft_14 E d hd x1 a0 b0 hv0 _).2 x1 0 a0 (Nat.le_refl _) hv0 (jfr_rf _ _) (show 0 ≤ x1 from by omega) (show x1 ≤ 39 from by omega) (show 0 ≤ 0 from by omega) (show 0 ≤ 40 from by omega) (show x1 = x1 from by omega) (show 0 ≤ 0 from by omega) (fun j => rfl) (by first | exact (fun k h => absurd h (by omega)) | exact (fun k h => hk k (by omega))) (by first | exact ho | exact (fun _ _ => rfl))
def jW_X10_takeAtomWord : List (Nat × Nat) := [(2, 2)]
abbrev jQ_X10_takeAtomWord (a0 b0 : Nat → Nat → Int) : List jxV → (Nat → Nat → Int) → (Nat → Nat → Int) → Prop := rI (fun r a b => (iv a) ∧ (jfr jW_X10_takeAtomWord a0 a) ∧ (b0 = b) ∧ (a0 2 3 = 0 → r = AK (a0 3) (a0 2 1).toNat (a0 2 2).toNat) ∧ (a0 2 3 = 0 → 0 ≤ r → a 2 2 = (AQ (a0 3) (a0 2 1).toNat (a0 2 2).toNat : Int)) ∧ (a0 2 3 = 0 → r < 0 → a 2 2 = a0 2 2) ∧ (¬ a0 2 3 = 0 → r = -1))
theorem cp_X10_takeAtomWord_40 (E : jxE) (d : Nat) (hd : Nat.ble 6 (d + 1) = true) (a0 b0 : Nat → Nat → Int) (hv0 : iv a0) : ∀ (a : Nat → Nat → Int), iv a → jfr jW_X10_takeAtomWord a0 a → a0 2 3 = 0 → (TW (a0 3) (a0 2 1).toNat (a0 2 2).toNat 5) → (a 2 2 = (SK (a0 3) (a0 2 1).toNat ((a0 2 2).toNat + wdn 5) : Int)) → jt (jxX E d 147 40 [none] [] (jxSH, a, b0)) (jQ_X10_takeAtomWord a0 b0) := by
  intro a hv hf hi0 htw hat
  refine jt_eq (bq_X10_takeAtomWord_40 E d a b0) ?_
  have h3 : a 3 = a0 3 := funext fun j => hf 3 j rfl
  have h21 := hf 2 1 rfl
  exact jt_rI ⟨hv, hf, rfl, (fun _ => (AK_w (w := 2) (by decide) htw).symm), (fun _ _ => by rw [AQ_w (w := 2) (by decide) htw]; exact hat), (fun _ h => absurd h (by decide)), (fun h => absurd (by omega) h)⟩
theorem cp_X10_takeAtomWord_82 (E : jxE) (d : Nat) (hd : Nat.ble 6 (d + 1) = true) (a0 b0 : Nat → Nat → Int) (hv0 : iv a0) : ∀ (a : Nat → Nat → Int), iv a → jfr jW_X10_takeAtomWord a0 a → a0 2 3 = 0 → (TW (a0 3) (a0 2 1).toNat (a0 2 2).toNat 8) → (a 2 2 = (SK (a0 3) (a0 2 1).toNat ((a0 2 2).toNat + wdn 8) : Int)) → jt (jxX E d 147 82 [none] [] (jxSH, a, b0)) (jQ_X10_takeAtomWord a0 b0) := by
  intro a hv hf hi0 htw hat
  refine jt_eq (bq_X10_takeAtomWord_82 E d a b0) ?_
  have h3 : a 3 = a0 3 := funext fun j => hf 3 j rfl
  have h21 := hf 2 1 rfl
  exact jt_rI ⟨hv, hf, rfl, (fun _ => (AK_w (w := 5) (by decide) htw).symm), (fun _ _ => by rw [AQ_w (w := 5) (by decide) htw]; exact hat), (fun _ h => absurd h (by decide)), (fun h => absurd (by omega) h)⟩
theorem cp_X10_takeAtomWord_84 (E : jxE) (d : Nat) (hd : Nat.ble 6 (d + 1) = true) (a0 b0 : Nat → Nat → Int) (hv0 : iv a0) : ∀ (a : Nat → Nat → Int), iv a → jfr jW_X10_takeAtomWord a0 a → (a0 2 3 = 0 → (¬ TW (a0 3) (a0 2 1).toNat (a0 2 2).toNat 3 ∧ ¬ TW (a0 3) (a0 2 1).toNat (a0 2 2).toNat 4 ∧ ¬ TW (a0 3) (a0 2 1).toNat (a0 2 2).toNat 5) ∧ ¬ TW (a0 3) (a0 2 1).toNat (a0 2 2).toNat 6 ∧ ¬ TW (a0 3) (a0 2 1).toNat (a0 2 2).toNat 7 ∧ ¬ TW (a0 3) (a0 2 1).toNat (a0 2 2).toNat 8) → a 2 2 = a0 2 2 → a 2 3 = a0 2 3 → jt (jxX E d 147 84 [some (.inr (.inr (.inl 11)))] [] (jxSH, a, b0)) (jQ_X10_takeAtomWord a0 b0) := by
  intro a hv hf hn hi1 hi2
  refine jt_eq (bq_X10_takeAtomWord_84 E d a b0) ?_
  have h262_ := iv_get hv (k := 2) (j := 2) (l := 0) (u := 200) rfl
  have h263_ := iv_get hv0 (k := 2) (j := 2) (l := 0) (u := 200) rfl
  have h264_ : a 2 3 = a0 2 3 := hf 2 3 rfl
  have h3 : a 3 = a0 3 := funext fun j => hf 3 j rfl
  have h21 := hf 2 1 rfl
  refine jt_bI (sp_X8_takesWord_r1007 E d (jd_le hd rfl) a b0 hv) (fun r265_ a265_ b265_ h265_ => ?_)
  obtain ⟨hv265_, hf265_, rfl, hq265_0, hq265_1, hq265_2, hq265_3, hq265_4⟩ := h265_
  have h266_ := iv_get hv (k := 2) (j := 1) (l := 0) (u := 200) rfl
  have h267_ : a 2 1 = a0 2 1 := hf 2 1 rfl
  have h268_ := iv_get hv0 (k := 2) (j := 1) (l := 0) (u := 200) rfl
  have h269_ := iv_get hv265_ (k := 2) (j := 2) (l := 0) (u := 200) rfl
  have hz265 := hf265_ 2 3 rfl
  refine jt_ite (fun c270_ => ?_) (fun c270_ => ?_)
  ·
    have hf271_ : jfr jW_X10_takeAtomWord a0 a265_ := jfr_tr hf hf265_ rfl
    exact jt_rI ⟨hv265_, hf271_, rfl, (fun hz0 => by have n9 := (by have q := (hq265_4 (by omega)).resolve_left (fun h => h (by omega)); rw [show a 3 = a0 3 from funext (fun j => hf 3 j rfl), show a 2 1 = a0 2 1 from hf 2 1 rfl, show a 2 2 = a0 2 2 from by omega] at q; exact q); obtain ⟨⟨n3, n4, n5⟩, n6, n7, n8⟩ := hn hz0; refine (AK_no (fun w hw => ?_)).symm; have hc : w = 0 ∨ w = 1 ∨ w = 2 ∨ w = 3 ∨ w = 4 ∨ w = 5 ∨ w = 6 := (by omega); rcases hc with rfl | rfl | rfl | rfl | rfl | rfl | rfl <;> assumption), (fun _ h => absurd h (by decide)), (fun _ _ => by omega), (fun _ => rfl)⟩
  ·
    have hf272_ : jfr jW_X10_takeAtomWord a0 a265_ := jfr_tr hf hf265_ rfl
    exact jt_rI ⟨hv265_, hf272_, rfl, (fun _ => by have q := (hq265_3 (by omega)).2.1; rw [show a 3 = a0 3 from funext (fun j => hf 3 j rfl), show a 2 1 = a0 2 1 from hf 2 1 rfl, show a 2 2 = a0 2 2 from by omega] at q; exact (AK_w (w := 6) (by decide) q).symm), (fun _ _ => by have q := (hq265_3 (by omega)).2.1; have q2 := (hq265_3 (by omega)).2.2; rw [show a 3 = a0 3 from funext (fun j => hf 3 j rfl), show a 2 1 = a0 2 1 from hf 2 1 rfl, show a 2 2 = a0 2 2 from by omega] at q; rw [show a 3 = a0 3 from funext (fun j => hf 3 j rfl), show a 2 1 = a0 2 1 from hf 2 1 rfl, show a 2 2 = a0 2 2 from by omega] at q2; rw [AQ_w (w := 6) (by decide) q]; exact q2), (fun _ h => absurd h (by decide)), (fun h => absurd (by omega) h)⟩
theorem cp_X10_takeAtomWord_42 (E : jxE) (d : Nat) (hd : Nat.ble 6 (d + 1) = true) (a0 b0 : Nat → Nat → Int) (hv0 : iv a0) : ∀ (a : Nat → Nat → Int), iv a → jfr jW_X10_takeAtomWord a0 a → (a0 2 3 = 0 → ¬ TW (a0 3) (a0 2 1).toNat (a0 2 2).toNat 3 ∧ ¬ TW (a0 3) (a0 2 1).toNat (a0 2 2).toNat 4 ∧ ¬ TW (a0 3) (a0 2 1).toNat (a0 2 2).toNat 5) → a 2 2 = a0 2 2 → a 2 3 = a0 2 3 → jt (jxX E d 147 42 [some (.inr (.inr (.inl 11)))] [] (jxSH, a, b0)) (jQ_X10_takeAtomWord a0 b0) := by
  intro a hv hf hn hi1 hi2
  refine jt_eq (bq_X10_takeAtomWord_42 E d a b0) ?_
  have h273_ := iv_get hv (k := 2) (j := 2) (l := 0) (u := 200) rfl
  have h274_ := iv_get hv0 (k := 2) (j := 2) (l := 0) (u := 200) rfl
  have h275_ : a 2 3 = a0 2 3 := hf 2 3 rfl
  have h3 : a 3 = a0 3 := funext fun j => hf 3 j rfl
  have h21 := hf 2 1 rfl
  refine jt_bI (sp_X8_takesWord_r1004 E d (jd_le hd rfl) a b0 hv) (fun r276_ a276_ b276_ h276_ => ?_)
  obtain ⟨hv276_, hf276_, rfl, hq276_0, hq276_1, hq276_2, hq276_3, hq276_4⟩ := h276_
  have h277_ := iv_get hv (k := 2) (j := 1) (l := 0) (u := 200) rfl
  have h278_ : a 2 1 = a0 2 1 := hf 2 1 rfl
  have h279_ := iv_get hv0 (k := 2) (j := 1) (l := 0) (u := 200) rfl
  have h280_ := iv_get hv276_ (k := 2) (j := 2) (l := 0) (u := 200) rfl
  have hz276 := hf276_ 2 3 rfl
  refine jt_ite (fun c281_ => ?_) (fun c281_ => ?_)
  ·
    refine jt_bI (sp_X8_takesWord_r1005 E d (jd_le hd rfl) a276_ b0 hv276_) (fun r282_ a282_ b282_ h282_ => ?_)
    obtain ⟨hv282_, hf282_, rfl, hq282_0, hq282_1, hq282_2, hq282_3, hq282_4⟩ := h282_
    have h283_ : a276_ 2 3 = a 2 3 := hf276_ 2 3 rfl
    have h284_ := iv_get hv276_ (k := 2) (j := 1) (l := 0) (u := 200) rfl
    have h285_ : a276_ 2 1 = a 2 1 := hf276_ 2 1 rfl
    have h286_ := iv_get hv282_ (k := 2) (j := 2) (l := 0) (u := 200) rfl
    have hz282 := hf282_ 2 3 rfl
    refine jt_ite (fun c287_ => ?_) (fun c287_ => ?_)
    ·
      refine jt_bI (sp_X8_takesWord_r1006 E d (jd_le hd rfl) a282_ b0 hv282_) (fun r288_ a288_ b288_ h288_ => ?_)
      obtain ⟨hv288_, hf288_, rfl, hq288_0, hq288_1, hq288_2, hq288_3, hq288_4⟩ := h288_
      have h289_ : a282_ 2 3 = a276_ 2 3 := hf282_ 2 3 rfl
      have h290_ := iv_get hv282_ (k := 2) (j := 1) (l := 0) (u := 200) rfl
      have h291_ : a282_ 2 1 = a276_ 2 1 := hf282_ 2 1 rfl
      have h292_ := iv_get hv288_ (k := 2) (j := 2) (l := 0) (u := 200) rfl
      have hz288 := hf288_ 2 3 rfl
      refine jt_ite (fun c293_ => ?_) (fun c293_ => ?_)
      ·
        have hf294_ : jfr jW_X10_takeAtomWord a0 a276_ := jfr_tr hf hf276_ rfl
        have hf295_ : jfr jW_X10_takeAtomWord a0 a282_ := jfr_tr hf294_ hf282_ rfl
        have hf296_ : jfr jW_X10_takeAtomWord a0 a288_ := jfr_tr hf295_ hf288_ rfl
        have h297_ : a288_ 2 3 = a282_ 2 3 := hf288_ 2 3 rfl
        exact cp_X10_takeAtomWord_84 E d hd a0 b0 hv0 a288_ hv288_ hf296_ (fun hz0 => ⟨hn hz0, (by have q := (hq276_4 (by omega)).resolve_left (fun h => h (by omega)); rw [show a 3 = a0 3 from funext (fun j => hf 3 j rfl), show a 2 1 = a0 2 1 from hf 2 1 rfl, show a 2 2 = a0 2 2 from by omega] at q; exact q), (by have q := (hq282_4 (by omega)).resolve_left (fun h => h (by omega)); rw [show a276_ 3 = a0 3 from funext (fun j => hf294_ 3 j rfl), show a276_ 2 1 = a0 2 1 from hf294_ 2 1 rfl, show a276_ 2 2 = a0 2 2 from by omega] at q; exact q), (by have q := (hq288_4 (by omega)).resolve_left (fun h => h (by omega)); rw [show a282_ 3 = a0 3 from funext (fun j => hf295_ 3 j rfl), show a282_ 2 1 = a0 2 1 from hf295_ 2 1 rfl, show a282_ 2 2 = a0 2 2 from by omega] at q; exact q)⟩) (show a288_ 2 2 = a0 2 2 from by omega) (show a288_ 2 3 = a0 2 3 from by omega)
      ·
        have hf298_ : jfr jW_X10_takeAtomWord a0 a276_ := jfr_tr hf hf276_ rfl
        have hf299_ : jfr jW_X10_takeAtomWord a0 a282_ := jfr_tr hf298_ hf282_ rfl
        have hf300_ : jfr jW_X10_takeAtomWord a0 a288_ := jfr_tr hf299_ hf288_ rfl
        exact cp_X10_takeAtomWord_82 E d hd a0 b0 hv0 a288_ hv288_ hf300_ (show a0 2 3 = 0 from by omega) (by have q := (hq288_3 (by omega)).2.1; rw [show a282_ 3 = a0 3 from funext (fun j => hf299_ 3 j rfl), show a282_ 2 1 = a0 2 1 from hf299_ 2 1 rfl, show a282_ 2 2 = a0 2 2 from by omega] at q; exact q) (by have q := (hq288_3 (by omega)).2.2; rw [show a282_ 3 = a0 3 from funext (fun j => hf299_ 3 j rfl), show a282_ 2 1 = a0 2 1 from hf299_ 2 1 rfl, show a282_ 2 2 = a0 2 2 from by omega] at q; exact q)
    ·
      have hf301_ : jfr jW_X10_takeAtomWord a0 a276_ := jfr_tr hf hf276_ rfl
      have hf302_ : jfr jW_X10_takeAtomWord a0 a282_ := jfr_tr hf301_ hf282_ rfl
      exact jt_rI ⟨hv282_, hf302_, rfl, (fun _ => by have q := (hq282_3 (by omega)).2.1; rw [show a276_ 3 = a0 3 from funext (fun j => hf301_ 3 j rfl), show a276_ 2 1 = a0 2 1 from hf301_ 2 1 rfl, show a276_ 2 2 = a0 2 2 from by omega] at q; exact (AK_w (w := 4) (by decide) q).symm), (fun _ _ => by have q := (hq282_3 (by omega)).2.1; have q2 := (hq282_3 (by omega)).2.2; rw [show a276_ 3 = a0 3 from funext (fun j => hf301_ 3 j rfl), show a276_ 2 1 = a0 2 1 from hf301_ 2 1 rfl, show a276_ 2 2 = a0 2 2 from by omega] at q; rw [show a276_ 3 = a0 3 from funext (fun j => hf301_ 3 j rfl), show a276_ 2 1 = a0 2 1 from hf301_ 2 1 rfl, show a276_ 2 2 = a0 2 2 from by omega] at q2; rw [AQ_w (w := 4) (by decide) q]; exact q2), (fun _ h => absurd h (by decide)), (fun h => absurd (by omega) h)⟩
  ·
    have hf303_ : jfr jW_X10_takeAtomWord a0 a276_ := jfr_tr hf hf276_ rfl
    exact jt_rI ⟨hv276_, hf303_, rfl, (fun _ => by have q := (hq276_3 (by omega)).2.1; rw [show a 3 = a0 3 from funext (fun j => hf 3 j rfl), show a 2 1 = a0 2 1 from hf 2 1 rfl, show a 2 2 = a0 2 2 from by omega] at q; exact (AK_w (w := 3) (by decide) q).symm), (fun _ _ => by have q := (hq276_3 (by omega)).2.1; have q2 := (hq276_3 (by omega)).2.2; rw [show a 3 = a0 3 from funext (fun j => hf 3 j rfl), show a 2 1 = a0 2 1 from hf 2 1 rfl, show a 2 2 = a0 2 2 from by omega] at q; rw [show a 3 = a0 3 from funext (fun j => hf 3 j rfl), show a 2 1 = a0 2 1 from hf 2 1 rfl, show a 2 2 = a0 2 2 from by omega] at q2; rw [AQ_w (w := 3) (by decide) q]; exact q2), (fun _ h => absurd h (by decide)), (fun h => absurd (by omega) h)⟩
theorem sp_X10_takeAtomWord (E : jxE) (d : Nat) (hd : Nat.ble 6 d = true) (a0 b0 : Nat → Nat → Int) (hv0 : iv a0) : jt (jxC E d 147 [.inr (.inr (.inl 11))] (jxSH, a0, b0)) (jQ_X10_takeAtomWord a0 b0) := by
  obtain ⟨d, rfl⟩ := jd_succ hd
  refine jt_eq (bq_X10_takeAtomWord E d a0 b0) ?_
  refine jt_bI (sp_X8_takesWord_r1001 E d (jd_le hd rfl) a0 b0 hv0) (fun r304_ a304_ b304_ h304_ => ?_)
  obtain ⟨hv304_, hf304_, rfl, hq304_0, hq304_1, hq304_2, hq304_3, hq304_4⟩ := h304_
  have h305_ := iv_get hv0 (k := 2) (j := 1) (l := 0) (u := 200) rfl
  have h306_ := iv_get hv0 (k := 2) (j := 2) (l := 0) (u := 200) rfl
  have h307_ := iv_get hv304_ (k := 2) (j := 2) (l := 0) (u := 200) rfl
  have hz304 := hf304_ 2 3 rfl
  refine jt_ite (fun c308_ => ?_) (fun c308_ => ?_)
  ·
    refine jt_bI (sp_X8_takesWord_r1002 E d (jd_le hd rfl) a304_ b0 hv304_) (fun r309_ a309_ b309_ h309_ => ?_)
    obtain ⟨hv309_, hf309_, rfl, hq309_0, hq309_1, hq309_2, hq309_3, hq309_4⟩ := h309_
    have h310_ : a304_ 2 3 = a0 2 3 := hf304_ 2 3 rfl
    have h311_ := iv_get hv304_ (k := 2) (j := 1) (l := 0) (u := 200) rfl
    have h312_ : a304_ 2 1 = a0 2 1 := hf304_ 2 1 rfl
    have h313_ := iv_get hv309_ (k := 2) (j := 2) (l := 0) (u := 200) rfl
    have hz309 := hf309_ 2 3 rfl
    refine jt_ite (fun c314_ => ?_) (fun c314_ => ?_)
    ·
      refine jt_bI (sp_X8_takesWord_r1003 E d (jd_le hd rfl) a309_ b0 hv309_) (fun r315_ a315_ b315_ h315_ => ?_)
      obtain ⟨hv315_, hf315_, rfl, hq315_0, hq315_1, hq315_2, hq315_3, hq315_4⟩ := h315_
      have h316_ : a309_ 2 3 = a304_ 2 3 := hf309_ 2 3 rfl
      have h317_ := iv_get hv309_ (k := 2) (j := 1) (l := 0) (u := 200) rfl
      have h318_ : a309_ 2 1 = a304_ 2 1 := hf309_ 2 1 rfl
      have h319_ := iv_get hv315_ (k := 2) (j := 2) (l := 0) (u := 200) rfl
      have hz315 := hf315_ 2 3 rfl
      refine jt_ite (fun c320_ => ?_) (fun c320_ => ?_)
      ·
        have hf321_ : jfr jW_X10_takeAtomWord a0 a304_ := jfr_tr (jfr_rf _ _) hf304_ rfl
        have hf322_ : jfr jW_X10_takeAtomWord a0 a309_ := jfr_tr hf321_ hf309_ rfl
        have hf323_ : jfr jW_X10_takeAtomWord a0 a315_ := jfr_tr hf322_ hf315_ rfl
        have h324_ : a315_ 2 3 = a309_ 2 3 := hf315_ 2 3 rfl
        exact cp_X10_takeAtomWord_42 E d hd a0 b0 hv0 a315_ hv315_ hf323_ (fun hz0 => ⟨(by have q := (hq304_4 (by omega)).resolve_left (fun h => h (by omega)); exact q), (by have q := (hq309_4 (by omega)).resolve_left (fun h => h (by omega)); rw [show a304_ 3 = a0 3 from funext (fun j => hf321_ 3 j rfl), show a304_ 2 1 = a0 2 1 from hf321_ 2 1 rfl, show a304_ 2 2 = a0 2 2 from by omega] at q; exact q), (by have q := (hq315_4 (by omega)).resolve_left (fun h => h (by omega)); rw [show a309_ 3 = a0 3 from funext (fun j => hf322_ 3 j rfl), show a309_ 2 1 = a0 2 1 from hf322_ 2 1 rfl, show a309_ 2 2 = a0 2 2 from by omega] at q; exact q)⟩) (show a315_ 2 2 = a0 2 2 from by omega) (show a315_ 2 3 = a0 2 3 from by omega)
      ·
        have hf325_ : jfr jW_X10_takeAtomWord a0 a304_ := jfr_tr (jfr_rf _ _) hf304_ rfl
        have hf326_ : jfr jW_X10_takeAtomWord a0 a309_ := jfr_tr hf325_ hf309_ rfl
        have hf327_ : jfr jW_X10_takeAtomWord a0 a315_ := jfr_tr hf326_ hf315_ rfl
        exact cp_X10_takeAtomWord_40 E d hd a0 b0 hv0 a315_ hv315_ hf327_ (show a0 2 3 = 0 from by omega) (by have q := (hq315_3 (by omega)).2.1; rw [show a309_ 3 = a0 3 from funext (fun j => hf326_ 3 j rfl), show a309_ 2 1 = a0 2 1 from hf326_ 2 1 rfl, show a309_ 2 2 = a0 2 2 from by omega] at q; exact q) (by have q := (hq315_3 (by omega)).2.2; rw [show a309_ 3 = a0 3 from funext (fun j => hf326_ 3 j rfl), show a309_ 2 1 = a0 2 1 from hf326_ 2 1 rfl, show a309_ 2 2 = a0 2 2 from by omega] at q; exact q)
    ·
      have hf328_ : jfr jW_X10_takeAtomWord a0 a304_ := jfr_tr (jfr_rf _ _) hf304_ rfl
      have hf329_ : jfr jW_X10_takeAtomWord a0 a309_ := jfr_tr hf328_ hf309_ rfl
      exact jt_rI ⟨hv309_, hf329_, rfl, (fun _ => by have q := (hq309_3 (by omega)).2.1; rw [show a304_ 3 = a0 3 from funext (fun j => hf328_ 3 j rfl), show a304_ 2 1 = a0 2 1 from hf328_ 2 1 rfl, show a304_ 2 2 = a0 2 2 from by omega] at q; exact (AK_w (w := 1) (by decide) q).symm), (fun _ _ => by have q := (hq309_3 (by omega)).2.1; have q2 := (hq309_3 (by omega)).2.2; rw [show a304_ 3 = a0 3 from funext (fun j => hf328_ 3 j rfl), show a304_ 2 1 = a0 2 1 from hf328_ 2 1 rfl, show a304_ 2 2 = a0 2 2 from by omega] at q; rw [show a304_ 3 = a0 3 from funext (fun j => hf328_ 3 j rfl), show a304_ 2 1 = a0 2 1 from hf328_ 2 1 rfl, show a304_ 2 2 = a0 2 2 from by omega] at q2; rw [AQ_w (w := 1) (by decide) q]; exact q2), (fun _ h => absurd h (by decide)), (fun h => absurd (by omega) h)⟩
  ·
    have hf330_ : jfr jW_X10_takeAtomWord a0 a304_ := jfr_tr (jfr_rf _ _) hf304_ rfl
    exact jt_rI ⟨hv304_, hf330_, rfl, (fun _ => by have q := (hq304_3 (by omega)).2.1; exact (AK_w (w := 0) (by decide) q).symm), (fun _ _ => by have q := (hq304_3 (by omega)).2.1; have q2 := (hq304_3 (by omega)).2.2; rw [AQ_w (w := 0) (by decide) q]; exact q2), (fun _ h => absurd h (by decide)), (fun h => absurd (by omega) h)⟩
def jW_X10_readAtom : List (Nat × Nat) := [(2, 2), (2, 3), (11, 6), (11, 7), (54, 9999)]
abbrev jQ_X10_readAtom (x1 : Int) (a0 b0 : Nat → Nat → Int) : List jxV → (Nat → Nat → Int) → (Nat → Nat → Int) → Prop := rV (fun a b => (iv a) ∧ (jfr jW_X10_readAtom a0 a) ∧ (b0 = b) ∧ (PAtom a0 a x1) ∧ (¬ a0 2 3 = 0 → a 2 3 = a0 2 3) ∧ (a0 11 6 ≤ a 11 6))
theorem cp_X10_readAtom_36 (E : jxE) (d : Nat) (hd : Nat.ble 7 (d + 1) = true) (x1 : Int) (a0 b0 : Nat → Nat → Int) (hv0 : iv a0) : ∀ (a : Nat → Nat → Int), iv a → jfr jW_X10_readAtom a0 a → 12 ≤ a 11 7 → (PAtom a0 a x1) → (¬ a0 2 3 = 0 → a 2 3 = a0 2 3) → a0 11 6 ≤ a 11 6 → jt (jxX E d 146 36 [none, none, none, none] [] (jxSH, a, b0)) (jQ_X10_readAtom x1 a0 b0) := by
  intro a hv hf hi0 hpa hfk hi3
  refine jt_eq (bq_X10_readAtom_36 E d a b0) ?_
  have h331_ := iv_get hv (k := 11) (j := 7) (l := 0) (u := 12) rfl
  have h332_ := iv_get hv0 (k := 11) (j := 6) (l := 0) (u := 40) rfl
  have h333_ := iv_get hv (k := 11) (j := 6) (l := 0) (u := 40) rfl
  have h3 : a 3 = a0 3 := funext fun j => hf 3 j rfl
  have h21 := hf 2 1 rfl
  exact jt_rV ⟨hv, hf, rfl, hpa, hfk, (show a0 11 6 ≤ a 11 6 from by omega)⟩
theorem cp_X10_readAtom_75 (E : jxE) (d : Nat) (hd : Nat.ble 7 (d + 1) = true) (x1 : Int) (a0 b0 : Nat → Nat → Int) (hv0 : iv a0) : ∀ (a : Nat → Nat → Int), iv a → jfr jW_X10_readAtom a0 a → 1 ≤ a 11 7 → (PAtom a0 a x1) → (¬ a0 2 3 = 0 → a 2 3 = a0 2 3) → a0 11 6 ≤ a 11 6 → jt (jxX E d 146 75 [none, none, none, none] [] (jxSH, a, b0)) (jQ_X10_readAtom x1 a0 b0) := by
  intro a hv hf hi0 hpa hfk hi3
  refine jt_eq (bq_X10_readAtom_75 E d a b0) ?_
  have h334_ := iv_get hv (k := 11) (j := 7) (l := 0) (u := 12) rfl
  have h335_ := iv_get hv0 (k := 11) (j := 6) (l := 0) (u := 40) rfl
  have h336_ := iv_get hv (k := 11) (j := 6) (l := 0) (u := 40) rfl
  have h3 : a 3 = a0 3 := funext fun j => hf 3 j rfl
  have h21 := hf 2 1 rfl
  exact jt_rV ⟨hv, hf, rfl, hpa, hfk, (show a0 11 6 ≤ a 11 6 from by omega)⟩
theorem cp_X10_readAtom_47 (E : jxE) (d : Nat) (hd : Nat.ble 7 (d + 1) = true) (x1 : Int) (a0 b0 : Nat → Nat → Int) (hv0 : iv a0) : ∀ (y2 : Int) (a : Nat → Nat → Int), iv a → jfr jW_X10_readAtom a0 a → 1 ≤ a 11 7 → a0 2 3 = 0 → a 2 3 = 0 → (y2 = AK (a0 3) (a0 2 1).toNat (a0 2 2).toNat) → 0 ≤ y2 → y2 ≤ 6 → (a 2 2 = (AQ (a0 3) (a0 2 1).toNat (a0 2 2).toNat : Int)) → a 11 6 = a0 11 6 → a 11 7 = (a0 11 7) + 1 → a0 11 7 ≤ 11 → (∀ j, a 54 j = a0 54 j) → jt (jxX E d 146 47 [some (.inr (.inr (.inl 11))), none, some (.inl y2), none] [] (jxSH, a, b0)) (jQ_X10_readAtom x1 a0 b0) := by
  intro y2 a hv hf hi0 hi1 hi2 hy2 hi4 hi5 hat hi7 hi8 hi9 hs54
  refine jt_eq (bq_X10_readAtom_47 E d y2 a b0) ?_
  have h337_ := iv_get hv (k := 11) (j := 7) (l := 0) (u := 12) rfl
  have h338_ := iv_get hv (k := 11) (j := 6) (l := 0) (u := 40) rfl
  have h339_ := iv_get hv0 (k := 11) (j := 6) (l := 0) (u := 40) rfl
  have h340_ := iv_get hv0 (k := 11) (j := 7) (l := 0) (u := 12) rfl
  have h3 : a 3 = a0 3 := funext fun j => hf 3 j rfl
  have h21 := hf 2 1 rfl
  have hgn := gn10 a b0 y2 (by omega) (by omega)
  have hP : (a 2 2).toNat = AQ (a0 3) (a0 2 1).toNat (a0 2 2).toNat := by rw [hat]; exact Int.toNat_natCast _
  have hnb := NV_bd (a0 3) (a0 2 1).toNat (AQ (a0 3) (a0 2 1).toNat (a0 2 2).toNat)
  refine jt_eI (eq_X10_greatestNumber E d (jd_le hd rfl) y2 a b0) ?_
  refine jt_ite (fun c341_ => ?_) (fun c341_ => ?_)
  ·
    refine jt_bV (sp_X10_addStep E d (jd_le hd rfl) y2 0 a b0 hv) (fun a342_ b342_ h342_ => ?_)
    obtain ⟨hv342_, hf342_, rfl, hq342_0, hq342_1, hq342_2⟩ := h342_
    have h343_ := iv_get hv342_ (k := 11) (j := 6) (l := 0) (u := 40) rfl
    have hf344_ : jfr jW_X10_readAtom a0 a342_ := jfr_tr hf hf342_ rfl
    have h345_ := iv_get hv342_ (k := 11) (j := 7) (l := 0) (u := 12) rfl
    have h346_ : a342_ 11 7 = a 11 7 := hf342_ 11 7 rfl
    exact cp_X10_readAtom_75 E d hd x1 a0 b0 hv0 a342_ hv342_ hf344_ (show 1 ≤ a342_ 11 7 from by omega) (PAtom_p (by omega) (by omega) (by rw [← hy2, ← hgn]; assumption) (by omega) (by rw [hf342_ 2 3 rfl]; omega) (fun h => ⟨by omega, by have q := hq342_2 (by omega); rw [show jxw ((jxw (y2 * 1000)) + 0) = y2 * 1000 from by rw [jxw_id (x := y2 * 1000) (by omega) (by omega), jxw_id (by omega) (by omega)]; omega, hy2, show (a 11 6).toNat = (a0 11 6).toNat from by omega] at q; exact UP_cl q hs54⟩) (by rw [hf342_ 2 2 rfl]; exact hat) (by rw [hf342_ 11 7 rfl]; omega)) (fun h => by omega) (show a0 11 6 ≤ a342_ 11 6 from by omega)
  ·
    refine jt_bI (sp_X8_takeNumber E d (jd_le hd rfl) 0 (f_X10_greatestNumber a b0 y2) a b0 hv) (fun r347_ a347_ b347_ h347_ => ?_)
    obtain ⟨hv347_, hf347_, rfl, hq347_0, hq347_1, hq347_2, hq347_3⟩ := h347_
    refine jt_bV (sp_X10_addStep E d (jd_le hd rfl) y2 r347_ a347_ b0 hv347_) (fun a348_ b348_ h348_ => ?_)
    obtain ⟨hv348_, hf348_, rfl, hq348_0, hq348_1, hq348_2⟩ := h348_
    have h349_ := iv_get hv347_ (k := 11) (j := 6) (l := 0) (u := 40) rfl
    have h350_ : a347_ 11 6 = a 11 6 := hf347_ 11 6 rfl
    have h351_ := iv_get hv348_ (k := 11) (j := 6) (l := 0) (u := 40) rfl
    have hf352_ : jfr jW_X10_readAtom a0 a347_ := jfr_tr hf hf347_ rfl
    have hf353_ : jfr jW_X10_readAtom a0 a348_ := jfr_tr hf352_ hf348_ rfl
    have h354_ := iv_get hv348_ (k := 11) (j := 7) (l := 0) (u := 12) rfl
    have h355_ : a348_ 11 7 = a347_ 11 7 := hf348_ 11 7 rfl
    have h356_ := iv_get hv347_ (k := 11) (j := 7) (l := 0) (u := 12) rfl
    have h357_ : a347_ 11 7 = a 11 7 := hf347_ 11 7 rfl
    exact cp_X10_readAtom_75 E d hd x1 a0 b0 hv0 a348_ hv348_ hf353_ (show 1 ≤ a348_ 11 7 from by omega) (PAtom_n (by omega) (by omega) (by rw [← hy2, ← hgn]; assumption) (by omega) (by have e0 := hq347_0; have e1 := hq347_1; have e2 := hq347_2; rw [h3, h21, hP] at e0 e1 e2; rw [if_pos (show a 2 3 = 0 from by omega), hgn, hy2] at e2; rw [hf348_ 2 3 rfl]; exact e2) (fun h => by have e0 := hq347_0; have e1 := hq347_1; have e2 := hq347_2; rw [h3, h21, hP] at e0 e1 e2; rw [if_pos (show a 2 3 = 0 from by omega), hgn, hy2] at e2; have h6 := hf347_ 11 6 rfl; refine ⟨by omega, ?_⟩; have q := hq348_2 (by omega); rw [show jxw ((jxw (y2 * 1000)) + r347_) = y2 * 1000 + r347_ from by rw [jxw_id (x := y2 * 1000) (by omega) (by omega), jxw_id (by omega) (by omega)], hy2, e0, show (a347_ 11 6).toNat = (a0 11 6).toNat from by omega] at q; exact UP_cl q (fun j => (hf347_ 54 j rfl).trans (hs54 j))) (by have e0 := hq347_0; have e1 := hq347_1; have e2 := hq347_2; rw [h3, h21, hP] at e0 e1 e2; rw [if_pos (show a 2 3 = 0 from by omega), hgn, hy2] at e2; rw [hf348_ 2 2 rfl]; exact e1) (by rw [hf348_ 11 7 rfl, hf347_ 11 7 rfl]; omega)) (fun h => by omega) (show a0 11 6 ≤ a348_ 11 6 from by omega)
theorem sp_X10_readAtom (E : jxE) (d : Nat) (hd : Nat.ble 7 d = true) (x1 : Int) (a0 b0 : Nat → Nat → Int) (hv0 : iv a0) : jt (jxC E d 146 [.inr (.inr (.inl 11)), .inl x1] (jxSH, a0, b0)) (jQ_X10_readAtom x1 a0 b0) := by
  obtain ⟨d, rfl⟩ := jd_succ hd
  refine jt_eq (bq_X10_readAtom E d x1 a0 b0) ?_
  refine jt_bI (sp_X10_takeAtomWord E d (jd_le hd rfl) a0 b0 hv0) (fun r358_ a358_ b358_ h358_ => ?_)
  obtain ⟨hv358_, hf358_, rfl, hq358_0, hq358_1, hq358_2, hq358_3⟩ := h358_
  have hta0_358 := hq358_0
  have hta1_358 := hq358_1
  have hta2_358 := hq358_2
  have hta3_358 := hq358_3
  have hz358 := hf358_ 2 3 rfl
  have h117_358 := hf358_ 11 7 rfl
  have h116_358 := hf358_ 11 6 rfl
  have hak358 := AK_sp (a0 3) (a0 2 1).toNat (a0 2 2).toNat
  have i117_358 := iv_get hv0 (k := 11) (j := 7) (l := 0) (u := 12) rfl
  have i22_358 := iv_get hv0 (k := 2) (j := 2) (l := 0) (u := 200) rfl
  refine jt_ite (fun c359_ => ?_) (fun c359_ => ?_)
  ·
    refine jt_bV (sp_X8_noteCannotStand E d (jd_le hd rfl) a358_ b0 hv358_) (fun a360_ b360_ h360_ => ?_)
    obtain ⟨hv360_, hf360_, rfl, hq360_0, hq360_1⟩ := h360_
    have h361_ : a358_ 2 3 = a0 2 3 := hf358_ 2 3 rfl
    have h362_ := iv_get hv358_ (k := 2) (j := 2) (l := 0) (u := 200) rfl
    have hf363_ : jfr jW_X10_readAtom a0 a358_ := jfr_tr (jfr_rf _ _) hf358_ rfl
    have hf364_ : jfr jW_X10_readAtom a0 a360_ := jfr_tr hf363_ hf360_ rfl
    have h365_ := iv_get hv0 (k := 11) (j := 6) (l := 0) (u := 40) rfl
    have h366_ := iv_get hv360_ (k := 11) (j := 6) (l := 0) (u := 40) rfl
    have h367_ : a360_ 11 6 = a358_ 11 6 := hf360_ 11 6 rfl
    have h368_ := iv_get hv358_ (k := 11) (j := 6) (l := 0) (u := 40) rfl
    have h369_ : a358_ 11 6 = a0 11 6 := hf358_ 11 6 rfl
    exact jt_rV ⟨hv360_, hf364_, rfl, (fun hz0 => PAtom_0 (by have e := hta0_358 hz0; omega) (by omega) (fun hz => by have e := hta2_358 hz (by omega); omega) hz0), (fun h => by omega), (show a0 11 6 ≤ a360_ 11 6 from by omega)⟩
  ·
    have h370_ := iv_get hv358_ (k := 11) (j := 7) (l := 0) (u := 12) rfl
    have h371_ : a358_ 11 7 = a0 11 7 := hf358_ 11 7 rfl
    have h372_ := iv_get hv0 (k := 11) (j := 7) (l := 0) (u := 12) rfl
    refine jt_ite (fun c373_ => ?_) (fun c373_ => ?_)
    ·
      have h375_ : jxw ((a358_ 11 7) + 1) = (a358_ 11 7) + 1 := jxw_id (by omega) (by omega)
      have hv374_ : iv (jxu a358_ 11 7 (jxw ((a358_ 11 7) + 1))) := iv_put hv358_ (l := 0) (u := 12) rfl (by omega) (by omega)
      have hf376_ : jfr jW_X10_readAtom a0 a358_ := jfr_tr (jfr_rf _ _) hf358_ rfl
      have hf377_ : jfr jW_X10_readAtom a0 (jxu a358_ 11 7 (jxw ((a358_ 11 7) + 1))) := jfr_put hf376_ rfl
      have h378_ : a358_ 2 3 = a0 2 3 := hf358_ 2 3 rfl
      have h379_ := iv_get hv358_ (k := 11) (j := 6) (l := 0) (u := 40) rfl
      have h380_ : a358_ 11 6 = a0 11 6 := hf358_ 11 6 rfl
      have h381_ := iv_get hv0 (k := 11) (j := 6) (l := 0) (u := 40) rfl
      exact cp_X10_readAtom_47 E d hd x1 a0 b0 hv0 r358_ (jxu a358_ 11 7 (jxw ((a358_ 11 7) + 1))) hv374_ hf377_ (show 1 ≤ jxw ((a358_ 11 7) + 1) from by omega) (show a0 2 3 = 0 from by omega) (show a358_ 2 3 = 0 from by omega) (hta0_358 (by have z := hta3_358; omega)) (show 0 ≤ r358_ from by omega) (show r358_ ≤ 6 from by omega) (hta1_358 (by have z := hta3_358; omega) (by have z := hta3_358; have z2 := hta0_358; omega)) (show a358_ 11 6 = a0 11 6 from by omega) (show jxw ((a358_ 11 7) + 1) = (a0 11 7) + 1 from by omega) (show a0 11 7 ≤ 11 from by omega) (fun j => (hf358_ 54 j rfl))
    ·
      refine jt_bV (sp_X8_noteFault E d (jd_le hd rfl) x1 2 a358_ b0 hv358_) (fun a382_ b382_ h382_ => ?_)
      obtain ⟨hv382_, hf382_, rfl, hq382_0, hq382_1⟩ := h382_
      have h383_ : a358_ 2 3 = a0 2 3 := hf358_ 2 3 rfl
      have hf384_ : jfr jW_X10_readAtom a0 a358_ := jfr_tr (jfr_rf _ _) hf358_ rfl
      have hf385_ : jfr jW_X10_readAtom a0 a382_ := jfr_tr hf384_ hf382_ rfl
      have h386_ := iv_get hv382_ (k := 11) (j := 7) (l := 0) (u := 12) rfl
      have h387_ : a382_ 11 7 = a358_ 11 7 := hf382_ 11 7 rfl
      have h388_ := iv_get hv0 (k := 11) (j := 6) (l := 0) (u := 40) rfl
      have h389_ := iv_get hv382_ (k := 11) (j := 6) (l := 0) (u := 40) rfl
      have h390_ : a382_ 11 6 = a358_ 11 6 := hf382_ 11 6 rfl
      have h391_ := iv_get hv358_ (k := 11) (j := 6) (l := 0) (u := 40) rfl
      have h392_ : a358_ 11 6 = a0 11 6 := hf358_ 11 6 rfl
      exact cp_X10_readAtom_36 E d hd x1 a0 b0 hv0 a382_ hv382_ hf385_ (show 12 ≤ a382_ 11 7 from by omega) (PAtom_13 (by have z := hta3_358; have z2 := hta0_358; omega) (by omega) (by omega) (fun hz hx => by omega)) (fun h => by omega) (show a0 11 6 ≤ a382_ 11 6 from by omega)
def jW_X8_takesSign : List (Nat × Nat) := [(2, 2)]
abbrev jQ_X8_takesSign (x1 : Int) (a0 b0 : Nat → Nat → Int) : List jxV → (Nat → Nat → Int) → (Nat → Nat → Int) → Prop := rI (fun r a b => (iv a) ∧ (jfr jW_X8_takesSign a0 a) ∧ (b0 = b) ∧ ((0 ≤ r ∧ r ≤ 1)) ∧ (((¬ a0 2 3 = 0 ∨ a0 2 1 ≤ a0 2 2) → (r = 0 ∧ a 2 2 = a0 2 2))) ∧ (r = 1 → a0 2 3 = 0 ∧ (a0 2 2).toNat < (a0 2 1).toNat ∧ (a0 3) (a0 2 2).toNat = x1 ∧ a 2 2 = ((SK (a0 3) (a0 2 1).toNat ((a0 2 2).toNat + 1) : Nat) : Int)) ∧ (r = 0 → ¬ a0 2 3 = 0 ∨ (a0 2 1).toNat ≤ (a0 2 2).toNat ∨ ¬ (a0 3) (a0 2 2).toNat = x1) ∧ ((r = 0 → a 2 2 = a0 2 2)))
theorem cp_X8_takesSign_31 (E : jxE) (d : Nat) (hd : Nat.ble 2 (d + 1) = true) (x1 : Int) (a0 b0 : Nat → Nat → Int) (hv0 : iv a0) : ∀ (a : Nat → Nat → Int), iv a → jfr jW_X8_takesSign a0 a → a 2 2 = a0 2 2 → (¬ a0 2 3 = 0 ∨ (a0 2 1).toNat ≤ (a0 2 2).toNat ∨ ¬ (a0 3) (a0 2 2).toNat = x1) → jt (jxX E d 129 31 [none, none] [] (jxSH, a, b0)) (jQ_X8_takesSign x1 a0 b0) := by
  intro a hv hf hi0 hno
  refine jt_eq (bq_X8_takesSign_31 E d a b0) ?_
  have h393_ := iv_get hv (k := 2) (j := 2) (l := 0) (u := 200) rfl
  have h394_ := iv_get hv0 (k := 2) (j := 2) (l := 0) (u := 200) rfl
  have h395_ := iv_get hv0 (k := 2) (j := 1) (l := 0) (u := 200) rfl
  exact jt_rI ⟨hv, hf, rfl, (show (0 ≤ 0 ∧ 0 ≤ 1) from by omega), (show ((¬ a0 2 3 = 0 ∨ a0 2 1 ≤ a0 2 2) → (0 = 0 ∧ a 2 2 = a0 2 2)) from by omega), (by first | exact (fun h => absurd h (by decide)) | exact (fun _ => ⟨by omega, by omega, hyes, by have h := hq0_1; rw [show (a0 2 2).toNat + 1 = (jxw ((a 2 2) + 1)).toNat from by omega, ← h3, ← h21]; exact h⟩)), (by first | exact (fun _ => hno) | exact (fun h => absurd h (by decide))), (show (0 = 0 → a 2 2 = a0 2 2) from by omega)⟩
theorem cp_X8_takesSign_33 (E : jxE) (d : Nat) (hd : Nat.ble 2 (d + 1) = true) (x1 : Int) (a0 b0 : Nat → Nat → Int) (hv0 : iv a0) : ∀ (a : Nat → Nat → Int), iv a → jfr jW_X8_takesSign a0 a → 1 ≤ a 2 1 → a 2 2 ≤ 199 → a0 2 3 = 0 → a0 2 2 < a0 2 1 → a 2 2 = a0 2 2 → ((a0 3) (a0 2 2).toNat = x1) → jt (jxX E d 129 33 [some (.inr (.inr (.inl 2))), none] [] (jxSH, a, b0)) (jQ_X8_takesSign x1 a0 b0) := by
  intro a hv hf hi0 hi1 hi2 hi3 hi4 hyes
  refine jt_eq (bq_X8_takesSign_33 E d a b0) ?_
  have h396_ := iv_get hv (k := 2) (j := 1) (l := 0) (u := 200) rfl
  have h397_ : a 2 1 = a0 2 1 := hf 2 1 rfl
  have h398_ := iv_get hv0 (k := 2) (j := 1) (l := 0) (u := 200) rfl
  have h399_ := iv_get hv (k := 2) (j := 2) (l := 0) (u := 200) rfl
  have h400_ := iv_get hv0 (k := 2) (j := 2) (l := 0) (u := 200) rfl
  have h3 : a 3 = a0 3 := funext fun j => hf 3 j rfl
  have h21 := hf 2 1 rfl
  have h402_ : jxw ((a 2 2) + 1) = (a 2 2) + 1 := jxw_id (by omega) (by omega)
  have hv401_ : iv (jxu a 2 2 (jxw ((a 2 2) + 1))) := iv_put hv (l := 0) (u := 200) rfl (by omega) (by omega)
  refine jt_bV (sp_X8_skipBlanks E d (jd_le hd rfl) (jxu a 2 2 (jxw ((a 2 2) + 1))) b0 hv401_) (fun a403_ b403_ h403_ => ?_)
  obtain ⟨hv403_, hf403_, rfl, hq403_0, hq403_1⟩ := h403_
  have h404_ := iv_get hv403_ (k := 2) (j := 2) (l := 0) (u := 200) rfl
  have h405_ : (a 2 1 ≤ jxw ((a 2 2) + 1) → a403_ 2 2 = jxw ((a 2 2) + 1)) := hq403_0
  have hf406_ : jfr jW_X8_takesSign a0 (jxu a 2 2 (jxw ((a 2 2) + 1))) := jfr_put hf rfl
  have hf407_ : jfr jW_X8_takesSign a0 a403_ := jfr_tr hf406_ hf403_ rfl
  exact jt_rI ⟨hv403_, hf407_, rfl, (show (0 ≤ 1 ∧ 1 ≤ 1) from by omega), (show ((¬ a0 2 3 = 0 ∨ a0 2 1 ≤ a0 2 2) → (1 = 0 ∧ a403_ 2 2 = a0 2 2)) from by omega), (by first | exact (fun h => absurd h (by decide)) | exact (fun _ => ⟨by omega, by omega, hyes, by have h := hq403_1; rw [show (a0 2 2).toNat + 1 = (jxw ((a 2 2) + 1)).toNat from by omega, ← h3, ← h21]; exact h⟩)), (by first | exact (fun _ => hno) | exact (fun h => absurd h (by decide))), (show (1 = 0 → a403_ 2 2 = a0 2 2) from by omega)⟩
theorem sp_X8_takesSign (E : jxE) (d : Nat) (hd : Nat.ble 2 d = true) (x1 : Int) (a0 b0 : Nat → Nat → Int) (hv0 : iv a0) : jt (jxC E d 129 [.inr (.inr (.inl 2)), .inl x1] (jxSH, a0, b0)) (jQ_X8_takesSign x1 a0 b0) := by
  obtain ⟨d, rfl⟩ := jd_succ hd
  refine jt_eq (bq_X8_takesSign E d x1 a0 b0) ?_
  refine jt_eI (eq_X8_isFaulty E d (jd_le hd rfl) a0 b0) ?_
  have h408_ := f_X8_isFaulty_eq a0 b0
  refine jt_ite (fun c409_ => ?_) (fun c409_ => ?_)
  ·
    have h410_ := iv_get hv0 (k := 2) (j := 2) (l := 0) (u := 200) rfl
    have h411_ := iv_get hv0 (k := 2) (j := 1) (l := 0) (u := 200) rfl
    refine jt_ite (fun c412_ => ?_) (fun c412_ => ?_)
    ·
      refine jt_grd (by omega) ?_
      have h413_ := iv_get hv0 (k := 3) (j := (a0 2 2).toNat) (l := 0) (u := 255) rfl
      refine jt_ite (fun c414_ => ?_) (fun c414_ => ?_)
      ·
        exact cp_X8_takesSign_33 E d hd x1 a0 b0 hv0 a0 hv0 (jfr_rf _ _) (show 1 ≤ a0 2 1 from by omega) (show a0 2 2 ≤ 199 from by omega) (show a0 2 3 = 0 from by omega) (show a0 2 2 < a0 2 1 from by omega) (show a0 2 2 = a0 2 2 from by omega) (by assumption)
      ·
        exact cp_X8_takesSign_31 E d hd x1 a0 b0 hv0 a0 hv0 (jfr_rf _ _) (show a0 2 2 = a0 2 2 from by omega) (by first | exact Or.inl (by omega) | exact Or.inr (Or.inl (by omega)) | exact Or.inr (Or.inr (by assumption)))
    ·
      exact cp_X8_takesSign_31 E d hd x1 a0 b0 hv0 a0 hv0 (jfr_rf _ _) (show a0 2 2 = a0 2 2 from by omega) (by first | exact Or.inl (by omega) | exact Or.inr (Or.inl (by omega)) | exact Or.inr (Or.inr (by assumption)))
  ·
    have h415_ := iv_get hv0 (k := 2) (j := 2) (l := 0) (u := 200) rfl
    exact cp_X8_takesSign_31 E d hd x1 a0 b0 hv0 a0 hv0 (jfr_rf _ _) (show a0 2 2 = a0 2 2 from by omega) (by first | exact Or.inl (by omega) | exact Or.inr (Or.inl (by omega)) | exact Or.inr (Or.inr (by assumption)))
def jW_X8_startReading : List (Nat × Nat) := [(2, 2), (2, 3)]
abbrev jQ_X8_startReading (a0 b0 : Nat → Nat → Int) : List jxV → (Nat → Nat → Int) → (Nat → Nat → Int) → Prop := rV (fun a b => (iv a) ∧ (jfr jW_X8_startReading a0 a) ∧ (b0 = b) ∧ (a 2 3 = 0) ∧ ((a0 2 1 = 0 → a 2 2 = 0)) ∧ (a 2 2 = ((SK (a0 3) (a0 2 1).toNat 0 : Nat) : Int)))
theorem sp_X8_startReading (E : jxE) (d : Nat) (hd : Nat.ble 2 d = true) (a0 b0 : Nat → Nat → Int) (hv0 : iv a0) : jt (jxC E d 121 [.inr (.inr (.inl 2))] (jxSH, a0, b0)) (jQ_X8_startReading a0 b0) := by
  obtain ⟨d, rfl⟩ := jd_succ hd
  refine jt_eq (bq_X8_startReading E d a0 b0) ?_
  have hv416_ : iv (jxu a0 2 2 0) := iv_put hv0 (l := 0) (u := 200) rfl (by omega) (by omega)
  have hv417_ : iv (jxu (jxu a0 2 2 0) 2 3 0) := iv_putf hv416_ rfl
  refine jt_bV (sp_X8_skipBlanks E d (jd_le hd rfl) (jxu (jxu a0 2 2 0) 2 3 0) b0 hv417_) (fun a418_ b418_ h418_ => ?_)
  obtain ⟨hv418_, hf418_, rfl, hq418_0, hq418_1⟩ := h418_
  have h419_ := iv_get hv0 (k := 2) (j := 1) (l := 0) (u := 200) rfl
  have h420_ := iv_get hv418_ (k := 2) (j := 2) (l := 0) (u := 200) rfl
  have h421_ : (a0 2 1 ≤ 0 → a418_ 2 2 = 0) := hq418_0
  have hf422_ : jfr jW_X8_startReading a0 (jxu a0 2 2 0) := jfr_put (jfr_rf _ _) rfl
  have hf423_ : jfr jW_X8_startReading a0 (jxu (jxu a0 2 2 0) 2 3 0) := jfr_put hf422_ rfl
  have hf424_ : jfr jW_X8_startReading a0 a418_ := jfr_tr hf423_ hf418_ rfl
  have h425_ : a418_ 2 3 = 0 := hf418_ 2 3 rfl
  exact jt_rV ⟨hv418_, hf424_, rfl, (show a418_ 2 3 = 0 from by omega), (show (a0 2 1 = 0 → a418_ 2 2 = 0) from by omega), hq418_1⟩
def jWta : List (Nat × Nat) := [(75, 9999)]
def jWtb : List (Nat × Nat) := [(70, 9999), (71, 9999), (75, 9999)]
def jWtc : List (Nat × Nat) := [(73, 9999), (75, 9999)]
def jW_X7_add : List (Nat × Nat) := [(70, 9999), (71, 9999), (72, 9999), (73, 9999), (74, 9999), (75, 9999)]
abbrev jQ_X7_add (x1 x2 x3 x4 : Int) (a0 b0 : Nat → Nat → Int) : List jxV → (Nat → Nat → Int) → (Nat → Nat → Int) → Prop := rV (fun a b => (iv a) ∧ (jfr jW_X7_add a0 a) ∧ (b0 = b) ∧ (TAD a0 a x1 x2 x3 x4))
theorem cp_X7_add_104 (E : jxE) (d : Nat) (hd : Nat.ble 2 (d + 1) = true) (x1 x2 x3 x4 : Int) (a0 b0 : Nat → Nat → Int) (hv0 : iv a0) : ∀ (a : Nat → Nat → Int), iv a → jfr jW_X7_add a0 a → (TAD a0 a x1 x2 x3 x4) → jt (jxX E d 109 104 [none, none, none, none, none] [] (jxSH, a, b0)) (jQ_X7_add x1 x2 x3 x4 a0 b0) := by
  intro a hv hf htad
  refine jt_eq (bq_X7_add_104 E d a b0) ?_
  exact jt_rV ⟨hv, hf, rfl, htad⟩
theorem cp_X7_add_76 (E : jxE) (d : Nat) (hd : Nat.ble 2 (d + 1) = true) (x1 x2 x3 x4 : Int) (a0 b0 : Nat → Nat → Int) (hv0 : iv a0) : ∀ (y2 : Int) (a : Nat → Nat → Int), iv a → jfr jW_X7_add a0 a → 0 ≤ y2 → y2 ≤ 39 → (0 ≤ x1 ∧ x1 ≤ 39 ∧ 0 ≤ x2 ∧ x2 ≤ 39) → (jfr jWtc a0 a) → (y2 = x2) → (UP (a0 75) (a 75) x2.toNat x4) → x3 = 0 → (UP (a0 73) (a 73) x1.toNat (jxw (a0 73 x1.toNat + 1))) → jt (jxX E d 109 76 [some (.inr (.inr (.inl 69))), none, some (.inl y2), none, none] [] (jxSH, a, b0)) (jQ_X7_add x1 x2 x3 x4 a0 b0) := by
  intro y2 a hv hf hi0 hi1 hv4 hfe hy2 hu75 hi6 hu73
  refine jt_eq (bq_X7_add_76 E d y2 a b0) ?_
  refine jt_grd (by omega) ?_
  refine jt_grd (by omega) ?_
  have hv426_ : iv (jxu a 72 (y2.toNat) (jxw ((a 72 (y2.toNat)) + 1))) := iv_putf hv rfl
  have hf427_ : jfr jW_X7_add a0 (jxu a 72 (y2.toNat) (jxw ((a 72 (y2.toNat)) + 1))) := jfr_put hf rfl
  exact cp_X7_add_104 E d hd x1 x2 x3 x4 a0 b0 hv0 (jxu a 72 (y2.toNat) (jxw ((a 72 (y2.toNat)) + 1))) hv426_ hf427_ (TAD_b hv4 (by omega) (UP_cr hu75 (fun _ => rfl)) (by rw [hy2]; show UP (a0 72) (jxu a 72 x2.toNat (jxw (a 72 x2.toNat + 1)) 72) x2.toNat _; rw [show a 72 x2.toNat = a0 72 x2.toNat from hfe 72 _ rfl]; exact UP_put (fun j => hfe 72 j rfl)) (UP_cr hu73 (fun _ => rfl)) (fun j => hfe 70 j rfl) (fun j => hfe 71 j rfl) (fun j => hfe 74 j rfl))
theorem cp_X7_add_59 (E : jxE) (d : Nat) (hd : Nat.ble 2 (d + 1) = true) (x1 x2 x3 x4 : Int) (a0 b0 : Nat → Nat → Int) (hv0 : iv a0) : ∀ (a : Nat → Nat → Int), iv a → jfr jW_X7_add a0 a → (jfr jWtb a0 a) → (TAD a0 a x1 x2 x3 x4) → jt (jxX E d 109 59 [none, none, none, none, none] [] (jxSH, a, b0)) (jQ_X7_add x1 x2 x3 x4 a0 b0) := by
  intro a hv hf hfe htad
  refine jt_eq (bq_X7_add_59 E d a b0) ?_
  exact cp_X7_add_104 E d hd x1 x2 x3 x4 a0 b0 hv0 a hv hf htad
theorem cp_X7_add_39 (E : jxE) (d : Nat) (hd : Nat.ble 2 (d + 1) = true) (x1 x2 x3 x4 : Int) (a0 b0 : Nat → Nat → Int) (hv0 : iv a0) : ∀ (y1 y2 : Int) (a : Nat → Nat → Int), iv a → jfr jW_X7_add a0 a → 0 ≤ y1 → y1 ≤ 39 → 0 ≤ y2 → y2 ≤ 39 → (0 ≤ x1 ∧ x1 ≤ 39 ∧ 0 ≤ x2 ∧ x2 ≤ 39) → (jfr jWta a0 a) → (y1 = x1) → (y2 = x2) → (UP (a0 75) (a 75) x2.toNat x4) → (x3 = 1 ∨ x3 = 3) → jt (jxX E d 109 39 [some (.inr (.inr (.inl 69))), some (.inl y1), some (.inl y2), none, none] [] (jxSH, a, b0)) (jQ_X7_add x1 x2 x3 x4 a0 b0) := by
  intro y1 y2 a hv hf hi0 hi1 hi2 hi3 hv4 hfe hy1 hy2 hu75 hi9
  refine jt_eq (bq_X7_add_39 E d y1 y2 a b0) ?_
  refine jt_grd (by omega) ?_
  refine jt_grd (by omega) ?_
  refine jt_grd (by omega) ?_
  refine jt_grd (by omega) ?_
  have hv428_ : iv (jxu a 70 (y1.toNat) (jxw ((a 70 (y1.toNat)) + 1))) := iv_putf hv rfl
  have hv429_ : iv (jxu (jxu a 70 (y1.toNat) (jxw ((a 70 (y1.toNat)) + 1))) 71 (y2.toNat) (jxw ((a 71 (y2.toNat)) + 1))) := iv_putf hv428_ rfl
  have hf430_ : jfr jW_X7_add a0 (jxu a 70 (y1.toNat) (jxw ((a 70 (y1.toNat)) + 1))) := jfr_put hf rfl
  have hf431_ : jfr jW_X7_add a0 (jxu (jxu a 70 (y1.toNat) (jxw ((a 70 (y1.toNat)) + 1))) 71 (y2.toNat) (jxw ((a 71 (y2.toNat)) + 1))) := jfr_put hf430_ rfl
  have hf432_ : jfr jWtb a0 (jxu a 70 (y1.toNat) (jxw ((a 70 (y1.toNat)) + 1))) := jfr_put (jfr_tr (jfr_rf _ _) hfe rfl) rfl
  have hf433_ : jfr jWtb a0 (jxu (jxu a 70 (y1.toNat) (jxw ((a 70 (y1.toNat)) + 1))) 71 (y2.toNat) (jxw ((a 71 (y2.toNat)) + 1))) := jfr_put hf432_ rfl
  exact cp_X7_add_59 E d hd x1 x2 x3 x4 a0 b0 hv0 (jxu (jxu a 70 (y1.toNat) (jxw ((a 70 (y1.toNat)) + 1))) 71 (y2.toNat) (jxw ((a 71 (y2.toNat)) + 1))) hv429_ hf431_ hf433_ (TAD_a hv4 (by omega) (UP_cr hu75 (fun _ => rfl)) (by rw [hy1, hy2]; rw [show a 70 x1.toNat = a0 70 x1.toNat from hfe 70 _ rfl]; exact UP_put (fun j => hfe 70 j rfl)) (by rw [hy1, hy2]; show UP (a0 71) (jxu a 71 x2.toNat (jxw (a 71 x2.toNat + 1)) 71) x2.toNat _; rw [show a 71 x2.toNat = a0 71 x2.toNat from hfe 71 _ rfl]; exact UP_put (fun j => hfe 71 j rfl)) (fun j => hfe 72 j rfl) (fun j => hfe 73 j rfl) (fun j => hfe 74 j rfl))
theorem cp_X7_add_29 (E : jxE) (d : Nat) (hd : Nat.ble 2 (d + 1) = true) (x1 x2 x3 x4 : Int) (a0 b0 : Nat → Nat → Int) (hv0 : iv a0) : ∀ (y1 y2 y3 : Int) (a : Nat → Nat → Int), iv a → jfr jW_X7_add a0 a → 0 ≤ y1 → y1 ≤ 39 → 0 ≤ y2 → y2 ≤ 39 → (0 ≤ x1 ∧ x1 ≤ 39 ∧ 0 ≤ x2 ∧ x2 ≤ 39) → (jfr jWta a0 a) → (y1 = x1) → (y2 = x2) → (y3 = x3) → (UP (a0 75) (a 75) x2.toNat x4) → jt (jxX E d 109 29 [some (.inr (.inr (.inl 69))), some (.inl y1), some (.inl y2), some (.inl y3), none] [] (jxSH, a, b0)) (jQ_X7_add x1 x2 x3 x4 a0 b0) := by
  intro y1 y2 y3 a hv hf hi0 hi1 hi2 hi3 hv4 hfe hy1 hy2 hy3 hu75
  refine jt_eq (bq_X7_add_29 E d y1 y2 y3 a b0) ?_
  refine jt_ite (fun c434_ => ?_) (fun c434_ => ?_)
  ·
    exact cp_X7_add_39 E d hd x1 x2 x3 x4 a0 b0 hv0 y1 y2 a hv hf (show 0 ≤ y1 from by omega) (show y1 ≤ 39 from by omega) (show 0 ≤ y2 from by omega) (show y2 ≤ 39 from by omega) ⟨by omega, by omega, by omega, by omega⟩ hfe (by first | rfl | assumption) (by first | rfl | assumption) (by first | exact UP_put (fun _ => rfl) | exact hu75) (show (x3 = 1 ∨ x3 = 3) from by omega)
  ·
    refine jt_ite (fun c435_ => ?_) (fun c435_ => ?_)
    ·
      exact cp_X7_add_39 E d hd x1 x2 x3 x4 a0 b0 hv0 y1 y2 a hv hf (show 0 ≤ y1 from by omega) (show y1 ≤ 39 from by omega) (show 0 ≤ y2 from by omega) (show y2 ≤ 39 from by omega) ⟨by omega, by omega, by omega, by omega⟩ hfe (by first | rfl | assumption) (by first | rfl | assumption) (by first | exact UP_put (fun _ => rfl) | exact hu75) (show (x3 = 1 ∨ x3 = 3) from by omega)
    ·
      refine jt_ite (fun c436_ => ?_) (fun c436_ => ?_)
      ·
        refine jt_grd (by omega) ?_
        refine jt_grd (by omega) ?_
        have hv437_ : iv (jxu a 73 (y1.toNat) (jxw ((a 73 (y1.toNat)) + 1))) := iv_putf hv rfl
        have hf438_ : jfr jW_X7_add a0 (jxu a 73 (y1.toNat) (jxw ((a 73 (y1.toNat)) + 1))) := jfr_put hf rfl
        have hf439_ : jfr jWtc a0 (jxu a 73 (y1.toNat) (jxw ((a 73 (y1.toNat)) + 1))) := jfr_put (jfr_tr (jfr_rf _ _) hfe rfl) rfl
        exact cp_X7_add_76 E d hd x1 x2 x3 x4 a0 b0 hv0 y2 (jxu a 73 (y1.toNat) (jxw ((a 73 (y1.toNat)) + 1))) hv437_ hf438_ (show 0 ≤ y2 from by omega) (show y2 ≤ 39 from by omega) ⟨by omega, by omega, by omega, by omega⟩ hf439_ (by first | rfl | assumption) (by first | exact UP_put (fun _ => rfl) | exact hu75) (show x3 = 0 from by omega) (by rw [hy1]; rw [show a 73 x1.toNat = a0 73 x1.toNat from hfe 73 _ rfl]; exact UP_put (fun j => hfe 73 j rfl))
      ·
        refine jt_ite (fun c440_ => ?_) (fun c440_ => ?_)
        ·
          refine jt_grd (by omega) ?_
          refine jt_grd (by omega) ?_
          have hv441_ : iv (jxu a 74 (y1.toNat) (jxw ((a 74 (y1.toNat)) + 1))) := iv_putf hv rfl
          have hf442_ : jfr jW_X7_add a0 (jxu a 74 (y1.toNat) (jxw ((a 74 (y1.toNat)) + 1))) := jfr_put hf rfl
          exact cp_X7_add_104 E d hd x1 x2 x3 x4 a0 b0 hv0 (jxu a 74 (y1.toNat) (jxw ((a 74 (y1.toNat)) + 1))) hv441_ hf442_ (by first | exact TAD_c hv4 (by omega) (UP_cr hu75 (fun _ => rfl)) (by rw [hy1]; show UP (a0 74) (jxu a 74 x1.toNat (jxw (a 74 x1.toNat + 1)) 74) x1.toNat _; rw [show a 74 x1.toNat = a0 74 x1.toNat from hfe 74 _ rfl]; exact UP_put (fun j => hfe 74 j rfl)) (fun j => hfe 70 j rfl) (fun j => hfe 71 j rfl) (fun j => hfe 72 j rfl) (fun j => hfe 73 j rfl) | exact TAD_d hv4 (by omega) hu75 (fun j => hfe 70 j rfl) (fun j => hfe 71 j rfl) (fun j => hfe 72 j rfl) (fun j => hfe 73 j rfl) (fun j => hfe 74 j rfl))
        ·
          exact cp_X7_add_104 E d hd x1 x2 x3 x4 a0 b0 hv0 a hv hf (by first | exact TAD_c hv4 (by omega) (UP_cr hu75 (fun _ => rfl)) (by rw [hy1]; show UP (a0 74) (jxu a 74 x1.toNat (jxw (a 74 x1.toNat + 1)) 74) x1.toNat _; rw [show a 74 x1.toNat = a0 74 x1.toNat from hfe 74 _ rfl]; exact UP_put (fun j => hfe 74 j rfl)) (fun j => hfe 70 j rfl) (fun j => hfe 71 j rfl) (fun j => hfe 72 j rfl) (fun j => hfe 73 j rfl) | exact TAD_d hv4 (by omega) hu75 (fun j => hfe 70 j rfl) (fun j => hfe 71 j rfl) (fun j => hfe 72 j rfl) (fun j => hfe 73 j rfl) (fun j => hfe 74 j rfl))
theorem sp_X7_add (E : jxE) (d : Nat) (hd : Nat.ble 2 d = true) (x1 x2 x3 x4 : Int) (a0 b0 : Nat → Nat → Int) (hv0 : iv a0) : jt (jxC E d 109 [.inr (.inr (.inl 69)), .inl x1, .inl x2, .inl x3, .inl x4] (jxSH, a0, b0)) (jQ_X7_add x1 x2 x3 x4 a0 b0) := by
  obtain ⟨d, rfl⟩ := jd_succ hd
  refine jt_eq (bq_X7_add E d x1 x2 x3 x4 a0 b0) ?_
  refine jt_eI (eq_X11_within E d (jd_le hd rfl) x1 0 39 a0 b0) ?_
  have h443_ := f_X11_within_eq a0 b0 x1 0 39
  refine jt_ite (fun c444_ => ?_) (fun c444_ => ?_)
  ·
    exact jt_rV ⟨hv0, (jfr_rf _ _), rfl, (TAD_no (fun q => by omega))⟩
  ·
    refine jt_eI (eq_X11_within E d (jd_le hd rfl) x2 0 39 a0 b0) ?_
    have h445_ := f_X11_within_eq a0 b0 x2 0 39
    refine jt_ite (fun c446_ => ?_) (fun c446_ => ?_)
    ·
      exact jt_rV ⟨hv0, (jfr_rf _ _), rfl, (TAD_no (fun q => by omega))⟩
    ·
      refine jt_grd (by omega) ?_
      have hv447_ : iv (jxu a0 75 (x2.toNat) x4) := iv_putf hv0 rfl
      have hf448_ : jfr jW_X7_add a0 (jxu a0 75 (x2.toNat) x4) := jfr_put (jfr_rf _ _) rfl
      have hf449_ : jfr jWta a0 (jxu a0 75 (x2.toNat) x4) := jfr_put (jfr_rf _ _) rfl
      exact cp_X7_add_29 E d hd x1 x2 x3 x4 a0 b0 hv0 x1 x2 x3 (jxu a0 75 (x2.toNat) x4) hv447_ hf448_ (show 0 ≤ x1 from by omega) (show x1 ≤ 39 from by omega) (show 0 ≤ x2 from by omega) (show x2 ≤ 39 from by omega) ⟨by omega, by omega, by omega, by omega⟩ hf449_ (by first | rfl | assumption) (by first | rfl | assumption) (by first | rfl | assumption) (by first | exact UP_put (fun _ => rfl) | exact hu75)
def jW_X7_take_r58 : List (Nat × Nat) := [(70, 9999), (71, 9999), (72, 9999), (73, 9999), (74, 9999), (75, 9999)]
abbrev jQ_X7_take_r58 (x2 : Int) (a0 b0 : Nat → Nat → Int) : List jxV → (Nat → Nat → Int) → (Nat → Nat → Int) → Prop := rV (fun a b => (iv a) ∧ (jfr jW_X7_take_r58 a0 a) ∧ (b0 = b) ∧ (TSUM a0 b0 x2 a (a0 58 8).toNat))
theorem cp_X7_take_r58_58 (E : jxE) (d : Nat) (hd : Nat.ble 4 (d + 1) = true) (x2 : Int) (a0 b0 : Nat → Nat → Int) (hv0 : iv a0) : ∀ n : Nat, (∀ (y2 y3 : Int) (a : Nat → Nat → Int), (((300 - y3) * 1) + 0).toNat ≤ n → iv a → jfr jW_X7_take_r58 a0 a → 0 ≤ y3 → y3 ≤ 299 → y2 = x2 → 0 ≤ y3 → y3 < a 58 8 → (TSUM a0 b0 x2 a (y3.toNat + 1)) → jt (jxX E d 108 91 [some (.inr (.inr (.inl 69))), some (.inr (.inr (.inl 58))), some (.inl y2), some (.inl y3)] [] (jxSH, a, b0)) (jQ_X7_take_r58 x2 a0 b0)) ∧ (∀ (y2 y3 : Int) (a : Nat → Nat → Int), (((300 - y3) * 1) + 0).toNat ≤ n → iv a → jfr jW_X7_take_r58 a0 a → 0 ≤ y3 → y3 ≤ 300 → y2 = x2 → 0 ≤ y3 → y3 ≤ a 58 8 → (TSUM a0 b0 x2 a y3.toNat) → jt (jxX E d 108 58 [some (.inr (.inr (.inl 69))), some (.inr (.inr (.inl 58))), some (.inl y2), some (.inl y3)] [] (jxSH, a, b0)) (jQ_X7_take_r58 x2 a0 b0)) := by
  refine jx_ind fun n ih => ?_
  have ih91 : ∀ (y2 y3 : Int) (a : Nat → Nat → Int), (((300 - y3) * 1) + 0).toNat < n → iv a → jfr jW_X7_take_r58 a0 a → 0 ≤ y3 → y3 ≤ 299 → y2 = x2 → 0 ≤ y3 → y3 < a 58 8 → (TSUM a0 b0 x2 a (y3.toNat + 1)) → jt (jxX E d 108 91 [some (.inr (.inr (.inl 69))), some (.inr (.inr (.inl 58))), some (.inl y2), some (.inl y3)] [] (jxSH, a, b0)) (jQ_X7_take_r58 x2 a0 b0) := fun y2 y3 a hlt i0 i1 i2 i3 i4 i5 i6 i7 => (ih _ hlt).1 y2 y3 a (Nat.le_refl _) i0 i1 i2 i3 i4 i5 i6 i7
  have ih58 : ∀ (y2 y3 : Int) (a : Nat → Nat → Int), (((300 - y3) * 1) + 0).toNat < n → iv a → jfr jW_X7_take_r58 a0 a → 0 ≤ y3 → y3 ≤ 300 → y2 = x2 → 0 ≤ y3 → y3 ≤ a 58 8 → (TSUM a0 b0 x2 a y3.toNat) → jt (jxX E d 108 58 [some (.inr (.inr (.inl 69))), some (.inr (.inr (.inl 58))), some (.inl y2), some (.inl y3)] [] (jxSH, a, b0)) (jQ_X7_take_r58 x2 a0 b0) := fun y2 y3 a hlt i0 i1 i2 i3 i4 i5 i6 i7 => (ih _ hlt).2 y2 y3 a (Nat.le_refl _) i0 i1 i2 i3 i4 i5 i6 i7
  have hc91 : ∀ (y2 y3 : Int) (a : Nat → Nat → Int), (((300 - y3) * 1) + 0).toNat ≤ n → iv a → jfr jW_X7_take_r58 a0 a → 0 ≤ y3 → y3 ≤ 299 → y2 = x2 → 0 ≤ y3 → y3 < a 58 8 → (TSUM a0 b0 x2 a (y3.toNat + 1)) → jt (jxX E d 108 91 [some (.inr (.inr (.inl 69))), some (.inr (.inr (.inl 58))), some (.inl y2), some (.inl y3)] [] (jxSH, a, b0)) (jQ_X7_take_r58 x2 a0 b0) := by
    intro y2 y3 a hm hv hf hi0 hi1 hi2 hi3 hi4 hts
    refine jt_eq (bq_X7_take_r58_91 E d y2 y3 a b0) ?_
    have h450_ := iv_get hv (k := 58) (j := 8) (l := 0) (u := 300) rfl
    have h451_ : a 58 8 = a0 58 8 := hf 58 8 rfl
    have h452_ := iv_get hv0 (k := 58) (j := 8) (l := 0) (u := 300) rfl
    have h453_ : jxw (y3 + 1) = y3 + 1 := jxw_id (by omega) (by omega)
    exact ih58 y2 (jxw (y3 + 1)) a (show (((300 - (jxw (y3 + 1))) * 1) + 0).toNat < n from by omega) hv hf (show 0 ≤ jxw (y3 + 1) from by omega) (show jxw (y3 + 1) ≤ 300 from by omega) (show y2 = x2 from by omega) (show 0 ≤ jxw (y3 + 1) from by omega) (show jxw (y3 + 1) ≤ a 58 8 from by omega) (by first | exact TSUM_0 (fun m h => hz m (by omega)) | (rw [show (jxw (y3 + 1)).toNat = y3.toNat + 1 from by omega]; exact hts))
  have hc58 : ∀ (y2 y3 : Int) (a : Nat → Nat → Int), (((300 - y3) * 1) + 0).toNat ≤ n → iv a → jfr jW_X7_take_r58 a0 a → 0 ≤ y3 → y3 ≤ 300 → y2 = x2 → 0 ≤ y3 → y3 ≤ a 58 8 → (TSUM a0 b0 x2 a y3.toNat) → jt (jxX E d 108 58 [some (.inr (.inr (.inl 69))), some (.inr (.inr (.inl 58))), some (.inl y2), some (.inl y3)] [] (jxSH, a, b0)) (jQ_X7_take_r58 x2 a0 b0) := by
    intro y2 y3 a hm hv hf hi0 hi1 hi2 hi3 hi4 hts
    refine jt_eq (bq_X7_take_r58_58 E d y2 y3 a b0) ?_
    have h454_ := iv_get hv (k := 58) (j := 8) (l := 0) (u := 300) rfl
    have h455_ : a 58 8 = a0 58 8 := hf 58 8 rfl
    have h456_ := iv_get hv0 (k := 58) (j := 8) (l := 0) (u := 300) rfl
    have i588 := iv_get hv (k := 58) (j := 8) (l := 0) (u := 300) rfl
    have hr59 : a 59 y3.toNat = a0 59 y3.toNat := hf 59 _ rfl
    have hr60 : a 60 y3.toNat = a0 60 y3.toNat := hf 60 _ rfl
    have hr61 : a 61 y3.toNat = a0 61 y3.toNat := hf 61 _ rfl
    have hstn : f_X0_stateNow a b0 y3 x2 = f_X0_stateNow a0 b0 ((y3.toNat : Nat) : Int) x2 := by rw [show ((y3.toNat : Nat) : Int) = y3 from by omega]; exact stNow_fr (hf 58 8 rfl) (hf 58 12 rfl) (funext fun j => hf 61 j rfl) (funext fun j => hf 62 j rfl) (funext fun j => hf 64 j rfl) (funext fun j => hf 65 j rfl) (funext fun j => hf 67 j rfl) _ _
    refine jt_eI (eq_X0_size E d (jd_le hd rfl) a b0) ?_
    have h457_ := f_X0_size_eq a b0
    refine jt_ite (fun c458_ => ?_) (fun c458_ => ?_)
    ·
      refine jt_eI (eq_X0_fromOf E d (jd_le hd rfl) y3 a b0) ?_
      refine jt_eI (eq_X0_toOf E d (jd_le hd rfl) y3 a b0) ?_
      refine jt_eI (eq_X0_stateNow E d (jd_le hd rfl) y3 y2 a b0) ?_
      refine jt_eI (eq_X0_sentOnOf E d (jd_le hd rfl) y3 a b0) ?_
      refine jt_bV (sp_X7_add E d (jd_le hd rfl) (f_X0_fromOf a b0 y3) (f_X0_toOf a b0 y3) (f_X0_stateNow a b0 y3 y2) (f_X0_sentOnOf a b0 y3) a b0 hv) (fun a459_ b459_ h459_ => ?_)
      obtain ⟨hv459_, hf459_, rfl, hq459_0⟩ := h459_
      have hf460_ : jfr jW_X7_take_r58 a0 a459_ := jfr_tr hf hf459_ rfl
      have h461_ := iv_get hv459_ (k := 58) (j := 8) (l := 0) (u := 300) rfl
      have h462_ : a459_ 58 8 = a 58 8 := hf459_ 58 8 rfl
      exact hc91 y2 y3 a459_ (show (((300 - y3) * 1) + 0).toNat ≤ n from by omega) hv459_ hf460_ (show 0 ≤ y3 from by omega) (show y3 ≤ 299 from by omega) (show y2 = x2 from by omega) (show 0 ≤ y3 from by omega) (show y3 < a459_ 58 8 from by omega) (by have q := hq459_0; rw [fromOf_at (by omega) (by omega) i588.2, toOf_at (by omega) (by omega) i588.2, sentOf_at (by omega) (by omega) i588.2, show y2 = x2 from by omega, hstn, hr59, hr60, hr61] at q; exact TSUM_step hts (by omega) q)
    ·
      exact jt_rV ⟨hv, hf, rfl, (by rw [show (a0 58 8).toNat = y3.toNat from by omega]; exact hts)⟩
  exact ⟨hc91, hc58⟩
theorem cp_X7_take_r58_2 (E : jxE) (d : Nat) (hd : Nat.ble 4 (d + 1) = true) (x2 : Int) (a0 b0 : Nat → Nat → Int) (hv0 : iv a0) : ∀ n : Nat, (∀ (y2 y3 : Int) (a : Nat → Nat → Int), (((40 - y3) * 1) + 0).toNat ≤ n → iv a → jfr jW_X7_take_r58 a0 a → 0 ≤ y3 → y3 ≤ 39 → y2 = x2 → 0 ≤ y3 → (∀ m : Nat, (m : Int) < y3 + 1 → a 70 m = 0 ∧ a 71 m = 0 ∧ a 72 m = 0 ∧ a 73 m = 0 ∧ a 74 m = 0 ∧ a 75 m = -1) → jt (jxX E d 108 50 [some (.inr (.inr (.inl 69))), some (.inr (.inr (.inl 58))), some (.inl y2), some (.inl y3)] [] (jxSH, a, b0)) (jQ_X7_take_r58 x2 a0 b0)) ∧ (∀ (y2 y3 : Int) (a : Nat → Nat → Int), (((40 - y3) * 1) + 0).toNat ≤ n → iv a → jfr jW_X7_take_r58 a0 a → 0 ≤ y3 → y3 ≤ 39 → y2 = x2 → 0 ≤ y3 → (∀ m : Nat, (m : Int) < y3 → a 70 m = 0 ∧ a 71 m = 0 ∧ a 72 m = 0 ∧ a 73 m = 0 ∧ a 74 m = 0 ∧ a 75 m = -1) → (a 70 y3.toNat = 0 ∧ a 71 y3.toNat = 0 ∧ a 72 y3.toNat = 0) → jt (jxX E d 108 29 [some (.inr (.inr (.inl 69))), some (.inr (.inr (.inl 58))), some (.inl y2), some (.inl y3)] [] (jxSH, a, b0)) (jQ_X7_take_r58 x2 a0 b0)) ∧ (∀ (y2 y3 : Int) (a : Nat → Nat → Int), (((40 - y3) * 1) + 0).toNat ≤ n → iv a → jfr jW_X7_take_r58 a0 a → 0 ≤ y3 → y3 ≤ 40 → y2 = x2 → 0 ≤ y3 → (∀ m : Nat, (m : Int) < y3 → a 70 m = 0 ∧ a 71 m = 0 ∧ a 72 m = 0 ∧ a 73 m = 0 ∧ a 74 m = 0 ∧ a 75 m = -1) → jt (jxX E d 108 2 [some (.inr (.inr (.inl 69))), some (.inr (.inr (.inl 58))), some (.inl y2), some (.inl y3)] [] (jxSH, a, b0)) (jQ_X7_take_r58 x2 a0 b0)) := by
  refine jx_ind fun n ih => ?_
  have ih50 : ∀ (y2 y3 : Int) (a : Nat → Nat → Int), (((40 - y3) * 1) + 0).toNat < n → iv a → jfr jW_X7_take_r58 a0 a → 0 ≤ y3 → y3 ≤ 39 → y2 = x2 → 0 ≤ y3 → (∀ m : Nat, (m : Int) < y3 + 1 → a 70 m = 0 ∧ a 71 m = 0 ∧ a 72 m = 0 ∧ a 73 m = 0 ∧ a 74 m = 0 ∧ a 75 m = -1) → jt (jxX E d 108 50 [some (.inr (.inr (.inl 69))), some (.inr (.inr (.inl 58))), some (.inl y2), some (.inl y3)] [] (jxSH, a, b0)) (jQ_X7_take_r58 x2 a0 b0) := fun y2 y3 a hlt i0 i1 i2 i3 i4 i5 i6 => (ih _ hlt).1 y2 y3 a (Nat.le_refl _) i0 i1 i2 i3 i4 i5 i6
  have ih29 : ∀ (y2 y3 : Int) (a : Nat → Nat → Int), (((40 - y3) * 1) + 0).toNat < n → iv a → jfr jW_X7_take_r58 a0 a → 0 ≤ y3 → y3 ≤ 39 → y2 = x2 → 0 ≤ y3 → (∀ m : Nat, (m : Int) < y3 → a 70 m = 0 ∧ a 71 m = 0 ∧ a 72 m = 0 ∧ a 73 m = 0 ∧ a 74 m = 0 ∧ a 75 m = -1) → (a 70 y3.toNat = 0 ∧ a 71 y3.toNat = 0 ∧ a 72 y3.toNat = 0) → jt (jxX E d 108 29 [some (.inr (.inr (.inl 69))), some (.inr (.inr (.inl 58))), some (.inl y2), some (.inl y3)] [] (jxSH, a, b0)) (jQ_X7_take_r58 x2 a0 b0) := fun y2 y3 a hlt i0 i1 i2 i3 i4 i5 i6 i7 => (ih _ hlt).2.1 y2 y3 a (Nat.le_refl _) i0 i1 i2 i3 i4 i5 i6 i7
  have ih2 : ∀ (y2 y3 : Int) (a : Nat → Nat → Int), (((40 - y3) * 1) + 0).toNat < n → iv a → jfr jW_X7_take_r58 a0 a → 0 ≤ y3 → y3 ≤ 40 → y2 = x2 → 0 ≤ y3 → (∀ m : Nat, (m : Int) < y3 → a 70 m = 0 ∧ a 71 m = 0 ∧ a 72 m = 0 ∧ a 73 m = 0 ∧ a 74 m = 0 ∧ a 75 m = -1) → jt (jxX E d 108 2 [some (.inr (.inr (.inl 69))), some (.inr (.inr (.inl 58))), some (.inl y2), some (.inl y3)] [] (jxSH, a, b0)) (jQ_X7_take_r58 x2 a0 b0) := fun y2 y3 a hlt i0 i1 i2 i3 i4 i5 i6 => (ih _ hlt).2.2 y2 y3 a (Nat.le_refl _) i0 i1 i2 i3 i4 i5 i6
  have hc50 : ∀ (y2 y3 : Int) (a : Nat → Nat → Int), (((40 - y3) * 1) + 0).toNat ≤ n → iv a → jfr jW_X7_take_r58 a0 a → 0 ≤ y3 → y3 ≤ 39 → y2 = x2 → 0 ≤ y3 → (∀ m : Nat, (m : Int) < y3 + 1 → a 70 m = 0 ∧ a 71 m = 0 ∧ a 72 m = 0 ∧ a 73 m = 0 ∧ a 74 m = 0 ∧ a 75 m = -1) → jt (jxX E d 108 50 [some (.inr (.inr (.inl 69))), some (.inr (.inr (.inl 58))), some (.inl y2), some (.inl y3)] [] (jxSH, a, b0)) (jQ_X7_take_r58 x2 a0 b0) := by
    intro y2 y3 a hm hv hf hi0 hi1 hi2 hi3 hz
    refine jt_eq (bq_X7_take_r58_50 E d y2 y3 a b0) ?_
    have h463_ : jxw (y3 + 1) = y3 + 1 := jxw_id (by omega) (by omega)
    exact ih2 y2 (jxw (y3 + 1)) a (show (((40 - (jxw (y3 + 1))) * 1) + 0).toNat < n from by omega) hv hf (show 0 ≤ jxw (y3 + 1) from by omega) (show jxw (y3 + 1) ≤ 40 from by omega) (show y2 = x2 from by omega) (show 0 ≤ jxw (y3 + 1) from by omega) (by first | exact (fun m h => absurd h (by omega)) | exact (fun m h => hz m (by omega)))
  have hc29 : ∀ (y2 y3 : Int) (a : Nat → Nat → Int), (((40 - y3) * 1) + 0).toNat ≤ n → iv a → jfr jW_X7_take_r58 a0 a → 0 ≤ y3 → y3 ≤ 39 → y2 = x2 → 0 ≤ y3 → (∀ m : Nat, (m : Int) < y3 → a 70 m = 0 ∧ a 71 m = 0 ∧ a 72 m = 0 ∧ a 73 m = 0 ∧ a 74 m = 0 ∧ a 75 m = -1) → (a 70 y3.toNat = 0 ∧ a 71 y3.toNat = 0 ∧ a 72 y3.toNat = 0) → jt (jxX E d 108 29 [some (.inr (.inr (.inl 69))), some (.inr (.inr (.inl 58))), some (.inl y2), some (.inl y3)] [] (jxSH, a, b0)) (jQ_X7_take_r58 x2 a0 b0) := by
    intro y2 y3 a hm hv hf hi0 hi1 hi2 hi3 hz hz3
    refine jt_eq (bq_X7_take_r58_29 E d y2 y3 a b0) ?_
    refine jt_grd (by omega) ?_
    refine jt_grd (by omega) ?_
    refine jt_grd (by omega) ?_
    have hv464_ : iv (jxu a 73 (y3.toNat) 0) := iv_putf hv rfl
    have hv465_ : iv (jxu (jxu a 73 (y3.toNat) 0) 74 (y3.toNat) 0) := iv_putf hv464_ rfl
    have hv466_ : iv (jxu (jxu (jxu a 73 (y3.toNat) 0) 74 (y3.toNat) 0) 75 (y3.toNat) (-1)) := iv_putf hv465_ rfl
    have hf467_ : jfr jW_X7_take_r58 a0 (jxu a 73 (y3.toNat) 0) := jfr_put hf rfl
    have hf468_ : jfr jW_X7_take_r58 a0 (jxu (jxu a 73 (y3.toNat) 0) 74 (y3.toNat) 0) := jfr_put hf467_ rfl
    have hf469_ : jfr jW_X7_take_r58 a0 (jxu (jxu (jxu a 73 (y3.toNat) 0) 74 (y3.toNat) 0) 75 (y3.toNat) (-1)) := jfr_put hf468_ rfl
    exact hc50 y2 y3 (jxu (jxu (jxu a 73 (y3.toNat) 0) 74 (y3.toNat) 0) 75 (y3.toNat) (-1)) (show (((40 - y3) * 1) + 0).toNat ≤ n from by omega) hv466_ hf469_ (show 0 ≤ y3 from by omega) (show y3 ≤ 39 from by omega) (show y2 = x2 from by omega) (show 0 ≤ y3 from by omega) (fun m h => by by_cases e : m = y3.toNat <;> first | (rw [e]; refine ⟨hz3.1, hz3.2.1, hz3.2.2, ?_, ?_, ?_⟩ <;> (show (if y3.toNat = y3.toNat then _ else _) = _; rw [if_pos rfl])) | (have q := hz m (by omega); refine ⟨q.1, q.2.1, q.2.2.1, ?_, ?_, ?_⟩ <;> (show (if m = y3.toNat then _ else _) = _; rw [if_neg e]) <;> first | exact q.2.2.2.1 | exact q.2.2.2.2.1 | exact q.2.2.2.2.2))
  have hc2 : ∀ (y2 y3 : Int) (a : Nat → Nat → Int), (((40 - y3) * 1) + 0).toNat ≤ n → iv a → jfr jW_X7_take_r58 a0 a → 0 ≤ y3 → y3 ≤ 40 → y2 = x2 → 0 ≤ y3 → (∀ m : Nat, (m : Int) < y3 → a 70 m = 0 ∧ a 71 m = 0 ∧ a 72 m = 0 ∧ a 73 m = 0 ∧ a 74 m = 0 ∧ a 75 m = -1) → jt (jxX E d 108 2 [some (.inr (.inr (.inl 69))), some (.inr (.inr (.inl 58))), some (.inl y2), some (.inl y3)] [] (jxSH, a, b0)) (jQ_X7_take_r58 x2 a0 b0) := by
    intro y2 y3 a hm hv hf hi0 hi1 hi2 hi3 hz
    refine jt_eq (bq_X7_take_r58_2 E d y2 y3 a b0) ?_
    refine jt_ite (fun c470_ => ?_) (fun c470_ => ?_)
    ·
      refine jt_grd (by omega) ?_
      refine jt_grd (by omega) ?_
      refine jt_grd (by omega) ?_
      have hv471_ : iv (jxu a 70 (y3.toNat) 0) := iv_putf hv rfl
      have hv472_ : iv (jxu (jxu a 70 (y3.toNat) 0) 71 (y3.toNat) 0) := iv_putf hv471_ rfl
      have hv473_ : iv (jxu (jxu (jxu a 70 (y3.toNat) 0) 71 (y3.toNat) 0) 72 (y3.toNat) 0) := iv_putf hv472_ rfl
      have hf474_ : jfr jW_X7_take_r58 a0 (jxu a 70 (y3.toNat) 0) := jfr_put hf rfl
      have hf475_ : jfr jW_X7_take_r58 a0 (jxu (jxu a 70 (y3.toNat) 0) 71 (y3.toNat) 0) := jfr_put hf474_ rfl
      have hf476_ : jfr jW_X7_take_r58 a0 (jxu (jxu (jxu a 70 (y3.toNat) 0) 71 (y3.toNat) 0) 72 (y3.toNat) 0) := jfr_put hf475_ rfl
      exact hc29 y2 y3 (jxu (jxu (jxu a 70 (y3.toNat) 0) 71 (y3.toNat) 0) 72 (y3.toNat) 0) (show (((40 - y3) * 1) + 0).toNat ≤ n from by omega) hv473_ hf476_ (show 0 ≤ y3 from by omega) (show y3 ≤ 39 from by omega) (show y2 = x2 from by omega) (show 0 ≤ y3 from by omega) (fun m h => by have q := hz m (by omega); refine ⟨?_, ?_, ?_, q.2.2.2.1, q.2.2.2.2.1, q.2.2.2.2.2⟩ <;> (show (if m = y3.toNat then 0 else _) = 0; rw [if_neg (by omega)]) <;> first | exact q.1 | exact q.2.1 | exact q.2.2.1) (by refine ⟨?_, ?_, ?_⟩ <;> (show (if y3.toNat = y3.toNat then 0 else _) = 0; rw [if_pos rfl]))
    ·
      have h477_ := iv_get hv (k := 58) (j := 8) (l := 0) (u := 300) rfl
      have h478_ : a 58 8 = a0 58 8 := hf 58 8 rfl
      have h479_ := iv_get hv0 (k := 58) (j := 8) (l := 0) (u := 300) rfl
      exact (cp_X7_take_r58_58 E d hd x2 a0 b0 hv0 _).2 y2 0 a (Nat.le_refl _) hv hf (show 0 ≤ 0 from by omega) (show 0 ≤ 300 from by omega) (show y2 = x2 from by omega) (show 0 ≤ 0 from by omega) (show 0 ≤ a 58 8 from by omega) (by first | exact TSUM_0 (fun m h => hz m (by omega)) | (rw [show (jxw (y3 + 1)).toNat = y3.toNat + 1 from by omega]; exact hts))
  exact ⟨hc50, hc29, hc2⟩
theorem sp_X7_take_r58 (E : jxE) (d : Nat) (hd : Nat.ble 4 d = true) (x2 : Int) (a0 b0 : Nat → Nat → Int) (hv0 : iv a0) : jt (jxC E d 108 [.inr (.inr (.inl 69)), .inr (.inr (.inl 58)), .inl x2] (jxSH, a0, b0)) (jQ_X7_take_r58 x2 a0 b0) := by
  obtain ⟨d, rfl⟩ := jd_succ hd
  refine jt_eq (bq_X7_take_r58 E d x2 a0 b0) ?_
  exact (cp_X7_take_r58_2 E d hd x2 a0 b0 hv0 _).2.2 x2 0 a0 (Nat.le_refl _) hv0 (jfr_rf _ _) (show 0 ≤ 0 from by omega) (show 0 ≤ 40 from by omega) (show x2 = x2 from by omega) (show 0 ≤ 0 from by omega) (by first | exact (fun m h => absurd h (by omega)) | exact (fun m h => hz m (by omega)))
def jW_X11_about : List (Nat × Nat) := [(70, 9999), (71, 9999), (72, 9999), (73, 9999), (74, 9999), (75, 9999)]
abbrev jQ_X11_about (x1 x2 : Int) (a0 b0 : Nat → Nat → Int) : List jxV → (Nat → Nat → Int) → (Nat → Nat → Int) → Prop := rI (fun r a b => (iv a) ∧ (jfr jW_X11_about a0 a) ∧ (b0 = b) ∧ ((a0 4 6 = 0 → ((x2 = 5 ∧ r = 0 - 1000) ∨ (¬ x2 = 5 ∧ r = 0 - 1)))) ∧ (0 ≤ x1 ∧ x1 < a0 4 6 → ∃ a1, jfr jWtk a0 a1 ∧ TSUM a0 b0 (a0 0 0) a1 (a0 58 8).toNat ∧ (x2 = 0 → r = f_X7_givenBy a1 b0 x1) ∧ (x2 = 1 → r = f_X7_gotBy a1 b0 x1) ∧ (x2 = 2 → r = f_X7_comingTo a1 b0 x1) ∧ (x2 = 3 → r = f_X7_outOf a1 b0 x1) ∧ (x2 = 4 → r = f_X3_creditOf a1 b0 x1) ∧ (x2 = 5 → r = f_X11_owed a1 b0 x1) ∧ (x2 = 6 → r = (if f_X11_mayAsk a1 b0 x1 = 0 then 0 else 1)) ∧ (x2 = 7 → r = f_X3_landOf a1 b0 x1) ∧ (x2 = 8 → r = (if f_X3_isThere a1 b0 x1 = 0 then 0 else 1)) ∧ (x2 = 9 → r = f_X3_cameOnOf a1 b0 x1) ∧ (x2 = 10 → r = f_X7_lostOf a1 b0 x1) ∧ (x2 < 0 ∨ 10 < x2 → r = -1)) ∧ (¬ (0 ≤ x1 ∧ x1 < a0 4 6) → r = if x2 = 5 then -1000 else -1) ∧ (cvC a = cvC a0))
theorem cp_X11_about_100 (E : jxE) (d : Nat) (hd : Nat.ble 5 (d + 1) = true) (x1 x2 : Int) (a0 b0 : Nat → Nat → Int) (hv0 : iv a0) : ∀ (y1 : Int) (a : Nat → Nat → Int), iv a → jfr jW_X11_about a0 a → 0 ≤ y1 → y1 ≤ 39 → (jfr jWtk a0 a) → (TSUM a0 b0 (a0 0 0) a (a0 58 8).toNat) → (0 ≤ x1 ∧ x1 < a 4 6) → (y1 = x1) → x2 = 0 → 1 ≤ a0 4 6 → jt (jxX E d 181 100 [some (.inr (.inr (.inl 0))), some (.inl y1), none] [] (jxSH, a, b0)) (jQ_X11_about x1 x2 a0 b0) := by
  intro y1 a hv hf hi0 hi1 hfe hts hi4 hy1 hi6 hi7
  refine jt_eq (bq_X11_about_100 E d y1 a b0) ?_
  have h480_ := iv_get hv (k := 4) (j := 6) (l := 0) (u := 40) rfl
  have h481_ : a 4 6 = a0 4 6 := hf 4 6 rfl
  have h482_ := iv_get hv0 (k := 4) (j := 6) (l := 0) (u := 40) rfl
  refine jt_eI (eq_X7_givenBy E d (jd_le hd rfl) y1 a b0) ?_
  have h483_ := f_X7_givenBy_eq a b0 y1
  have h484_ := f_X11_entry_r70_eq a b0 40 y1
  exact jt_rI ⟨hv, hf, rfl, (show (a0 4 6 = 0 → ((x2 = 5 ∧ f_X7_givenBy a b0 y1 = 0 - 1000) ∨ (¬ x2 = 5 ∧ f_X7_givenBy a b0 y1 = 0 - 1))) from by omega), (fun _ => ⟨a, hfe, hts, (fun _ => by rw [← hy1]; first | done | rw [if_pos (by assumption)] | rw [if_neg (by assumption)]), (fun h => absurd (by omega : False) id), (fun h => absurd (by omega : False) id), (fun h => absurd (by omega : False) id), (fun h => absurd (by omega : False) id), (fun h => absurd (by omega : False) id), (fun h => absurd (by omega : False) id), (fun h => absurd (by omega : False) id), (fun h => absurd (by omega : False) id), (fun h => absurd (by omega : False) id), (fun h => absurd (by omega : False) id), (fun h => absurd (by omega : False) id)⟩), (fun h => absurd (by omega) h), (cvC_fr hfe rfl)⟩
theorem cp_X11_about_109 (E : jxE) (d : Nat) (hd : Nat.ble 5 (d + 1) = true) (x1 x2 : Int) (a0 b0 : Nat → Nat → Int) (hv0 : iv a0) : ∀ (y1 : Int) (a : Nat → Nat → Int), iv a → jfr jW_X11_about a0 a → 0 ≤ y1 → y1 ≤ 39 → (jfr jWtk a0 a) → (TSUM a0 b0 (a0 0 0) a (a0 58 8).toNat) → (0 ≤ x1 ∧ x1 < a 4 6) → (y1 = x1) → x2 = 1 → 1 ≤ a0 4 6 → jt (jxX E d 181 109 [some (.inr (.inr (.inl 0))), some (.inl y1), none] [] (jxSH, a, b0)) (jQ_X11_about x1 x2 a0 b0) := by
  intro y1 a hv hf hi0 hi1 hfe hts hi4 hy1 hi6 hi7
  refine jt_eq (bq_X11_about_109 E d y1 a b0) ?_
  have h485_ := iv_get hv (k := 4) (j := 6) (l := 0) (u := 40) rfl
  have h486_ : a 4 6 = a0 4 6 := hf 4 6 rfl
  have h487_ := iv_get hv0 (k := 4) (j := 6) (l := 0) (u := 40) rfl
  refine jt_eI (eq_X7_gotBy E d (jd_le hd rfl) y1 a b0) ?_
  have h488_ := f_X7_gotBy_eq a b0 y1
  have h489_ := f_X11_entry_r71_eq a b0 40 y1
  exact jt_rI ⟨hv, hf, rfl, (show (a0 4 6 = 0 → ((x2 = 5 ∧ f_X7_gotBy a b0 y1 = 0 - 1000) ∨ (¬ x2 = 5 ∧ f_X7_gotBy a b0 y1 = 0 - 1))) from by omega), (fun _ => ⟨a, hfe, hts, (fun h => absurd (by omega : False) id), (fun _ => by rw [← hy1]; first | done | rw [if_pos (by assumption)] | rw [if_neg (by assumption)]), (fun h => absurd (by omega : False) id), (fun h => absurd (by omega : False) id), (fun h => absurd (by omega : False) id), (fun h => absurd (by omega : False) id), (fun h => absurd (by omega : False) id), (fun h => absurd (by omega : False) id), (fun h => absurd (by omega : False) id), (fun h => absurd (by omega : False) id), (fun h => absurd (by omega : False) id), (fun h => absurd (by omega : False) id)⟩), (fun h => absurd (by omega) h), (cvC_fr hfe rfl)⟩
theorem cp_X11_about_118 (E : jxE) (d : Nat) (hd : Nat.ble 5 (d + 1) = true) (x1 x2 : Int) (a0 b0 : Nat → Nat → Int) (hv0 : iv a0) : ∀ (y1 : Int) (a : Nat → Nat → Int), iv a → jfr jW_X11_about a0 a → 0 ≤ y1 → y1 ≤ 39 → (jfr jWtk a0 a) → (TSUM a0 b0 (a0 0 0) a (a0 58 8).toNat) → (0 ≤ x1 ∧ x1 < a 4 6) → (y1 = x1) → x2 = 2 → 1 ≤ a0 4 6 → jt (jxX E d 181 118 [some (.inr (.inr (.inl 0))), some (.inl y1), none] [] (jxSH, a, b0)) (jQ_X11_about x1 x2 a0 b0) := by
  intro y1 a hv hf hi0 hi1 hfe hts hi4 hy1 hi6 hi7
  refine jt_eq (bq_X11_about_118 E d y1 a b0) ?_
  have h490_ := iv_get hv (k := 4) (j := 6) (l := 0) (u := 40) rfl
  have h491_ : a 4 6 = a0 4 6 := hf 4 6 rfl
  have h492_ := iv_get hv0 (k := 4) (j := 6) (l := 0) (u := 40) rfl
  refine jt_eI (eq_X7_comingTo E d (jd_le hd rfl) y1 a b0) ?_
  have h493_ := f_X7_comingTo_eq a b0 y1
  have h494_ := f_X11_entry_r72_eq a b0 40 y1
  exact jt_rI ⟨hv, hf, rfl, (show (a0 4 6 = 0 → ((x2 = 5 ∧ f_X7_comingTo a b0 y1 = 0 - 1000) ∨ (¬ x2 = 5 ∧ f_X7_comingTo a b0 y1 = 0 - 1))) from by omega), (fun _ => ⟨a, hfe, hts, (fun h => absurd (by omega : False) id), (fun h => absurd (by omega : False) id), (fun _ => by rw [← hy1]; first | done | rw [if_pos (by assumption)] | rw [if_neg (by assumption)]), (fun h => absurd (by omega : False) id), (fun h => absurd (by omega : False) id), (fun h => absurd (by omega : False) id), (fun h => absurd (by omega : False) id), (fun h => absurd (by omega : False) id), (fun h => absurd (by omega : False) id), (fun h => absurd (by omega : False) id), (fun h => absurd (by omega : False) id), (fun h => absurd (by omega : False) id)⟩), (fun h => absurd (by omega) h), (cvC_fr hfe rfl)⟩
theorem cp_X11_about_127 (E : jxE) (d : Nat) (hd : Nat.ble 5 (d + 1) = true) (x1 x2 : Int) (a0 b0 : Nat → Nat → Int) (hv0 : iv a0) : ∀ (y1 : Int) (a : Nat → Nat → Int), iv a → jfr jW_X11_about a0 a → 0 ≤ y1 → y1 ≤ 39 → (jfr jWtk a0 a) → (TSUM a0 b0 (a0 0 0) a (a0 58 8).toNat) → (0 ≤ x1 ∧ x1 < a 4 6) → (y1 = x1) → x2 = 3 → 1 ≤ a0 4 6 → jt (jxX E d 181 127 [some (.inr (.inr (.inl 0))), some (.inl y1), none] [] (jxSH, a, b0)) (jQ_X11_about x1 x2 a0 b0) := by
  intro y1 a hv hf hi0 hi1 hfe hts hi4 hy1 hi6 hi7
  refine jt_eq (bq_X11_about_127 E d y1 a b0) ?_
  have h495_ := iv_get hv (k := 4) (j := 6) (l := 0) (u := 40) rfl
  have h496_ : a 4 6 = a0 4 6 := hf 4 6 rfl
  have h497_ := iv_get hv0 (k := 4) (j := 6) (l := 0) (u := 40) rfl
  refine jt_eI (eq_X7_outOf E d (jd_le hd rfl) y1 a b0) ?_
  have h498_ := f_X7_outOf_eq a b0 y1
  have h499_ := f_X11_entry_r73_eq a b0 40 y1
  exact jt_rI ⟨hv, hf, rfl, (show (a0 4 6 = 0 → ((x2 = 5 ∧ f_X7_outOf a b0 y1 = 0 - 1000) ∨ (¬ x2 = 5 ∧ f_X7_outOf a b0 y1 = 0 - 1))) from by omega), (fun _ => ⟨a, hfe, hts, (fun h => absurd (by omega : False) id), (fun h => absurd (by omega : False) id), (fun h => absurd (by omega : False) id), (fun _ => by rw [← hy1]; first | done | rw [if_pos (by assumption)] | rw [if_neg (by assumption)]), (fun h => absurd (by omega : False) id), (fun h => absurd (by omega : False) id), (fun h => absurd (by omega : False) id), (fun h => absurd (by omega : False) id), (fun h => absurd (by omega : False) id), (fun h => absurd (by omega : False) id), (fun h => absurd (by omega : False) id), (fun h => absurd (by omega : False) id)⟩), (fun h => absurd (by omega) h), (cvC_fr hfe rfl)⟩
theorem cp_X11_about_136 (E : jxE) (d : Nat) (hd : Nat.ble 5 (d + 1) = true) (x1 x2 : Int) (a0 b0 : Nat → Nat → Int) (hv0 : iv a0) : ∀ (y1 : Int) (a : Nat → Nat → Int), iv a → jfr jW_X11_about a0 a → 0 ≤ y1 → y1 ≤ 39 → (jfr jWtk a0 a) → (TSUM a0 b0 (a0 0 0) a (a0 58 8).toNat) → (0 ≤ x1 ∧ x1 < a 4 6) → (y1 = x1) → x2 = 4 → 1 ≤ a0 4 6 → jt (jxX E d 181 136 [some (.inr (.inr (.inl 0))), some (.inl y1), none] [] (jxSH, a, b0)) (jQ_X11_about x1 x2 a0 b0) := by
  intro y1 a hv hf hi0 hi1 hfe hts hi4 hy1 hi6 hi7
  refine jt_eq (bq_X11_about_136 E d y1 a b0) ?_
  have h500_ := iv_get hv (k := 4) (j := 6) (l := 0) (u := 40) rfl
  have h501_ : a 4 6 = a0 4 6 := hf 4 6 rfl
  have h502_ := iv_get hv0 (k := 4) (j := 6) (l := 0) (u := 40) rfl
  refine jt_eI (eq_X3_creditOf E d (jd_le hd rfl) y1 a b0) ?_
  have h503_ := f_X3_creditOf_eq a b0 y1
  have h504_ := f_X3_has_eq a b0 y1
  have h505_ : a 9 (y1.toNat) = a0 9 (y1.toNat) := hf 9 (y1.toNat) rfl
  exact jt_rI ⟨hv, hf, rfl, (show (a0 4 6 = 0 → ((x2 = 5 ∧ f_X3_creditOf a b0 y1 = 0 - 1000) ∨ (¬ x2 = 5 ∧ f_X3_creditOf a b0 y1 = 0 - 1))) from by omega), (fun _ => ⟨a, hfe, hts, (fun h => absurd (by omega : False) id), (fun h => absurd (by omega : False) id), (fun h => absurd (by omega : False) id), (fun h => absurd (by omega : False) id), (fun _ => by rw [← hy1]; first | done | rw [if_pos (by assumption)] | rw [if_neg (by assumption)]), (fun h => absurd (by omega : False) id), (fun h => absurd (by omega : False) id), (fun h => absurd (by omega : False) id), (fun h => absurd (by omega : False) id), (fun h => absurd (by omega : False) id), (fun h => absurd (by omega : False) id), (fun h => absurd (by omega : False) id)⟩), (fun h => absurd (by omega) h), (cvC_fr hfe rfl)⟩
theorem cp_X11_about_145 (E : jxE) (d : Nat) (hd : Nat.ble 5 (d + 1) = true) (x1 x2 : Int) (a0 b0 : Nat → Nat → Int) (hv0 : iv a0) : ∀ (y1 : Int) (a : Nat → Nat → Int), iv a → jfr jW_X11_about a0 a → 0 ≤ y1 → y1 ≤ 39 → (jfr jWtk a0 a) → (TSUM a0 b0 (a0 0 0) a (a0 58 8).toNat) → (0 ≤ x1 ∧ x1 < a 4 6) → (y1 = x1) → x2 = 5 → 1 ≤ a0 4 6 → jt (jxX E d 181 145 [some (.inr (.inr (.inl 0))), some (.inl y1), none] [] (jxSH, a, b0)) (jQ_X11_about x1 x2 a0 b0) := by
  intro y1 a hv hf hi0 hi1 hfe hts hi4 hy1 hi6 hi7
  refine jt_eq (bq_X11_about_145 E d y1 a b0) ?_
  have h506_ := iv_get hv (k := 4) (j := 6) (l := 0) (u := 40) rfl
  have h507_ : a 4 6 = a0 4 6 := hf 4 6 rfl
  have h508_ := iv_get hv0 (k := 4) (j := 6) (l := 0) (u := 40) rfl
  refine jt_eI (eq_X11_owed E d (jd_le hd rfl) y1 a b0) ?_
  have h509_ := f_X11_owed_eq a b0 y1
  have h510_ := f_X7_givenBy_eq a b0 y1
  have h511_ := f_X11_entry_r70_eq a b0 40 y1
  have h512_ := f_X3_creditOf_eq a b0 y1
  have h513_ := f_X3_has_eq a b0 y1
  have h514_ : a 9 (y1.toNat) = a0 9 (y1.toNat) := hf 9 (y1.toNat) rfl
  have h515_ := jxw_im ((f_X7_givenBy a b0 y1) + (f_X3_creditOf a b0 y1))
  have h516_ := jxw_rg ((f_X7_givenBy a b0 y1) + (f_X3_creditOf a b0 y1))
  have h517_ := f_X7_gotBy_eq a b0 y1
  have h518_ := f_X11_entry_r71_eq a b0 40 y1
  have h519_ := jxw_im ((jxw ((f_X7_givenBy a b0 y1) + (f_X3_creditOf a b0 y1))) - (f_X7_gotBy a b0 y1))
  have h520_ := jxw_rg ((jxw ((f_X7_givenBy a b0 y1) + (f_X3_creditOf a b0 y1))) - (f_X7_gotBy a b0 y1))
  have h521_ := f_X7_comingTo_eq a b0 y1
  have h522_ := f_X11_entry_r72_eq a b0 40 y1
  have h523_ := jxw_im ((jxw ((jxw ((f_X7_givenBy a b0 y1) + (f_X3_creditOf a b0 y1))) - (f_X7_gotBy a b0 y1))) - (f_X7_comingTo a b0 y1))
  have h524_ := jxw_rg ((jxw ((jxw ((f_X7_givenBy a b0 y1) + (f_X3_creditOf a b0 y1))) - (f_X7_gotBy a b0 y1))) - (f_X7_comingTo a b0 y1))
  exact jt_rI ⟨hv, hf, rfl, (show (a0 4 6 = 0 → ((x2 = 5 ∧ f_X11_owed a b0 y1 = 0 - 1000) ∨ (¬ x2 = 5 ∧ f_X11_owed a b0 y1 = 0 - 1))) from by omega), (fun _ => ⟨a, hfe, hts, (fun h => absurd (by omega : False) id), (fun h => absurd (by omega : False) id), (fun h => absurd (by omega : False) id), (fun h => absurd (by omega : False) id), (fun h => absurd (by omega : False) id), (fun _ => by rw [← hy1]; first | done | rw [if_pos (by assumption)] | rw [if_neg (by assumption)]), (fun h => absurd (by omega : False) id), (fun h => absurd (by omega : False) id), (fun h => absurd (by omega : False) id), (fun h => absurd (by omega : False) id), (fun h => absurd (by omega : False) id), (fun h => absurd (by omega : False) id)⟩), (fun h => absurd (by omega) h), (cvC_fr hfe rfl)⟩
theorem cp_X11_about_151 (E : jxE) (d : Nat) (hd : Nat.ble 5 (d + 1) = true) (x1 x2 : Int) (a0 b0 : Nat → Nat → Int) (hv0 : iv a0) : ∀ (y1 : Int) (a : Nat → Nat → Int), iv a → jfr jW_X11_about a0 a → 0 ≤ y1 → y1 ≤ 39 → (jfr jWtk a0 a) → (TSUM a0 b0 (a0 0 0) a (a0 58 8).toNat) → (0 ≤ x1 ∧ x1 < a 4 6) → (y1 = x1) → x2 = 6 → 1 ≤ a0 4 6 → jt (jxX E d 181 151 [some (.inr (.inr (.inl 0))), some (.inl y1), none] [] (jxSH, a, b0)) (jQ_X11_about x1 x2 a0 b0) := by
  intro y1 a hv hf hi0 hi1 hfe hts hi4 hy1 hi6 hi7
  refine jt_eq (bq_X11_about_151 E d y1 a b0) ?_
  have h525_ := iv_get hv (k := 4) (j := 6) (l := 0) (u := 40) rfl
  have h526_ : a 4 6 = a0 4 6 := hf 4 6 rfl
  have h527_ := iv_get hv0 (k := 4) (j := 6) (l := 0) (u := 40) rfl
  refine jt_eI (eq_X11_mayAsk E d (jd_le hd rfl) y1 a b0) ?_
  have h528_ := f_X11_mayAsk_bool a b0 y1
  refine jt_ite (fun c529_ => ?_) (fun c529_ => ?_)
  ·
    exact jt_rI ⟨hv, hf, rfl, (show (a0 4 6 = 0 → ((x2 = 5 ∧ 0 = 0 - 1000) ∨ (¬ x2 = 5 ∧ 0 = 0 - 1))) from by omega), (fun _ => ⟨a, hfe, hts, (fun h => absurd (by omega : False) id), (fun h => absurd (by omega : False) id), (fun h => absurd (by omega : False) id), (fun h => absurd (by omega : False) id), (fun h => absurd (by omega : False) id), (fun h => absurd (by omega : False) id), (fun _ => by rw [← hy1]; first | done | rw [if_pos (by assumption)] | rw [if_neg (by assumption)]), (fun h => absurd (by omega : False) id), (fun h => absurd (by omega : False) id), (fun h => absurd (by omega : False) id), (fun h => absurd (by omega : False) id), (fun h => absurd (by omega : False) id)⟩), (fun h => absurd (by omega) h), (cvC_fr hfe rfl)⟩
  ·
    exact jt_rI ⟨hv, hf, rfl, (show (a0 4 6 = 0 → ((x2 = 5 ∧ 1 = 0 - 1000) ∨ (¬ x2 = 5 ∧ 1 = 0 - 1))) from by omega), (fun _ => ⟨a, hfe, hts, (fun h => absurd (by omega : False) id), (fun h => absurd (by omega : False) id), (fun h => absurd (by omega : False) id), (fun h => absurd (by omega : False) id), (fun h => absurd (by omega : False) id), (fun h => absurd (by omega : False) id), (fun _ => by rw [← hy1]; first | done | rw [if_pos (by assumption)] | rw [if_neg (by assumption)]), (fun h => absurd (by omega : False) id), (fun h => absurd (by omega : False) id), (fun h => absurd (by omega : False) id), (fun h => absurd (by omega : False) id), (fun h => absurd (by omega : False) id)⟩), (fun h => absurd (by omega) h), (cvC_fr hfe rfl)⟩
theorem cp_X11_about_165 (E : jxE) (d : Nat) (hd : Nat.ble 5 (d + 1) = true) (x1 x2 : Int) (a0 b0 : Nat → Nat → Int) (hv0 : iv a0) : ∀ (y1 : Int) (a : Nat → Nat → Int), iv a → jfr jW_X11_about a0 a → 0 ≤ y1 → y1 ≤ 39 → (jfr jWtk a0 a) → (TSUM a0 b0 (a0 0 0) a (a0 58 8).toNat) → (0 ≤ x1 ∧ x1 < a 4 6) → (y1 = x1) → x2 = 7 → 1 ≤ a0 4 6 → jt (jxX E d 181 165 [some (.inr (.inr (.inl 0))), some (.inl y1), none] [] (jxSH, a, b0)) (jQ_X11_about x1 x2 a0 b0) := by
  intro y1 a hv hf hi0 hi1 hfe hts hi4 hy1 hi6 hi7
  refine jt_eq (bq_X11_about_165 E d y1 a b0) ?_
  have h530_ := iv_get hv (k := 4) (j := 6) (l := 0) (u := 40) rfl
  have h531_ : a 4 6 = a0 4 6 := hf 4 6 rfl
  have h532_ := iv_get hv0 (k := 4) (j := 6) (l := 0) (u := 40) rfl
  refine jt_eI (eq_X3_landOf E d (jd_le hd rfl) y1 a b0) ?_
  have h533_ := f_X3_landOf_eq a b0 y1
  have h534_ := f_X11_entry_r5_eq a b0 (a 4 6) y1
  have h535_ : a 5 (y1.toNat) = a0 5 (y1.toNat) := hf 5 (y1.toNat) rfl
  exact jt_rI ⟨hv, hf, rfl, (show (a0 4 6 = 0 → ((x2 = 5 ∧ f_X3_landOf a b0 y1 = 0 - 1000) ∨ (¬ x2 = 5 ∧ f_X3_landOf a b0 y1 = 0 - 1))) from by omega), (fun _ => ⟨a, hfe, hts, (fun h => absurd (by omega : False) id), (fun h => absurd (by omega : False) id), (fun h => absurd (by omega : False) id), (fun h => absurd (by omega : False) id), (fun h => absurd (by omega : False) id), (fun h => absurd (by omega : False) id), (fun h => absurd (by omega : False) id), (fun _ => by rw [← hy1]; first | done | rw [if_pos (by assumption)] | rw [if_neg (by assumption)]), (fun h => absurd (by omega : False) id), (fun h => absurd (by omega : False) id), (fun h => absurd (by omega : False) id), (fun h => absurd (by omega : False) id)⟩), (fun h => absurd (by omega) h), (cvC_fr hfe rfl)⟩
theorem cp_X11_about_174 (E : jxE) (d : Nat) (hd : Nat.ble 5 (d + 1) = true) (x1 x2 : Int) (a0 b0 : Nat → Nat → Int) (hv0 : iv a0) : ∀ (y1 : Int) (a : Nat → Nat → Int), iv a → jfr jW_X11_about a0 a → 0 ≤ y1 → y1 ≤ 39 → (jfr jWtk a0 a) → (TSUM a0 b0 (a0 0 0) a (a0 58 8).toNat) → (0 ≤ x1 ∧ x1 < a 4 6) → (y1 = x1) → x2 = 8 → 1 ≤ a0 4 6 → jt (jxX E d 181 174 [some (.inr (.inr (.inl 0))), some (.inl y1), none] [] (jxSH, a, b0)) (jQ_X11_about x1 x2 a0 b0) := by
  intro y1 a hv hf hi0 hi1 hfe hts hi4 hy1 hi6 hi7
  refine jt_eq (bq_X11_about_174 E d y1 a b0) ?_
  have h536_ := iv_get hv (k := 4) (j := 6) (l := 0) (u := 40) rfl
  have h537_ : a 4 6 = a0 4 6 := hf 4 6 rfl
  have h538_ := iv_get hv0 (k := 4) (j := 6) (l := 0) (u := 40) rfl
  refine jt_eI (eq_X3_isThere E d (jd_le hd rfl) y1 a b0) ?_
  have h539_ := f_X3_isThere_eq a b0 y1
  have h540_ := f_X3_has_eq a b0 y1
  have h541_ : a 10 (y1.toNat) = a0 10 (y1.toNat) := hf 10 (y1.toNat) rfl
  refine jt_ite (fun c542_ => ?_) (fun c542_ => ?_)
  ·
    exact jt_rI ⟨hv, hf, rfl, (show (a0 4 6 = 0 → ((x2 = 5 ∧ 0 = 0 - 1000) ∨ (¬ x2 = 5 ∧ 0 = 0 - 1))) from by omega), (fun _ => ⟨a, hfe, hts, (fun h => absurd (by omega : False) id), (fun h => absurd (by omega : False) id), (fun h => absurd (by omega : False) id), (fun h => absurd (by omega : False) id), (fun h => absurd (by omega : False) id), (fun h => absurd (by omega : False) id), (fun h => absurd (by omega : False) id), (fun h => absurd (by omega : False) id), (fun _ => by rw [← hy1]; first | done | rw [if_pos (by assumption)] | rw [if_neg (by assumption)]), (fun h => absurd (by omega : False) id), (fun h => absurd (by omega : False) id), (fun h => absurd (by omega : False) id)⟩), (fun h => absurd (by omega) h), (cvC_fr hfe rfl)⟩
  ·
    exact jt_rI ⟨hv, hf, rfl, (show (a0 4 6 = 0 → ((x2 = 5 ∧ 1 = 0 - 1000) ∨ (¬ x2 = 5 ∧ 1 = 0 - 1))) from by omega), (fun _ => ⟨a, hfe, hts, (fun h => absurd (by omega : False) id), (fun h => absurd (by omega : False) id), (fun h => absurd (by omega : False) id), (fun h => absurd (by omega : False) id), (fun h => absurd (by omega : False) id), (fun h => absurd (by omega : False) id), (fun h => absurd (by omega : False) id), (fun h => absurd (by omega : False) id), (fun _ => by rw [← hy1]; first | done | rw [if_pos (by assumption)] | rw [if_neg (by assumption)]), (fun h => absurd (by omega : False) id), (fun h => absurd (by omega : False) id), (fun h => absurd (by omega : False) id)⟩), (fun h => absurd (by omega) h), (cvC_fr hfe rfl)⟩
theorem cp_X11_about_191 (E : jxE) (d : Nat) (hd : Nat.ble 5 (d + 1) = true) (x1 x2 : Int) (a0 b0 : Nat → Nat → Int) (hv0 : iv a0) : ∀ (y1 : Int) (a : Nat → Nat → Int), iv a → jfr jW_X11_about a0 a → 0 ≤ y1 → y1 ≤ 39 → (jfr jWtk a0 a) → (TSUM a0 b0 (a0 0 0) a (a0 58 8).toNat) → (0 ≤ x1 ∧ x1 < a 4 6) → (y1 = x1) → x2 = 9 → 1 ≤ a0 4 6 → jt (jxX E d 181 191 [some (.inr (.inr (.inl 0))), some (.inl y1), none] [] (jxSH, a, b0)) (jQ_X11_about x1 x2 a0 b0) := by
  intro y1 a hv hf hi0 hi1 hfe hts hi4 hy1 hi6 hi7
  refine jt_eq (bq_X11_about_191 E d y1 a b0) ?_
  have h543_ := iv_get hv (k := 4) (j := 6) (l := 0) (u := 40) rfl
  have h544_ : a 4 6 = a0 4 6 := hf 4 6 rfl
  have h545_ := iv_get hv0 (k := 4) (j := 6) (l := 0) (u := 40) rfl
  refine jt_eI (eq_X3_cameOnOf E d (jd_le hd rfl) y1 a b0) ?_
  have h546_ := f_X3_cameOnOf_eq a b0 y1
  have h547_ := f_X11_entry_r8_eq a b0 (a 4 6) y1
  have h548_ : a 8 (y1.toNat) = a0 8 (y1.toNat) := hf 8 (y1.toNat) rfl
  exact jt_rI ⟨hv, hf, rfl, (show (a0 4 6 = 0 → ((x2 = 5 ∧ f_X3_cameOnOf a b0 y1 = 0 - 1000) ∨ (¬ x2 = 5 ∧ f_X3_cameOnOf a b0 y1 = 0 - 1))) from by omega), (fun _ => ⟨a, hfe, hts, (fun h => absurd (by omega : False) id), (fun h => absurd (by omega : False) id), (fun h => absurd (by omega : False) id), (fun h => absurd (by omega : False) id), (fun h => absurd (by omega : False) id), (fun h => absurd (by omega : False) id), (fun h => absurd (by omega : False) id), (fun h => absurd (by omega : False) id), (fun h => absurd (by omega : False) id), (fun _ => by rw [← hy1]; first | done | rw [if_pos (by assumption)] | rw [if_neg (by assumption)]), (fun h => absurd (by omega : False) id), (fun h => absurd (by omega : False) id)⟩), (fun h => absurd (by omega) h), (cvC_fr hfe rfl)⟩
theorem cp_X11_about_200 (E : jxE) (d : Nat) (hd : Nat.ble 5 (d + 1) = true) (x1 x2 : Int) (a0 b0 : Nat → Nat → Int) (hv0 : iv a0) : ∀ (y1 : Int) (a : Nat → Nat → Int), iv a → jfr jW_X11_about a0 a → 0 ≤ y1 → y1 ≤ 39 → (jfr jWtk a0 a) → (TSUM a0 b0 (a0 0 0) a (a0 58 8).toNat) → (0 ≤ x1 ∧ x1 < a 4 6) → (y1 = x1) → x2 = 10 → 1 ≤ a0 4 6 → jt (jxX E d 181 200 [some (.inr (.inr (.inl 0))), some (.inl y1), none] [] (jxSH, a, b0)) (jQ_X11_about x1 x2 a0 b0) := by
  intro y1 a hv hf hi0 hi1 hfe hts hi4 hy1 hi6 hi7
  refine jt_eq (bq_X11_about_200 E d y1 a b0) ?_
  have h549_ := iv_get hv (k := 4) (j := 6) (l := 0) (u := 40) rfl
  have h550_ : a 4 6 = a0 4 6 := hf 4 6 rfl
  have h551_ := iv_get hv0 (k := 4) (j := 6) (l := 0) (u := 40) rfl
  refine jt_eI (eq_X7_lostOf E d (jd_le hd rfl) y1 a b0) ?_
  have h552_ := f_X7_lostOf_eq a b0 y1
  have h553_ := f_X11_entry_r74_eq a b0 40 y1
  exact jt_rI ⟨hv, hf, rfl, (show (a0 4 6 = 0 → ((x2 = 5 ∧ f_X7_lostOf a b0 y1 = 0 - 1000) ∨ (¬ x2 = 5 ∧ f_X7_lostOf a b0 y1 = 0 - 1))) from by omega), (fun _ => ⟨a, hfe, hts, (fun h => absurd (by omega : False) id), (fun h => absurd (by omega : False) id), (fun h => absurd (by omega : False) id), (fun h => absurd (by omega : False) id), (fun h => absurd (by omega : False) id), (fun h => absurd (by omega : False) id), (fun h => absurd (by omega : False) id), (fun h => absurd (by omega : False) id), (fun h => absurd (by omega : False) id), (fun h => absurd (by omega : False) id), (fun _ => by rw [← hy1]; first | done | rw [if_pos (by assumption)] | rw [if_neg (by assumption)]), (fun h => absurd (by omega : False) id)⟩), (fun h => absurd (by omega) h), (cvC_fr hfe rfl)⟩
theorem cp_X11_about_209 (E : jxE) (d : Nat) (hd : Nat.ble 5 (d + 1) = true) (x1 x2 : Int) (a0 b0 : Nat → Nat → Int) (hv0 : iv a0) : ∀ (a : Nat → Nat → Int), iv a → jfr jW_X11_about a0 a → (jfr jWtk a0 a) → (TSUM a0 b0 (a0 0 0) a (a0 58 8).toNat) → (0 ≤ x1 ∧ x1 < a 4 6) → (x2 < 0 ∨ 10 < x2) → 1 ≤ a0 4 6 → jt (jxX E d 181 209 [none, none, none] [] (jxSH, a, b0)) (jQ_X11_about x1 x2 a0 b0) := by
  intro a hv hf hfe hts hi2 hi3 hi4
  refine jt_eq (bq_X11_about_209 E d a b0) ?_
  have h554_ := iv_get hv (k := 4) (j := 6) (l := 0) (u := 40) rfl
  have h555_ : a 4 6 = a0 4 6 := hf 4 6 rfl
  have h556_ := iv_get hv0 (k := 4) (j := 6) (l := 0) (u := 40) rfl
  exact jt_rI ⟨hv, hf, rfl, (show (a0 4 6 = 0 → ((x2 = 5 ∧ (-1) = 0 - 1000) ∨ (¬ x2 = 5 ∧ (-1) = 0 - 1))) from by omega), (fun _ => ⟨a, hfe, hts, (fun h => absurd (by omega : False) id), (fun h => absurd (by omega : False) id), (fun h => absurd (by omega : False) id), (fun h => absurd (by omega : False) id), (fun h => absurd (by omega : False) id), (fun h => absurd (by omega : False) id), (fun h => absurd (by omega : False) id), (fun h => absurd (by omega : False) id), (fun h => absurd (by omega : False) id), (fun h => absurd (by omega : False) id), (fun h => absurd (by omega : False) id), (fun _ => rfl)⟩), (fun h => absurd (by omega) h), (cvC_fr hfe rfl)⟩
theorem sp_X11_about (E : jxE) (d : Nat) (hd : Nat.ble 5 d = true) (x1 x2 : Int) (a0 b0 : Nat → Nat → Int) (hv0 : iv a0) : jt (jxC E d 181 [.inr (.inr (.inl 0)), .inl x1, .inl x2] (jxSH, a0, b0)) (jQ_X11_about x1 x2 a0 b0) := by
  obtain ⟨d, rfl⟩ := jd_succ hd
  refine jt_eq (bq_X11_about E d x1 x2 a0 b0) ?_
  refine jt_eI (eq_X3_has E d (jd_le hd rfl) x1 a0 b0) ?_
  have h557_ := f_X3_has_eq a0 b0 x1
  have h558_ := iv_get hv0 (k := 4) (j := 6) (l := 0) (u := 40) rfl
  refine jt_ite (fun c559_ => ?_) (fun c559_ => ?_)
  ·
    refine jt_ite (fun c560_ => ?_) (fun c560_ => ?_)
    ·
      exact jt_rI ⟨hv0, (jfr_rf _ _), rfl, (show (a0 4 6 = 0 → ((x2 = 5 ∧ (-1000) = 0 - 1000) ∨ (¬ x2 = 5 ∧ (-1000) = 0 - 1))) from by omega), (fun h => absurd (by omega : False) id), (fun _ => by first | rw [if_pos (by assumption)] | rw [if_neg (by assumption)]), rfl⟩
    ·
      exact jt_rI ⟨hv0, (jfr_rf _ _), rfl, (show (a0 4 6 = 0 → ((x2 = 5 ∧ (-1) = 0 - 1000) ∨ (¬ x2 = 5 ∧ (-1) = 0 - 1))) from by omega), (fun h => absurd (by omega : False) id), (fun _ => by first | rw [if_pos (by assumption)] | rw [if_neg (by assumption)]), rfl⟩
  ·
    refine jt_bV (sp_X7_take_r58 E d (jd_le hd rfl) (a0 0 0) a0 b0 hv0) (fun a561_ b561_ h561_ => ?_)
    obtain ⟨hv561_, hf561_, rfl, hq561_0⟩ := h561_
    refine jt_ite (fun c562_ => ?_) (fun c562_ => ?_)
    ·
      have hf563_ : jfr jW_X11_about a0 a561_ := jfr_tr (jfr_rf _ _) hf561_ rfl
      have hf564_ : jfr jWtk a0 a561_ := jfr_tr (jfr_rf _ _) hf561_ rfl
      have h565_ := iv_get hv561_ (k := 4) (j := 6) (l := 0) (u := 40) rfl
      have h566_ : a561_ 4 6 = a0 4 6 := hf561_ 4 6 rfl
      exact cp_X11_about_209 E d hd x1 x2 a0 b0 hv0 a561_ hv561_ hf563_ hf564_ hq561_0 (show (0 ≤ x1 ∧ x1 < a561_ 4 6) from by omega) (show (x2 < 0 ∨ 10 < x2) from by omega) (show 1 ≤ a0 4 6 from by omega)
    ·
      refine jt_ite (fun c567_ => ?_) (fun c567_ => ?_)
      ·
        have hf568_ : jfr jW_X11_about a0 a561_ := jfr_tr (jfr_rf _ _) hf561_ rfl
        have hf569_ : jfr jWtk a0 a561_ := jfr_tr (jfr_rf _ _) hf561_ rfl
        have h570_ := iv_get hv561_ (k := 4) (j := 6) (l := 0) (u := 40) rfl
        have h571_ : a561_ 4 6 = a0 4 6 := hf561_ 4 6 rfl
        exact cp_X11_about_100 E d hd x1 x2 a0 b0 hv0 x1 a561_ hv561_ hf568_ (show 0 ≤ x1 from by omega) (show x1 ≤ 39 from by omega) hf569_ hq561_0 (show (0 ≤ x1 ∧ x1 < a561_ 4 6) from by omega) (by first | rfl | assumption) (show x2 = 0 from by omega) (show 1 ≤ a0 4 6 from by omega)
      ·
        refine jt_ite (fun c572_ => ?_) (fun c572_ => ?_)
        ·
          have hf573_ : jfr jW_X11_about a0 a561_ := jfr_tr (jfr_rf _ _) hf561_ rfl
          have hf574_ : jfr jWtk a0 a561_ := jfr_tr (jfr_rf _ _) hf561_ rfl
          have h575_ := iv_get hv561_ (k := 4) (j := 6) (l := 0) (u := 40) rfl
          have h576_ : a561_ 4 6 = a0 4 6 := hf561_ 4 6 rfl
          exact cp_X11_about_109 E d hd x1 x2 a0 b0 hv0 x1 a561_ hv561_ hf573_ (show 0 ≤ x1 from by omega) (show x1 ≤ 39 from by omega) hf574_ hq561_0 (show (0 ≤ x1 ∧ x1 < a561_ 4 6) from by omega) (by first | rfl | assumption) (show x2 = 1 from by omega) (show 1 ≤ a0 4 6 from by omega)
        ·
          refine jt_ite (fun c577_ => ?_) (fun c577_ => ?_)
          ·
            have hf578_ : jfr jW_X11_about a0 a561_ := jfr_tr (jfr_rf _ _) hf561_ rfl
            have hf579_ : jfr jWtk a0 a561_ := jfr_tr (jfr_rf _ _) hf561_ rfl
            have h580_ := iv_get hv561_ (k := 4) (j := 6) (l := 0) (u := 40) rfl
            have h581_ : a561_ 4 6 = a0 4 6 := hf561_ 4 6 rfl
            exact cp_X11_about_118 E d hd x1 x2 a0 b0 hv0 x1 a561_ hv561_ hf578_ (show 0 ≤ x1 from by omega) (show x1 ≤ 39 from by omega) hf579_ hq561_0 (show (0 ≤ x1 ∧ x1 < a561_ 4 6) from by omega) (by first | rfl | assumption) (show x2 = 2 from by omega) (show 1 ≤ a0 4 6 from by omega)
          ·
            refine jt_ite (fun c582_ => ?_) (fun c582_ => ?_)
            ·
              have hf583_ : jfr jW_X11_about a0 a561_ := jfr_tr (jfr_rf _ _) hf561_ rfl
              have hf584_ : jfr jWtk a0 a561_ := jfr_tr (jfr_rf _ _) hf561_ rfl
              have h585_ := iv_get hv561_ (k := 4) (j := 6) (l := 0) (u := 40) rfl
              have h586_ : a561_ 4 6 = a0 4 6 := hf561_ 4 6 rfl
              exact cp_X11_about_127 E d hd x1 x2 a0 b0 hv0 x1 a561_ hv561_ hf583_ (show 0 ≤ x1 from by omega) (show x1 ≤ 39 from by omega) hf584_ hq561_0 (show (0 ≤ x1 ∧ x1 < a561_ 4 6) from by omega) (by first | rfl | assumption) (show x2 = 3 from by omega) (show 1 ≤ a0 4 6 from by omega)
            ·
              refine jt_ite (fun c587_ => ?_) (fun c587_ => ?_)
              ·
                have hf588_ : jfr jW_X11_about a0 a561_ := jfr_tr (jfr_rf _ _) hf561_ rfl
                have hf589_ : jfr jWtk a0 a561_ := jfr_tr (jfr_rf _ _) hf561_ rfl
                have h590_ := iv_get hv561_ (k := 4) (j := 6) (l := 0) (u := 40) rfl
                have h591_ : a561_ 4 6 = a0 4 6 := hf561_ 4 6 rfl
                exact cp_X11_about_136 E d hd x1 x2 a0 b0 hv0 x1 a561_ hv561_ hf588_ (show 0 ≤ x1 from by omega) (show x1 ≤ 39 from by omega) hf589_ hq561_0 (show (0 ≤ x1 ∧ x1 < a561_ 4 6) from by omega) (by first | rfl | assumption) (show x2 = 4 from by omega) (show 1 ≤ a0 4 6 from by omega)
              ·
                refine jt_ite (fun c592_ => ?_) (fun c592_ => ?_)
                ·
                  have hf593_ : jfr jW_X11_about a0 a561_ := jfr_tr (jfr_rf _ _) hf561_ rfl
                  have hf594_ : jfr jWtk a0 a561_ := jfr_tr (jfr_rf _ _) hf561_ rfl
                  have h595_ := iv_get hv561_ (k := 4) (j := 6) (l := 0) (u := 40) rfl
                  have h596_ : a561_ 4 6 = a0 4 6 := hf561_ 4 6 rfl
                  exact cp_X11_about_145 E d hd x1 x2 a0 b0 hv0 x1 a561_ hv561_ hf593_ (show 0 ≤ x1 from by omega) (show x1 ≤ 39 from by omega) hf594_ hq561_0 (show (0 ≤ x1 ∧ x1 < a561_ 4 6) from by omega) (by first | rfl | assumption) (show x2 = 5 from by omega) (show 1 ≤ a0 4 6 from by omega)
                ·
                  refine jt_ite (fun c597_ => ?_) (fun c597_ => ?_)
                  ·
                    have hf598_ : jfr jW_X11_about a0 a561_ := jfr_tr (jfr_rf _ _) hf561_ rfl
                    have hf599_ : jfr jWtk a0 a561_ := jfr_tr (jfr_rf _ _) hf561_ rfl
                    have h600_ := iv_get hv561_ (k := 4) (j := 6) (l := 0) (u := 40) rfl
                    have h601_ : a561_ 4 6 = a0 4 6 := hf561_ 4 6 rfl
                    exact cp_X11_about_151 E d hd x1 x2 a0 b0 hv0 x1 a561_ hv561_ hf598_ (show 0 ≤ x1 from by omega) (show x1 ≤ 39 from by omega) hf599_ hq561_0 (show (0 ≤ x1 ∧ x1 < a561_ 4 6) from by omega) (by first | rfl | assumption) (show x2 = 6 from by omega) (show 1 ≤ a0 4 6 from by omega)
                  ·
                    refine jt_ite (fun c602_ => ?_) (fun c602_ => ?_)
                    ·
                      have hf603_ : jfr jW_X11_about a0 a561_ := jfr_tr (jfr_rf _ _) hf561_ rfl
                      have hf604_ : jfr jWtk a0 a561_ := jfr_tr (jfr_rf _ _) hf561_ rfl
                      have h605_ := iv_get hv561_ (k := 4) (j := 6) (l := 0) (u := 40) rfl
                      have h606_ : a561_ 4 6 = a0 4 6 := hf561_ 4 6 rfl
                      exact cp_X11_about_165 E d hd x1 x2 a0 b0 hv0 x1 a561_ hv561_ hf603_ (show 0 ≤ x1 from by omega) (show x1 ≤ 39 from by omega) hf604_ hq561_0 (show (0 ≤ x1 ∧ x1 < a561_ 4 6) from by omega) (by first | rfl | assumption) (show x2 = 7 from by omega) (show 1 ≤ a0 4 6 from by omega)
                    ·
                      refine jt_ite (fun c607_ => ?_) (fun c607_ => ?_)
                      ·
                        have hf608_ : jfr jW_X11_about a0 a561_ := jfr_tr (jfr_rf _ _) hf561_ rfl
                        have hf609_ : jfr jWtk a0 a561_ := jfr_tr (jfr_rf _ _) hf561_ rfl
                        have h610_ := iv_get hv561_ (k := 4) (j := 6) (l := 0) (u := 40) rfl
                        have h611_ : a561_ 4 6 = a0 4 6 := hf561_ 4 6 rfl
                        exact cp_X11_about_174 E d hd x1 x2 a0 b0 hv0 x1 a561_ hv561_ hf608_ (show 0 ≤ x1 from by omega) (show x1 ≤ 39 from by omega) hf609_ hq561_0 (show (0 ≤ x1 ∧ x1 < a561_ 4 6) from by omega) (by first | rfl | assumption) (show x2 = 8 from by omega) (show 1 ≤ a0 4 6 from by omega)
                      ·
                        refine jt_ite (fun c612_ => ?_) (fun c612_ => ?_)
                        ·
                          have hf613_ : jfr jW_X11_about a0 a561_ := jfr_tr (jfr_rf _ _) hf561_ rfl
                          have hf614_ : jfr jWtk a0 a561_ := jfr_tr (jfr_rf _ _) hf561_ rfl
                          have h615_ := iv_get hv561_ (k := 4) (j := 6) (l := 0) (u := 40) rfl
                          have h616_ : a561_ 4 6 = a0 4 6 := hf561_ 4 6 rfl
                          exact cp_X11_about_191 E d hd x1 x2 a0 b0 hv0 x1 a561_ hv561_ hf613_ (show 0 ≤ x1 from by omega) (show x1 ≤ 39 from by omega) hf614_ hq561_0 (show (0 ≤ x1 ∧ x1 < a561_ 4 6) from by omega) (by first | rfl | assumption) (show x2 = 9 from by omega) (show 1 ≤ a0 4 6 from by omega)
                        ·
                          refine jt_ite (fun c617_ => ?_) (fun c617_ => ?_)
                          ·
                            have hf618_ : jfr jW_X11_about a0 a561_ := jfr_tr (jfr_rf _ _) hf561_ rfl
                            have hf619_ : jfr jWtk a0 a561_ := jfr_tr (jfr_rf _ _) hf561_ rfl
                            have h620_ := iv_get hv561_ (k := 4) (j := 6) (l := 0) (u := 40) rfl
                            have h621_ : a561_ 4 6 = a0 4 6 := hf561_ 4 6 rfl
                            exact cp_X11_about_200 E d hd x1 x2 a0 b0 hv0 x1 a561_ hv561_ hf618_ (show 0 ≤ x1 from by omega) (show x1 ≤ 39 from by omega) hf619_ hq561_0 (show (0 ≤ x1 ∧ x1 < a561_ 4 6) from by omega) (by first | rfl | assumption) (show x2 = 10 from by omega) (show 1 ≤ a0 4 6 from by omega)
                          ·
                            exact absurd (by omega : False) id
abbrev jQ_X11_album (x1 : Int) (a0 b0 : Nat → Nat → Int) : List jxV → (Nat → Nat → Int) → (Nat → Nat → Int) → Prop := rI (fun r a b => (a0 = a) ∧ (b0 = b) ∧ ((a0 4 6 = 0 → r = 0 - 1)) ∧ (0 ≤ x1 ∧ x1 < a0 4 6 → r = ALC a0 b0 x1 (a0 0 0) (a0 58 8).toNat) ∧ (¬ (0 ≤ x1 ∧ x1 < a0 4 6) → r = -1))
theorem sp_X11_album (E : jxE) (d : Nat) (hd : Nat.ble 5 d = true) (x1 : Int) (a0 b0 : Nat → Nat → Int) (hv0 : iv a0) : jt (jxC E d 182 [.inr (.inr (.inl 0)), .inl x1] (jxSH, a0, b0)) (jQ_X11_album x1 a0 b0) := by
  obtain ⟨d, rfl⟩ := jd_succ hd
  refine jt_eq (bq_X11_album E d x1 a0 b0) ?_
  refine jt_eI (eq_X3_has E d (jd_le hd rfl) x1 a0 b0) ?_
  have h622_ := f_X3_has_eq a0 b0 x1
  have h623_ := iv_get hv0 (k := 4) (j := 6) (l := 0) (u := 40) rfl
  refine jt_ite (fun c624_ => ?_) (fun c624_ => ?_)
  ·
    exact jt_rI ⟨rfl, rfl, (show (a0 4 6 = 0 → (-1) = 0 - 1) from by omega), (fun h => absurd h (by omega)), (fun _ => rfl)⟩
  ·
    refine jt_bI (sp_X0_landsArrivedTo E d (jd_le hd rfl) x1 (a0 0 0) a0 b0 hv0) (fun r625_ a625_ b625_ h625_ => ?_)
    obtain ⟨rfl, rfl, hq625_0⟩ := h625_
    exact jt_rI ⟨rfl, rfl, (show (a0 4 6 = 0 → r625_ = 0 - 1) from by omega), (fun _ => hq625_0), (fun h => absurd (by omega) h)⟩
def jW_X11_arrive : List (Nat × Nat) := [(58, 12), (65, 9999), (66, 9999), (67, 9999), (68, 9999)]
abbrev jQ_X11_arrive (x1 x2 : Int) (a0 b0 : Nat → Nat → Int) : List jxV → (Nat → Nat → Int) → (Nat → Nat → Int) → Prop := rI (fun r a b => (iv a) ∧ (jfr jW_X11_arrive a0 a) ∧ (b0 = b) ∧ ((0 ≤ r ∧ r ≤ 1)) ∧ ((a0 58 8 = 0 → r = 0)) ∧ ((((((((r = 1 ∧ 0 ≤ x1) ∧ x1 < a0 58 8) ∧ a0 64 (x1.toNat) = 0 - 1) ∧ a0 58 12 < 600) ∧ a0 61 (x1.toNat) ≤ x2) ∧ x2 ≤ a0 0 0) ∨ (r = 0 ∧ (((((x1 < 0 ∨ a0 58 8 ≤ x1) ∨ ¬ a0 64 (x1.toNat) = 0 - 1) ∨ 600 ≤ a0 58 12) ∨ x2 < a0 61 (x1.toNat)) ∨ a0 0 0 < x2)))) ∧ (r = 1 → cvC a = vTell (cvC a0) x1 x2 (a0 0 0)) ∧ (r = 0 → cvC a = cvC a0))
theorem sp_X11_arrive (E : jxE) (d : Nat) (hd : Nat.ble 4 d = true) (x1 x2 : Int) (a0 b0 : Nat → Nat → Int) (hv0 : iv a0) : jt (jxC E d 177 [.inr (.inr (.inl 0)), .inl x1, .inl x2] (jxSH, a0, b0)) (jQ_X11_arrive x1 x2 a0 b0) := by
  obtain ⟨d, rfl⟩ := jd_succ hd
  refine jt_eq (bq_X11_arrive E d x1 x2 a0 b0) ?_
  refine jt_bI (sp_X0_tellArrival E d (jd_le hd rfl) x1 x2 (a0 0 0) a0 b0 hv0) (fun r626_ a626_ b626_ h626_ => ?_)
  obtain ⟨hv626_, hf626_, rfl, hq626_0, hq626_1, hq626_2, hq626_3, hq626_4⟩ := h626_
  have h627_ := iv_get hv0 (k := 58) (j := 8) (l := 0) (u := 300) rfl
  have h628_ := iv_get hv0 (k := 58) (j := 12) (l := 0) (u := 600) rfl
  have h629_ := iv_get hv0 (k := 0) (j := 0) (l := 0) (u := 1999) rfl
  refine jt_grd (by omega) ?_
  have hf630_ : jfr jW_X11_arrive a0 a626_ := jfr_tr (jfr_rf _ _) hf626_ rfl
  exact jt_rI ⟨hv626_, hf630_, rfl, (show (0 ≤ r626_ ∧ r626_ ≤ 1) from by omega), (show (a0 58 8 = 0 → r626_ = 0) from by omega), (show (((((((r626_ = 1 ∧ 0 ≤ x1) ∧ x1 < a0 58 8) ∧ a0 64 (x1.toNat) = 0 - 1) ∧ a0 58 12 < 600) ∧ a0 61 (x1.toNat) ≤ x2) ∧ x2 ≤ a0 0 0) ∨ (r626_ = 0 ∧ (((((x1 < 0 ∨ a0 58 8 ≤ x1) ∨ ¬ a0 64 (x1.toNat) = 0 - 1) ∨ 600 ≤ a0 58 12) ∨ x2 < a0 61 (x1.toNat)) ∨ a0 0 0 < x2))) from by omega), hq626_3, hq626_4⟩
abbrev jQ_X11_unhappy (x1 x2 : Int) (a0 b0 : Nat → Nat → Int) : List jxV → (Nat → Nat → Int) → (Nat → Nat → Int) → Prop := rI (fun r a b => (a0 = a) ∧ (b0 = b) ∧ (0 ≤ x1 → x1 < a0 4 6 → 0 ≤ x2 → x2 < a0 4 6 → r = UNC a0 b0 x1 x2))
theorem cp_X11_unhappy_21 (E : jxE) (d : Nat) (hd : Nat.ble 6 (d + 1) = true) (x1 x2 : Int) (a0 b0 : Nat → Nat → Int) (hv0 : iv a0) (hp0 : WISHR a0) : ∀ (y1 y2 s0 : Int), 0 ≤ s0 → s0 ≤ 1 → (y1 = x1) → (y2 = x2) → (0 ≤ x1 → x1 < a0 4 6 → 0 ≤ x2 → x2 < a0 4 6 → s0 = (if METX a0 b0 x1 x2 (a0 0 0) = 0 then 1 else 0)) → jt (jxX E d 173 21 [some (.inr (.inr (.inl 0))), some (.inl y1), some (.inl y2)] [.inl s0] (jxSH, a0, b0)) (jQ_X11_unhappy x1 x2 a0 b0) := by
  intro y1 y2 s0 hi0 hi1 hy1 hy2 hs0
  refine jt_eq (bq_X11_unhappy_21 E d y1 y2 s0 a0 b0) ?_
  refine jt_bI (sp_X10_isMet E d (jd_le hd rfl) y2 y1 (a0 0 0) a0 b0 hv0 hp0) (fun r631_ a631_ b631_ h631_ => ?_)
  obtain ⟨rfl, rfl, hq631_0, hq631_1⟩ := h631_
  refine jt_ite (fun c632_ => ?_) (fun c632_ => ?_)
  ·
    have h633_ : jxw (s0 + 1) = s0 + 1 := jxw_id (by omega) (by omega)
    exact jt_rI ⟨rfl, rfl, (fun h1 h2 h3 h4 => by unfold UNC unh; rw [← hs0 h1 h2 h3 h4]; have q := hq631_1 (by omega) (by omega) (by omega) (by omega); rw [hy1, hy2] at q; rw [← q]; first | rw [if_pos (by assumption)] | rw [if_neg (by assumption)])⟩
  ·
    have h634_ : jxw (s0 + 0) = s0 + 0 := jxw_id (by omega) (by omega)
    exact jt_rI ⟨rfl, rfl, (fun h1 h2 h3 h4 => by unfold UNC unh; rw [← hs0 h1 h2 h3 h4]; have q := hq631_1 (by omega) (by omega) (by omega) (by omega); rw [hy1, hy2] at q; rw [← q]; first | rw [if_pos (by assumption)] | rw [if_neg (by assumption)])⟩
theorem sp_X11_unhappy (E : jxE) (d : Nat) (hd : Nat.ble 6 d = true) (x1 x2 : Int) (a0 b0 : Nat → Nat → Int) (hv0 : iv a0) (hp0 : WISHR a0) : jt (jxC E d 173 [.inr (.inr (.inl 0)), .inl x1, .inl x2] (jxSH, a0, b0)) (jQ_X11_unhappy x1 x2 a0 b0) := by
  obtain ⟨d, rfl⟩ := jd_succ hd
  refine jt_eq (bq_X11_unhappy E d x1 x2 a0 b0) ?_
  refine jt_bI (sp_X10_isMet E d (jd_le hd rfl) x1 x2 (a0 0 0) a0 b0 hv0 hp0) (fun r635_ a635_ b635_ h635_ => ?_)
  obtain ⟨rfl, rfl, hq635_0, hq635_1⟩ := h635_
  refine jt_ite (fun c636_ => ?_) (fun c636_ => ?_)
  ·
    exact cp_X11_unhappy_21 E d hd x1 x2 a0 b0 hv0 hp0 x1 x2 1 (show 0 ≤ 1 from by omega) (show 1 ≤ 1 from by omega) (by first | rfl | assumption) (by first | rfl | assumption) (fun h1 h2 h3 h4 => by rw [← hq635_1 h1 h2 h3 h4]; first | rw [if_pos (by assumption)] | rw [if_neg (by assumption)])
  ·
    exact cp_X11_unhappy_21 E d hd x1 x2 a0 b0 hv0 hp0 x1 x2 0 (show 0 ≤ 0 from by omega) (show 0 ≤ 1 from by omega) (by first | rfl | assumption) (by first | rfl | assumption) (fun h1 h2 h3 h4 => by rw [← hq635_1 h1 h2 h3 h4]; first | rw [if_pos (by assumption)] | rw [if_neg (by assumption)])
abbrev jQ_X11_isAhead (x1 x2 x3 : Int) (a0 b0 : Nat → Nat → Int) : List jxV → (Nat → Nat → Int) → (Nat → Nat → Int) → Prop := rI (fun r a b => (a0 = a) ∧ (b0 = b) ∧ ((0 ≤ r ∧ r ≤ 1)) ∧ (0 ≤ x1 → x1 < a0 4 6 → 0 ≤ x2 → x2 < a0 4 6 → 0 ≤ x3 → x3 < a0 4 6 → r = AHF a0 b0 x1 x2 x3))
theorem cp_X11_isAhead_26 (E : jxE) (d : Nat) (hd : Nat.ble 7 (d + 1) = true) (x1 x2 x3 : Int) (a0 b0 : Nat → Nat → Int) (hv0 : iv a0) (hp0 : WISHR a0) : (AHF a0 b0 x1 x2 x3 = 1) → jt (jxX E d 175 26 [none, none, none, none, none, none] [] (jxSH, a0, b0)) (jQ_X11_isAhead x1 x2 x3 a0 b0) := by
  intro hah
  refine jt_eq (bq_X11_isAhead_26 E d a0 b0) ?_
  exact jt_rI ⟨rfl, rfl, (show (0 ≤ 1 ∧ 1 ≤ 1) from by omega), (fun _ _ _ _ _ _ => hah.symm)⟩
theorem cp_X11_isAhead_30 (E : jxE) (d : Nat) (hd : Nat.ble 7 (d + 1) = true) (x1 x2 x3 : Int) (a0 b0 : Nat → Nat → Int) (hv0 : iv a0) (hp0 : WISHR a0) : (AHF a0 b0 x1 x2 x3 = 0) → jt (jxX E d 175 30 [none, none, none, none, none, none] [] (jxSH, a0, b0)) (jQ_X11_isAhead x1 x2 x3 a0 b0) := by
  intro hah
  refine jt_eq (bq_X11_isAhead_30 E d a0 b0) ?_
  exact jt_rI ⟨rfl, rfl, (show (0 ≤ 0 ∧ 0 ≤ 1) from by omega), (fun _ _ _ _ _ _ => hah.symm)⟩
theorem cp_X11_isAhead_48 (E : jxE) (d : Nat) (hd : Nat.ble 7 (d + 1) = true) (x1 x2 x3 : Int) (a0 b0 : Nat → Nat → Int) (hv0 : iv a0) (hp0 : WISHR a0) : ∀ (y2 y3 y4 y5 : Int), (y2 = x2) → (y3 = x3) → (0 ≤ x1 → x1 < a0 4 6 → 0 ≤ x2 → x2 < a0 4 6 → 0 ≤ x3 → x3 < a0 4 6 → y4 = UNC a0 b0 x1 x2 ∧ y5 = UNC a0 b0 x1 x3) → (f_X11_owed a0 b0 x2 = f_X11_owed a0 b0 x3) → jt (jxX E d 175 48 [some (.inr (.inr (.inl 0))), none, some (.inl y2), some (.inl y3), some (.inl y4), some (.inl y5)] [] (jxSH, a0, b0)) (jQ_X11_isAhead x1 x2 x3 a0 b0) := by
  intro y2 y3 y4 y5 hy2 hy3 hun how
  refine jt_eq (bq_X11_isAhead_48 E d y2 y3 y4 y5 a0 b0) ?_
  refine jt_ite (fun c637_ => ?_) (fun c637_ => ?_)
  ·
    refine jt_eI (eq_X7_lastSentTo E d (jd_le hd rfl) y2 a0 b0) ?_
    refine jt_eI (eq_X7_lastSentTo E d (jd_le hd rfl) y3 a0 b0) ?_
    have h638_ := f_X7_lastSentTo_eq a0 b0 y2
    have h639_ := f_X11_entry_r75_eq a0 b0 40 y2
    have h640_ := f_X7_lastSentTo_eq a0 b0 y3
    have h641_ := f_X11_entry_r75_eq a0 b0 40 y3
    refine jt_ite (fun c642_ => ?_) (fun c642_ => ?_)
    ·
      exact jt_rI ⟨rfl, rfl, (show (0 ≤ 1 ∧ 1 ≤ 1) from by omega), (fun h1 h2 h3 h4 h5 h6 => by obtain ⟨u1, u2⟩ := hun h1 h2 h3 h4 h5 h6; unfold AHF; rw [if_pos how, ← u1, ← u2, ← hy2, ← hy3]; repeat (first | rw [if_pos (by assumption)] | rw [if_neg (by assumption)]))⟩
    ·
      exact jt_rI ⟨rfl, rfl, (show (0 ≤ 0 ∧ 0 ≤ 1) from by omega), (fun h1 h2 h3 h4 h5 h6 => by obtain ⟨u1, u2⟩ := hun h1 h2 h3 h4 h5 h6; unfold AHF; rw [if_pos how, ← u1, ← u2, ← hy2, ← hy3]; repeat (first | rw [if_pos (by assumption)] | rw [if_neg (by assumption)]))⟩
  ·
    refine jt_ite (fun c643_ => ?_) (fun c643_ => ?_)
    ·
      exact jt_rI ⟨rfl, rfl, (show (0 ≤ 1 ∧ 1 ≤ 1) from by omega), (fun h1 h2 h3 h4 h5 h6 => by obtain ⟨u1, u2⟩ := hun h1 h2 h3 h4 h5 h6; unfold AHF; rw [if_pos how, ← u1, ← u2, ← hy2, ← hy3]; repeat (first | rw [if_pos (by assumption)] | rw [if_neg (by assumption)]))⟩
    ·
      exact jt_rI ⟨rfl, rfl, (show (0 ≤ 0 ∧ 0 ≤ 1) from by omega), (fun h1 h2 h3 h4 h5 h6 => by obtain ⟨u1, u2⟩ := hun h1 h2 h3 h4 h5 h6; unfold AHF; rw [if_pos how, ← u1, ← u2, ← hy2, ← hy3]; repeat (first | rw [if_pos (by assumption)] | rw [if_neg (by assumption)]))⟩
theorem sp_X11_isAhead (E : jxE) (d : Nat) (hd : Nat.ble 7 d = true) (x1 x2 x3 : Int) (a0 b0 : Nat → Nat → Int) (hv0 : iv a0) (hp0 : WISHR a0) : jt (jxC E d 175 [.inr (.inr (.inl 0)), .inl x1, .inl x2, .inl x3] (jxSH, a0, b0)) (jQ_X11_isAhead x1 x2 x3 a0 b0) := by
  obtain ⟨d, rfl⟩ := jd_succ hd
  refine jt_eq (bq_X11_isAhead E d x1 x2 x3 a0 b0) ?_
  refine jt_eI (eq_X11_owed E d (jd_le hd rfl) x2 a0 b0) ?_
  refine jt_eI (eq_X11_owed E d (jd_le hd rfl) x3 a0 b0) ?_
  have h644_ := f_X11_owed_eq a0 b0 x2
  have h645_ := f_X7_givenBy_eq a0 b0 x2
  have h646_ := f_X11_entry_r70_eq a0 b0 40 x2
  have h647_ := f_X3_creditOf_eq a0 b0 x2
  have h648_ := f_X3_has_eq a0 b0 x2
  have h649_ := iv_get hv0 (k := 4) (j := 6) (l := 0) (u := 40) rfl
  have h650_ := jxw_im ((f_X7_givenBy a0 b0 x2) + (f_X3_creditOf a0 b0 x2))
  have h651_ := jxw_rg ((f_X7_givenBy a0 b0 x2) + (f_X3_creditOf a0 b0 x2))
  have h652_ := f_X7_gotBy_eq a0 b0 x2
  have h653_ := f_X11_entry_r71_eq a0 b0 40 x2
  have h654_ := jxw_im ((jxw ((f_X7_givenBy a0 b0 x2) + (f_X3_creditOf a0 b0 x2))) - (f_X7_gotBy a0 b0 x2))
  have h655_ := jxw_rg ((jxw ((f_X7_givenBy a0 b0 x2) + (f_X3_creditOf a0 b0 x2))) - (f_X7_gotBy a0 b0 x2))
  have h656_ := f_X7_comingTo_eq a0 b0 x2
  have h657_ := f_X11_entry_r72_eq a0 b0 40 x2
  have h658_ := jxw_im ((jxw ((jxw ((f_X7_givenBy a0 b0 x2) + (f_X3_creditOf a0 b0 x2))) - (f_X7_gotBy a0 b0 x2))) - (f_X7_comingTo a0 b0 x2))
  have h659_ := jxw_rg ((jxw ((jxw ((f_X7_givenBy a0 b0 x2) + (f_X3_creditOf a0 b0 x2))) - (f_X7_gotBy a0 b0 x2))) - (f_X7_comingTo a0 b0 x2))
  have h660_ := f_X11_owed_eq a0 b0 x3
  have h661_ := f_X7_givenBy_eq a0 b0 x3
  have h662_ := f_X11_entry_r70_eq a0 b0 40 x3
  have h663_ := f_X3_creditOf_eq a0 b0 x3
  have h664_ := f_X3_has_eq a0 b0 x3
  have h665_ := jxw_im ((f_X7_givenBy a0 b0 x3) + (f_X3_creditOf a0 b0 x3))
  have h666_ := jxw_rg ((f_X7_givenBy a0 b0 x3) + (f_X3_creditOf a0 b0 x3))
  have h667_ := f_X7_gotBy_eq a0 b0 x3
  have h668_ := f_X11_entry_r71_eq a0 b0 40 x3
  have h669_ := jxw_im ((jxw ((f_X7_givenBy a0 b0 x3) + (f_X3_creditOf a0 b0 x3))) - (f_X7_gotBy a0 b0 x3))
  have h670_ := jxw_rg ((jxw ((f_X7_givenBy a0 b0 x3) + (f_X3_creditOf a0 b0 x3))) - (f_X7_gotBy a0 b0 x3))
  have h671_ := f_X7_comingTo_eq a0 b0 x3
  have h672_ := f_X11_entry_r72_eq a0 b0 40 x3
  have h673_ := jxw_im ((jxw ((jxw ((f_X7_givenBy a0 b0 x3) + (f_X3_creditOf a0 b0 x3))) - (f_X7_gotBy a0 b0 x3))) - (f_X7_comingTo a0 b0 x3))
  have h674_ := jxw_rg ((jxw ((jxw ((f_X7_givenBy a0 b0 x3) + (f_X3_creditOf a0 b0 x3))) - (f_X7_gotBy a0 b0 x3))) - (f_X7_comingTo a0 b0 x3))
  refine jt_ite (fun c675_ => ?_) (fun c675_ => ?_)
  ·
    refine jt_bI (sp_X11_unhappy E d (jd_le hd rfl) x1 x2 a0 b0 hv0 hp0) (fun r676_ a676_ b676_ h676_ => ?_)
    obtain ⟨rfl, rfl, hq676_0⟩ := h676_
    refine jt_bI (sp_X11_unhappy E d (jd_le hd rfl) x1 x3 a0 b0 hv0 hp0) (fun r677_ a677_ b677_ h677_ => ?_)
    obtain ⟨rfl, rfl, hq677_0⟩ := h677_
    exact cp_X11_isAhead_48 E d hd x1 x2 x3 a0 b0 hv0 hp0 x2 x3 r676_ r677_ (by first | rfl | assumption) (by first | rfl | assumption) (fun h1 h2 h3 h4 h5 h6 => ⟨hq676_0 h1 h2 h3 h4, hq677_0 h1 h2 h5 h6⟩) (by assumption)
  ·
    refine jt_eI (eq_X11_owed E d (jd_le hd rfl) x2 a0 b0) ?_
    refine jt_eI (eq_X11_owed E d (jd_le hd rfl) x3 a0 b0) ?_
    refine jt_ite (fun c678_ => ?_) (fun c678_ => ?_)
    ·
      exact cp_X11_isAhead_26 E d hd x1 x2 x3 a0 b0 hv0 hp0 (by unfold AHF; rw [if_neg (by assumption), if_pos (by assumption)])
    ·
      exact cp_X11_isAhead_30 E d hd x1 x2 x3 a0 b0 hv0 hp0 (by unfold AHF; rw [if_neg (by assumption), if_neg (by assumption)])
abbrev jQ_X11_mayGet (x1 x2 x3 : Int) (a0 b0 : Nat → Nat → Int) : List jxV → (Nat → Nat → Int) → (Nat → Nat → Int) → Prop := rI (fun r a b => (a0 = a) ∧ (b0 = b) ∧ ((0 ≤ r ∧ r ≤ 1)) ∧ (0 ≤ x1 → x1 < a0 4 6 → r = MGF a0 b0 x1 x2 x3))
theorem cp_X11_mayGet_65 (E : jxE) (d : Nat) (hd : Nat.ble 7 (d + 1) = true) (x1 x2 x3 : Int) (a0 b0 : Nat → Nat → Int) (hv0 : iv a0) (hp0 : WISHR a0) : (0 ≤ x1 → x1 < a0 4 6 → MGF a0 b0 x1 x2 x3 = 1) → jt (jxX E d 172 65 [none, none, none, none, none] [] (jxSH, a0, b0)) (jQ_X11_mayGet x1 x2 x3 a0 b0) := by
  intro hmg
  refine jt_eq (bq_X11_mayGet_65 E d a0 b0) ?_
  exact jt_rI ⟨rfl, rfl, (show (0 ≤ 1 ∧ 1 ≤ 1) from by omega), (fun h1 h2 => (hmg h1 h2).symm)⟩
theorem cp_X11_mayGet_69 (E : jxE) (d : Nat) (hd : Nat.ble 7 (d + 1) = true) (x1 x2 x3 : Int) (a0 b0 : Nat → Nat → Int) (hv0 : iv a0) (hp0 : WISHR a0) : (0 ≤ x1 → x1 < a0 4 6 → MGF a0 b0 x1 x2 x3 = 0) → jt (jxX E d 172 69 [none, none, none, none, none] [] (jxSH, a0, b0)) (jQ_X11_mayGet x1 x2 x3 a0 b0) := by
  intro hmg
  refine jt_eq (bq_X11_mayGet_69 E d a0 b0) ?_
  exact jt_rI ⟨rfl, rfl, (show (0 ≤ 0 ∧ 0 ≤ 1) from by omega), (fun h1 h2 => (hmg h1 h2).symm)⟩
theorem cp_X11_mayGet_33 (E : jxE) (d : Nat) (hd : Nat.ble 7 (d + 1) = true) (x1 x2 x3 : Int) (a0 b0 : Nat → Nat → Int) (hv0 : iv a0) (hp0 : WISHR a0) : ∀ (y1 y2 : Int), 0 ≤ y2 → y2 ≤ 39 → (y1 = x1) → (y2 = x2) → (0 ≤ x2 ∧ x2 < a0 4 6) → (MGF a0 b0 x1 x2 x3 = if ¬ 0 < jxw (f_X11_owed a0 b0 x2 + f_X6_slack a0 b0) then 0 else if f_X6_strict a0 b0 < UNC a0 b0 x1 x2 then 0 else 1) → jt (jxX E d 172 33 [some (.inr (.inr (.inl 0))), some (.inl y1), some (.inl y2), none, none] [] (jxSH, a0, b0)) (jQ_X11_mayGet x1 x2 x3 a0 b0) := by
  intro y1 y2 hi0 hi1 hy1 hy2 hi4 hmg
  refine jt_eq (bq_X11_mayGet_33 E d y1 y2 a0 b0) ?_
  have h679_ := iv_get hv0 (k := 4) (j := 6) (l := 0) (u := 40) rfl
  refine jt_eI (eq_X11_owed E d (jd_le hd rfl) y2 a0 b0) ?_
  refine jt_eI (eq_X6_slack E d (jd_le hd rfl) a0 b0) ?_
  have h680_ := f_X11_owed_eq a0 b0 y2
  have h681_ := f_X7_givenBy_eq a0 b0 y2
  have h682_ := f_X11_entry_r70_eq a0 b0 40 y2
  have h683_ := f_X3_creditOf_eq a0 b0 y2
  have h684_ := f_X3_has_eq a0 b0 y2
  have h685_ := jxw_im ((f_X7_givenBy a0 b0 y2) + (f_X3_creditOf a0 b0 y2))
  have h686_ := jxw_rg ((f_X7_givenBy a0 b0 y2) + (f_X3_creditOf a0 b0 y2))
  have h687_ := f_X7_gotBy_eq a0 b0 y2
  have h688_ := f_X11_entry_r71_eq a0 b0 40 y2
  have h689_ := jxw_im ((jxw ((f_X7_givenBy a0 b0 y2) + (f_X3_creditOf a0 b0 y2))) - (f_X7_gotBy a0 b0 y2))
  have h690_ := jxw_rg ((jxw ((f_X7_givenBy a0 b0 y2) + (f_X3_creditOf a0 b0 y2))) - (f_X7_gotBy a0 b0 y2))
  have h691_ := f_X7_comingTo_eq a0 b0 y2
  have h692_ := f_X11_entry_r72_eq a0 b0 40 y2
  have h693_ := jxw_im ((jxw ((jxw ((f_X7_givenBy a0 b0 y2) + (f_X3_creditOf a0 b0 y2))) - (f_X7_gotBy a0 b0 y2))) - (f_X7_comingTo a0 b0 y2))
  have h694_ := jxw_rg ((jxw ((jxw ((f_X7_givenBy a0 b0 y2) + (f_X3_creditOf a0 b0 y2))) - (f_X7_gotBy a0 b0 y2))) - (f_X7_comingTo a0 b0 y2))
  have h695_ := f_X6_slack_eq a0 b0
  have h696_ := jxw_im ((f_X11_owed a0 b0 y2) + (f_X6_slack a0 b0))
  have h697_ := jxw_rg ((f_X11_owed a0 b0 y2) + (f_X6_slack a0 b0))
  refine jt_ite (fun c698_ => ?_) (fun c698_ => ?_)
  ·
    refine jt_bI (sp_X11_unhappy E d (jd_le hd rfl) y1 y2 a0 b0 hv0 hp0) (fun r699_ a699_ b699_ h699_ => ?_)
    obtain ⟨rfl, rfl, hq699_0⟩ := h699_
    refine jt_eI (eq_X6_strict E d (jd_le hd rfl) a0 b0) ?_
    have h700_ := f_X6_strict_eq a0 b0
    refine jt_ite (fun c701_ => ?_) (fun c701_ => ?_)
    ·
      exact cp_X11_mayGet_69 E d hd x1 x2 x3 a0 b0 hv0 hp0 (fun h1 h2 => by have q := hq699_0 (by omega) (by omega) (by omega) (by omega); rw [hy1, hy2] at q; rw [hmg, if_neg (by rw [← hy2]; omega), ← q]; first | rw [if_pos (by assumption)] | rw [if_neg (by assumption)])
    ·
      exact cp_X11_mayGet_65 E d hd x1 x2 x3 a0 b0 hv0 hp0 (fun h1 h2 => by have q := hq699_0 (by omega) (by omega) (by omega) (by omega); rw [hy1, hy2] at q; rw [hmg, if_neg (by rw [← hy2]; omega), ← q]; first | rw [if_pos (by assumption)] | rw [if_neg (by assumption)])
  ·
    exact cp_X11_mayGet_69 E d hd x1 x2 x3 a0 b0 hv0 hp0 (fun _ _ => by rw [hmg, if_pos (by rw [← hy2]; assumption)])
theorem sp_X11_mayGet (E : jxE) (d : Nat) (hd : Nat.ble 7 d = true) (x1 x2 x3 : Int) (a0 b0 : Nat → Nat → Int) (hv0 : iv a0) (hp0 : WISHR a0) : jt (jxC E d 172 [.inr (.inr (.inl 0)), .inl x1, .inl x2, .inr (.inl x3)] (jxSH, a0, b0)) (jQ_X11_mayGet x1 x2 x3 a0 b0) := by
  obtain ⟨d, rfl⟩ := jd_succ hd
  refine jt_eq (bq_X11_mayGet E d x1 x2 x3 a0 b0) ?_
  refine jt_eI (eq_X3_isThere E d (jd_le hd rfl) x2 a0 b0) ?_
  have h702_ := f_X3_isThere_eq a0 b0 x2
  have h703_ := f_X3_has_eq a0 b0 x2
  have h704_ := iv_get hv0 (k := 4) (j := 6) (l := 0) (u := 40) rfl
  refine jt_ite (fun c705_ => ?_) (fun c705_ => ?_)
  ·
    exact cp_X11_mayGet_69 E d hd x1 x2 x3 a0 b0 hv0 hp0 (fun _ _ => by unfold MGF; first | rw [if_pos (by assumption)] | (rw [if_neg (by omega), if_pos (by omega)]) | (rw [if_neg (by omega), if_neg (by omega), if_pos (by omega)]))
  ·
    refine jt_eI (eq_X3_areKin E d (jd_le hd rfl) x1 x2 a0 b0) ?_
    have h706_ := f_X3_areKin_bool a0 b0 x1 x2
    refine jt_ite (fun c707_ => ?_) (fun c707_ => ?_)
    ·
      have h708_ := jxlcmp_b (jxandl (jxshrl x3 x2) 1) 0
      refine jt_ite (fun c709_ => ?_) (fun c709_ => ?_)
      ·
        exact cp_X11_mayGet_33 E d hd x1 x2 x3 a0 b0 hv0 hp0 x1 x2 (show 0 ≤ x2 from by omega) (show x2 ≤ 39 from by omega) (by first | rfl | assumption) (by first | rfl | assumption) (show (0 ≤ x2 ∧ x2 < a0 4 6) from by omega) (by unfold MGF; rw [if_neg (by omega), if_neg (by omega), if_neg (by omega)])
      ·
        exact cp_X11_mayGet_69 E d hd x1 x2 x3 a0 b0 hv0 hp0 (fun _ _ => by unfold MGF; first | rw [if_pos (by assumption)] | (rw [if_neg (by omega), if_pos (by omega)]) | (rw [if_neg (by omega), if_neg (by omega), if_pos (by omega)]))
    ·
      exact cp_X11_mayGet_69 E d hd x1 x2 x3 a0 b0 hv0 hp0 (fun _ _ => by unfold MGF; first | rw [if_pos (by assumption)] | (rw [if_neg (by omega), if_pos (by omega)]) | (rw [if_neg (by omega), if_neg (by omega), if_pos (by omega)]))
abbrev jQ_X11_firstReceiver (x1 : Int) (a0 b0 : Nat → Nat → Int) : List jxV → (Nat → Nat → Int) → (Nat → Nat → Int) → Prop := rI (fun r a b => (a0 = a) ∧ (b0 = b) ∧ (0 ≤ x1 → x1 < a0 4 6 → r = FRC a0 b0 x1 (RBC a0 b0 x1 (a0 58 8).toNat) (a0 4 6).toNat))
theorem cp_X11_firstReceiver_15 (E : jxE) (d : Nat) (hd : Nat.ble 8 (d + 1) = true) (x1 : Int) (a0 b0 : Nat → Nat → Int) (hv0 : iv a0) (hp0 : WISHR a0) : ∀ n : Nat, (∀ (y1 y2 y5 : Int), (((40 - y5) * 1) + 0).toNat ≤ n → 0 ≤ y5 → y5 ≤ 39 → y1 = x1 → 0 ≤ y5 → y5 < a0 4 6 → (y2 = RBC a0 b0 x1 (a0 58 8).toNat) → (0 ≤ x1 → x1 < a0 4 6 → y5 = FRC a0 b0 x1 (RBC a0 b0 x1 (a0 58 8).toNat) (y5.toNat + 1)) → jt (jxX E d 174 56 [some (.inr (.inr (.inl 0))), some (.inl y1), some (.inr (.inl y2)), none, none, some (.inl y5)] [] (jxSH, a0, b0)) (jQ_X11_firstReceiver x1 a0 b0)) ∧ (∀ (y1 y2 y4 y5 : Int), (((40 - y5) * 1) + 0).toNat ≤ n → 0 ≤ y4 → y4 ≤ 39 → 0 ≤ y5 → y5 ≤ 39 → y1 = x1 → 0 ≤ y5 → y5 < a0 4 6 → (y2 = RBC a0 b0 x1 (a0 58 8).toNat) → (0 ≤ x1 → x1 < a0 4 6 → y4 = FRC a0 b0 x1 (RBC a0 b0 x1 (a0 58 8).toNat) y5.toNat) → (0 ≤ x1 → x1 < a0 4 6 → MGF a0 b0 x1 y5 (RBC a0 b0 x1 (a0 58 8).toNat) ≠ 0) → ¬ y4 = 0 - 1 → jt (jxX E d 174 44 [some (.inr (.inr (.inl 0))), some (.inl y1), some (.inr (.inl y2)), none, some (.inl y4), some (.inl y5)] [] (jxSH, a0, b0)) (jQ_X11_firstReceiver x1 a0 b0)) ∧ (∀ (y1 y2 y4 y5 : Int), (((40 - y5) * 1) + 0).toNat ≤ n → 0 - 1 ≤ y4 → y4 ≤ 39 → 0 ≤ y5 → y5 ≤ 40 → y1 = x1 → 0 ≤ y5 → y5 ≤ a0 4 6 → (y2 = RBC a0 b0 x1 (a0 58 8).toNat) → (0 ≤ x1 → x1 < a0 4 6 → y4 = FRC a0 b0 x1 (RBC a0 b0 x1 (a0 58 8).toNat) y5.toNat) → jt (jxX E d 174 15 [some (.inr (.inr (.inl 0))), some (.inl y1), some (.inr (.inl y2)), none, some (.inl y4), some (.inl y5)] [] (jxSH, a0, b0)) (jQ_X11_firstReceiver x1 a0 b0)) := by
  refine jx_ind fun n ih => ?_
  have ih56 : ∀ (y1 y2 y5 : Int), (((40 - y5) * 1) + 0).toNat < n → 0 ≤ y5 → y5 ≤ 39 → y1 = x1 → 0 ≤ y5 → y5 < a0 4 6 → (y2 = RBC a0 b0 x1 (a0 58 8).toNat) → (0 ≤ x1 → x1 < a0 4 6 → y5 = FRC a0 b0 x1 (RBC a0 b0 x1 (a0 58 8).toNat) (y5.toNat + 1)) → jt (jxX E d 174 56 [some (.inr (.inr (.inl 0))), some (.inl y1), some (.inr (.inl y2)), none, none, some (.inl y5)] [] (jxSH, a0, b0)) (jQ_X11_firstReceiver x1 a0 b0) := fun y1 y2 y5 hlt i0 i1 i2 i3 i4 i5 i6 => (ih _ hlt).1 y1 y2 y5 (Nat.le_refl _) i0 i1 i2 i3 i4 i5 i6
  have ih44 : ∀ (y1 y2 y4 y5 : Int), (((40 - y5) * 1) + 0).toNat < n → 0 ≤ y4 → y4 ≤ 39 → 0 ≤ y5 → y5 ≤ 39 → y1 = x1 → 0 ≤ y5 → y5 < a0 4 6 → (y2 = RBC a0 b0 x1 (a0 58 8).toNat) → (0 ≤ x1 → x1 < a0 4 6 → y4 = FRC a0 b0 x1 (RBC a0 b0 x1 (a0 58 8).toNat) y5.toNat) → (0 ≤ x1 → x1 < a0 4 6 → MGF a0 b0 x1 y5 (RBC a0 b0 x1 (a0 58 8).toNat) ≠ 0) → ¬ y4 = 0 - 1 → jt (jxX E d 174 44 [some (.inr (.inr (.inl 0))), some (.inl y1), some (.inr (.inl y2)), none, some (.inl y4), some (.inl y5)] [] (jxSH, a0, b0)) (jQ_X11_firstReceiver x1 a0 b0) := fun y1 y2 y4 y5 hlt i0 i1 i2 i3 i4 i5 i6 i7 i8 i9 i10 => (ih _ hlt).2.1 y1 y2 y4 y5 (Nat.le_refl _) i0 i1 i2 i3 i4 i5 i6 i7 i8 i9 i10
  have ih15 : ∀ (y1 y2 y4 y5 : Int), (((40 - y5) * 1) + 0).toNat < n → 0 - 1 ≤ y4 → y4 ≤ 39 → 0 ≤ y5 → y5 ≤ 40 → y1 = x1 → 0 ≤ y5 → y5 ≤ a0 4 6 → (y2 = RBC a0 b0 x1 (a0 58 8).toNat) → (0 ≤ x1 → x1 < a0 4 6 → y4 = FRC a0 b0 x1 (RBC a0 b0 x1 (a0 58 8).toNat) y5.toNat) → jt (jxX E d 174 15 [some (.inr (.inr (.inl 0))), some (.inl y1), some (.inr (.inl y2)), none, some (.inl y4), some (.inl y5)] [] (jxSH, a0, b0)) (jQ_X11_firstReceiver x1 a0 b0) := fun y1 y2 y4 y5 hlt i0 i1 i2 i3 i4 i5 i6 i7 i8 => (ih _ hlt).2.2 y1 y2 y4 y5 (Nat.le_refl _) i0 i1 i2 i3 i4 i5 i6 i7 i8
  have hc56 : ∀ (y1 y2 y5 : Int), (((40 - y5) * 1) + 0).toNat ≤ n → 0 ≤ y5 → y5 ≤ 39 → y1 = x1 → 0 ≤ y5 → y5 < a0 4 6 → (y2 = RBC a0 b0 x1 (a0 58 8).toNat) → (0 ≤ x1 → x1 < a0 4 6 → y5 = FRC a0 b0 x1 (RBC a0 b0 x1 (a0 58 8).toNat) (y5.toNat + 1)) → jt (jxX E d 174 56 [some (.inr (.inr (.inl 0))), some (.inl y1), some (.inr (.inl y2)), none, none, some (.inl y5)] [] (jxSH, a0, b0)) (jQ_X11_firstReceiver x1 a0 b0) := by
    intro y1 y2 y5 hm hi0 hi1 hi2 hi3 hi4 hy2 hf1
    refine jt_eq (bq_X11_firstReceiver_56 E d y1 y2 y5 a0 b0) ?_
    have h710_ := iv_get hv0 (k := 4) (j := 6) (l := 0) (u := 40) rfl
    have h711_ : jxw (y5 + 1) = y5 + 1 := jxw_id (by omega) (by omega)
    exact ih15 y1 y2 y5 (jxw (y5 + 1)) (show (((40 - (jxw (y5 + 1))) * 1) + 0).toNat < n from by omega) (show 0 - 1 ≤ y5 from by omega) (show y5 ≤ 39 from by omega) (show 0 ≤ jxw (y5 + 1) from by omega) (show jxw (y5 + 1) ≤ 40 from by omega) (show y1 = x1 from by omega) (show 0 ≤ jxw (y5 + 1) from by omega) (show jxw (y5 + 1) ≤ a0 4 6 from by omega) hy2 (fun h1 h2 => by rw [show (jxw (y5 + 1)).toNat = y5.toNat + 1 from by omega]; exact hf1 h1 h2)
  have hc44 : ∀ (y1 y2 y4 y5 : Int), (((40 - y5) * 1) + 0).toNat ≤ n → 0 ≤ y4 → y4 ≤ 39 → 0 ≤ y5 → y5 ≤ 39 → y1 = x1 → 0 ≤ y5 → y5 < a0 4 6 → (y2 = RBC a0 b0 x1 (a0 58 8).toNat) → (0 ≤ x1 → x1 < a0 4 6 → y4 = FRC a0 b0 x1 (RBC a0 b0 x1 (a0 58 8).toNat) y5.toNat) → (0 ≤ x1 → x1 < a0 4 6 → MGF a0 b0 x1 y5 (RBC a0 b0 x1 (a0 58 8).toNat) ≠ 0) → ¬ y4 = 0 - 1 → jt (jxX E d 174 44 [some (.inr (.inr (.inl 0))), some (.inl y1), some (.inr (.inl y2)), none, some (.inl y4), some (.inl y5)] [] (jxSH, a0, b0)) (jQ_X11_firstReceiver x1 a0 b0) := by
    intro y1 y2 y4 y5 hm hi0 hi1 hi2 hi3 hi4 hi5 hi6 hy2 hf1 hmg1 hi10
    refine jt_eq (bq_X11_firstReceiver_44 E d y1 y2 y4 y5 a0 b0) ?_
    have h712_ := iv_get hv0 (k := 4) (j := 6) (l := 0) (u := 40) rfl
    have hst : FRC a0 b0 x1 (RBC a0 b0 x1 (a0 58 8).toNat) (y5.toNat + 1) = if MGF a0 b0 x1 ((y5.toNat : Nat) : Int) (RBC a0 b0 x1 (a0 58 8).toNat) = 0 then FRC a0 b0 x1 (RBC a0 b0 x1 (a0 58 8).toNat) y5.toNat else if FRC a0 b0 x1 (RBC a0 b0 x1 (a0 58 8).toNat) y5.toNat = -1 then ((y5.toNat : Nat) : Int) else if AHF a0 b0 x1 ((y5.toNat : Nat) : Int) (FRC a0 b0 x1 (RBC a0 b0 x1 (a0 58 8).toNat) y5.toNat) = 0 then FRC a0 b0 x1 (RBC a0 b0 x1 (a0 58 8).toNat) y5.toNat else ((y5.toNat : Nat) : Int) := rfl
    rw [show ((y5.toNat : Nat) : Int) = y5 from by omega] at hst
    have hrg := FRC_rg a0 b0 x1 (RBC a0 b0 x1 (a0 58 8).toNat) y5.toNat
    refine jt_bI (sp_X11_isAhead E d (jd_le hd rfl) y1 y5 y4 a0 b0 hv0 hp0) (fun r713_ a713_ b713_ h713_ => ?_)
    obtain ⟨rfl, rfl, hq713_0, hq713_1⟩ := h713_
    refine jt_ite (fun c714_ => ?_) (fun c714_ => ?_)
    ·
      have h715_ : jxw (y5 + 1) = y5 + 1 := jxw_id (by omega) (by omega)
      exact ih15 y1 y2 y4 (jxw (y5 + 1)) (show (((40 - (jxw (y5 + 1))) * 1) + 0).toNat < n from by omega) (show 0 - 1 ≤ y4 from by omega) (show y4 ≤ 39 from by omega) (show 0 ≤ jxw (y5 + 1) from by omega) (show jxw (y5 + 1) ≤ 40 from by omega) (show y1 = x1 from by omega) (show 0 ≤ jxw (y5 + 1) from by omega) (show jxw (y5 + 1) ≤ a0 4 6 from by omega) hy2 (fun h1 h2 => by rw [show (jxw (y5 + 1)).toNat = y5.toNat + 1 from by omega]; have e := hf1 h1 h2; have qa := hq713_1 (by omega) (by omega) (by omega) (by omega) (by omega) (by omega); rw [show y1 = x1 from by omega, e] at qa; rw [hst, if_neg (hmg1 h1 h2), if_neg (by omega), if_pos (by omega)]; exact e)
    ·
      exact hc56 y1 y2 y5 (show (((40 - y5) * 1) + 0).toNat ≤ n from by omega) (show 0 ≤ y5 from by omega) (show y5 ≤ 39 from by omega) (show y1 = x1 from by omega) (show 0 ≤ y5 from by omega) (show y5 < a0 4 6 from by omega) hy2 (fun h1 h2 => by have e := hf1 h1 h2; have qa := hq713_1 (by omega) (by omega) (by omega) (by omega) (by omega) (by omega); rw [show y1 = x1 from by omega, e] at qa; rw [hst, if_neg (hmg1 h1 h2), if_neg (by omega), if_neg (by omega)])
  have hc15 : ∀ (y1 y2 y4 y5 : Int), (((40 - y5) * 1) + 0).toNat ≤ n → 0 - 1 ≤ y4 → y4 ≤ 39 → 0 ≤ y5 → y5 ≤ 40 → y1 = x1 → 0 ≤ y5 → y5 ≤ a0 4 6 → (y2 = RBC a0 b0 x1 (a0 58 8).toNat) → (0 ≤ x1 → x1 < a0 4 6 → y4 = FRC a0 b0 x1 (RBC a0 b0 x1 (a0 58 8).toNat) y5.toNat) → jt (jxX E d 174 15 [some (.inr (.inr (.inl 0))), some (.inl y1), some (.inr (.inl y2)), none, some (.inl y4), some (.inl y5)] [] (jxSH, a0, b0)) (jQ_X11_firstReceiver x1 a0 b0) := by
    intro y1 y2 y4 y5 hm hi0 hi1 hi2 hi3 hi4 hi5 hi6 hy2 hf1
    refine jt_eq (bq_X11_firstReceiver_15 E d y1 y2 y4 y5 a0 b0) ?_
    have h716_ := iv_get hv0 (k := 4) (j := 6) (l := 0) (u := 40) rfl
    have hst : FRC a0 b0 x1 (RBC a0 b0 x1 (a0 58 8).toNat) (y5.toNat + 1) = if MGF a0 b0 x1 ((y5.toNat : Nat) : Int) (RBC a0 b0 x1 (a0 58 8).toNat) = 0 then FRC a0 b0 x1 (RBC a0 b0 x1 (a0 58 8).toNat) y5.toNat else if FRC a0 b0 x1 (RBC a0 b0 x1 (a0 58 8).toNat) y5.toNat = -1 then ((y5.toNat : Nat) : Int) else if AHF a0 b0 x1 ((y5.toNat : Nat) : Int) (FRC a0 b0 x1 (RBC a0 b0 x1 (a0 58 8).toNat) y5.toNat) = 0 then FRC a0 b0 x1 (RBC a0 b0 x1 (a0 58 8).toNat) y5.toNat else ((y5.toNat : Nat) : Int) := rfl
    rw [show ((y5.toNat : Nat) : Int) = y5 from by omega] at hst
    have hrg := FRC_rg a0 b0 x1 (RBC a0 b0 x1 (a0 58 8).toNat) y5.toNat
    refine jt_eI (eq_X3_size E d (jd_le hd rfl) a0 b0) ?_
    have h717_ := f_X3_size_eq a0 b0
    refine jt_ite (fun c718_ => ?_) (fun c718_ => ?_)
    ·
      refine jt_bI (sp_X11_mayGet E d (jd_le hd rfl) y1 y5 y2 a0 b0 hv0 hp0) (fun r719_ a719_ b719_ h719_ => ?_)
      obtain ⟨rfl, rfl, hq719_0, hq719_1⟩ := h719_
      refine jt_ite (fun c720_ => ?_) (fun c720_ => ?_)
      ·
        have h721_ : jxw (y5 + 1) = y5 + 1 := jxw_id (by omega) (by omega)
        exact ih15 y1 y2 y4 (jxw (y5 + 1)) (show (((40 - (jxw (y5 + 1))) * 1) + 0).toNat < n from by omega) (show 0 - 1 ≤ y4 from by omega) (show y4 ≤ 39 from by omega) (show 0 ≤ jxw (y5 + 1) from by omega) (show jxw (y5 + 1) ≤ 40 from by omega) (show y1 = x1 from by omega) (show 0 ≤ jxw (y5 + 1) from by omega) (show jxw (y5 + 1) ≤ a0 4 6 from by omega) hy2 (fun h1 h2 => by rw [show (jxw (y5 + 1)).toNat = y5.toNat + 1 from by omega]; have qm := hq719_1 (by omega) (by omega); rw [show y1 = x1 from by omega, hy2] at qm; rw [hst, if_pos (by omega)]; exact hf1 h1 h2)
      ·
        refine jt_ite (fun c722_ => ?_) (fun c722_ => ?_)
        ·
          exact hc56 y1 y2 y5 (show (((40 - y5) * 1) + 0).toNat ≤ n from by omega) (show 0 ≤ y5 from by omega) (show y5 ≤ 39 from by omega) (show y1 = x1 from by omega) (show 0 ≤ y5 from by omega) (show y5 < a0 4 6 from by omega) hy2 (fun h1 h2 => by have qm := hq719_1 (by omega) (by omega); rw [show y1 = x1 from by omega, hy2] at qm; rw [hst, if_neg (by omega), if_pos (by rw [← hf1 h1 h2]; omega)])
        ·
          exact hc44 y1 y2 y4 y5 (show (((40 - y5) * 1) + 0).toNat ≤ n from by omega) (show 0 ≤ y4 from by omega) (show y4 ≤ 39 from by omega) (show 0 ≤ y5 from by omega) (show y5 ≤ 39 from by omega) (show y1 = x1 from by omega) (show 0 ≤ y5 from by omega) (show y5 < a0 4 6 from by omega) hy2 hf1 (fun h1 h2 => by have qm := hq719_1 (by omega) (by omega); rw [show y1 = x1 from by omega, hy2] at qm; omega) (show ¬ y4 = 0 - 1 from by omega)
    ·
      exact jt_rI ⟨rfl, rfl, (fun h1 h2 => by rw [show (a0 4 6).toNat = y5.toNat from by omega]; exact hf1 h1 h2)⟩
  exact ⟨hc56, hc44, hc15⟩
theorem sp_X11_firstReceiver (E : jxE) (d : Nat) (hd : Nat.ble 8 d = true) (x1 : Int) (a0 b0 : Nat → Nat → Int) (hv0 : iv a0) (hp0 : WISHR a0) : jt (jxC E d 174 [.inr (.inr (.inl 0)), .inl x1] (jxSH, a0, b0)) (jQ_X11_firstReceiver x1 a0 b0) := by
  obtain ⟨d, rfl⟩ := jd_succ hd
  refine jt_eq (bq_X11_firstReceiver E d x1 a0 b0) ?_
  refine jt_bJ (sp_X0_reachedBy E d (jd_le hd rfl) x1 a0 b0 hv0) (fun r723_ a723_ b723_ h723_ => ?_)
  obtain ⟨rfl, rfl, hq723_0⟩ := h723_
  have h724_ := iv_get hv0 (k := 4) (j := 6) (l := 0) (u := 40) rfl
  exact (cp_X11_firstReceiver_15 E d hd x1 a0 b0 hv0 hp0 _).2.2 x1 r723_ (-1) 0 (Nat.le_refl _) (show 0 - 1 ≤ (-1) from by omega) (show (-1) ≤ 39 from by omega) (show 0 ≤ 0 from by omega) (show 0 ≤ 40 from by omega) (show x1 = x1 from by omega) (show 0 ≤ 0 from by omega) (show 0 ≤ a0 4 6 from by omega) hq723_0 (fun _ _ => rfl)
def jWsd : List (Nat × Nat) := [(58, 13), (58, 14), (58, 15)]
def jW_X11_send : List (Nat × Nat) := [(58, 8), (58, 13), (58, 14), (58, 15), (59, 9999), (60, 9999), (61, 9999), (62, 9999), (63, 9999), (64, 9999), (65, 9999)]
abbrev jQ_X11_send (x1 x2 x3 : Int) (a0 b0 : Nat → Nat → Int) : List jxV → (Nat → Nat → Int) → (Nat → Nat → Int) → Prop := rI (fun r a b => (iv a) ∧ (jfr jW_X11_send a0 a) ∧ (b0 = b) ∧ (a0 58 8 < 300 → cvC a = vAdd (cvC a0) x1 x2 (a0 0 0) (BNC a0 b0 (f_X3_landOf a0 b0 x1) (f_X3_landOf a0 b0 x2) (f_X6_lost a0 b0)) x3) ∧ (((a0 58 8 < 300 ∧ r = a0 58 8) ∨ (300 ≤ a0 58 8 ∧ r = 0 - 1))) ∧ (300 ≤ a0 58 8 → cvC a = cvC a0))
theorem cp_X11_send_32 (E : jxE) (d : Nat) (hd : Nat.ble 5 (d + 1) = true) (x1 x2 x3 : Int) (a0 b0 : Nat → Nat → Int) (hv0 : iv a0) : ∀ (y1 y2 y3 y4 : Int) (a : Nat → Nat → Int), iv a → jfr jW_X11_send a0 a → (jfr jWsd a0 a) → (y1 = x1) → (y2 = x2) → (y3 = x3) → (y4 = BNC a0 b0 (f_X3_landOf a0 b0 x1) (f_X3_landOf a0 b0 x2) (f_X6_lost a0 b0)) → jt (jxX E d 176 32 [some (.inr (.inr (.inl 0))), some (.inl y1), some (.inl y2), some (.inl y3), some (.inl y4)] [] (jxSH, a, b0)) (jQ_X11_send x1 x2 x3 a0 b0) := by
  intro y1 y2 y3 y4 a hv hf hfe hy1 hy2 hy3 hy4
  refine jt_eq (bq_X11_send_32 E d y1 y2 y3 y4 a b0) ?_
  have e588 := hfe 58 8 rfl
  refine jt_bI (sp_X0_add E d (jd_le hd rfl) y1 y2 (a 0 0) y4 y3 a b0 hv) (fun r725_ a725_ b725_ h725_ => ?_)
  obtain ⟨hv725_, hf725_, rfl, hq725_0, hq725_1, hq725_2⟩ := h725_
  have h726_ := iv_get hv (k := 58) (j := 8) (l := 0) (u := 300) rfl
  have hf727_ : jfr jW_X11_send a0 a725_ := jfr_tr hf hf725_ rfl
  have h728_ := iv_get hv0 (k := 58) (j := 8) (l := 0) (u := 300) rfl
  exact jt_rI ⟨hv725_, hf727_, rfl, (fun h => by have q := hq725_0 (by rw [hfe 58 8 rfl]; exact h); rw [hy1, hy2, hy3, hy4, hfe 0 0 rfl, show cvC a = cvC a0 from cvC_fr hfe rfl] at q; exact q), (show ((a0 58 8 < 300 ∧ r725_ = a0 58 8) ∨ (300 ≤ a0 58 8 ∧ r725_ = 0 - 1)) from by omega), (fun h => (hq725_2 (by rw [hfe 58 8 rfl]; exact h)).trans (cvC_fr hfe rfl))⟩
theorem sp_X11_send (E : jxE) (d : Nat) (hd : Nat.ble 5 d = true) (x1 x2 x3 : Int) (a0 b0 : Nat → Nat → Int) (hv0 : iv a0) : jt (jxC E d 176 [.inr (.inr (.inl 0)), .inl x1, .inl x2, .inl x3] (jxSH, a0, b0)) (jQ_X11_send x1 x2 x3 a0 b0) := by
  obtain ⟨d, rfl⟩ := jd_succ hd
  refine jt_eq (bq_X11_send E d x1 x2 x3 a0 b0) ?_
  refine jt_eI (eq_X3_landOf E d (jd_le hd rfl) x1 a0 b0) ?_
  refine jt_eI (eq_X3_landOf E d (jd_le hd rfl) x2 a0 b0) ?_
  refine jt_eI (eq_X6_lost E d (jd_le hd rfl) a0 b0) ?_
  refine jt_bI (sp_X0_boundBetween E d (jd_le hd rfl) (f_X3_landOf a0 b0 x1) (f_X3_landOf a0 b0 x2) (f_X6_lost a0 b0) a0 b0 hv0) (fun r729_ a729_ b729_ h729_ => ?_)
  obtain ⟨hv729_, hf729_, rfl, hq729_0⟩ := h729_
  have hf730_ : jfr jW_X11_send a0 a729_ := jfr_tr (jfr_rf _ _) hf729_ rfl
  have hf731_ : jfr jWsd a0 a729_ := jfr_tr (jfr_rf _ _) hf729_ rfl
  exact cp_X11_send_32 E d hd x1 x2 x3 a0 b0 hv0 x1 x2 x3 r729_ a729_ hv729_ hf730_ hf731_ (by first | rfl | assumption) (by first | rfl | assumption) (by first | rfl | assumption) hq729_0
def jW_X11_ask : List (Nat × Nat) := [(58, 8), (58, 13), (58, 14), (58, 15), (59, 9999), (60, 9999), (61, 9999), (62, 9999), (63, 9999), (64, 9999), (65, 9999), (70, 9999), (71, 9999), (72, 9999), (73, 9999), (74, 9999), (75, 9999)]
abbrev jQ_X11_ask (x1 : Int) (a0 b0 : Nat → Nat → Int) : List jxV → (Nat → Nat → Int) → (Nat → Nat → Int) → Prop := rI (fun r a b => (iv a) ∧ (jfr jW_X11_ask a0 a) ∧ (b0 = b) ∧ ((a0 4 6 = 0 → r = 0 - 1)) ∧ (0 ≤ x1 → x1 < a0 4 6 → a0 58 8 < 300 → ASKC a0 b0 a x1 r) ∧ ((((x1 < 0 ∨ a0 4 6 ≤ x1) ∨ 300 ≤ a0 58 8) → r = 0 - 1)) ∧ ((x1 < 0 ∨ a0 4 6 ≤ x1 ∨ 300 ≤ a0 58 8) → cvC a = cvC a0))
theorem cp_X11_ask_39 (E : jxE) (d : Nat) (hd : Nat.ble 9 (d + 1) = true) (x1 : Int) (a0 b0 : Nat → Nat → Int) (hv0 : iv a0) (hp0 : WISHR a0) : ∀ (y1 : Int) (a : Nat → Nat → Int), iv a → jfr jW_X11_ask a0 a → 0 ≤ y1 → y1 ≤ 39 → (jfr jWtk a0 a) → (y1 = x1) → (0 ≤ x1 ∧ x1 < a 4 6) → a0 58 8 < 300 → (TSUM a0 b0 (a0 0 0) a (a0 58 8).toNat) → 1 ≤ a0 4 6 → jt (jxX E d 165 39 [some (.inr (.inr (.inl 0))), some (.inl y1), none] [] (jxSH, a, b0)) (jQ_X11_ask x1 a0 b0) := by
  intro y1 a hv hf hi0 hi1 hfe hy1 hi4 hi5 hts hi7
  refine jt_eq (bq_X11_ask_39 E d y1 a b0) ?_
  have h732_ := iv_get hv (k := 4) (j := 6) (l := 0) (u := 40) rfl
  have h733_ : a 4 6 = a0 4 6 := hf 4 6 rfl
  have h734_ := iv_get hv0 (k := 4) (j := 6) (l := 0) (u := 40) rfl
  have h735_ := iv_get hv0 (k := 58) (j := 8) (l := 0) (u := 300) rfl
  refine jt_eI (eq_X11_mayAsk E d (jd_le hd rfl) y1 a b0) ?_
  have h736_ := f_X11_mayAsk_bool a b0 y1
  refine jt_ite (fun c737_ => ?_) (fun c737_ => ?_)
  ·
    exact jt_rI ⟨hv, hf, rfl, (show (a0 4 6 = 0 → (-2) = 0 - 1) from by omega), (fun h1 h2 h3 => ⟨a, hfe, hts, Or.inl ⟨by rw [← hy1]; assumption, rfl, cvC_fr hfe rfl⟩⟩), (show (((x1 < 0 ∨ a0 4 6 ≤ x1) ∨ 300 ≤ a0 58 8) → (-2) = 0 - 1) from by omega), (fun h => absurd (by omega : False) id)⟩
  ·
    refine jt_bI (sp_X11_firstReceiver E d (jd_le hd rfl) y1 a b0 hv (WISHR_fr hp0 hf (fun _ => rfl) (fun _ => rfl) (fun _ => rfl) (fun _ => rfl))) (fun r738_ a738_ b738_ h738_ => ?_)
    obtain ⟨rfl, rfl, hq738_0⟩ := h738_
    refine jt_ite (fun c739_ => ?_) (fun c739_ => ?_)
    ·
      exact jt_rI ⟨hv, hf, rfl, (show (a0 4 6 = 0 → (-3) = 0 - 1) from by omega), (fun h1 h2 h3 => by have qf := hq738_0 (by omega) (by omega); rw [hy1, hfe 58 8 rfl, hfe 4 6 rfl] at qf; exact ⟨a, hfe, hts, Or.inr ⟨by rw [← hy1]; assumption, Or.inl ⟨by rw [← qf]; assumption, rfl, cvC_fr hfe rfl⟩⟩⟩), (show (((x1 < 0 ∨ a0 4 6 ≤ x1) ∨ 300 ≤ a0 58 8) → (-3) = 0 - 1) from by omega), (fun h => absurd (by omega : False) id)⟩
    ·
      refine jt_bI (sp_X11_send E d (jd_le hd rfl) y1 r738_ (-1) a b0 hv) (fun r740_ a740_ b740_ h740_ => ?_)
      obtain ⟨hv740_, hf740_, rfl, hq740_0, hq740_1, hq740_2⟩ := h740_
      have h741_ := iv_get hv (k := 58) (j := 8) (l := 0) (u := 300) rfl
      have hf742_ : jfr jW_X11_ask a0 a740_ := jfr_tr hf hf740_ rfl
      exact jt_rI ⟨hv740_, hf742_, rfl, (show (a0 4 6 = 0 → r740_ = 0 - 1) from by omega), (fun h1 h2 h3 => by have qf := hq738_0 (by omega) (by omega); rw [hy1, hfe 58 8 rfl, hfe 4 6 rfl] at qf; have q1 := hq740_0 (by rw [hfe 58 8 rfl]; omega); have e588 := hfe 58 8 rfl; rw [hy1, qf, hfe 0 0 rfl, cvC_fr hfe rfl] at q1; exact ⟨a, hfe, hts, Or.inr ⟨by rw [← hy1]; assumption, Or.inr ⟨by rw [← qf]; assumption, by omega, q1⟩⟩⟩), (show (((x1 < 0 ∨ a0 4 6 ≤ x1) ∨ 300 ≤ a0 58 8) → r740_ = 0 - 1) from by omega), (fun h => absurd (by omega : False) id)⟩
theorem sp_X11_ask (E : jxE) (d : Nat) (hd : Nat.ble 9 d = true) (x1 : Int) (a0 b0 : Nat → Nat → Int) (hv0 : iv a0) (hp0 : WISHR a0) : jt (jxC E d 165 [.inr (.inr (.inl 0)), .inl x1] (jxSH, a0, b0)) (jQ_X11_ask x1 a0 b0) := by
  obtain ⟨d, rfl⟩ := jd_succ hd
  refine jt_eq (bq_X11_ask E d x1 a0 b0) ?_
  refine jt_eI (eq_X3_has E d (jd_le hd rfl) x1 a0 b0) ?_
  have h743_ := f_X3_has_eq a0 b0 x1
  have h744_ := iv_get hv0 (k := 4) (j := 6) (l := 0) (u := 40) rfl
  refine jt_ite (fun c745_ => ?_) (fun c745_ => ?_)
  ·
    have h746_ := iv_get hv0 (k := 58) (j := 8) (l := 0) (u := 300) rfl
    exact jt_rI ⟨hv0, (jfr_rf _ _), rfl, (show (a0 4 6 = 0 → (-1) = 0 - 1) from by omega), (fun h1 h2 h3 => absurd (by omega : False) id), (show (((x1 < 0 ∨ a0 4 6 ≤ x1) ∨ 300 ≤ a0 58 8) → (-1) = 0 - 1) from by omega), (fun _ => rfl)⟩
  ·
    refine jt_eI (eq_X0_hasRoom E d (jd_le hd rfl) 1 a0 b0) ?_
    have h747_ := f_X0_hasRoom_eq a0 b0 1
    have h748_ := iv_get hv0 (k := 58) (j := 8) (l := 0) (u := 300) rfl
    have h749_ : jxw (300 - (a0 58 8)) = 300 - (a0 58 8) := jxw_id (by omega) (by omega)
    refine jt_ite (fun c750_ => ?_) (fun c750_ => ?_)
    ·
      exact jt_rI ⟨hv0, (jfr_rf _ _), rfl, (show (a0 4 6 = 0 → (-1) = 0 - 1) from by omega), (fun h1 h2 h3 => absurd (by omega : False) id), (show (((x1 < 0 ∨ a0 4 6 ≤ x1) ∨ 300 ≤ a0 58 8) → (-1) = 0 - 1) from by omega), (fun _ => rfl)⟩
    ·
      refine jt_bV (sp_X7_take_r58 E d (jd_le hd rfl) (a0 0 0) a0 b0 hv0) (fun a751_ b751_ h751_ => ?_)
      obtain ⟨hv751_, hf751_, rfl, hq751_0⟩ := h751_
      have hf752_ : jfr jW_X11_ask a0 a751_ := jfr_tr (jfr_rf _ _) hf751_ rfl
      have hf753_ : jfr jWtk a0 a751_ := jfr_tr (jfr_rf _ _) hf751_ rfl
      have h754_ := iv_get hv751_ (k := 4) (j := 6) (l := 0) (u := 40) rfl
      have h755_ : a751_ 4 6 = a0 4 6 := hf751_ 4 6 rfl
      exact cp_X11_ask_39 E d hd x1 a0 b0 hv0 hp0 x1 a751_ hv751_ hf752_ (show 0 ≤ x1 from by omega) (show x1 ≤ 39 from by omega) hf753_ (by first | rfl | assumption) (show (0 ≤ x1 ∧ x1 < a751_ 4 6) from by omega) (show a0 58 8 < 300 from by omega) hq751_0 (show 1 ≤ a0 4 6 from by omega)
def jW_X4_takeAway : List (Nat × Nat) := [(87, 9999), (88, 9999), (89, 9999)]
abbrev jQ_X4_takeAway (x1 : Int) (a0 b0 : Nat → Nat → Int) : List jxV → (Nat → Nat → Int) → (Nat → Nat → Int) → Prop := rV (fun a b => (iv a) ∧ (jfr jW_X4_takeAway a0 a) ∧ (b0 = b))
theorem cp_X4_takeAway_22 (E : jxE) (d : Nat) (hd : Nat.ble 2 (d + 1) = true) (x1 : Int) (a0 b0 : Nat → Nat → Int) (hv0 : iv a0) : ∀ (y1 : Int) (a : Nat → Nat → Int), iv a → jfr jW_X4_takeAway a0 a → 0 ≤ y1 → y1 ≤ 19 → jt (jxX E d 69 22 [some (.inr (.inr (.inl 83))), some (.inl y1)] [] (jxSH, a, b0)) (jQ_X4_takeAway x1 a0 b0) := by
  intro y1 a hv hf hi0 hi1
  refine jt_eq (bq_X4_takeAway_22 E d y1 a b0) ?_
  refine jt_grd (by omega) ?_
  have hv756_ : iv (jxu a 89 (y1.toNat) (-1)) := iv_putf hv rfl
  have hf757_ : jfr jW_X4_takeAway a0 (jxu a 89 (y1.toNat) (-1)) := jfr_put hf rfl
  exact jt_rV ⟨hv756_, hf757_, rfl⟩
theorem sp_X4_takeAway (E : jxE) (d : Nat) (hd : Nat.ble 2 d = true) (x1 : Int) (a0 b0 : Nat → Nat → Int) (hv0 : iv a0) : jt (jxC E d 69 [.inr (.inr (.inl 83)), .inl x1] (jxSH, a0, b0)) (jQ_X4_takeAway x1 a0 b0) := by
  obtain ⟨d, rfl⟩ := jd_succ hd
  refine jt_eq (bq_X4_takeAway E d x1 a0 b0) ?_
  refine jt_eI (eq_X4_has E d (jd_le hd rfl) x1 a0 b0) ?_
  have h758_ := f_X4_has_eq a0 b0 x1
  have h759_ := iv_get hv0 (k := 83) (j := 6) (l := 0) (u := 20) rfl
  refine jt_ite (fun c760_ => ?_) (fun c760_ => ?_)
  ·
    exact jt_rV ⟨hv0, (jfr_rf _ _), rfl⟩
  ·
    refine jt_grd (by omega) ?_
    refine jt_grd (by omega) ?_
    have hv761_ : iv (jxu a0 87 (x1.toNat) 2) := iv_putf hv0 rfl
    have hv762_ : iv (jxu (jxu a0 87 (x1.toNat) 2) 88 (x1.toNat) (-1)) := iv_putf hv761_ rfl
    have hf763_ : jfr jW_X4_takeAway a0 (jxu a0 87 (x1.toNat) 2) := jfr_put (jfr_rf _ _) rfl
    have hf764_ : jfr jW_X4_takeAway a0 (jxu (jxu a0 87 (x1.toNat) 2) 88 (x1.toNat) (-1)) := jfr_put hf763_ rfl
    exact cp_X4_takeAway_22 E d hd x1 a0 b0 hv0 x1 (jxu (jxu a0 87 (x1.toNat) 2) 88 (x1.toNat) (-1)) hv762_ hf764_ (show 0 ≤ x1 from by omega) (show x1 ≤ 19 from by omega)
def jW_X11_away : List (Nat × Nat) := [(87, 9999), (88, 9999), (89, 9999)]
abbrev jQ_X11_away (x1 : Int) (a0 b0 : Nat → Nat → Int) : List jxV → (Nat → Nat → Int) → (Nat → Nat → Int) → Prop := rI (fun r a b => (iv a) ∧ (jfr jW_X11_away a0 a) ∧ (b0 = b) ∧ ((0 ≤ r ∧ r ≤ 1)) ∧ ((a0 83 6 = 0 → r = 0)))
theorem sp_X11_away (E : jxE) (d : Nat) (hd : Nat.ble 3 d = true) (x1 : Int) (a0 b0 : Nat → Nat → Int) (hv0 : iv a0) : jt (jxC E d 185 [.inr (.inr (.inl 0)), .inl x1] (jxSH, a0, b0)) (jQ_X11_away x1 a0 b0) := by
  obtain ⟨d, rfl⟩ := jd_succ hd
  refine jt_eq (bq_X11_away E d x1 a0 b0) ?_
  refine jt_eI (eq_X4_isOpen E d (jd_le hd rfl) x1 a0 b0) ?_
  have h765_ := f_X4_isOpen_eq a0 b0 x1
  have h766_ := f_X4_has_eq a0 b0 x1
  have h767_ := iv_get hv0 (k := 83) (j := 6) (l := 0) (u := 20) rfl
  refine jt_ite (fun c768_ => ?_) (fun c768_ => ?_)
  ·
    exact jt_rI ⟨hv0, (jfr_rf _ _), rfl, (show (0 ≤ 0 ∧ 0 ≤ 1) from by omega), (show (a0 83 6 = 0 → 0 = 0) from by omega)⟩
  ·
    refine jt_bV (sp_X4_takeAway E d (jd_le hd rfl) x1 a0 b0 hv0) (fun a769_ b769_ h769_ => ?_)
    obtain ⟨hv769_, hf769_, rfl⟩ := h769_
    have hf770_ : jfr jW_X11_away a0 a769_ := jfr_tr (jfr_rf _ _) hf769_ rfl
    exact jt_rI ⟨hv769_, hf770_, rfl, (show (0 ≤ 1 ∧ 1 ≤ 1) from by omega), (show (a0 83 6 = 0 → 1 = 0) from by omega)⟩
def jW_X11_back : List (Nat × Nat) := [(58, 12), (65, 9999), (66, 9999), (67, 9999), (68, 9999)]
abbrev jQ_X11_back (x1 : Int) (a0 b0 : Nat → Nat → Int) : List jxV → (Nat → Nat → Int) → (Nat → Nat → Int) → Prop := rI (fun r a b => (iv a) ∧ (jfr jW_X11_back a0 a) ∧ (b0 = b) ∧ ((0 ≤ r ∧ r ≤ 1)) ∧ ((a0 58 8 = 0 → r = 0)) ∧ (r = 1 → 0 ≤ x1 ∧ x1 < a0 58 8 ∧ a0 64 x1.toNat = -1 ∧ a0 58 12 < 600 ∧ ¬ (f_X0_arrivedOnOf a0 b0 x1) = -1) ∧ (r = 0 → ¬ (0 ≤ x1 ∧ x1 < a0 58 8 ∧ a0 64 x1.toNat = -1 ∧ a0 58 12 < 600 ∧ ¬ (f_X0_arrivedOnOf a0 b0 x1) = -1)) ∧ (r = 1 → cvC a = vTell (cvC a0) x1 (-1) (a0 0 0)) ∧ (r = 0 → cvC a = cvC a0))
theorem sp_X11_back (E : jxE) (d : Nat) (hd : Nat.ble 4 d = true) (x1 : Int) (a0 b0 : Nat → Nat → Int) (hv0 : iv a0) : jt (jxC E d 178 [.inr (.inr (.inl 0)), .inl x1] (jxSH, a0, b0)) (jQ_X11_back x1 a0 b0) := by
  obtain ⟨d, rfl⟩ := jd_succ hd
  refine jt_eq (bq_X11_back E d x1 a0 b0) ?_
  refine jt_bI (sp_X0_takeBack E d (jd_le hd rfl) x1 (a0 0 0) a0 b0 hv0) (fun r771_ a771_ b771_ h771_ => ?_)
  obtain ⟨hv771_, hf771_, rfl, hq771_0, hq771_1, hq771_2, hq771_3, hq771_4, hq771_5⟩ := h771_
  have h772_ := iv_get hv0 (k := 58) (j := 8) (l := 0) (u := 300) rfl
  refine jt_grd (by omega) ?_
  have hf773_ : jfr jW_X11_back a0 a771_ := jfr_tr (jfr_rf _ _) hf771_ rfl
  exact jt_rI ⟨hv771_, hf773_, rfl, (show (0 ≤ r771_ ∧ r771_ ≤ 1) from by omega), (show (a0 58 8 = 0 → r771_ = 0) from by omega), hq771_2, hq771_3, hq771_4, hq771_5⟩
def jW_X3_addCredit : List (Nat × Nat) := [(9, 9999)]
abbrev jQ_X3_addCredit (x1 : Int) (a0 b0 : Nat → Nat → Int) : List jxV → (Nat → Nat → Int) → (Nat → Nat → Int) → Prop := rV (fun a b => (iv a) ∧ (jfr jW_X3_addCredit a0 a) ∧ (b0 = b))
theorem sp_X3_addCredit (E : jxE) (d : Nat) (hd : Nat.ble 2 d = true) (x1 : Int) (a0 b0 : Nat → Nat → Int) (hv0 : iv a0) : jt (jxC E d 56 [.inr (.inr (.inl 4)), .inl x1] (jxSH, a0, b0)) (jQ_X3_addCredit x1 a0 b0) := by
  obtain ⟨d, rfl⟩ := jd_succ hd
  refine jt_eq (bq_X3_addCredit E d x1 a0 b0) ?_
  refine jt_eI (eq_X3_has E d (jd_le hd rfl) x1 a0 b0) ?_
  have h774_ := f_X3_has_eq a0 b0 x1
  have h775_ := iv_get hv0 (k := 4) (j := 6) (l := 0) (u := 40) rfl
  refine jt_ite (fun c776_ => ?_) (fun c776_ => ?_)
  ·
    exact jt_rV ⟨hv0, (jfr_rf _ _), rfl⟩
  ·
    refine jt_grd (by omega) ?_
    refine jt_grd (by omega) ?_
    have hv777_ : iv (jxu a0 9 (x1.toNat) (jxw ((a0 9 (x1.toNat)) + 1))) := iv_putf hv0 rfl
    have hf778_ : jfr jW_X3_addCredit a0 (jxu a0 9 (x1.toNat) (jxw ((a0 9 (x1.toNat)) + 1))) := jfr_put (jfr_rf _ _) rfl
    exact jt_rV ⟨hv777_, hf778_, rfl⟩
def jW_X11_cancelCardsTo : List (Nat × Nat) := [(9, 9999), (64, 9999)]
abbrev jQ_X11_cancelCardsTo (x1 : Int) (a0 b0 : Nat → Nat → Int) : List jxV → (Nat → Nat → Int) → (Nat → Nat → Int) → Prop := rI (fun r a b => (iv a) ∧ (jfr jW_X11_cancelCardsTo a0 a) ∧ (b0 = b))
theorem cp_X11_cancelCardsTo_4 (E : jxE) (d : Nat) (hd : Nat.ble 4 (d + 1) = true) (x1 : Int) (a0 b0 : Nat → Nat → Int) (hv0 : iv a0) : ∀ n : Nat, (∀ (y1 y2 y3 : Int) (a : Nat → Nat → Int), (((300 - y3) * 1) + 0).toNat ≤ n → iv a → jfr jW_X11_cancelCardsTo a0 a → 0 ≤ y3 → y3 ≤ 299 → jt (jxX E d 158 72 [some (.inr (.inr (.inl 0))), some (.inl y1), some (.inl y2), some (.inl y3)] [] (jxSH, a, b0)) (jQ_X11_cancelCardsTo x1 a0 b0)) ∧ (∀ (y1 y2 y3 : Int) (a : Nat → Nat → Int), (((300 - y3) * 1) + 0).toNat ≤ n → iv a → jfr jW_X11_cancelCardsTo a0 a → 0 ≤ y3 → y3 ≤ 299 → jt (jxX E d 158 42 [some (.inr (.inr (.inl 0))), some (.inl y1), some (.inl y2), some (.inl y3)] [] (jxSH, a, b0)) (jQ_X11_cancelCardsTo x1 a0 b0)) ∧ (∀ (y1 y2 y3 : Int) (a : Nat → Nat → Int), (((300 - y3) * 1) + 0).toNat ≤ n → iv a → jfr jW_X11_cancelCardsTo a0 a → 0 ≤ y3 → y3 ≤ 300 → jt (jxX E d 158 4 [some (.inr (.inr (.inl 0))), some (.inl y1), some (.inl y2), some (.inl y3)] [] (jxSH, a, b0)) (jQ_X11_cancelCardsTo x1 a0 b0)) := by
  refine jx_ind fun n ih => ?_
  have ih72 : ∀ (y1 y2 y3 : Int) (a : Nat → Nat → Int), (((300 - y3) * 1) + 0).toNat < n → iv a → jfr jW_X11_cancelCardsTo a0 a → 0 ≤ y3 → y3 ≤ 299 → jt (jxX E d 158 72 [some (.inr (.inr (.inl 0))), some (.inl y1), some (.inl y2), some (.inl y3)] [] (jxSH, a, b0)) (jQ_X11_cancelCardsTo x1 a0 b0) := fun y1 y2 y3 a hlt i0 i1 i2 i3 => (ih _ hlt).1 y1 y2 y3 a (Nat.le_refl _) i0 i1 i2 i3
  have ih42 : ∀ (y1 y2 y3 : Int) (a : Nat → Nat → Int), (((300 - y3) * 1) + 0).toNat < n → iv a → jfr jW_X11_cancelCardsTo a0 a → 0 ≤ y3 → y3 ≤ 299 → jt (jxX E d 158 42 [some (.inr (.inr (.inl 0))), some (.inl y1), some (.inl y2), some (.inl y3)] [] (jxSH, a, b0)) (jQ_X11_cancelCardsTo x1 a0 b0) := fun y1 y2 y3 a hlt i0 i1 i2 i3 => (ih _ hlt).2.1 y1 y2 y3 a (Nat.le_refl _) i0 i1 i2 i3
  have ih4 : ∀ (y1 y2 y3 : Int) (a : Nat → Nat → Int), (((300 - y3) * 1) + 0).toNat < n → iv a → jfr jW_X11_cancelCardsTo a0 a → 0 ≤ y3 → y3 ≤ 300 → jt (jxX E d 158 4 [some (.inr (.inr (.inl 0))), some (.inl y1), some (.inl y2), some (.inl y3)] [] (jxSH, a, b0)) (jQ_X11_cancelCardsTo x1 a0 b0) := fun y1 y2 y3 a hlt i0 i1 i2 i3 => (ih _ hlt).2.2 y1 y2 y3 a (Nat.le_refl _) i0 i1 i2 i3
  have hc72 : ∀ (y1 y2 y3 : Int) (a : Nat → Nat → Int), (((300 - y3) * 1) + 0).toNat ≤ n → iv a → jfr jW_X11_cancelCardsTo a0 a → 0 ≤ y3 → y3 ≤ 299 → jt (jxX E d 158 72 [some (.inr (.inr (.inl 0))), some (.inl y1), some (.inl y2), some (.inl y3)] [] (jxSH, a, b0)) (jQ_X11_cancelCardsTo x1 a0 b0) := by
    intro y1 y2 y3 a hm hv hf hi0 hi1
    refine jt_eq (bq_X11_cancelCardsTo_72 E d y1 y2 y3 a b0) ?_
    have h779_ : jxw (y3 + 1) = y3 + 1 := jxw_id (by omega) (by omega)
    exact ih4 y1 y2 (jxw (y3 + 1)) a (show (((300 - (jxw (y3 + 1))) * 1) + 0).toNat < n from by omega) hv hf (show 0 ≤ jxw (y3 + 1) from by omega) (show jxw (y3 + 1) ≤ 300 from by omega)
  have hc42 : ∀ (y1 y2 y3 : Int) (a : Nat → Nat → Int), (((300 - y3) * 1) + 0).toNat ≤ n → iv a → jfr jW_X11_cancelCardsTo a0 a → 0 ≤ y3 → y3 ≤ 299 → jt (jxX E d 158 42 [some (.inr (.inr (.inl 0))), some (.inl y1), some (.inl y2), some (.inl y3)] [] (jxSH, a, b0)) (jQ_X11_cancelCardsTo x1 a0 b0) := by
    intro y1 y2 y3 a hm hv hf hi0 hi1
    refine jt_eq (bq_X11_cancelCardsTo_42 E d y1 y2 y3 a b0) ?_
    refine jt_bV (sp_X0_cancel E d (jd_le hd rfl) y3 (a 0 0) a b0 hv) (fun a780_ b780_ h780_ => ?_)
    obtain ⟨hv780_, hf780_, rfl, hq780_0⟩ := h780_
    refine jt_eI (eq_X0_fromOf E d (jd_le hd rfl) y3 a780_ b0) ?_
    refine jt_bV (sp_X3_addCredit E d (jd_le hd rfl) (f_X0_fromOf a780_ b0 y3) a780_ b0 hv780_) (fun a781_ b781_ h781_ => ?_)
    obtain ⟨hv781_, hf781_, rfl⟩ := h781_
    have hf782_ : jfr jW_X11_cancelCardsTo a0 a780_ := jfr_tr hf hf780_ rfl
    have hf783_ : jfr jW_X11_cancelCardsTo a0 a781_ := jfr_tr hf782_ hf781_ rfl
    exact hc72 y1 (jxw (y2 + 1)) y3 a781_ (show (((300 - y3) * 1) + 0).toNat ≤ n from by omega) hv781_ hf783_ (show 0 ≤ y3 from by omega) (show y3 ≤ 299 from by omega)
  have hc4 : ∀ (y1 y2 y3 : Int) (a : Nat → Nat → Int), (((300 - y3) * 1) + 0).toNat ≤ n → iv a → jfr jW_X11_cancelCardsTo a0 a → 0 ≤ y3 → y3 ≤ 300 → jt (jxX E d 158 4 [some (.inr (.inr (.inl 0))), some (.inl y1), some (.inl y2), some (.inl y3)] [] (jxSH, a, b0)) (jQ_X11_cancelCardsTo x1 a0 b0) := by
    intro y1 y2 y3 a hm hv hf hi0 hi1
    refine jt_eq (bq_X11_cancelCardsTo_4 E d y1 y2 y3 a b0) ?_
    refine jt_eI (eq_X0_size E d (jd_le hd rfl) a b0) ?_
    have h784_ := f_X0_size_eq a b0
    have h785_ := iv_get hv (k := 58) (j := 8) (l := 0) (u := 300) rfl
    have h786_ : a 58 8 = a0 58 8 := hf 58 8 rfl
    have h787_ := iv_get hv0 (k := 58) (j := 8) (l := 0) (u := 300) rfl
    refine jt_ite (fun c788_ => ?_) (fun c788_ => ?_)
    ·
      refine jt_eI (eq_X0_toOf E d (jd_le hd rfl) y3 a b0) ?_
      have h789_ := f_X0_toOf_eq a b0 y3
      have h790_ := f_X11_entry_r60_eq a b0 (a 58 8) y3
      have h791_ : a 60 (y3.toNat) = a0 60 (y3.toNat) := hf 60 (y3.toNat) rfl
      refine jt_ite (fun c792_ => ?_) (fun c792_ => ?_)
      ·
        refine jt_eI (eq_X0_stateNow E d (jd_le hd rfl) y3 (a 0 0) a b0) ?_
        have h793_ := iv_get hv (k := 0) (j := 0) (l := 0) (u := 1999) rfl
        have h794_ : a 0 0 = a0 0 0 := hf 0 0 rfl
        have h795_ := iv_get hv0 (k := 0) (j := 0) (l := 0) (u := 1999) rfl
        have h796_ := f_X0_stateNow_eq a b0 y3 (a 0 0)
        have h797_ := f_X0_arrivedOnOf_eq a b0 y3
        have h798_ := iv_get hv (k := 58) (j := 12) (l := 0) (u := 600) rfl
        have h799_ : a 58 12 = a0 58 12 := hf 58 12 rfl
        have h800_ := iv_get hv0 (k := 58) (j := 12) (l := 0) (u := 600) rfl
        have h801_ := f_X11_entry_r65_eq a b0 (a 58 8) y3
        have h802_ : a 65 (y3.toNat) = a0 65 (y3.toNat) := hf 65 (y3.toNat) rfl
        have h803_ := f_X11_entry_r67_eq a b0 (a 58 12) (f_X11_entry_r65 a b0 (a 58 8) y3)
        have h804_ : a 67 ((f_X11_entry_r65 a b0 (a 58 8) y3).toNat) = a0 67 ((f_X11_entry_r65 a b0 (a 58 8) y3).toNat) := hf 67 ((f_X11_entry_r65 a b0 (a 58 8) y3).toNat) rfl
        refine jt_ite (fun c805_ => ?_) (fun c805_ => ?_)
        ·
          exact hc42 y1 y2 y3 a (show (((300 - y3) * 1) + 0).toNat ≤ n from by omega) hv hf (show 0 ≤ y3 from by omega) (show y3 ≤ 299 from by omega)
        ·
          exact hc72 y1 y2 y3 a (show (((300 - y3) * 1) + 0).toNat ≤ n from by omega) hv hf (show 0 ≤ y3 from by omega) (show y3 ≤ 299 from by omega)
      ·
        exact hc72 y1 y2 y3 a (show (((300 - y3) * 1) + 0).toNat ≤ n from by omega) hv hf (show 0 ≤ y3 from by omega) (show y3 ≤ 299 from by omega)
    ·
      exact jt_rI ⟨hv, hf, rfl⟩
  exact ⟨hc72, hc42, hc4⟩
theorem sp_X11_cancelCardsTo (E : jxE) (d : Nat) (hd : Nat.ble 4 d = true) (x1 : Int) (a0 b0 : Nat → Nat → Int) (hv0 : iv a0) : jt (jxC E d 158 [.inr (.inr (.inl 0)), .inl x1] (jxSH, a0, b0)) (jQ_X11_cancelCardsTo x1 a0 b0) := by
  obtain ⟨d, rfl⟩ := jd_succ hd
  refine jt_eq (bq_X11_cancelCardsTo E d x1 a0 b0) ?_
  exact (cp_X11_cancelCardsTo_4 E d hd x1 a0 b0 hv0 _).2.2 x1 0 0 a0 (Nat.le_refl _) hv0 (jfr_rf _ _) (show 0 ≤ 0 from by omega) (show 0 ≤ 300 from by omega)
def jW_X11_clock : List (Nat × Nat) := [(0, 0)]
abbrev jQ_X11_clock (x1 : Int) (a0 b0 : Nat → Nat → Int) : List jxV → (Nat → Nat → Int) → (Nat → Nat → Int) → Prop := rI (fun r a b => (iv a) ∧ (jfr jW_X11_clock a0 a) ∧ (b0 = b) ∧ ((0 ≤ r ∧ r ≤ 1)) ∧ (((((r = 1 ∧ a0 0 0 ≤ x1) ∧ x1 ≤ 1999) ∧ a 0 0 = x1) ∨ ((r = 0 ∧ (x1 < a0 0 0 ∨ 1999 < x1)) ∧ a 0 0 = a0 0 0))))
theorem sp_X11_clock (E : jxE) (d : Nat) (hd : Nat.ble 3 d = true) (x1 : Int) (a0 b0 : Nat → Nat → Int) (hv0 : iv a0) : jt (jxC E d 154 [.inr (.inr (.inl 0)), .inl x1] (jxSH, a0, b0)) (jQ_X11_clock x1 a0 b0) := by
  obtain ⟨d, rfl⟩ := jd_succ hd
  refine jt_eq (bq_X11_clock E d x1 a0 b0) ?_
  refine jt_eI (eq_X11_isDay E d (jd_le hd rfl) x1 a0 b0) ?_
  have h806_ := f_X11_isDay_eq a0 b0 x1
  have h807_ := f_X11_within_eq a0 b0 x1 0 1999
  refine jt_ite (fun c808_ => ?_) (fun c808_ => ?_)
  ·
    have h809_ := iv_get hv0 (k := 0) (j := 0) (l := 0) (u := 1999) rfl
    exact jt_rI ⟨hv0, (jfr_rf _ _), rfl, (show (0 ≤ 0 ∧ 0 ≤ 1) from by omega), (show ((((0 = 1 ∧ a0 0 0 ≤ x1) ∧ x1 ≤ 1999) ∧ a0 0 0 = x1) ∨ ((0 = 0 ∧ (x1 < a0 0 0 ∨ 1999 < x1)) ∧ a0 0 0 = a0 0 0)) from by omega)⟩
  ·
    have h810_ := iv_get hv0 (k := 0) (j := 0) (l := 0) (u := 1999) rfl
    refine jt_ite (fun c811_ => ?_) (fun c811_ => ?_)
    ·
      exact jt_rI ⟨hv0, (jfr_rf _ _), rfl, (show (0 ≤ 0 ∧ 0 ≤ 1) from by omega), (show ((((0 = 1 ∧ a0 0 0 ≤ x1) ∧ x1 ≤ 1999) ∧ a0 0 0 = x1) ∨ ((0 = 0 ∧ (x1 < a0 0 0 ∨ 1999 < x1)) ∧ a0 0 0 = a0 0 0)) from by omega)⟩
    ·
      have hv812_ : iv (jxu a0 0 0 x1) := iv_put hv0 (l := 0) (u := 1999) rfl (by omega) (by omega)
      have hf813_ : jfr jW_X11_clock a0 (jxu a0 0 0 x1) := jfr_put (jfr_rf _ _) rfl
      exact jt_rI ⟨hv812_, hf813_, rfl, (show (0 ≤ 1 ∧ 1 ≤ 1) from by omega), (show ((((1 = 1 ∧ a0 0 0 ≤ x1) ∧ x1 ≤ 1999) ∧ x1 = x1) ∨ ((1 = 0 ∧ (x1 < a0 0 0 ∨ 1999 < x1)) ∧ x1 = a0 0 0)) from by omega)⟩
def jW_X4_addRing : List (Nat × Nat) := [(83, 7)]
abbrev jQ_X4_addRing (a0 b0 : Nat → Nat → Int) : List jxV → (Nat → Nat → Int) → (Nat → Nat → Int) → Prop := rI (fun r a b => (iv a) ∧ (jfr jW_X4_addRing a0 a) ∧ (b0 = b))
theorem sp_X4_addRing (E : jxE) (d : Nat) (hd : Nat.ble 1 d = true) (a0 b0 : Nat → Nat → Int) (hv0 : iv a0) : jt (jxC E d 67 [.inr (.inr (.inl 83))] (jxSH, a0, b0)) (jQ_X4_addRing a0 b0) := by
  obtain ⟨d, rfl⟩ := jd_succ hd
  refine jt_eq (bq_X4_addRing E d a0 b0) ?_
  have hv814_ : iv (jxu a0 83 7 (jxw ((a0 83 7) + 1))) := iv_putf hv0 rfl
  have hf815_ : jfr jW_X4_addRing a0 (jxu a0 83 7 (jxw ((a0 83 7) + 1))) := jfr_put (jfr_rf _ _) rfl
  exact jt_rI ⟨hv814_, hf815_, rfl⟩
def jW_X4_joinRing : List (Nat × Nat) := [(87, 9999), (88, 9999), (89, 9999)]
abbrev jQ_X4_joinRing (x1 x2 x3 : Int) (a0 b0 : Nat → Nat → Int) : List jxV → (Nat → Nat → Int) → (Nat → Nat → Int) → Prop := rV (fun a b => (iv a) ∧ (jfr jW_X4_joinRing a0 a) ∧ (b0 = b))
theorem cp_X4_joinRing_22 (E : jxE) (d : Nat) (hd : Nat.ble 2 (d + 1) = true) (x1 x2 x3 : Int) (a0 b0 : Nat → Nat → Int) (hv0 : iv a0) : ∀ (y1 y3 : Int) (a : Nat → Nat → Int), iv a → jfr jW_X4_joinRing a0 a → 0 ≤ y1 → y1 ≤ 19 → jt (jxX E d 68 22 [some (.inr (.inr (.inl 83))), some (.inl y1), none, some (.inl y3)] [] (jxSH, a, b0)) (jQ_X4_joinRing x1 x2 x3 a0 b0) := by
  intro y1 y3 a hv hf hi0 hi1
  refine jt_eq (bq_X4_joinRing_22 E d y1 y3 a b0) ?_
  refine jt_grd (by omega) ?_
  have hv816_ : iv (jxu a 89 (y1.toNat) y3) := iv_putf hv rfl
  have hf817_ : jfr jW_X4_joinRing a0 (jxu a 89 (y1.toNat) y3) := jfr_put hf rfl
  exact jt_rV ⟨hv816_, hf817_, rfl⟩
theorem sp_X4_joinRing (E : jxE) (d : Nat) (hd : Nat.ble 2 d = true) (x1 x2 x3 : Int) (a0 b0 : Nat → Nat → Int) (hv0 : iv a0) : jt (jxC E d 68 [.inr (.inr (.inl 83)), .inl x1, .inl x2, .inl x3] (jxSH, a0, b0)) (jQ_X4_joinRing x1 x2 x3 a0 b0) := by
  obtain ⟨d, rfl⟩ := jd_succ hd
  refine jt_eq (bq_X4_joinRing E d x1 x2 x3 a0 b0) ?_
  refine jt_eI (eq_X4_has E d (jd_le hd rfl) x1 a0 b0) ?_
  have h818_ := f_X4_has_eq a0 b0 x1
  have h819_ := iv_get hv0 (k := 83) (j := 6) (l := 0) (u := 20) rfl
  refine jt_ite (fun c820_ => ?_) (fun c820_ => ?_)
  ·
    exact jt_rV ⟨hv0, (jfr_rf _ _), rfl⟩
  ·
    refine jt_grd (by omega) ?_
    refine jt_grd (by omega) ?_
    have hv821_ : iv (jxu a0 87 (x1.toNat) 1) := iv_putf hv0 rfl
    have hv822_ : iv (jxu (jxu a0 87 (x1.toNat) 1) 88 (x1.toNat) x2) := iv_putf hv821_ rfl
    have hf823_ : jfr jW_X4_joinRing a0 (jxu a0 87 (x1.toNat) 1) := jfr_put (jfr_rf _ _) rfl
    have hf824_ : jfr jW_X4_joinRing a0 (jxu (jxu a0 87 (x1.toNat) 1) 88 (x1.toNat) x2) := jfr_put hf823_ rfl
    exact cp_X4_joinRing_22 E d hd x1 x2 x3 a0 b0 hv0 x1 x3 (jxu (jxu a0 87 (x1.toNat) 1) 88 (x1.toNat) x2) hv822_ hf824_ (show 0 ≤ x1 from by omega) (show x1 ≤ 19 from by omega)
def jW_X11_close : List (Nat × Nat) := [(58, 8), (58, 13), (58, 14), (58, 15), (59, 9999), (60, 9999), (61, 9999), (62, 9999), (63, 9999), (64, 9999), (65, 9999), (83, 7), (87, 9999), (88, 9999), (89, 9999)]
abbrev jQ_X11_close (x1 : Int) (a0 b0 : Nat → Nat → Int) : List jxV → (Nat → Nat → Int) → (Nat → Nat → Int) → Prop := rI (fun r a b => (iv a) ∧ (jfr jW_X11_close a0 a) ∧ (b0 = b) ∧ ((a0 90 12 = 0 → r = 0 - 1)))
theorem cp_X11_close_71 (E : jxE) (d : Nat) (hd : Nat.ble 6 (d + 1) = true) (x1 : Int) (a0 b0 : Nat → Nat → Int) (hv0 : iv a0) : ∀ n : Nat, (∀ (y1 y2 y3 y4 y5 y7 : Int) (a : Nat → Nat → Int), (((5 - y4) * 1) + 0).toNat ≤ n → iv a → jfr jW_X11_close a0 a → 0 ≤ y1 → y1 ≤ 5 → 1 ≤ y2 → y2 ≤ 5 → 0 ≤ y4 → y4 ≤ 4 → 1 ≤ a0 90 12 → jt (jxX E d 188 140 [some (.inr (.inr (.inl 0))), some (.inl y1), some (.inl y2), some (.inl y3), some (.inl y4), some (.inl y5), none, some (.inl y7)] [] (jxSH, a, b0)) (jQ_X11_close x1 a0 b0)) ∧ (∀ (y1 y2 y3 y4 y5 s1 s2 : Int) (a : Nat → Nat → Int), (((5 - y4) * 1) + 0).toNat ≤ n → iv a → jfr jW_X11_close a0 a → 0 ≤ y1 → y1 ≤ 5 → 1 ≤ y2 → y2 ≤ 5 → 0 ≤ y4 → y4 ≤ 4 → 0 ≤ s1 → s1 ≤ 5 → 0 ≤ s2 → s2 ≤ 4 → 1 ≤ a0 90 12 → jt (jxX E d 188 110 [some (.inr (.inr (.inl 0))), some (.inl y1), some (.inl y2), some (.inl y3), some (.inl y4), some (.inl y5), none, none] [.inl s2, .inl s1, .inr (.inr (.inl 90))] (jxSH, a, b0)) (jQ_X11_close x1 a0 b0)) ∧ (∀ (y1 y2 y3 y4 : Int) (a : Nat → Nat → Int), (((5 - y4) * 1) + 0).toNat ≤ n → iv a → jfr jW_X11_close a0 a → 0 ≤ y1 → y1 ≤ 5 → 0 ≤ y2 → y2 ≤ 5 → 0 ≤ y4 → y4 ≤ 5 → 1 ≤ a0 90 12 → jt (jxX E d 188 71 [some (.inr (.inr (.inl 0))), some (.inl y1), some (.inl y2), some (.inl y3), some (.inl y4), none, none, none] [] (jxSH, a, b0)) (jQ_X11_close x1 a0 b0)) := by
  refine jx_ind fun n ih => ?_
  have ih140 : ∀ (y1 y2 y3 y4 y5 y7 : Int) (a : Nat → Nat → Int), (((5 - y4) * 1) + 0).toNat < n → iv a → jfr jW_X11_close a0 a → 0 ≤ y1 → y1 ≤ 5 → 1 ≤ y2 → y2 ≤ 5 → 0 ≤ y4 → y4 ≤ 4 → 1 ≤ a0 90 12 → jt (jxX E d 188 140 [some (.inr (.inr (.inl 0))), some (.inl y1), some (.inl y2), some (.inl y3), some (.inl y4), some (.inl y5), none, some (.inl y7)] [] (jxSH, a, b0)) (jQ_X11_close x1 a0 b0) := fun y1 y2 y3 y4 y5 y7 a hlt i0 i1 i2 i3 i4 i5 i6 i7 i8 => (ih _ hlt).1 y1 y2 y3 y4 y5 y7 a (Nat.le_refl _) i0 i1 i2 i3 i4 i5 i6 i7 i8
  have ih110 : ∀ (y1 y2 y3 y4 y5 s1 s2 : Int) (a : Nat → Nat → Int), (((5 - y4) * 1) + 0).toNat < n → iv a → jfr jW_X11_close a0 a → 0 ≤ y1 → y1 ≤ 5 → 1 ≤ y2 → y2 ≤ 5 → 0 ≤ y4 → y4 ≤ 4 → 0 ≤ s1 → s1 ≤ 5 → 0 ≤ s2 → s2 ≤ 4 → 1 ≤ a0 90 12 → jt (jxX E d 188 110 [some (.inr (.inr (.inl 0))), some (.inl y1), some (.inl y2), some (.inl y3), some (.inl y4), some (.inl y5), none, none] [.inl s2, .inl s1, .inr (.inr (.inl 90))] (jxSH, a, b0)) (jQ_X11_close x1 a0 b0) := fun y1 y2 y3 y4 y5 s1 s2 a hlt i0 i1 i2 i3 i4 i5 i6 i7 i8 i9 i10 i11 i12 => (ih _ hlt).2.1 y1 y2 y3 y4 y5 s1 s2 a (Nat.le_refl _) i0 i1 i2 i3 i4 i5 i6 i7 i8 i9 i10 i11 i12
  have ih71 : ∀ (y1 y2 y3 y4 : Int) (a : Nat → Nat → Int), (((5 - y4) * 1) + 0).toNat < n → iv a → jfr jW_X11_close a0 a → 0 ≤ y1 → y1 ≤ 5 → 0 ≤ y2 → y2 ≤ 5 → 0 ≤ y4 → y4 ≤ 5 → 1 ≤ a0 90 12 → jt (jxX E d 188 71 [some (.inr (.inr (.inl 0))), some (.inl y1), some (.inl y2), some (.inl y3), some (.inl y4), none, none, none] [] (jxSH, a, b0)) (jQ_X11_close x1 a0 b0) := fun y1 y2 y3 y4 a hlt i0 i1 i2 i3 i4 i5 i6 i7 i8 => (ih _ hlt).2.2 y1 y2 y3 y4 a (Nat.le_refl _) i0 i1 i2 i3 i4 i5 i6 i7 i8
  have hc140 : ∀ (y1 y2 y3 y4 y5 y7 : Int) (a : Nat → Nat → Int), (((5 - y4) * 1) + 0).toNat ≤ n → iv a → jfr jW_X11_close a0 a → 0 ≤ y1 → y1 ≤ 5 → 1 ≤ y2 → y2 ≤ 5 → 0 ≤ y4 → y4 ≤ 4 → 1 ≤ a0 90 12 → jt (jxX E d 188 140 [some (.inr (.inr (.inl 0))), some (.inl y1), some (.inl y2), some (.inl y3), some (.inl y4), some (.inl y5), none, some (.inl y7)] [] (jxSH, a, b0)) (jQ_X11_close x1 a0 b0) := by
    intro y1 y2 y3 y4 y5 y7 a hm hv hf hi0 hi1 hi2 hi3 hi4 hi5 hi6
    refine jt_eq (bq_X11_close_140 E d y1 y2 y3 y4 y5 y7 a b0) ?_
    have h825_ := iv_get hv0 (k := 90) (j := 12) (l := 0) (u := 6) rfl
    refine jt_bV (sp_X4_joinRing E d (jd_le hd rfl) y5 y3 y7 a b0 hv) (fun a826_ b826_ h826_ => ?_)
    obtain ⟨hv826_, hf826_, rfl⟩ := h826_
    have hf827_ : jfr jW_X11_close a0 a826_ := jfr_tr hf hf826_ rfl
    have h828_ : jxw (y4 + 1) = y4 + 1 := jxw_id (by omega) (by omega)
    exact ih71 y1 y2 y3 (jxw (y4 + 1)) a826_ (show (((5 - (jxw (y4 + 1))) * 1) + 0).toNat < n from by omega) hv826_ hf827_ (show 0 ≤ y1 from by omega) (show y1 ≤ 5 from by omega) (show 0 ≤ y2 from by omega) (show y2 ≤ 5 from by omega) (show 0 ≤ jxw (y4 + 1) from by omega) (show jxw (y4 + 1) ≤ 5 from by omega) (show 1 ≤ a0 90 12 from by omega)
  have hc110 : ∀ (y1 y2 y3 y4 y5 s1 s2 : Int) (a : Nat → Nat → Int), (((5 - y4) * 1) + 0).toNat ≤ n → iv a → jfr jW_X11_close a0 a → 0 ≤ y1 → y1 ≤ 5 → 1 ≤ y2 → y2 ≤ 5 → 0 ≤ y4 → y4 ≤ 4 → 0 ≤ s1 → s1 ≤ 5 → 0 ≤ s2 → s2 ≤ 4 → 1 ≤ a0 90 12 → jt (jxX E d 188 110 [some (.inr (.inr (.inl 0))), some (.inl y1), some (.inl y2), some (.inl y3), some (.inl y4), some (.inl y5), none, none] [.inl s2, .inl s1, .inr (.inr (.inl 90))] (jxSH, a, b0)) (jQ_X11_close x1 a0 b0) := by
    intro y1 y2 y3 y4 y5 s1 s2 a hm hv hf hi0 hi1 hi2 hi3 hi4 hi5 hi6 hi7 hi8 hi9 hi10
    refine jt_eq (bq_X11_close_110 E d y1 y2 y3 y4 y5 s1 s2 a b0) ?_
    have h829_ := iv_get hv0 (k := 90) (j := 12) (l := 0) (u := 6) rfl
    refine jt_eI (eq_X5_offerAt E d (jd_le hd rfl) s1 s2 a b0) ?_
    refine jt_eI (eq_X4_memberOf E d (jd_le hd rfl) y5 a b0) ?_
    refine jt_eI (eq_X4_memberOf E d (jd_le hd rfl) (f_X5_offerAt a b0 s1 s2) a b0) ?_
    refine jt_bI (sp_X11_send E d (jd_le hd rfl) (f_X4_memberOf a b0 y5) (f_X4_memberOf a b0 (f_X5_offerAt a b0 s1 s2)) y3 a b0 hv) (fun r830_ a830_ b830_ h830_ => ?_)
    obtain ⟨hv830_, hf830_, rfl, hq830_0, hq830_1, hq830_2⟩ := h830_
    have h831_ := iv_get hv (k := 58) (j := 8) (l := 0) (u := 300) rfl
    have hf832_ : jfr jW_X11_close a0 a830_ := jfr_tr hf hf830_ rfl
    exact hc140 y1 y2 y3 y4 y5 r830_ a830_ (show (((5 - y4) * 1) + 0).toNat ≤ n from by omega) hv830_ hf832_ (show 0 ≤ y1 from by omega) (show y1 ≤ 5 from by omega) (show 1 ≤ y2 from by omega) (show y2 ≤ 5 from by omega) (show 0 ≤ y4 from by omega) (show y4 ≤ 4 from by omega) (show 1 ≤ a0 90 12 from by omega)
  have hc71 : ∀ (y1 y2 y3 y4 : Int) (a : Nat → Nat → Int), (((5 - y4) * 1) + 0).toNat ≤ n → iv a → jfr jW_X11_close a0 a → 0 ≤ y1 → y1 ≤ 5 → 0 ≤ y2 → y2 ≤ 5 → 0 ≤ y4 → y4 ≤ 5 → 1 ≤ a0 90 12 → jt (jxX E d 188 71 [some (.inr (.inr (.inl 0))), some (.inl y1), some (.inl y2), some (.inl y3), some (.inl y4), none, none, none] [] (jxSH, a, b0)) (jQ_X11_close x1 a0 b0) := by
    intro y1 y2 y3 y4 a hm hv hf hi0 hi1 hi2 hi3 hi4 hi5 hi6
    refine jt_eq (bq_X11_close_71 E d y1 y2 y3 y4 a b0) ?_
    have h833_ := iv_get hv0 (k := 90) (j := 12) (l := 0) (u := 6) rfl
    refine jt_ite (fun c834_ => ?_) (fun c834_ => ?_)
    ·
      refine jt_eI (eq_X5_offerAt E d (jd_le hd rfl) y1 y4 a b0) ?_
      have h835_ : jxw (y4 + 1) = y4 + 1 := jxw_id (by omega) (by omega)
      refine jt_ite (fun c836_ => ?_) (fun c836_ => ?_)
      ·
        exact hc110 y1 y2 y3 y4 (f_X5_offerAt a b0 y1 y4) y1 (jxw (y4 + 1)) a (show (((5 - y4) * 1) + 0).toNat ≤ n from by omega) hv hf (show 0 ≤ y1 from by omega) (show y1 ≤ 5 from by omega) (show 1 ≤ y2 from by omega) (show y2 ≤ 5 from by omega) (show 0 ≤ y4 from by omega) (show y4 ≤ 4 from by omega) (show 0 ≤ y1 from by omega) (show y1 ≤ 5 from by omega) (show 0 ≤ jxw (y4 + 1) from by omega) (show jxw (y4 + 1) ≤ 4 from by omega) (show 1 ≤ a0 90 12 from by omega)
      ·
        exact hc110 y1 y2 y3 y4 (f_X5_offerAt a b0 y1 y4) y1 0 a (show (((5 - y4) * 1) + 0).toNat ≤ n from by omega) hv hf (show 0 ≤ y1 from by omega) (show y1 ≤ 5 from by omega) (show 1 ≤ y2 from by omega) (show y2 ≤ 5 from by omega) (show 0 ≤ y4 from by omega) (show y4 ≤ 4 from by omega) (show 0 ≤ y1 from by omega) (show y1 ≤ 5 from by omega) (show 0 ≤ 0 from by omega) (show 0 ≤ 4 from by omega) (show 1 ≤ a0 90 12 from by omega)
    ·
      exact jt_rI ⟨hv, hf, rfl, (show (a0 90 12 = 0 → y3 = 0 - 1) from by omega)⟩
  exact ⟨hc140, hc110, hc71⟩
theorem cp_X11_close_28 (E : jxE) (d : Nat) (hd : Nat.ble 6 (d + 1) = true) (x1 : Int) (a0 b0 : Nat → Nat → Int) (hv0 : iv a0) : ∀ n : Nat, (∀ (y1 y2 y3 : Int) (a : Nat → Nat → Int), (((5 - y3) * 1) + 0).toNat ≤ n → iv a → jfr jW_X11_close a0 a → 0 ≤ y1 → y1 ≤ 5 → 0 ≤ y2 → y2 ≤ 5 → 0 ≤ y3 → y3 ≤ 5 → 1 ≤ a0 90 12 → jt (jxX E d 188 28 [some (.inr (.inr (.inl 0))), some (.inl y1), some (.inl y2), some (.inl y3), none, none, none, none] [] (jxSH, a, b0)) (jQ_X11_close x1 a0 b0)) := by
  refine jx_ind fun n ih => ?_
  have ih28 : ∀ (y1 y2 y3 : Int) (a : Nat → Nat → Int), (((5 - y3) * 1) + 0).toNat < n → iv a → jfr jW_X11_close a0 a → 0 ≤ y1 → y1 ≤ 5 → 0 ≤ y2 → y2 ≤ 5 → 0 ≤ y3 → y3 ≤ 5 → 1 ≤ a0 90 12 → jt (jxX E d 188 28 [some (.inr (.inr (.inl 0))), some (.inl y1), some (.inl y2), some (.inl y3), none, none, none, none] [] (jxSH, a, b0)) (jQ_X11_close x1 a0 b0) := fun y1 y2 y3 a hlt i0 i1 i2 i3 i4 i5 i6 i7 i8 => (ih _ hlt) y1 y2 y3 a (Nat.le_refl _) i0 i1 i2 i3 i4 i5 i6 i7 i8
  have hc28 : ∀ (y1 y2 y3 : Int) (a : Nat → Nat → Int), (((5 - y3) * 1) + 0).toNat ≤ n → iv a → jfr jW_X11_close a0 a → 0 ≤ y1 → y1 ≤ 5 → 0 ≤ y2 → y2 ≤ 5 → 0 ≤ y3 → y3 ≤ 5 → 1 ≤ a0 90 12 → jt (jxX E d 188 28 [some (.inr (.inr (.inl 0))), some (.inl y1), some (.inl y2), some (.inl y3), none, none, none, none] [] (jxSH, a, b0)) (jQ_X11_close x1 a0 b0) := by
    intro y1 y2 y3 a hm hv hf hi0 hi1 hi2 hi3 hi4 hi5 hi6
    refine jt_eq (bq_X11_close_28 E d y1 y2 y3 a b0) ?_
    have h837_ := iv_get hv0 (k := 90) (j := 12) (l := 0) (u := 6) rfl
    refine jt_ite (fun c838_ => ?_) (fun c838_ => ?_)
    ·
      refine jt_eI (eq_X5_offerAt E d (jd_le hd rfl) y1 y3 a b0) ?_
      refine jt_eI (eq_X4_isOpen E d (jd_le hd rfl) (f_X5_offerAt a b0 y1 y3) a b0) ?_
      have h839_ := f_X5_offerAt_eq a b0 y1 y3
      have h840_ := f_X5_lengthOf_eq a b0 y1
      have h841_ := iv_get hv (k := 90) (j := 12) (l := 0) (u := 6) rfl
      have h842_ : a 90 12 = a0 90 12 := hf 90 12 rfl
      have h843_ := iv_get hv (k := 104) (j := y1.toNat) (l := 0) (u := 5) rfl
      have h844_ : a 104 (y1.toNat) = a0 104 (y1.toNat) := hf 104 (y1.toNat) rfl
      have h845_ := iv_get hv0 (k := 104) (j := y1.toNat) (l := 0) (u := 5) rfl
      have h846_ : a 97 ((y1.toNat) * 5 + (y3.toNat)) = a0 97 ((y1.toNat) * 5 + (y3.toNat)) := hf 97 ((y1.toNat) * 5 + (y3.toNat)) rfl
      have h847_ := f_X4_isOpen_eq a b0 (f_X5_offerAt a b0 y1 y3)
      have h848_ := f_X4_has_eq a b0 (f_X5_offerAt a b0 y1 y3)
      have h849_ := iv_get hv (k := 83) (j := 6) (l := 0) (u := 20) rfl
      have h850_ : a 83 6 = a0 83 6 := hf 83 6 rfl
      have h851_ := iv_get hv0 (k := 83) (j := 6) (l := 0) (u := 20) rfl
      refine jt_ite (fun c852_ => ?_) (fun c852_ => ?_)
      ·
        exact jt_rI ⟨hv, hf, rfl, (show (a0 90 12 = 0 → (-1) = 0 - 1) from by omega)⟩
      ·
        have h853_ : jxw (y3 + 1) = y3 + 1 := jxw_id (by omega) (by omega)
        exact ih28 y1 y2 (jxw (y3 + 1)) a (show (((5 - (jxw (y3 + 1))) * 1) + 0).toNat < n from by omega) hv hf (show 0 ≤ y1 from by omega) (show y1 ≤ 5 from by omega) (show 0 ≤ y2 from by omega) (show y2 ≤ 5 from by omega) (show 0 ≤ jxw (y3 + 1) from by omega) (show jxw (y3 + 1) ≤ 5 from by omega) (show 1 ≤ a0 90 12 from by omega)
    ·
      refine jt_bI (sp_X4_addRing E d (jd_le hd rfl) a b0 hv) (fun r854_ a854_ b854_ h854_ => ?_)
      obtain ⟨hv854_, hf854_, rfl⟩ := h854_
      have hf855_ : jfr jW_X11_close a0 a854_ := jfr_tr hf hf854_ rfl
      exact (cp_X11_close_71 E d hd x1 a0 b0 hv0 _).2.2 y1 y2 r854_ 0 a854_ (Nat.le_refl _) hv854_ hf855_ (show 0 ≤ y1 from by omega) (show y1 ≤ 5 from by omega) (show 0 ≤ y2 from by omega) (show y2 ≤ 5 from by omega) (show 0 ≤ 0 from by omega) (show 0 ≤ 5 from by omega) (show 1 ≤ a0 90 12 from by omega)
  exact hc28
theorem sp_X11_close (E : jxE) (d : Nat) (hd : Nat.ble 6 d = true) (x1 : Int) (a0 b0 : Nat → Nat → Int) (hv0 : iv a0) : jt (jxC E d 188 [.inr (.inr (.inl 0)), .inl x1] (jxSH, a0, b0)) (jQ_X11_close x1 a0 b0) := by
  obtain ⟨d, rfl⟩ := jd_succ hd
  refine jt_eq (bq_X11_close E d x1 a0 b0) ?_
  refine jt_eI (eq_X5_lengthOf E d (jd_le hd rfl) x1 a0 b0) ?_
  have h856_ := f_X5_lengthOf_eq a0 b0 x1
  have h857_ := iv_get hv0 (k := 90) (j := 12) (l := 0) (u := 6) rfl
  have h858_ := iv_get hv0 (k := 104) (j := x1.toNat) (l := 0) (u := 5) rfl
  refine jt_ite (fun c859_ => ?_) (fun c859_ => ?_)
  ·
    exact jt_rI ⟨hv0, (jfr_rf _ _), rfl, (show (a0 90 12 = 0 → (-1) = 0 - 1) from by omega)⟩
  ·
    refine jt_eI (eq_X0_hasRoom E d (jd_le hd rfl) (f_X5_lengthOf a0 b0 x1) a0 b0) ?_
    have h860_ := f_X0_hasRoom_eq a0 b0 (f_X5_lengthOf a0 b0 x1)
    have h861_ := iv_get hv0 (k := 58) (j := 8) (l := 0) (u := 300) rfl
    have h862_ : jxw (300 - (a0 58 8)) = 300 - (a0 58 8) := jxw_id (by omega) (by omega)
    refine jt_ite (fun c863_ => ?_) (fun c863_ => ?_)
    ·
      exact jt_rI ⟨hv0, (jfr_rf _ _), rfl, (show (a0 90 12 = 0 → (-1) = 0 - 1) from by omega)⟩
    ·
      exact (cp_X11_close_28 E d hd x1 a0 b0 hv0 _) x1 (f_X5_lengthOf a0 b0 x1) 0 a0 (Nat.le_refl _) hv0 (jfr_rf _ _) (show 0 ≤ x1 from by omega) (show x1 ≤ 5 from by omega) (show 0 ≤ f_X5_lengthOf a0 b0 x1 from by omega) (show f_X5_lengthOf a0 b0 x1 ≤ 5 from by omega) (show 0 ≤ 0 from by omega) (show 0 ≤ 5 from by omega) (show 1 ≤ a0 90 12 from by omega)
abbrev jQ_X3_howManyThere (a0 b0 : Nat → Nat → Int) : List jxV → (Nat → Nat → Int) → (Nat → Nat → Int) → Prop := rI (fun r a b => (a0 = a) ∧ (b0 = b) ∧ ((a0 4 6 = 0 → r = 0)))
theorem cp_X3_howManyThere_4 (E : jxE) (d : Nat) (hd : Nat.ble 3 (d + 1) = true) (a0 b0 : Nat → Nat → Int) (hv0 : iv a0) : ∀ n : Nat, (∀ (y1 y2 : Int), (((40 - y2) * 1) + 0).toNat ≤ n → 0 ≤ y2 → y2 ≤ 40 → (a0 4 6 = 0 → y1 = 0) → jt (jxX E d 53 4 [some (.inr (.inr (.inl 4))), some (.inl y1), some (.inl y2)] [] (jxSH, a0, b0)) (jQ_X3_howManyThere a0 b0)) := by
  refine jx_ind fun n ih => ?_
  have ih4 : ∀ (y1 y2 : Int), (((40 - y2) * 1) + 0).toNat < n → 0 ≤ y2 → y2 ≤ 40 → (a0 4 6 = 0 → y1 = 0) → jt (jxX E d 53 4 [some (.inr (.inr (.inl 4))), some (.inl y1), some (.inl y2)] [] (jxSH, a0, b0)) (jQ_X3_howManyThere a0 b0) := fun y1 y2 hlt i0 i1 i2 => (ih _ hlt) y1 y2 (Nat.le_refl _) i0 i1 i2
  have hc4 : ∀ (y1 y2 : Int), (((40 - y2) * 1) + 0).toNat ≤ n → 0 ≤ y2 → y2 ≤ 40 → (a0 4 6 = 0 → y1 = 0) → jt (jxX E d 53 4 [some (.inr (.inr (.inl 4))), some (.inl y1), some (.inl y2)] [] (jxSH, a0, b0)) (jQ_X3_howManyThere a0 b0) := by
    intro y1 y2 hm hi0 hi1 hi2
    refine jt_eq (bq_X3_howManyThere_4 E d y1 y2 a0 b0) ?_
    have h864_ := iv_get hv0 (k := 4) (j := 6) (l := 0) (u := 40) rfl
    refine jt_ite (fun c865_ => ?_) (fun c865_ => ?_)
    ·
      refine jt_eI (eq_X3_isThere E d (jd_le hd rfl) y2 a0 b0) ?_
      have h866_ := f_X3_isThere_eq a0 b0 y2
      have h867_ := f_X3_has_eq a0 b0 y2
      refine jt_ite (fun c868_ => ?_) (fun c868_ => ?_)
      ·
        have h869_ : jxw (y2 + 1) = y2 + 1 := jxw_id (by omega) (by omega)
        exact ih4 y1 (jxw (y2 + 1)) (show (((40 - (jxw (y2 + 1))) * 1) + 0).toNat < n from by omega) (show 0 ≤ jxw (y2 + 1) from by omega) (show jxw (y2 + 1) ≤ 40 from by omega) (show (a0 4 6 = 0 → y1 = 0) from by omega)
      ·
        have h870_ : jxw (y2 + 1) = y2 + 1 := jxw_id (by omega) (by omega)
        have h871_ := jxw_im (y1 + 1)
        have h872_ := jxw_rg (y1 + 1)
        exact ih4 (jxw (y1 + 1)) (jxw (y2 + 1)) (show (((40 - (jxw (y2 + 1))) * 1) + 0).toNat < n from by omega) (show 0 ≤ jxw (y2 + 1) from by omega) (show jxw (y2 + 1) ≤ 40 from by omega) (show (a0 4 6 = 0 → jxw (y1 + 1) = 0) from by omega)
    ·
      exact jt_rI ⟨rfl, rfl, (show (a0 4 6 = 0 → y1 = 0) from by omega)⟩
  exact hc4
theorem sp_X3_howManyThere (E : jxE) (d : Nat) (hd : Nat.ble 3 d = true) (a0 b0 : Nat → Nat → Int) (hv0 : iv a0) : jt (jxC E d 53 [.inr (.inr (.inl 4))] (jxSH, a0, b0)) (jQ_X3_howManyThere a0 b0) := by
  obtain ⟨d, rfl⟩ := jd_succ hd
  refine jt_eq (bq_X3_howManyThere E d a0 b0) ?_
  have h873_ := iv_get hv0 (k := 4) (j := 6) (l := 0) (u := 40) rfl
  exact (cp_X3_howManyThere_4 E d hd a0 b0 hv0 _) 0 0 (Nat.le_refl _) (show 0 ≤ 0 from by omega) (show 0 ≤ 40 from by omega) (show (a0 4 6 = 0 → 0 = 0) from by omega)
abbrev jQ_X11_count (x1 : Int) (a0 b0 : Nat → Nat → Int) : List jxV → (Nat → Nat → Int) → (Nat → Nat → Int) → Prop := rI (fun r a b => (a0 = a) ∧ (b0 = b) ∧ ((x1 = 0 → r = a0 0 0)) ∧ ((x1 = 1 → r = a0 4 6)) ∧ ((x1 = 3 → r = a0 58 8)) ∧ ((x1 = 4 → r = a0 58 12)) ∧ ((x1 = 5 → r = a0 83 6)) ∧ ((x1 = 6 → r = a0 83 7)) ∧ ((x1 = 7 → r = a0 105 5)) ∧ ((x1 = 8 → r = a0 2 1)) ∧ ((x1 = 9 → r = a0 0 9)) ∧ (((x1 = 2 ∧ a0 4 6 = 0) → r = 0)) ∧ ((x1 = 10 → r = a0 56 0)) ∧ ((x1 = 11 → r = a0 56 1)) ∧ ((x1 = 12 → r = a0 56 2)) ∧ ((x1 = 13 → r = a0 56 3)) ∧ ((x1 = 14 → r = a0 56 4)) ∧ (20 ≤ x1 ∧ x1 ≤ 27 → r = a0 143 (jxw (x1 - 20)).toNat) ∧ (30 ≤ x1 ∧ x1 ≤ 37 → r = a0 142 (jxw (x1 - 30)).toNat) ∧ (((((x1 < 0 ∨ (14 < x1 ∧ x1 < 20)) ∨ (27 < x1 ∧ x1 < 30)) ∨ 37 < x1) → r = 0 - 1)))
theorem sp_X11_count (E : jxE) (d : Nat) (hd : Nat.ble 4 d = true) (x1 : Int) (a0 b0 : Nat → Nat → Int) (hv0 : iv a0) : jt (jxC E d 197 [.inr (.inr (.inl 0)), .inl x1] (jxSH, a0, b0)) (jQ_X11_count x1 a0 b0) := by
  obtain ⟨d, rfl⟩ := jd_succ hd
  refine jt_eq (bq_X11_count E d x1 a0 b0) ?_
  refine jt_ite (fun c874_ => ?_) (fun c874_ => ?_)
  ·
    refine jt_eI (eq_X11_countOfDrawer E d (jd_le hd rfl) x1 a0 b0) ?_
    have h875_ := f_X11_countOfDrawer_eq a0 b0 x1
    have h876_ := f_X11_within_eq a0 b0 x1 20 27
    have h877_ := f_X11_within_eq a0 b0 x1 30 37
    have h878_ := jxw_im (x1 - 30)
    have h879_ := jxw_rg (x1 - 30)
    have h880_ := f_X1_valueOf_eq a0 b0 (jxw (x1 - 30))
    have h881_ := f_X11_entry_r142_eq a0 b0 8 (jxw (x1 - 30))
    have h882_ := jxw_im (x1 - 20)
    have h883_ := jxw_rg (x1 - 20)
    have h884_ := f_X1_manyOf_eq a0 b0 (jxw (x1 - 20))
    have h885_ := f_X11_entry_r143_eq a0 b0 8 (jxw (x1 - 20))
    have h886_ := iv_get hv0 (k := 0) (j := 0) (l := 0) (u := 1999) rfl
    have h887_ := iv_get hv0 (k := 4) (j := 6) (l := 0) (u := 40) rfl
    have h888_ := iv_get hv0 (k := 58) (j := 8) (l := 0) (u := 300) rfl
    have h889_ := iv_get hv0 (k := 58) (j := 12) (l := 0) (u := 600) rfl
    have h890_ := iv_get hv0 (k := 83) (j := 6) (l := 0) (u := 20) rfl
    have h891_ := iv_get hv0 (k := 105) (j := 5) (l := 0) (u := 10) rfl
    have h892_ := iv_get hv0 (k := 2) (j := 1) (l := 0) (u := 200) rfl
    have h893_ := iv_get hv0 (k := 0) (j := 9) (l := 0) (u := 8) rfl
    exact jt_rI ⟨rfl, rfl, (show (x1 = 0 → f_X11_countOfDrawer a0 b0 x1 = a0 0 0) from by omega), (show (x1 = 1 → f_X11_countOfDrawer a0 b0 x1 = a0 4 6) from by omega), (show (x1 = 3 → f_X11_countOfDrawer a0 b0 x1 = a0 58 8) from by omega), (show (x1 = 4 → f_X11_countOfDrawer a0 b0 x1 = a0 58 12) from by omega), (show (x1 = 5 → f_X11_countOfDrawer a0 b0 x1 = a0 83 6) from by omega), (show (x1 = 6 → f_X11_countOfDrawer a0 b0 x1 = a0 83 7) from by omega), (show (x1 = 7 → f_X11_countOfDrawer a0 b0 x1 = a0 105 5) from by omega), (show (x1 = 8 → f_X11_countOfDrawer a0 b0 x1 = a0 2 1) from by omega), (show (x1 = 9 → f_X11_countOfDrawer a0 b0 x1 = a0 0 9) from by omega), (show ((x1 = 2 ∧ a0 4 6 = 0) → f_X11_countOfDrawer a0 b0 x1 = 0) from by omega), (show (x1 = 10 → f_X11_countOfDrawer a0 b0 x1 = a0 56 0) from by omega), (show (x1 = 11 → f_X11_countOfDrawer a0 b0 x1 = a0 56 1) from by omega), (show (x1 = 12 → f_X11_countOfDrawer a0 b0 x1 = a0 56 2) from by omega), (show (x1 = 13 → f_X11_countOfDrawer a0 b0 x1 = a0 56 3) from by omega), (show (x1 = 14 → f_X11_countOfDrawer a0 b0 x1 = a0 56 4) from by omega), (by omega), (by omega), (show ((((x1 < 0 ∨ (14 < x1 ∧ x1 < 20)) ∨ (27 < x1 ∧ x1 < 30)) ∨ 37 < x1) → f_X11_countOfDrawer a0 b0 x1 = 0 - 1) from by omega)⟩
  ·
    refine jt_ite (fun c894_ => ?_) (fun c894_ => ?_)
    ·
      have h895_ := iv_get hv0 (k := 0) (j := 0) (l := 0) (u := 1999) rfl
      have h896_ := iv_get hv0 (k := 4) (j := 6) (l := 0) (u := 40) rfl
      have h897_ := iv_get hv0 (k := 58) (j := 8) (l := 0) (u := 300) rfl
      have h898_ := iv_get hv0 (k := 58) (j := 12) (l := 0) (u := 600) rfl
      have h899_ := iv_get hv0 (k := 83) (j := 6) (l := 0) (u := 20) rfl
      have h900_ := iv_get hv0 (k := 105) (j := 5) (l := 0) (u := 10) rfl
      have h901_ := iv_get hv0 (k := 2) (j := 1) (l := 0) (u := 200) rfl
      have h902_ := iv_get hv0 (k := 0) (j := 9) (l := 0) (u := 8) rfl
      exact jt_rI ⟨rfl, rfl, (show (x1 = 0 → a0 0 0 = a0 0 0) from by omega), (show (x1 = 1 → a0 0 0 = a0 4 6) from by omega), (show (x1 = 3 → a0 0 0 = a0 58 8) from by omega), (show (x1 = 4 → a0 0 0 = a0 58 12) from by omega), (show (x1 = 5 → a0 0 0 = a0 83 6) from by omega), (show (x1 = 6 → a0 0 0 = a0 83 7) from by omega), (show (x1 = 7 → a0 0 0 = a0 105 5) from by omega), (show (x1 = 8 → a0 0 0 = a0 2 1) from by omega), (show (x1 = 9 → a0 0 0 = a0 0 9) from by omega), (show ((x1 = 2 ∧ a0 4 6 = 0) → a0 0 0 = 0) from by omega), (show (x1 = 10 → a0 0 0 = a0 56 0) from by omega), (show (x1 = 11 → a0 0 0 = a0 56 1) from by omega), (show (x1 = 12 → a0 0 0 = a0 56 2) from by omega), (show (x1 = 13 → a0 0 0 = a0 56 3) from by omega), (show (x1 = 14 → a0 0 0 = a0 56 4) from by omega), (by omega), (by omega), (show ((((x1 < 0 ∨ (14 < x1 ∧ x1 < 20)) ∨ (27 < x1 ∧ x1 < 30)) ∨ 37 < x1) → a0 0 0 = 0 - 1) from by omega)⟩
    ·
      refine jt_ite (fun c903_ => ?_) (fun c903_ => ?_)
      ·
        refine jt_eI (eq_X3_size E d (jd_le hd rfl) a0 b0) ?_
        have h904_ := f_X3_size_eq a0 b0
        have h905_ := iv_get hv0 (k := 4) (j := 6) (l := 0) (u := 40) rfl
        have h906_ := iv_get hv0 (k := 0) (j := 0) (l := 0) (u := 1999) rfl
        have h907_ := iv_get hv0 (k := 58) (j := 8) (l := 0) (u := 300) rfl
        have h908_ := iv_get hv0 (k := 58) (j := 12) (l := 0) (u := 600) rfl
        have h909_ := iv_get hv0 (k := 83) (j := 6) (l := 0) (u := 20) rfl
        have h910_ := iv_get hv0 (k := 105) (j := 5) (l := 0) (u := 10) rfl
        have h911_ := iv_get hv0 (k := 2) (j := 1) (l := 0) (u := 200) rfl
        have h912_ := iv_get hv0 (k := 0) (j := 9) (l := 0) (u := 8) rfl
        exact jt_rI ⟨rfl, rfl, (show (x1 = 0 → f_X3_size a0 b0 = a0 0 0) from by omega), (show (x1 = 1 → f_X3_size a0 b0 = a0 4 6) from by omega), (show (x1 = 3 → f_X3_size a0 b0 = a0 58 8) from by omega), (show (x1 = 4 → f_X3_size a0 b0 = a0 58 12) from by omega), (show (x1 = 5 → f_X3_size a0 b0 = a0 83 6) from by omega), (show (x1 = 6 → f_X3_size a0 b0 = a0 83 7) from by omega), (show (x1 = 7 → f_X3_size a0 b0 = a0 105 5) from by omega), (show (x1 = 8 → f_X3_size a0 b0 = a0 2 1) from by omega), (show (x1 = 9 → f_X3_size a0 b0 = a0 0 9) from by omega), (show ((x1 = 2 ∧ a0 4 6 = 0) → f_X3_size a0 b0 = 0) from by omega), (show (x1 = 10 → f_X3_size a0 b0 = a0 56 0) from by omega), (show (x1 = 11 → f_X3_size a0 b0 = a0 56 1) from by omega), (show (x1 = 12 → f_X3_size a0 b0 = a0 56 2) from by omega), (show (x1 = 13 → f_X3_size a0 b0 = a0 56 3) from by omega), (show (x1 = 14 → f_X3_size a0 b0 = a0 56 4) from by omega), (by omega), (by omega), (show ((((x1 < 0 ∨ (14 < x1 ∧ x1 < 20)) ∨ (27 < x1 ∧ x1 < 30)) ∨ 37 < x1) → f_X3_size a0 b0 = 0 - 1) from by omega)⟩
      ·
        refine jt_ite (fun c913_ => ?_) (fun c913_ => ?_)
        ·
          refine jt_bI (sp_X3_howManyThere E d (jd_le hd rfl) a0 b0 hv0) (fun r914_ a914_ b914_ h914_ => ?_)
          obtain ⟨rfl, rfl, hq914_0⟩ := h914_
          have h915_ := iv_get hv0 (k := 4) (j := 6) (l := 0) (u := 40) rfl
          have h916_ := iv_get hv0 (k := 0) (j := 0) (l := 0) (u := 1999) rfl
          have h917_ := iv_get hv0 (k := 58) (j := 8) (l := 0) (u := 300) rfl
          have h918_ := iv_get hv0 (k := 58) (j := 12) (l := 0) (u := 600) rfl
          have h919_ := iv_get hv0 (k := 83) (j := 6) (l := 0) (u := 20) rfl
          have h920_ := iv_get hv0 (k := 105) (j := 5) (l := 0) (u := 10) rfl
          have h921_ := iv_get hv0 (k := 2) (j := 1) (l := 0) (u := 200) rfl
          have h922_ := iv_get hv0 (k := 0) (j := 9) (l := 0) (u := 8) rfl
          exact jt_rI ⟨rfl, rfl, (show (x1 = 0 → r914_ = a0 0 0) from by omega), (show (x1 = 1 → r914_ = a0 4 6) from by omega), (show (x1 = 3 → r914_ = a0 58 8) from by omega), (show (x1 = 4 → r914_ = a0 58 12) from by omega), (show (x1 = 5 → r914_ = a0 83 6) from by omega), (show (x1 = 6 → r914_ = a0 83 7) from by omega), (show (x1 = 7 → r914_ = a0 105 5) from by omega), (show (x1 = 8 → r914_ = a0 2 1) from by omega), (show (x1 = 9 → r914_ = a0 0 9) from by omega), (show ((x1 = 2 ∧ a0 4 6 = 0) → r914_ = 0) from by omega), (show (x1 = 10 → r914_ = a0 56 0) from by omega), (show (x1 = 11 → r914_ = a0 56 1) from by omega), (show (x1 = 12 → r914_ = a0 56 2) from by omega), (show (x1 = 13 → r914_ = a0 56 3) from by omega), (show (x1 = 14 → r914_ = a0 56 4) from by omega), (by omega), (by omega), (show ((((x1 < 0 ∨ (14 < x1 ∧ x1 < 20)) ∨ (27 < x1 ∧ x1 < 30)) ∨ 37 < x1) → r914_ = 0 - 1) from by omega)⟩
        ·
          refine jt_ite (fun c923_ => ?_) (fun c923_ => ?_)
          ·
            refine jt_eI (eq_X0_size E d (jd_le hd rfl) a0 b0) ?_
            have h924_ := f_X0_size_eq a0 b0
            have h925_ := iv_get hv0 (k := 58) (j := 8) (l := 0) (u := 300) rfl
            have h926_ := iv_get hv0 (k := 0) (j := 0) (l := 0) (u := 1999) rfl
            have h927_ := iv_get hv0 (k := 4) (j := 6) (l := 0) (u := 40) rfl
            have h928_ := iv_get hv0 (k := 58) (j := 12) (l := 0) (u := 600) rfl
            have h929_ := iv_get hv0 (k := 83) (j := 6) (l := 0) (u := 20) rfl
            have h930_ := iv_get hv0 (k := 105) (j := 5) (l := 0) (u := 10) rfl
            have h931_ := iv_get hv0 (k := 2) (j := 1) (l := 0) (u := 200) rfl
            have h932_ := iv_get hv0 (k := 0) (j := 9) (l := 0) (u := 8) rfl
            exact jt_rI ⟨rfl, rfl, (show (x1 = 0 → f_X0_size a0 b0 = a0 0 0) from by omega), (show (x1 = 1 → f_X0_size a0 b0 = a0 4 6) from by omega), (show (x1 = 3 → f_X0_size a0 b0 = a0 58 8) from by omega), (show (x1 = 4 → f_X0_size a0 b0 = a0 58 12) from by omega), (show (x1 = 5 → f_X0_size a0 b0 = a0 83 6) from by omega), (show (x1 = 6 → f_X0_size a0 b0 = a0 83 7) from by omega), (show (x1 = 7 → f_X0_size a0 b0 = a0 105 5) from by omega), (show (x1 = 8 → f_X0_size a0 b0 = a0 2 1) from by omega), (show (x1 = 9 → f_X0_size a0 b0 = a0 0 9) from by omega), (show ((x1 = 2 ∧ a0 4 6 = 0) → f_X0_size a0 b0 = 0) from by omega), (show (x1 = 10 → f_X0_size a0 b0 = a0 56 0) from by omega), (show (x1 = 11 → f_X0_size a0 b0 = a0 56 1) from by omega), (show (x1 = 12 → f_X0_size a0 b0 = a0 56 2) from by omega), (show (x1 = 13 → f_X0_size a0 b0 = a0 56 3) from by omega), (show (x1 = 14 → f_X0_size a0 b0 = a0 56 4) from by omega), (by omega), (by omega), (show ((((x1 < 0 ∨ (14 < x1 ∧ x1 < 20)) ∨ (27 < x1 ∧ x1 < 30)) ∨ 37 < x1) → f_X0_size a0 b0 = 0 - 1) from by omega)⟩
          ·
            refine jt_ite (fun c933_ => ?_) (fun c933_ => ?_)
            ·
              refine jt_eI (eq_X0_tellings E d (jd_le hd rfl) a0 b0) ?_
              have h934_ := f_X0_tellings_eq a0 b0
              have h935_ := iv_get hv0 (k := 58) (j := 12) (l := 0) (u := 600) rfl
              have h936_ := iv_get hv0 (k := 0) (j := 0) (l := 0) (u := 1999) rfl
              have h937_ := iv_get hv0 (k := 4) (j := 6) (l := 0) (u := 40) rfl
              have h938_ := iv_get hv0 (k := 58) (j := 8) (l := 0) (u := 300) rfl
              have h939_ := iv_get hv0 (k := 83) (j := 6) (l := 0) (u := 20) rfl
              have h940_ := iv_get hv0 (k := 105) (j := 5) (l := 0) (u := 10) rfl
              have h941_ := iv_get hv0 (k := 2) (j := 1) (l := 0) (u := 200) rfl
              have h942_ := iv_get hv0 (k := 0) (j := 9) (l := 0) (u := 8) rfl
              exact jt_rI ⟨rfl, rfl, (show (x1 = 0 → f_X0_tellings a0 b0 = a0 0 0) from by omega), (show (x1 = 1 → f_X0_tellings a0 b0 = a0 4 6) from by omega), (show (x1 = 3 → f_X0_tellings a0 b0 = a0 58 8) from by omega), (show (x1 = 4 → f_X0_tellings a0 b0 = a0 58 12) from by omega), (show (x1 = 5 → f_X0_tellings a0 b0 = a0 83 6) from by omega), (show (x1 = 6 → f_X0_tellings a0 b0 = a0 83 7) from by omega), (show (x1 = 7 → f_X0_tellings a0 b0 = a0 105 5) from by omega), (show (x1 = 8 → f_X0_tellings a0 b0 = a0 2 1) from by omega), (show (x1 = 9 → f_X0_tellings a0 b0 = a0 0 9) from by omega), (show ((x1 = 2 ∧ a0 4 6 = 0) → f_X0_tellings a0 b0 = 0) from by omega), (show (x1 = 10 → f_X0_tellings a0 b0 = a0 56 0) from by omega), (show (x1 = 11 → f_X0_tellings a0 b0 = a0 56 1) from by omega), (show (x1 = 12 → f_X0_tellings a0 b0 = a0 56 2) from by omega), (show (x1 = 13 → f_X0_tellings a0 b0 = a0 56 3) from by omega), (show (x1 = 14 → f_X0_tellings a0 b0 = a0 56 4) from by omega), (by omega), (by omega), (show ((((x1 < 0 ∨ (14 < x1 ∧ x1 < 20)) ∨ (27 < x1 ∧ x1 < 30)) ∨ 37 < x1) → f_X0_tellings a0 b0 = 0 - 1) from by omega)⟩
            ·
              refine jt_ite (fun c943_ => ?_) (fun c943_ => ?_)
              ·
                refine jt_eI (eq_X4_size E d (jd_le hd rfl) a0 b0) ?_
                have h944_ := f_X4_size_eq a0 b0
                have h945_ := iv_get hv0 (k := 83) (j := 6) (l := 0) (u := 20) rfl
                have h946_ := iv_get hv0 (k := 0) (j := 0) (l := 0) (u := 1999) rfl
                have h947_ := iv_get hv0 (k := 4) (j := 6) (l := 0) (u := 40) rfl
                have h948_ := iv_get hv0 (k := 58) (j := 8) (l := 0) (u := 300) rfl
                have h949_ := iv_get hv0 (k := 58) (j := 12) (l := 0) (u := 600) rfl
                have h950_ := iv_get hv0 (k := 105) (j := 5) (l := 0) (u := 10) rfl
                have h951_ := iv_get hv0 (k := 2) (j := 1) (l := 0) (u := 200) rfl
                have h952_ := iv_get hv0 (k := 0) (j := 9) (l := 0) (u := 8) rfl
                exact jt_rI ⟨rfl, rfl, (show (x1 = 0 → f_X4_size a0 b0 = a0 0 0) from by omega), (show (x1 = 1 → f_X4_size a0 b0 = a0 4 6) from by omega), (show (x1 = 3 → f_X4_size a0 b0 = a0 58 8) from by omega), (show (x1 = 4 → f_X4_size a0 b0 = a0 58 12) from by omega), (show (x1 = 5 → f_X4_size a0 b0 = a0 83 6) from by omega), (show (x1 = 6 → f_X4_size a0 b0 = a0 83 7) from by omega), (show (x1 = 7 → f_X4_size a0 b0 = a0 105 5) from by omega), (show (x1 = 8 → f_X4_size a0 b0 = a0 2 1) from by omega), (show (x1 = 9 → f_X4_size a0 b0 = a0 0 9) from by omega), (show ((x1 = 2 ∧ a0 4 6 = 0) → f_X4_size a0 b0 = 0) from by omega), (show (x1 = 10 → f_X4_size a0 b0 = a0 56 0) from by omega), (show (x1 = 11 → f_X4_size a0 b0 = a0 56 1) from by omega), (show (x1 = 12 → f_X4_size a0 b0 = a0 56 2) from by omega), (show (x1 = 13 → f_X4_size a0 b0 = a0 56 3) from by omega), (show (x1 = 14 → f_X4_size a0 b0 = a0 56 4) from by omega), (by omega), (by omega), (show ((((x1 < 0 ∨ (14 < x1 ∧ x1 < 20)) ∨ (27 < x1 ∧ x1 < 30)) ∨ 37 < x1) → f_X4_size a0 b0 = 0 - 1) from by omega)⟩
              ·
                refine jt_ite (fun c953_ => ?_) (fun c953_ => ?_)
                ·
                  refine jt_eI (eq_X4_ringsClosed E d (jd_le hd rfl) a0 b0) ?_
                  have h954_ := f_X4_ringsClosed_eq a0 b0
                  have h955_ := iv_get hv0 (k := 0) (j := 0) (l := 0) (u := 1999) rfl
                  have h956_ := iv_get hv0 (k := 4) (j := 6) (l := 0) (u := 40) rfl
                  have h957_ := iv_get hv0 (k := 58) (j := 8) (l := 0) (u := 300) rfl
                  have h958_ := iv_get hv0 (k := 58) (j := 12) (l := 0) (u := 600) rfl
                  have h959_ := iv_get hv0 (k := 83) (j := 6) (l := 0) (u := 20) rfl
                  have h960_ := iv_get hv0 (k := 105) (j := 5) (l := 0) (u := 10) rfl
                  have h961_ := iv_get hv0 (k := 2) (j := 1) (l := 0) (u := 200) rfl
                  have h962_ := iv_get hv0 (k := 0) (j := 9) (l := 0) (u := 8) rfl
                  exact jt_rI ⟨rfl, rfl, (show (x1 = 0 → f_X4_ringsClosed a0 b0 = a0 0 0) from by omega), (show (x1 = 1 → f_X4_ringsClosed a0 b0 = a0 4 6) from by omega), (show (x1 = 3 → f_X4_ringsClosed a0 b0 = a0 58 8) from by omega), (show (x1 = 4 → f_X4_ringsClosed a0 b0 = a0 58 12) from by omega), (show (x1 = 5 → f_X4_ringsClosed a0 b0 = a0 83 6) from by omega), (show (x1 = 6 → f_X4_ringsClosed a0 b0 = a0 83 7) from by omega), (show (x1 = 7 → f_X4_ringsClosed a0 b0 = a0 105 5) from by omega), (show (x1 = 8 → f_X4_ringsClosed a0 b0 = a0 2 1) from by omega), (show (x1 = 9 → f_X4_ringsClosed a0 b0 = a0 0 9) from by omega), (show ((x1 = 2 ∧ a0 4 6 = 0) → f_X4_ringsClosed a0 b0 = 0) from by omega), (show (x1 = 10 → f_X4_ringsClosed a0 b0 = a0 56 0) from by omega), (show (x1 = 11 → f_X4_ringsClosed a0 b0 = a0 56 1) from by omega), (show (x1 = 12 → f_X4_ringsClosed a0 b0 = a0 56 2) from by omega), (show (x1 = 13 → f_X4_ringsClosed a0 b0 = a0 56 3) from by omega), (show (x1 = 14 → f_X4_ringsClosed a0 b0 = a0 56 4) from by omega), (by omega), (by omega), (show ((((x1 < 0 ∨ (14 < x1 ∧ x1 < 20)) ∨ (27 < x1 ∧ x1 < 30)) ∨ 37 < x1) → f_X4_ringsClosed a0 b0 = 0 - 1) from by omega)⟩
                ·
                  refine jt_ite (fun c963_ => ?_) (fun c963_ => ?_)
                  ·
                    refine jt_eI (eq_X9_size E d (jd_le hd rfl) a0 b0) ?_
                    have h964_ := f_X9_size_eq a0 b0
                    have h965_ := iv_get hv0 (k := 105) (j := 5) (l := 0) (u := 10) rfl
                    have h966_ := iv_get hv0 (k := 0) (j := 0) (l := 0) (u := 1999) rfl
                    have h967_ := iv_get hv0 (k := 4) (j := 6) (l := 0) (u := 40) rfl
                    have h968_ := iv_get hv0 (k := 58) (j := 8) (l := 0) (u := 300) rfl
                    have h969_ := iv_get hv0 (k := 58) (j := 12) (l := 0) (u := 600) rfl
                    have h970_ := iv_get hv0 (k := 83) (j := 6) (l := 0) (u := 20) rfl
                    have h971_ := iv_get hv0 (k := 2) (j := 1) (l := 0) (u := 200) rfl
                    have h972_ := iv_get hv0 (k := 0) (j := 9) (l := 0) (u := 8) rfl
                    exact jt_rI ⟨rfl, rfl, (show (x1 = 0 → f_X9_size a0 b0 = a0 0 0) from by omega), (show (x1 = 1 → f_X9_size a0 b0 = a0 4 6) from by omega), (show (x1 = 3 → f_X9_size a0 b0 = a0 58 8) from by omega), (show (x1 = 4 → f_X9_size a0 b0 = a0 58 12) from by omega), (show (x1 = 5 → f_X9_size a0 b0 = a0 83 6) from by omega), (show (x1 = 6 → f_X9_size a0 b0 = a0 83 7) from by omega), (show (x1 = 7 → f_X9_size a0 b0 = a0 105 5) from by omega), (show (x1 = 8 → f_X9_size a0 b0 = a0 2 1) from by omega), (show (x1 = 9 → f_X9_size a0 b0 = a0 0 9) from by omega), (show ((x1 = 2 ∧ a0 4 6 = 0) → f_X9_size a0 b0 = 0) from by omega), (show (x1 = 10 → f_X9_size a0 b0 = a0 56 0) from by omega), (show (x1 = 11 → f_X9_size a0 b0 = a0 56 1) from by omega), (show (x1 = 12 → f_X9_size a0 b0 = a0 56 2) from by omega), (show (x1 = 13 → f_X9_size a0 b0 = a0 56 3) from by omega), (show (x1 = 14 → f_X9_size a0 b0 = a0 56 4) from by omega), (by omega), (by omega), (show ((((x1 < 0 ∨ (14 < x1 ∧ x1 < 20)) ∨ (27 < x1 ∧ x1 < 30)) ∨ 37 < x1) → f_X9_size a0 b0 = 0 - 1) from by omega)⟩
                  ·
                    refine jt_ite (fun c973_ => ?_) (fun c973_ => ?_)
                    ·
                      refine jt_eI (eq_X8_length E d (jd_le hd rfl) a0 b0) ?_
                      have h974_ := f_X8_length_eq a0 b0
                      have h975_ := iv_get hv0 (k := 2) (j := 1) (l := 0) (u := 200) rfl
                      have h976_ := iv_get hv0 (k := 0) (j := 0) (l := 0) (u := 1999) rfl
                      have h977_ := iv_get hv0 (k := 4) (j := 6) (l := 0) (u := 40) rfl
                      have h978_ := iv_get hv0 (k := 58) (j := 8) (l := 0) (u := 300) rfl
                      have h979_ := iv_get hv0 (k := 58) (j := 12) (l := 0) (u := 600) rfl
                      have h980_ := iv_get hv0 (k := 83) (j := 6) (l := 0) (u := 20) rfl
                      have h981_ := iv_get hv0 (k := 105) (j := 5) (l := 0) (u := 10) rfl
                      have h982_ := iv_get hv0 (k := 0) (j := 9) (l := 0) (u := 8) rfl
                      exact jt_rI ⟨rfl, rfl, (show (x1 = 0 → f_X8_length a0 b0 = a0 0 0) from by omega), (show (x1 = 1 → f_X8_length a0 b0 = a0 4 6) from by omega), (show (x1 = 3 → f_X8_length a0 b0 = a0 58 8) from by omega), (show (x1 = 4 → f_X8_length a0 b0 = a0 58 12) from by omega), (show (x1 = 5 → f_X8_length a0 b0 = a0 83 6) from by omega), (show (x1 = 6 → f_X8_length a0 b0 = a0 83 7) from by omega), (show (x1 = 7 → f_X8_length a0 b0 = a0 105 5) from by omega), (show (x1 = 8 → f_X8_length a0 b0 = a0 2 1) from by omega), (show (x1 = 9 → f_X8_length a0 b0 = a0 0 9) from by omega), (show ((x1 = 2 ∧ a0 4 6 = 0) → f_X8_length a0 b0 = 0) from by omega), (show (x1 = 10 → f_X8_length a0 b0 = a0 56 0) from by omega), (show (x1 = 11 → f_X8_length a0 b0 = a0 56 1) from by omega), (show (x1 = 12 → f_X8_length a0 b0 = a0 56 2) from by omega), (show (x1 = 13 → f_X8_length a0 b0 = a0 56 3) from by omega), (show (x1 = 14 → f_X8_length a0 b0 = a0 56 4) from by omega), (by omega), (by omega), (show ((((x1 < 0 ∨ (14 < x1 ∧ x1 < 20)) ∨ (27 < x1 ∧ x1 < 30)) ∨ 37 < x1) → f_X8_length a0 b0 = 0 - 1) from by omega)⟩
                    ·
                      refine jt_ite (fun c983_ => ?_) (fun c983_ => ?_)
                      ·
                        have h984_ := iv_get hv0 (k := 0) (j := 9) (l := 0) (u := 8) rfl
                        have h985_ := iv_get hv0 (k := 0) (j := 0) (l := 0) (u := 1999) rfl
                        have h986_ := iv_get hv0 (k := 4) (j := 6) (l := 0) (u := 40) rfl
                        have h987_ := iv_get hv0 (k := 58) (j := 8) (l := 0) (u := 300) rfl
                        have h988_ := iv_get hv0 (k := 58) (j := 12) (l := 0) (u := 600) rfl
                        have h989_ := iv_get hv0 (k := 83) (j := 6) (l := 0) (u := 20) rfl
                        have h990_ := iv_get hv0 (k := 105) (j := 5) (l := 0) (u := 10) rfl
                        have h991_ := iv_get hv0 (k := 2) (j := 1) (l := 0) (u := 200) rfl
                        exact jt_rI ⟨rfl, rfl, (show (x1 = 0 → a0 0 9 = a0 0 0) from by omega), (show (x1 = 1 → a0 0 9 = a0 4 6) from by omega), (show (x1 = 3 → a0 0 9 = a0 58 8) from by omega), (show (x1 = 4 → a0 0 9 = a0 58 12) from by omega), (show (x1 = 5 → a0 0 9 = a0 83 6) from by omega), (show (x1 = 6 → a0 0 9 = a0 83 7) from by omega), (show (x1 = 7 → a0 0 9 = a0 105 5) from by omega), (show (x1 = 8 → a0 0 9 = a0 2 1) from by omega), (show (x1 = 9 → a0 0 9 = a0 0 9) from by omega), (show ((x1 = 2 ∧ a0 4 6 = 0) → a0 0 9 = 0) from by omega), (show (x1 = 10 → a0 0 9 = a0 56 0) from by omega), (show (x1 = 11 → a0 0 9 = a0 56 1) from by omega), (show (x1 = 12 → a0 0 9 = a0 56 2) from by omega), (show (x1 = 13 → a0 0 9 = a0 56 3) from by omega), (show (x1 = 14 → a0 0 9 = a0 56 4) from by omega), (by omega), (by omega), (show ((((x1 < 0 ∨ (14 < x1 ∧ x1 < 20)) ∨ (27 < x1 ∧ x1 < 30)) ∨ 37 < x1) → a0 0 9 = 0 - 1) from by omega)⟩
                      ·
                        refine jt_ite (fun c992_ => ?_) (fun c992_ => ?_)
                        ·
                          refine jt_eI (eq_X6_under E d (jd_le hd rfl) a0 b0) ?_
                          have h993_ := f_X6_under_eq a0 b0
                          have h994_ := iv_get hv0 (k := 0) (j := 0) (l := 0) (u := 1999) rfl
                          have h995_ := iv_get hv0 (k := 4) (j := 6) (l := 0) (u := 40) rfl
                          have h996_ := iv_get hv0 (k := 58) (j := 8) (l := 0) (u := 300) rfl
                          have h997_ := iv_get hv0 (k := 58) (j := 12) (l := 0) (u := 600) rfl
                          have h998_ := iv_get hv0 (k := 83) (j := 6) (l := 0) (u := 20) rfl
                          have h999_ := iv_get hv0 (k := 105) (j := 5) (l := 0) (u := 10) rfl
                          have h1000_ := iv_get hv0 (k := 2) (j := 1) (l := 0) (u := 200) rfl
                          have h1001_ := iv_get hv0 (k := 0) (j := 9) (l := 0) (u := 8) rfl
                          exact jt_rI ⟨rfl, rfl, (show (x1 = 0 → f_X6_under a0 b0 = a0 0 0) from by omega), (show (x1 = 1 → f_X6_under a0 b0 = a0 4 6) from by omega), (show (x1 = 3 → f_X6_under a0 b0 = a0 58 8) from by omega), (show (x1 = 4 → f_X6_under a0 b0 = a0 58 12) from by omega), (show (x1 = 5 → f_X6_under a0 b0 = a0 83 6) from by omega), (show (x1 = 6 → f_X6_under a0 b0 = a0 83 7) from by omega), (show (x1 = 7 → f_X6_under a0 b0 = a0 105 5) from by omega), (show (x1 = 8 → f_X6_under a0 b0 = a0 2 1) from by omega), (show (x1 = 9 → f_X6_under a0 b0 = a0 0 9) from by omega), (show ((x1 = 2 ∧ a0 4 6 = 0) → f_X6_under a0 b0 = 0) from by omega), (show (x1 = 10 → f_X6_under a0 b0 = a0 56 0) from by omega), (show (x1 = 11 → f_X6_under a0 b0 = a0 56 1) from by omega), (show (x1 = 12 → f_X6_under a0 b0 = a0 56 2) from by omega), (show (x1 = 13 → f_X6_under a0 b0 = a0 56 3) from by omega), (show (x1 = 14 → f_X6_under a0 b0 = a0 56 4) from by omega), (by omega), (by omega), (show ((((x1 < 0 ∨ (14 < x1 ∧ x1 < 20)) ∨ (27 < x1 ∧ x1 < 30)) ∨ 37 < x1) → f_X6_under a0 b0 = 0 - 1) from by omega)⟩
                        ·
                          refine jt_ite (fun c1002_ => ?_) (fun c1002_ => ?_)
                          ·
                            refine jt_eI (eq_X6_more E d (jd_le hd rfl) a0 b0) ?_
                            have h1003_ := f_X6_more_eq a0 b0
                            have h1004_ := iv_get hv0 (k := 0) (j := 0) (l := 0) (u := 1999) rfl
                            have h1005_ := iv_get hv0 (k := 4) (j := 6) (l := 0) (u := 40) rfl
                            have h1006_ := iv_get hv0 (k := 58) (j := 8) (l := 0) (u := 300) rfl
                            have h1007_ := iv_get hv0 (k := 58) (j := 12) (l := 0) (u := 600) rfl
                            have h1008_ := iv_get hv0 (k := 83) (j := 6) (l := 0) (u := 20) rfl
                            have h1009_ := iv_get hv0 (k := 105) (j := 5) (l := 0) (u := 10) rfl
                            have h1010_ := iv_get hv0 (k := 2) (j := 1) (l := 0) (u := 200) rfl
                            have h1011_ := iv_get hv0 (k := 0) (j := 9) (l := 0) (u := 8) rfl
                            exact jt_rI ⟨rfl, rfl, (show (x1 = 0 → f_X6_more a0 b0 = a0 0 0) from by omega), (show (x1 = 1 → f_X6_more a0 b0 = a0 4 6) from by omega), (show (x1 = 3 → f_X6_more a0 b0 = a0 58 8) from by omega), (show (x1 = 4 → f_X6_more a0 b0 = a0 58 12) from by omega), (show (x1 = 5 → f_X6_more a0 b0 = a0 83 6) from by omega), (show (x1 = 6 → f_X6_more a0 b0 = a0 83 7) from by omega), (show (x1 = 7 → f_X6_more a0 b0 = a0 105 5) from by omega), (show (x1 = 8 → f_X6_more a0 b0 = a0 2 1) from by omega), (show (x1 = 9 → f_X6_more a0 b0 = a0 0 9) from by omega), (show ((x1 = 2 ∧ a0 4 6 = 0) → f_X6_more a0 b0 = 0) from by omega), (show (x1 = 10 → f_X6_more a0 b0 = a0 56 0) from by omega), (show (x1 = 11 → f_X6_more a0 b0 = a0 56 1) from by omega), (show (x1 = 12 → f_X6_more a0 b0 = a0 56 2) from by omega), (show (x1 = 13 → f_X6_more a0 b0 = a0 56 3) from by omega), (show (x1 = 14 → f_X6_more a0 b0 = a0 56 4) from by omega), (by omega), (by omega), (show ((((x1 < 0 ∨ (14 < x1 ∧ x1 < 20)) ∨ (27 < x1 ∧ x1 < 30)) ∨ 37 < x1) → f_X6_more a0 b0 = 0 - 1) from by omega)⟩
                          ·
                            refine jt_ite (fun c1012_ => ?_) (fun c1012_ => ?_)
                            ·
                              refine jt_eI (eq_X6_slack E d (jd_le hd rfl) a0 b0) ?_
                              have h1013_ := f_X6_slack_eq a0 b0
                              have h1014_ := iv_get hv0 (k := 0) (j := 0) (l := 0) (u := 1999) rfl
                              have h1015_ := iv_get hv0 (k := 4) (j := 6) (l := 0) (u := 40) rfl
                              have h1016_ := iv_get hv0 (k := 58) (j := 8) (l := 0) (u := 300) rfl
                              have h1017_ := iv_get hv0 (k := 58) (j := 12) (l := 0) (u := 600) rfl
                              have h1018_ := iv_get hv0 (k := 83) (j := 6) (l := 0) (u := 20) rfl
                              have h1019_ := iv_get hv0 (k := 105) (j := 5) (l := 0) (u := 10) rfl
                              have h1020_ := iv_get hv0 (k := 2) (j := 1) (l := 0) (u := 200) rfl
                              have h1021_ := iv_get hv0 (k := 0) (j := 9) (l := 0) (u := 8) rfl
                              exact jt_rI ⟨rfl, rfl, (show (x1 = 0 → f_X6_slack a0 b0 = a0 0 0) from by omega), (show (x1 = 1 → f_X6_slack a0 b0 = a0 4 6) from by omega), (show (x1 = 3 → f_X6_slack a0 b0 = a0 58 8) from by omega), (show (x1 = 4 → f_X6_slack a0 b0 = a0 58 12) from by omega), (show (x1 = 5 → f_X6_slack a0 b0 = a0 83 6) from by omega), (show (x1 = 6 → f_X6_slack a0 b0 = a0 83 7) from by omega), (show (x1 = 7 → f_X6_slack a0 b0 = a0 105 5) from by omega), (show (x1 = 8 → f_X6_slack a0 b0 = a0 2 1) from by omega), (show (x1 = 9 → f_X6_slack a0 b0 = a0 0 9) from by omega), (show ((x1 = 2 ∧ a0 4 6 = 0) → f_X6_slack a0 b0 = 0) from by omega), (show (x1 = 10 → f_X6_slack a0 b0 = a0 56 0) from by omega), (show (x1 = 11 → f_X6_slack a0 b0 = a0 56 1) from by omega), (show (x1 = 12 → f_X6_slack a0 b0 = a0 56 2) from by omega), (show (x1 = 13 → f_X6_slack a0 b0 = a0 56 3) from by omega), (show (x1 = 14 → f_X6_slack a0 b0 = a0 56 4) from by omega), (by omega), (by omega), (show ((((x1 < 0 ∨ (14 < x1 ∧ x1 < 20)) ∨ (27 < x1 ∧ x1 < 30)) ∨ 37 < x1) → f_X6_slack a0 b0 = 0 - 1) from by omega)⟩
                            ·
                              refine jt_ite (fun c1022_ => ?_) (fun c1022_ => ?_)
                              ·
                                refine jt_eI (eq_X6_lost E d (jd_le hd rfl) a0 b0) ?_
                                have h1023_ := f_X6_lost_eq a0 b0
                                have h1024_ := iv_get hv0 (k := 0) (j := 0) (l := 0) (u := 1999) rfl
                                have h1025_ := iv_get hv0 (k := 4) (j := 6) (l := 0) (u := 40) rfl
                                have h1026_ := iv_get hv0 (k := 58) (j := 8) (l := 0) (u := 300) rfl
                                have h1027_ := iv_get hv0 (k := 58) (j := 12) (l := 0) (u := 600) rfl
                                have h1028_ := iv_get hv0 (k := 83) (j := 6) (l := 0) (u := 20) rfl
                                have h1029_ := iv_get hv0 (k := 105) (j := 5) (l := 0) (u := 10) rfl
                                have h1030_ := iv_get hv0 (k := 2) (j := 1) (l := 0) (u := 200) rfl
                                have h1031_ := iv_get hv0 (k := 0) (j := 9) (l := 0) (u := 8) rfl
                                exact jt_rI ⟨rfl, rfl, (show (x1 = 0 → f_X6_lost a0 b0 = a0 0 0) from by omega), (show (x1 = 1 → f_X6_lost a0 b0 = a0 4 6) from by omega), (show (x1 = 3 → f_X6_lost a0 b0 = a0 58 8) from by omega), (show (x1 = 4 → f_X6_lost a0 b0 = a0 58 12) from by omega), (show (x1 = 5 → f_X6_lost a0 b0 = a0 83 6) from by omega), (show (x1 = 6 → f_X6_lost a0 b0 = a0 83 7) from by omega), (show (x1 = 7 → f_X6_lost a0 b0 = a0 105 5) from by omega), (show (x1 = 8 → f_X6_lost a0 b0 = a0 2 1) from by omega), (show (x1 = 9 → f_X6_lost a0 b0 = a0 0 9) from by omega), (show ((x1 = 2 ∧ a0 4 6 = 0) → f_X6_lost a0 b0 = 0) from by omega), (show (x1 = 10 → f_X6_lost a0 b0 = a0 56 0) from by omega), (show (x1 = 11 → f_X6_lost a0 b0 = a0 56 1) from by omega), (show (x1 = 12 → f_X6_lost a0 b0 = a0 56 2) from by omega), (show (x1 = 13 → f_X6_lost a0 b0 = a0 56 3) from by omega), (show (x1 = 14 → f_X6_lost a0 b0 = a0 56 4) from by omega), (by omega), (by omega), (show ((((x1 < 0 ∨ (14 < x1 ∧ x1 < 20)) ∨ (27 < x1 ∧ x1 < 30)) ∨ 37 < x1) → f_X6_lost a0 b0 = 0 - 1) from by omega)⟩
                              ·
                                refine jt_ite (fun c1032_ => ?_) (fun c1032_ => ?_)
                                ·
                                  refine jt_eI (eq_X6_strict E d (jd_le hd rfl) a0 b0) ?_
                                  have h1033_ := f_X6_strict_eq a0 b0
                                  have h1034_ := iv_get hv0 (k := 0) (j := 0) (l := 0) (u := 1999) rfl
                                  have h1035_ := iv_get hv0 (k := 4) (j := 6) (l := 0) (u := 40) rfl
                                  have h1036_ := iv_get hv0 (k := 58) (j := 8) (l := 0) (u := 300) rfl
                                  have h1037_ := iv_get hv0 (k := 58) (j := 12) (l := 0) (u := 600) rfl
                                  have h1038_ := iv_get hv0 (k := 83) (j := 6) (l := 0) (u := 20) rfl
                                  have h1039_ := iv_get hv0 (k := 105) (j := 5) (l := 0) (u := 10) rfl
                                  have h1040_ := iv_get hv0 (k := 2) (j := 1) (l := 0) (u := 200) rfl
                                  have h1041_ := iv_get hv0 (k := 0) (j := 9) (l := 0) (u := 8) rfl
                                  exact jt_rI ⟨rfl, rfl, (show (x1 = 0 → f_X6_strict a0 b0 = a0 0 0) from by omega), (show (x1 = 1 → f_X6_strict a0 b0 = a0 4 6) from by omega), (show (x1 = 3 → f_X6_strict a0 b0 = a0 58 8) from by omega), (show (x1 = 4 → f_X6_strict a0 b0 = a0 58 12) from by omega), (show (x1 = 5 → f_X6_strict a0 b0 = a0 83 6) from by omega), (show (x1 = 6 → f_X6_strict a0 b0 = a0 83 7) from by omega), (show (x1 = 7 → f_X6_strict a0 b0 = a0 105 5) from by omega), (show (x1 = 8 → f_X6_strict a0 b0 = a0 2 1) from by omega), (show (x1 = 9 → f_X6_strict a0 b0 = a0 0 9) from by omega), (show ((x1 = 2 ∧ a0 4 6 = 0) → f_X6_strict a0 b0 = 0) from by omega), (show (x1 = 10 → f_X6_strict a0 b0 = a0 56 0) from by omega), (show (x1 = 11 → f_X6_strict a0 b0 = a0 56 1) from by omega), (show (x1 = 12 → f_X6_strict a0 b0 = a0 56 2) from by omega), (show (x1 = 13 → f_X6_strict a0 b0 = a0 56 3) from by omega), (show (x1 = 14 → f_X6_strict a0 b0 = a0 56 4) from by omega), (by omega), (by omega), (show ((((x1 < 0 ∨ (14 < x1 ∧ x1 < 20)) ∨ (27 < x1 ∧ x1 < 30)) ∨ 37 < x1) → f_X6_strict a0 b0 = 0 - 1) from by omega)⟩
                                ·
                                  exact absurd (by omega : False) id
def jW_X11_withdraw : List (Nat × Nat) := [(9, 9999), (64, 9999), (87, 9999), (88, 9999), (89, 9999)]
abbrev jQ_X11_withdraw (x1 : Int) (a0 b0 : Nat → Nat → Int) : List jxV → (Nat → Nat → Int) → (Nat → Nat → Int) → Prop := rI (fun r a b => (iv a) ∧ (jfr jW_X11_withdraw a0 a) ∧ (b0 = b))
theorem cp_X11_withdraw_58 (E : jxE) (d : Nat) (hd : Nat.ble 4 (d + 1) = true) (x1 : Int) (a0 b0 : Nat → Nat → Int) (hv0 : iv a0) : ∀ (a : Nat → Nat → Int), iv a → jfr jW_X11_withdraw a0 a → jt (jxX E d 159 58 [none, none, none] [] (jxSH, a, b0)) (jQ_X11_withdraw x1 a0 b0) := by
  intro a hv hf
  refine jt_eq (bq_X11_withdraw_58 E d a b0) ?_
  exact jt_rI ⟨hv, hf, rfl⟩
theorem cp_X11_withdraw_105 (E : jxE) (d : Nat) (hd : Nat.ble 4 (d + 1) = true) (x1 : Int) (a0 b0 : Nat → Nat → Int) (hv0 : iv a0) : ∀ (a : Nat → Nat → Int), iv a → jfr jW_X11_withdraw a0 a → jt (jxX E d 159 105 [none, none, none] [] (jxSH, a, b0)) (jQ_X11_withdraw x1 a0 b0) := by
  intro a hv hf
  refine jt_eq (bq_X11_withdraw_105 E d a b0) ?_
  exact jt_rI ⟨hv, hf, rfl⟩
theorem cp_X11_withdraw_90 (E : jxE) (d : Nat) (hd : Nat.ble 4 (d + 1) = true) (x1 : Int) (a0 b0 : Nat → Nat → Int) (hv0 : iv a0) : ∀ (y2 : Int) (a : Nat → Nat → Int), iv a → jfr jW_X11_withdraw a0 a → 0 ≤ y2 → y2 ≤ 299 → jt (jxX E d 159 90 [some (.inr (.inr (.inl 0))), none, some (.inl y2)] [] (jxSH, a, b0)) (jQ_X11_withdraw x1 a0 b0) := by
  intro y2 a hv hf hi0 hi1
  refine jt_eq (bq_X11_withdraw_90 E d y2 a b0) ?_
  refine jt_eI (eq_X0_toOf E d (jd_le hd rfl) y2 a b0) ?_
  refine jt_bV (sp_X3_addCredit E d (jd_le hd rfl) (f_X0_toOf a b0 y2) a b0 hv) (fun a1042_ b1042_ h1042_ => ?_)
  obtain ⟨hv1042_, hf1042_, rfl⟩ := h1042_
  have hf1043_ : jfr jW_X11_withdraw a0 a1042_ := jfr_tr hf hf1042_ rfl
  exact cp_X11_withdraw_105 E d hd x1 a0 b0 hv0 a1042_ hv1042_ hf1043_
theorem cp_X11_withdraw_60 (E : jxE) (d : Nat) (hd : Nat.ble 4 (d + 1) = true) (x1 : Int) (a0 b0 : Nat → Nat → Int) (hv0 : iv a0) : ∀ (y2 : Int) (a : Nat → Nat → Int), iv a → jfr jW_X11_withdraw a0 a → 0 ≤ y2 → y2 ≤ 299 → jt (jxX E d 159 60 [some (.inr (.inr (.inl 0))), none, some (.inl y2)] [] (jxSH, a, b0)) (jQ_X11_withdraw x1 a0 b0) := by
  intro y2 a hv hf hi0 hi1
  refine jt_eq (bq_X11_withdraw_60 E d y2 a b0) ?_
  refine jt_bV (sp_X0_cancel E d (jd_le hd rfl) y2 (a 0 0) a b0 hv) (fun a1044_ b1044_ h1044_ => ?_)
  obtain ⟨hv1044_, hf1044_, rfl, hq1044_0⟩ := h1044_
  refine jt_eI (eq_X0_toOf E d (jd_le hd rfl) y2 a1044_ b0) ?_
  refine jt_eI (eq_X3_isThere E d (jd_le hd rfl) (f_X0_toOf a1044_ b0 y2) a1044_ b0) ?_
  have h1045_ := f_X0_toOf_eq a1044_ b0 y2
  have h1046_ := iv_get hv1044_ (k := 58) (j := 8) (l := 0) (u := 300) rfl
  have h1047_ : a1044_ 58 8 = a 58 8 := hf1044_ 58 8 rfl
  have h1048_ := iv_get hv (k := 58) (j := 8) (l := 0) (u := 300) rfl
  have h1049_ : a 58 8 = a0 58 8 := hf 58 8 rfl
  have h1050_ := iv_get hv0 (k := 58) (j := 8) (l := 0) (u := 300) rfl
  have h1051_ := f_X11_entry_r60_eq a1044_ b0 (a1044_ 58 8) y2
  have h1052_ : a1044_ 60 (y2.toNat) = a 60 (y2.toNat) := hf1044_ 60 (y2.toNat) rfl
  have h1053_ : a 60 (y2.toNat) = a0 60 (y2.toNat) := hf 60 (y2.toNat) rfl
  have h1054_ := f_X3_isThere_eq a1044_ b0 (f_X0_toOf a1044_ b0 y2)
  have h1055_ := f_X3_has_eq a1044_ b0 (f_X0_toOf a1044_ b0 y2)
  have h1056_ := iv_get hv1044_ (k := 4) (j := 6) (l := 0) (u := 40) rfl
  have h1057_ : a1044_ 4 6 = a 4 6 := hf1044_ 4 6 rfl
  have h1058_ := iv_get hv (k := 4) (j := 6) (l := 0) (u := 40) rfl
  have h1059_ : a 4 6 = a0 4 6 := hf 4 6 rfl
  have h1060_ := iv_get hv0 (k := 4) (j := 6) (l := 0) (u := 40) rfl
  have h1061_ : a1044_ 10 ((f_X0_toOf a1044_ b0 y2).toNat) = a 10 ((f_X0_toOf a1044_ b0 y2).toNat) := hf1044_ 10 ((f_X0_toOf a1044_ b0 y2).toNat) rfl
  have h1062_ : a 10 ((f_X0_toOf a1044_ b0 y2).toNat) = a0 10 ((f_X0_toOf a1044_ b0 y2).toNat) := hf 10 ((f_X0_toOf a1044_ b0 y2).toNat) rfl
  refine jt_ite (fun c1063_ => ?_) (fun c1063_ => ?_)
  ·
    have hf1064_ : jfr jW_X11_withdraw a0 a1044_ := jfr_tr hf hf1044_ rfl
    exact cp_X11_withdraw_105 E d hd x1 a0 b0 hv0 a1044_ hv1044_ hf1064_
  ·
    have hf1065_ : jfr jW_X11_withdraw a0 a1044_ := jfr_tr hf hf1044_ rfl
    exact cp_X11_withdraw_90 E d hd x1 a0 b0 hv0 y2 a1044_ hv1044_ hf1065_ (show 0 ≤ y2 from by omega) (show y2 ≤ 299 from by omega)
theorem cp_X11_withdraw_23 (E : jxE) (d : Nat) (hd : Nat.ble 4 (d + 1) = true) (x1 : Int) (a0 b0 : Nat → Nat → Int) (hv0 : iv a0) : ∀ (y1 s0 : Int) (a : Nat → Nat → Int), iv a → jfr jW_X11_withdraw a0 a → jt (jxX E d 159 23 [some (.inr (.inr (.inl 0))), some (.inl y1), none] [.inl s0] (jxSH, a, b0)) (jQ_X11_withdraw x1 a0 b0) := by
  intro y1 s0 a hv hf
  refine jt_eq (bq_X11_withdraw_23 E d y1 s0 a b0) ?_
  refine jt_bV (sp_X4_takeAway E d (jd_le hd rfl) y1 a b0 hv) (fun a1066_ b1066_ h1066_ => ?_)
  obtain ⟨hv1066_, hf1066_, rfl⟩ := h1066_
  refine jt_eI (eq_X0_has E d (jd_le hd rfl) s0 a1066_ b0) ?_
  have h1067_ := f_X0_has_eq a1066_ b0 s0
  have h1068_ := iv_get hv1066_ (k := 58) (j := 8) (l := 0) (u := 300) rfl
  have h1069_ : a1066_ 58 8 = a 58 8 := hf1066_ 58 8 rfl
  have h1070_ := iv_get hv (k := 58) (j := 8) (l := 0) (u := 300) rfl
  have h1071_ : a 58 8 = a0 58 8 := hf 58 8 rfl
  have h1072_ := iv_get hv0 (k := 58) (j := 8) (l := 0) (u := 300) rfl
  refine jt_ite (fun c1073_ => ?_) (fun c1073_ => ?_)
  ·
    have hf1074_ : jfr jW_X11_withdraw a0 a1066_ := jfr_tr hf hf1066_ rfl
    exact cp_X11_withdraw_58 E d hd x1 a0 b0 hv0 a1066_ hv1066_ hf1074_
  ·
    refine jt_eI (eq_X0_stateNow E d (jd_le hd rfl) s0 (a1066_ 0 0) a1066_ b0) ?_
    have h1075_ := iv_get hv1066_ (k := 0) (j := 0) (l := 0) (u := 1999) rfl
    have h1076_ : a1066_ 0 0 = a 0 0 := hf1066_ 0 0 rfl
    have h1077_ := iv_get hv (k := 0) (j := 0) (l := 0) (u := 1999) rfl
    have h1078_ : a 0 0 = a0 0 0 := hf 0 0 rfl
    have h1079_ := iv_get hv0 (k := 0) (j := 0) (l := 0) (u := 1999) rfl
    have h1080_ := f_X0_stateNow_eq a1066_ b0 s0 (a1066_ 0 0)
    have h1081_ := f_X0_arrivedOnOf_eq a1066_ b0 s0
    have h1082_ := iv_get hv1066_ (k := 58) (j := 12) (l := 0) (u := 600) rfl
    have h1083_ : a1066_ 58 12 = a 58 12 := hf1066_ 58 12 rfl
    have h1084_ := iv_get hv (k := 58) (j := 12) (l := 0) (u := 600) rfl
    have h1085_ : a 58 12 = a0 58 12 := hf 58 12 rfl
    have h1086_ := iv_get hv0 (k := 58) (j := 12) (l := 0) (u := 600) rfl
    have h1087_ := f_X11_entry_r65_eq a1066_ b0 (a1066_ 58 8) s0
    have h1088_ : a1066_ 65 (s0.toNat) = a 65 (s0.toNat) := hf1066_ 65 (s0.toNat) rfl
    have h1089_ : a 65 (s0.toNat) = a0 65 (s0.toNat) := hf 65 (s0.toNat) rfl
    have h1090_ := f_X11_entry_r67_eq a1066_ b0 (a1066_ 58 12) (f_X11_entry_r65 a1066_ b0 (a1066_ 58 8) s0)
    have h1091_ : a1066_ 67 ((f_X11_entry_r65 a1066_ b0 (a1066_ 58 8) s0).toNat) = a 67 ((f_X11_entry_r65 a1066_ b0 (a1066_ 58 8) s0).toNat) := hf1066_ 67 ((f_X11_entry_r65 a1066_ b0 (a1066_ 58 8) s0).toNat) rfl
    have h1092_ : a 67 ((f_X11_entry_r65 a1066_ b0 (a1066_ 58 8) s0).toNat) = a0 67 ((f_X11_entry_r65 a1066_ b0 (a1066_ 58 8) s0).toNat) := hf 67 ((f_X11_entry_r65 a1066_ b0 (a1066_ 58 8) s0).toNat) rfl
    refine jt_ite (fun c1093_ => ?_) (fun c1093_ => ?_)
    ·
      have hf1094_ : jfr jW_X11_withdraw a0 a1066_ := jfr_tr hf hf1066_ rfl
      exact cp_X11_withdraw_60 E d hd x1 a0 b0 hv0 s0 a1066_ hv1066_ hf1094_ (show 0 ≤ s0 from by omega) (show s0 ≤ 299 from by omega)
    ·
      have hf1095_ : jfr jW_X11_withdraw a0 a1066_ := jfr_tr hf hf1066_ rfl
      exact cp_X11_withdraw_58 E d hd x1 a0 b0 hv0 a1066_ hv1066_ hf1095_
theorem sp_X11_withdraw (E : jxE) (d : Nat) (hd : Nat.ble 4 d = true) (x1 : Int) (a0 b0 : Nat → Nat → Int) (hv0 : iv a0) : jt (jxC E d 159 [.inr (.inr (.inl 0)), .inl x1] (jxSH, a0, b0)) (jQ_X11_withdraw x1 a0 b0) := by
  obtain ⟨d, rfl⟩ := jd_succ hd
  refine jt_eq (bq_X11_withdraw E d x1 a0 b0) ?_
  refine jt_eI (eq_X4_isInRing E d (jd_le hd rfl) x1 a0 b0) ?_
  have h1096_ := f_X4_isInRing_eq a0 b0 x1
  have h1097_ := f_X4_has_eq a0 b0 x1
  have h1098_ := iv_get hv0 (k := 83) (j := 6) (l := 0) (u := 20) rfl
  refine jt_ite (fun c1099_ => ?_) (fun c1099_ => ?_)
  ·
    exact cp_X11_withdraw_23 E d hd x1 a0 b0 hv0 x1 (-1) a0 hv0 (jfr_rf _ _)
  ·
    refine jt_eI (eq_X4_cardOf E d (jd_le hd rfl) x1 a0 b0) ?_
    exact cp_X11_withdraw_23 E d hd x1 a0 b0 hv0 x1 (f_X4_cardOf a0 b0 x1) a0 hv0 (jfr_rf _ _)
abbrev jQ_X4_offerInRing (x1 x2 : Int) (a0 b0 : Nat → Nat → Int) : List jxV → (Nat → Nat → Int) → (Nat → Nat → Int) → Prop := rI (fun r a b => (a0 = a) ∧ (b0 = b) ∧ ((a0 83 6 = 0 → r = 0 - 1)))
theorem cp_X4_offerInRing_2 (E : jxE) (d : Nat) (hd : Nat.ble 3 (d + 1) = true) (x1 x2 : Int) (a0 b0 : Nat → Nat → Int) (hv0 : iv a0) : ∀ n : Nat, (∀ (y1 y2 y3 : Int), (((20 - y3) * 1) + 0).toNat ≤ n → 0 ≤ y3 → y3 ≤ 19 → jt (jxX E d 72 40 [some (.inr (.inr (.inl 83))), some (.inl y1), some (.inl y2), some (.inl y3)] [] (jxSH, a0, b0)) (jQ_X4_offerInRing x1 x2 a0 b0)) ∧ (∀ (y1 y2 y3 : Int), (((20 - y3) * 1) + 0).toNat ≤ n → 0 ≤ y3 → y3 ≤ 19 → 1 ≤ a0 83 6 → jt (jxX E d 72 28 [some (.inr (.inr (.inl 83))), some (.inl y1), some (.inl y2), some (.inl y3)] [] (jxSH, a0, b0)) (jQ_X4_offerInRing x1 x2 a0 b0)) ∧ (∀ (y1 y2 y3 : Int), (((20 - y3) * 1) + 0).toNat ≤ n → 0 ≤ y3 → y3 ≤ 20 → jt (jxX E d 72 2 [some (.inr (.inr (.inl 83))), some (.inl y1), some (.inl y2), some (.inl y3)] [] (jxSH, a0, b0)) (jQ_X4_offerInRing x1 x2 a0 b0)) := by
  refine jx_ind fun n ih => ?_
  have ih40 : ∀ (y1 y2 y3 : Int), (((20 - y3) * 1) + 0).toNat < n → 0 ≤ y3 → y3 ≤ 19 → jt (jxX E d 72 40 [some (.inr (.inr (.inl 83))), some (.inl y1), some (.inl y2), some (.inl y3)] [] (jxSH, a0, b0)) (jQ_X4_offerInRing x1 x2 a0 b0) := fun y1 y2 y3 hlt i0 i1 => (ih _ hlt).1 y1 y2 y3 (Nat.le_refl _) i0 i1
  have ih28 : ∀ (y1 y2 y3 : Int), (((20 - y3) * 1) + 0).toNat < n → 0 ≤ y3 → y3 ≤ 19 → 1 ≤ a0 83 6 → jt (jxX E d 72 28 [some (.inr (.inr (.inl 83))), some (.inl y1), some (.inl y2), some (.inl y3)] [] (jxSH, a0, b0)) (jQ_X4_offerInRing x1 x2 a0 b0) := fun y1 y2 y3 hlt i0 i1 i2 => (ih _ hlt).2.1 y1 y2 y3 (Nat.le_refl _) i0 i1 i2
  have ih2 : ∀ (y1 y2 y3 : Int), (((20 - y3) * 1) + 0).toNat < n → 0 ≤ y3 → y3 ≤ 20 → jt (jxX E d 72 2 [some (.inr (.inr (.inl 83))), some (.inl y1), some (.inl y2), some (.inl y3)] [] (jxSH, a0, b0)) (jQ_X4_offerInRing x1 x2 a0 b0) := fun y1 y2 y3 hlt i0 i1 => (ih _ hlt).2.2 y1 y2 y3 (Nat.le_refl _) i0 i1
  have hc40 : ∀ (y1 y2 y3 : Int), (((20 - y3) * 1) + 0).toNat ≤ n → 0 ≤ y3 → y3 ≤ 19 → jt (jxX E d 72 40 [some (.inr (.inr (.inl 83))), some (.inl y1), some (.inl y2), some (.inl y3)] [] (jxSH, a0, b0)) (jQ_X4_offerInRing x1 x2 a0 b0) := by
    intro y1 y2 y3 hm hi0 hi1
    refine jt_eq (bq_X4_offerInRing_40 E d y1 y2 y3 a0 b0) ?_
    have h1100_ : jxw (y3 + 1) = y3 + 1 := jxw_id (by omega) (by omega)
    exact ih2 y1 y2 (jxw (y3 + 1)) (show (((20 - (jxw (y3 + 1))) * 1) + 0).toNat < n from by omega) (show 0 ≤ jxw (y3 + 1) from by omega) (show jxw (y3 + 1) ≤ 20 from by omega)
  have hc28 : ∀ (y1 y2 y3 : Int), (((20 - y3) * 1) + 0).toNat ≤ n → 0 ≤ y3 → y3 ≤ 19 → 1 ≤ a0 83 6 → jt (jxX E d 72 28 [some (.inr (.inr (.inl 83))), some (.inl y1), some (.inl y2), some (.inl y3)] [] (jxSH, a0, b0)) (jQ_X4_offerInRing x1 x2 a0 b0) := by
    intro y1 y2 y3 hm hi0 hi1 hi2
    refine jt_eq (bq_X4_offerInRing_28 E d y1 y2 y3 a0 b0) ?_
    have h1101_ := iv_get hv0 (k := 83) (j := 6) (l := 0) (u := 20) rfl
    refine jt_grd (by omega) ?_
    refine jt_ite (fun c1102_ => ?_) (fun c1102_ => ?_)
    ·
      exact jt_rI ⟨rfl, rfl, (show (a0 83 6 = 0 → y3 = 0 - 1) from by omega)⟩
    ·
      exact hc40 y1 y2 y3 (show (((20 - y3) * 1) + 0).toNat ≤ n from by omega) (show 0 ≤ y3 from by omega) (show y3 ≤ 19 from by omega)
  have hc2 : ∀ (y1 y2 y3 : Int), (((20 - y3) * 1) + 0).toNat ≤ n → 0 ≤ y3 → y3 ≤ 20 → jt (jxX E d 72 2 [some (.inr (.inr (.inl 83))), some (.inl y1), some (.inl y2), some (.inl y3)] [] (jxSH, a0, b0)) (jQ_X4_offerInRing x1 x2 a0 b0) := by
    intro y1 y2 y3 hm hi0 hi1
    refine jt_eq (bq_X4_offerInRing_2 E d y1 y2 y3 a0 b0) ?_
    have h1103_ := iv_get hv0 (k := 83) (j := 6) (l := 0) (u := 20) rfl
    refine jt_ite (fun c1104_ => ?_) (fun c1104_ => ?_)
    ·
      refine jt_eI (eq_X4_isInRing E d (jd_le hd rfl) y3 a0 b0) ?_
      have h1105_ := f_X4_isInRing_eq a0 b0 y3
      have h1106_ := f_X4_has_eq a0 b0 y3
      refine jt_ite (fun c1107_ => ?_) (fun c1107_ => ?_)
      ·
        exact hc40 y1 y2 y3 (show (((20 - y3) * 1) + 0).toNat ≤ n from by omega) (show 0 ≤ y3 from by omega) (show y3 ≤ 19 from by omega)
      ·
        refine jt_grd (by omega) ?_
        refine jt_ite (fun c1108_ => ?_) (fun c1108_ => ?_)
        ·
          exact hc28 y1 y2 y3 (show (((20 - y3) * 1) + 0).toNat ≤ n from by omega) (show 0 ≤ y3 from by omega) (show y3 ≤ 19 from by omega) (show 1 ≤ a0 83 6 from by omega)
        ·
          exact hc40 y1 y2 y3 (show (((20 - y3) * 1) + 0).toNat ≤ n from by omega) (show 0 ≤ y3 from by omega) (show y3 ≤ 19 from by omega)
    ·
      exact jt_rI ⟨rfl, rfl, (show (a0 83 6 = 0 → (-1) = 0 - 1) from by omega)⟩
  exact ⟨hc40, hc28, hc2⟩
theorem sp_X4_offerInRing (E : jxE) (d : Nat) (hd : Nat.ble 3 d = true) (x1 x2 : Int) (a0 b0 : Nat → Nat → Int) (hv0 : iv a0) : jt (jxC E d 72 [.inr (.inr (.inl 83)), .inl x1, .inl x2] (jxSH, a0, b0)) (jQ_X4_offerInRing x1 x2 a0 b0) := by
  obtain ⟨d, rfl⟩ := jd_succ hd
  refine jt_eq (bq_X4_offerInRing E d x1 x2 a0 b0) ?_
  exact (cp_X4_offerInRing_2 E d hd x1 x2 a0 b0 hv0 _).2.2 x1 x2 0 (Nat.le_refl _) (show 0 ≤ 0 from by omega) (show 0 ≤ 20 from by omega)
def jW_X11_drop : List (Nat × Nat) := [(9, 9999), (64, 9999), (87, 9999), (88, 9999), (89, 9999)]
abbrev jQ_X11_drop (x1 x2 : Int) (a0 b0 : Nat → Nat → Int) : List jxV → (Nat → Nat → Int) → (Nat → Nat → Int) → Prop := rI (fun r a b => (iv a) ∧ (jfr jW_X11_drop a0 a) ∧ (b0 = b) ∧ ((a0 83 6 = 0 → r = 0 - 1)))
theorem sp_X11_drop (E : jxE) (d : Nat) (hd : Nat.ble 5 d = true) (x1 x2 : Int) (a0 b0 : Nat → Nat → Int) (hv0 : iv a0) : jt (jxC E d 189 [.inr (.inr (.inl 0)), .inl x1, .inl x2] (jxSH, a0, b0)) (jQ_X11_drop x1 x2 a0 b0) := by
  obtain ⟨d, rfl⟩ := jd_succ hd
  refine jt_eq (bq_X11_drop E d x1 x2 a0 b0) ?_
  refine jt_bI (sp_X4_offerInRing E d (jd_le hd rfl) x1 x2 a0 b0 hv0) (fun r1109_ a1109_ b1109_ h1109_ => ?_)
  obtain ⟨rfl, rfl, hq1109_0⟩ := h1109_
  have h1110_ := iv_get hv0 (k := 83) (j := 6) (l := 0) (u := 20) rfl
  refine jt_ite (fun c1111_ => ?_) (fun c1111_ => ?_)
  ·
    exact jt_rI ⟨hv0, (jfr_rf _ _), rfl, (show (a0 83 6 = 0 → (-1) = 0 - 1) from by omega)⟩
  ·
    refine jt_bI (sp_X11_withdraw E d (jd_le hd rfl) r1109_ a0 b0 hv0) (fun r1112_ a1112_ b1112_ h1112_ => ?_)
    obtain ⟨hv1112_, hf1112_, rfl⟩ := h1112_
    have hf1113_ : jfr jW_X11_drop a0 a1112_ := jfr_tr (jfr_rf _ _) hf1112_ rfl
    exact jt_rI ⟨hv1112_, hf1113_, rfl, (show (a0 83 6 = 0 → r1112_ = 0 - 1) from by omega)⟩
def jW_X8_cut : List (Nat × Nat) := [(2, 1)]
abbrev jQ_X8_cut (x1 : Int) (a0 b0 : Nat → Nat → Int) : List jxV → (Nat → Nat → Int) → (Nat → Nat → Int) → Prop := rV (fun a b => (iv a) ∧ (jfr jW_X8_cut a0 a) ∧ (b0 = b) ∧ ((((0 ≤ x1 ∧ x1 ≤ a0 2 1) ∧ a 2 1 = x1) ∨ ((x1 < 0 ∨ a0 2 1 < x1) ∧ a 2 1 = a0 2 1))))
theorem sp_X8_cut (E : jxE) (d : Nat) (hd : Nat.ble 1 d = true) (x1 : Int) (a0 b0 : Nat → Nat → Int) (hv0 : iv a0) : jt (jxC E d 120 [.inr (.inr (.inl 2)), .inl x1] (jxSH, a0, b0)) (jQ_X8_cut x1 a0 b0) := by
  obtain ⟨d, rfl⟩ := jd_succ hd
  refine jt_eq (bq_X8_cut E d x1 a0 b0) ?_
  refine jt_ite (fun c1114_ => ?_) (fun c1114_ => ?_)
  ·
    have h1115_ := iv_get hv0 (k := 2) (j := 1) (l := 0) (u := 200) rfl
    exact jt_rV ⟨hv0, (jfr_rf _ _), rfl, (show (((0 ≤ x1 ∧ x1 ≤ a0 2 1) ∧ a0 2 1 = x1) ∨ ((x1 < 0 ∨ a0 2 1 < x1) ∧ a0 2 1 = a0 2 1)) from by omega)⟩
  ·
    have h1116_ := iv_get hv0 (k := 2) (j := 1) (l := 0) (u := 200) rfl
    refine jt_ite (fun c1117_ => ?_) (fun c1117_ => ?_)
    ·
      exact jt_rV ⟨hv0, (jfr_rf _ _), rfl, (show (((0 ≤ x1 ∧ x1 ≤ a0 2 1) ∧ a0 2 1 = x1) ∨ ((x1 < 0 ∨ a0 2 1 < x1) ∧ a0 2 1 = a0 2 1)) from by omega)⟩
    ·
      have hv1118_ : iv (jxu a0 2 1 x1) := iv_put hv0 (l := 0) (u := 200) rfl (by omega) (by omega)
      have hf1119_ : jfr jW_X8_cut a0 (jxu a0 2 1 x1) := jfr_put (jfr_rf _ _) rfl
      exact jt_rV ⟨hv1118_, hf1119_, rfl, (show (((0 ≤ x1 ∧ x1 ≤ a0 2 1) ∧ x1 = x1) ∨ ((x1 < 0 ∨ a0 2 1 < x1) ∧ x1 = a0 2 1)) from by omega)⟩
def jW_X11_end : List (Nat × Nat) := [(2, 1)]
abbrev jQ_X11_end (x1 : Int) (a0 b0 : Nat → Nat → Int) : List jxV → (Nat → Nat → Int) → (Nat → Nat → Int) → Prop := rI (fun r a b => (iv a) ∧ (jfr jW_X11_end a0 a) ∧ (b0 = b) ∧ (((((0 ≤ x1 ∧ x1 ≤ a0 2 1) ∧ r = x1) ∧ a 2 1 = x1) ∨ (((x1 < 0 ∨ a0 2 1 < x1) ∧ r = 0 - 1) ∧ a 2 1 = a0 2 1))))
theorem sp_X11_end (E : jxE) (d : Nat) (hd : Nat.ble 2 d = true) (x1 : Int) (a0 b0 : Nat → Nat → Int) (hv0 : iv a0) : jt (jxC E d 161 [.inr (.inr (.inl 0)), .inl x1] (jxSH, a0, b0)) (jQ_X11_end x1 a0 b0) := by
  obtain ⟨d, rfl⟩ := jd_succ hd
  refine jt_eq (bq_X11_end E d x1 a0 b0) ?_
  refine jt_eI (eq_X8_length E d (jd_le hd rfl) a0 b0) ?_
  refine jt_eI (eq_X11_within E d (jd_le hd rfl) x1 0 (f_X8_length a0 b0) a0 b0) ?_
  have h1120_ := f_X8_length_eq a0 b0
  have h1121_ := iv_get hv0 (k := 2) (j := 1) (l := 0) (u := 200) rfl
  have h1122_ := f_X11_within_eq a0 b0 x1 0 (f_X8_length a0 b0)
  refine jt_ite (fun c1123_ => ?_) (fun c1123_ => ?_)
  ·
    exact jt_rI ⟨hv0, (jfr_rf _ _), rfl, (show ((((0 ≤ x1 ∧ x1 ≤ a0 2 1) ∧ (-1) = x1) ∧ a0 2 1 = x1) ∨ (((x1 < 0 ∨ a0 2 1 < x1) ∧ (-1) = 0 - 1) ∧ a0 2 1 = a0 2 1)) from by omega)⟩
  ·
    refine jt_bV (sp_X8_cut E d (jd_le hd rfl) x1 a0 b0 hv0) (fun a1124_ b1124_ h1124_ => ?_)
    obtain ⟨hv1124_, hf1124_, rfl, hq1124_0⟩ := h1124_
    have h1125_ := iv_get hv1124_ (k := 2) (j := 1) (l := 0) (u := 200) rfl
    have hf1126_ : jfr jW_X11_end a0 a1124_ := jfr_tr (jfr_rf _ _) hf1124_ rfl
    exact jt_rI ⟨hv1124_, hf1126_, rfl, (show ((((0 ≤ x1 ∧ x1 ≤ a0 2 1) ∧ x1 = x1) ∧ a1124_ 2 1 = x1) ∨ (((x1 < 0 ∨ a0 2 1 < x1) ∧ x1 = 0 - 1) ∧ a1124_ 2 1 = a0 2 1)) from by omega)⟩
def jWe_X11_far : List (Nat × Nat) := []
def jW_X11_far : List (Nat × Nat) := [(1, 9999)]
abbrev jQ_X11_far (x1 x2 x3 : Int) (a0 b0 : Nat → Nat → Int) : List jxV → (Nat → Nat → Int) → (Nat → Nat → Int) → Prop := rI (fun r a b => (iv a) ∧ (jfr jW_X11_far a0 a) ∧ (b0 = b) ∧ (FarP (a0 1) (a 1) x1 x2 x3 r))
theorem cp_X11_far_29 (E : jxE) (d : Nat) (hd : Nat.ble 3 (d + 1) = true) (x1 x2 x3 : Int) (a0 b0 : Nat → Nat → Int) (hv0 : iv a0) : ∀ (a : Nat → Nat → Int), iv a → jfr jW_X11_far a0 a → ((((((x1 < 0 ∨ 15 < x1) ∨ x2 < 0) ∨ 15 < x2) ∨ x1 = x2) ∨ x3 < 0) ∨ 99 < x3) → (jfr jWe_X11_far a0 a) → jt (jxX E d 155 29 [none, none, none, none, none] [] (jxSH, a, b0)) (jQ_X11_far x1 x2 x3 a0 b0) := by
  intro a hv hf hi0 hfe
  refine jt_eq (bq_X11_far_29 E d a b0) ?_
  exact jt_rI ⟨hv, hf, rfl, (Or.inr ⟨by omega, rfl, fun j => hfe 1 j rfl⟩)⟩
theorem cp_X11_far_56 (E : jxE) (d : Nat) (hd : Nat.ble 3 (d + 1) = true) (x1 x2 x3 : Int) (a0 b0 : Nat → Nat → Int) (hv0 : iv a0) : ∀ (y1 y2 y3 y4 : Int) (a : Nat → Nat → Int), iv a → jfr jW_X11_far a0 a → 0 ≤ y1 → y1 ≤ 15 → 0 ≤ y2 → y2 ≤ 15 → 0 ≤ y3 → y3 ≤ 99 → 0 ≤ y4 → y4 ≤ 99 → y1 = x1 → y2 = x2 → y3 = x3 → ((((((0 ≤ x1 ∧ x1 ≤ 15) ∧ 0 ≤ x2) ∧ x2 ≤ 15) ∧ ¬ x1 = x2) ∧ 0 ≤ x3) ∧ x3 ≤ 99) → (∀ j, a 1 j = if j = (16 * x1 + x2).toNat then x3 else a0 1 j) → (y4 = a0 1 (16 * x1 + x2).toNat) → jt (jxX E d 155 56 [some (.inr (.inr (.inl 0))), some (.inl y1), some (.inl y2), some (.inl y3), some (.inl y4)] [] (jxSH, a, b0)) (jQ_X11_far x1 x2 x3 a0 b0) := by
  intro y1 y2 y3 y4 a hv hf hi0 hi1 hi2 hi3 hi4 hi5 hi6 hi7 hi8 hi9 hi10 hi11 hf56 hy4
  refine jt_eq (bq_X11_far_56 E d y1 y2 y3 y4 a b0) ?_
  have hix2 : (jxw ((jxw (y2 * 16)) + y1)).toNat = (16 * x2 + x1).toNat := by rw [jxw_id (x := y2 * 16) (by omega) (by omega), jxw_id (by omega) (by omega)]; omega
  have h1127_ : jxw (y2 * 16) = y2 * 16 := jxw_id (by omega) (by omega)
  have h1128_ : jxw ((jxw (y2 * 16)) + y1) = (jxw (y2 * 16)) + y1 := jxw_id (by omega) (by omega)
  refine jt_grd (by omega) ?_
  have hv1129_ : iv (jxu a 1 ((jxw ((jxw (y2 * 16)) + y1)).toNat) y3) := iv_put hv (l := 0) (u := 99) rfl (by omega) (by omega)
  have hf1130_ : jfr jW_X11_far a0 (jxu a 1 ((jxw ((jxw (y2 * 16)) + y1)).toNat) y3) := jfr_put hf rfl
  exact jt_rI ⟨hv1129_, hf1130_, rfl, (Or.inl ⟨by omega, by omega, by omega, by omega, by omega, by omega, by omega, hy4, fun j => by rw [hix2]; simp only [jxu]; rw [hf56 j, show y3 = x3 from (by omega)]; simp⟩)⟩
theorem cp_X11_far_31 (E : jxE) (d : Nat) (hd : Nat.ble 3 (d + 1) = true) (x1 x2 x3 : Int) (a0 b0 : Nat → Nat → Int) (hv0 : iv a0) : ∀ (y1 y2 y3 : Int) (a : Nat → Nat → Int), iv a → jfr jW_X11_far a0 a → 0 ≤ y1 → y1 ≤ 15 → 0 ≤ y2 → y2 ≤ 15 → 0 ≤ y3 → y3 ≤ 99 → y1 = x1 → y2 = x2 → y3 = x3 → ((((((0 ≤ x1 ∧ x1 ≤ 15) ∧ 0 ≤ x2) ∧ x2 ≤ 15) ∧ ¬ x1 = x2) ∧ 0 ≤ x3) ∧ x3 ≤ 99) → (jfr jWe_X11_far a0 a) → jt (jxX E d 155 31 [some (.inr (.inr (.inl 0))), some (.inl y1), some (.inl y2), some (.inl y3), none] [] (jxSH, a, b0)) (jQ_X11_far x1 x2 x3 a0 b0) := by
  intro y1 y2 y3 a hv hf hi0 hi1 hi2 hi3 hi4 hi5 hi6 hi7 hi8 hi9 hfe
  refine jt_eq (bq_X11_far_31 E d y1 y2 y3 a b0) ?_
  have hix : (jxw ((jxw (y1 * 16)) + y2)).toNat = (16 * x1 + x2).toNat := by rw [jxw_id (x := y1 * 16) (by omega) (by omega), jxw_id (by omega) (by omega)]; omega
  have h1131_ : jxw (y1 * 16) = y1 * 16 := jxw_id (by omega) (by omega)
  have h1132_ : jxw ((jxw (y1 * 16)) + y2) = (jxw (y1 * 16)) + y2 := jxw_id (by omega) (by omega)
  refine jt_grd (by omega) ?_
  refine jt_grd (by omega) ?_
  have hv1133_ : iv (jxu a 1 ((jxw ((jxw (y1 * 16)) + y2)).toNat) y3) := iv_put hv (l := 0) (u := 99) rfl (by omega) (by omega)
  have hf1134_ : jfr jW_X11_far a0 (jxu a 1 ((jxw ((jxw (y1 * 16)) + y2)).toNat) y3) := jfr_put hf rfl
  have h1135_ := iv_get hv (k := 1) (j := (jxw ((jxw (y1 * 16)) + y2)).toNat) (l := 0) (u := 99) rfl
  exact cp_X11_far_56 E d hd x1 x2 x3 a0 b0 hv0 y1 y2 y3 (a 1 ((jxw ((jxw (y1 * 16)) + y2)).toNat)) (jxu a 1 ((jxw ((jxw (y1 * 16)) + y2)).toNat) y3) hv1133_ hf1134_ (show 0 ≤ y1 from by omega) (show y1 ≤ 15 from by omega) (show 0 ≤ y2 from by omega) (show y2 ≤ 15 from by omega) (show 0 ≤ y3 from by omega) (show y3 ≤ 99 from by omega) (show 0 ≤ a 1 ((jxw ((jxw (y1 * 16)) + y2)).toNat) from by omega) (show a 1 ((jxw ((jxw (y1 * 16)) + y2)).toNat) ≤ 99 from by omega) (show y1 = x1 from by omega) (show y2 = x2 from by omega) (show y3 = x3 from by omega) (show ((((((0 ≤ x1 ∧ x1 ≤ 15) ∧ 0 ≤ x2) ∧ x2 ≤ 15) ∧ ¬ x1 = x2) ∧ 0 ≤ x3) ∧ x3 ≤ 99) from by omega) (by intro j; rw [hix]; simp only [jxu]; rw [hfe 1 j rfl, show y3 = x3 from (by omega)]; simp) (by rw [hix]; exact hfe 1 _ rfl)
theorem sp_X11_far (E : jxE) (d : Nat) (hd : Nat.ble 3 d = true) (x1 x2 x3 : Int) (a0 b0 : Nat → Nat → Int) (hv0 : iv a0) : jt (jxC E d 155 [.inr (.inr (.inl 0)), .inl x1, .inl x2, .inl x3] (jxSH, a0, b0)) (jQ_X11_far x1 x2 x3 a0 b0) := by
  obtain ⟨d, rfl⟩ := jd_succ hd
  refine jt_eq (bq_X11_far E d x1 x2 x3 a0 b0) ?_
  refine jt_eI (eq_X11_isLand E d (jd_le hd rfl) x1 a0 b0) ?_
  have h1136_ := f_X11_isLand_eq a0 b0 x1
  have h1137_ := f_X11_within_eq a0 b0 x1 0 15
  refine jt_ite (fun c1138_ => ?_) (fun c1138_ => ?_)
  ·
    exact cp_X11_far_29 E d hd x1 x2 x3 a0 b0 hv0 a0 hv0 (jfr_rf _ _) (show ((((((x1 < 0 ∨ 15 < x1) ∨ x2 < 0) ∨ 15 < x2) ∨ x1 = x2) ∨ x3 < 0) ∨ 99 < x3) from by omega) (jfr_rf _ _)
  ·
    refine jt_eI (eq_X11_isLand E d (jd_le hd rfl) x2 a0 b0) ?_
    have h1139_ := f_X11_isLand_eq a0 b0 x2
    have h1140_ := f_X11_within_eq a0 b0 x2 0 15
    refine jt_ite (fun c1141_ => ?_) (fun c1141_ => ?_)
    ·
      exact cp_X11_far_29 E d hd x1 x2 x3 a0 b0 hv0 a0 hv0 (jfr_rf _ _) (show ((((((x1 < 0 ∨ 15 < x1) ∨ x2 < 0) ∨ 15 < x2) ∨ x1 = x2) ∨ x3 < 0) ∨ 99 < x3) from by omega) (jfr_rf _ _)
    ·
      refine jt_ite (fun c1142_ => ?_) (fun c1142_ => ?_)
      ·
        exact cp_X11_far_29 E d hd x1 x2 x3 a0 b0 hv0 a0 hv0 (jfr_rf _ _) (show ((((((x1 < 0 ∨ 15 < x1) ∨ x2 < 0) ∨ 15 < x2) ∨ x1 = x2) ∨ x3 < 0) ∨ 99 < x3) from by omega) (jfr_rf _ _)
      ·
        refine jt_eI (eq_X11_within E d (jd_le hd rfl) x3 0 99 a0 b0) ?_
        have h1143_ := f_X11_within_eq a0 b0 x3 0 99
        refine jt_ite (fun c1144_ => ?_) (fun c1144_ => ?_)
        ·
          exact cp_X11_far_29 E d hd x1 x2 x3 a0 b0 hv0 a0 hv0 (jfr_rf _ _) (show ((((((x1 < 0 ∨ 15 < x1) ∨ x2 < 0) ∨ 15 < x2) ∨ x1 = x2) ∨ x3 < 0) ∨ 99 < x3) from by omega) (jfr_rf _ _)
        ·
          exact cp_X11_far_31 E d hd x1 x2 x3 a0 b0 hv0 x1 x2 x3 a0 hv0 (jfr_rf _ _) (show 0 ≤ x1 from by omega) (show x1 ≤ 15 from by omega) (show 0 ≤ x2 from by omega) (show x2 ≤ 15 from by omega) (show 0 ≤ x3 from by omega) (show x3 ≤ 99 from by omega) (show x1 = x1 from by omega) (show x2 = x2 from by omega) (show x3 = x3 from by omega) (show ((((((0 ≤ x1 ∧ x1 ≤ 15) ∧ 0 ≤ x2) ∧ x2 ≤ 15) ∧ ¬ x1 = x2) ∧ 0 ≤ x3) ∧ x3 ≤ 99) from by omega) (jfr_rf _ _)
def jW_X8_append : List (Nat × Nat) := [(2, 1), (3, 9999)]
abbrev jQ_X8_append (x1 : Int) (a0 b0 : Nat → Nat → Int) : List jxV → (Nat → Nat → Int) → (Nat → Nat → Int) → Prop := rV (fun a b => (iv a) ∧ (jfr jW_X8_append a0 a) ∧ (b0 = b) ∧ ((a0 2 1 ≤ 196 → a 2 1 = (a0 2 1) + 4)) ∧ (a0 2 1 ≤ 196 → APP (a0 3) (a 3) (a0 2 1) x1 (a0 2 1 + 4)))
theorem cp_X8_append_3 (E : jxE) (d : Nat) (hd : Nat.ble 1 (d + 1) = true) (x1 : Int) (a0 b0 : Nat → Nat → Int) (hv0 : iv a0) : ∀ n : Nat, (∀ (y1 y2 : Int) (a : Nat → Nat → Int), (((y2 + 8) * 1) + 0).toNat ≤ n → iv a → jfr jW_X8_append a0 a → 0 ≤ y2 → y2 ≤ 24 → 1 ≤ a 2 1 → (a0 2 1 ≤ 196 → (8 * (a 2 1)) + y2 = (8 * (a0 2 1)) + 32) → 0 ≤ y2 → (y1 = x1) → (a0 2 1 ≤ 196 → APP (a0 3) (a 3) (a0 2 1) x1 (a 2 1)) → jt (jxX E d 119 42 [some (.inr (.inr (.inl 2))), some (.inl y1), some (.inl y2)] [] (jxSH, a, b0)) (jQ_X8_append x1 a0 b0)) ∧ (∀ (y1 y2 : Int) (a : Nat → Nat → Int), (((y2 + 8) * 1) + 0).toNat ≤ n → iv a → jfr jW_X8_append a0 a → 0 - 8 ≤ y2 → y2 ≤ 24 → (a0 2 1 ≤ 196 → (8 * (a 2 1)) + y2 = (8 * (a0 2 1)) + 24) → (y1 = x1) → (a0 2 1 ≤ 196 → APP (a0 3) (a 3) (a0 2 1) x1 (a 2 1)) → jt (jxX E d 119 3 [some (.inr (.inr (.inl 2))), some (.inl y1), some (.inl y2)] [] (jxSH, a, b0)) (jQ_X8_append x1 a0 b0)) := by
  refine jx_ind fun n ih => ?_
  have ih42 : ∀ (y1 y2 : Int) (a : Nat → Nat → Int), (((y2 + 8) * 1) + 0).toNat < n → iv a → jfr jW_X8_append a0 a → 0 ≤ y2 → y2 ≤ 24 → 1 ≤ a 2 1 → (a0 2 1 ≤ 196 → (8 * (a 2 1)) + y2 = (8 * (a0 2 1)) + 32) → 0 ≤ y2 → (y1 = x1) → (a0 2 1 ≤ 196 → APP (a0 3) (a 3) (a0 2 1) x1 (a 2 1)) → jt (jxX E d 119 42 [some (.inr (.inr (.inl 2))), some (.inl y1), some (.inl y2)] [] (jxSH, a, b0)) (jQ_X8_append x1 a0 b0) := fun y1 y2 a hlt i0 i1 i2 i3 i4 i5 i6 i7 i8 => (ih _ hlt).1 y1 y2 a (Nat.le_refl _) i0 i1 i2 i3 i4 i5 i6 i7 i8
  have ih3 : ∀ (y1 y2 : Int) (a : Nat → Nat → Int), (((y2 + 8) * 1) + 0).toNat < n → iv a → jfr jW_X8_append a0 a → 0 - 8 ≤ y2 → y2 ≤ 24 → (a0 2 1 ≤ 196 → (8 * (a 2 1)) + y2 = (8 * (a0 2 1)) + 24) → (y1 = x1) → (a0 2 1 ≤ 196 → APP (a0 3) (a 3) (a0 2 1) x1 (a 2 1)) → jt (jxX E d 119 3 [some (.inr (.inr (.inl 2))), some (.inl y1), some (.inl y2)] [] (jxSH, a, b0)) (jQ_X8_append x1 a0 b0) := fun y1 y2 a hlt i0 i1 i2 i3 i4 i5 i6 => (ih _ hlt).2 y1 y2 a (Nat.le_refl _) i0 i1 i2 i3 i4 i5 i6
  have hc42 : ∀ (y1 y2 : Int) (a : Nat → Nat → Int), (((y2 + 8) * 1) + 0).toNat ≤ n → iv a → jfr jW_X8_append a0 a → 0 ≤ y2 → y2 ≤ 24 → 1 ≤ a 2 1 → (a0 2 1 ≤ 196 → (8 * (a 2 1)) + y2 = (8 * (a0 2 1)) + 32) → 0 ≤ y2 → (y1 = x1) → (a0 2 1 ≤ 196 → APP (a0 3) (a 3) (a0 2 1) x1 (a 2 1)) → jt (jxX E d 119 42 [some (.inr (.inr (.inl 2))), some (.inl y1), some (.inl y2)] [] (jxSH, a, b0)) (jQ_X8_append x1 a0 b0) := by
    intro y1 y2 a hm hv hf hi0 hi1 hi2 hi3 hi4 hy1 hap
    refine jt_eq (bq_X8_append_42 E d y1 y2 a b0) ?_
    have h1145_ := iv_get hv (k := 2) (j := 1) (l := 0) (u := 200) rfl
    have h1146_ := iv_get hv0 (k := 2) (j := 1) (l := 0) (u := 200) rfl
    have h1147_ : jxw (y2 + (-8)) = y2 + (-8) := jxw_id (by omega) (by omega)
    exact ih3 y1 (jxw (y2 + (-8))) a (show ((((jxw (y2 + (-8))) + 8) * 1) + 0).toNat < n from by omega) hv hf (show 0 - 8 ≤ jxw (y2 + (-8)) from by omega) (show jxw (y2 + (-8)) ≤ 24 from by omega) (show (a0 2 1 ≤ 196 → (8 * (a 2 1)) + (jxw (y2 + (-8))) = (8 * (a0 2 1)) + 24) from by omega) (by first | rfl | assumption) hap
  have hc3 : ∀ (y1 y2 : Int) (a : Nat → Nat → Int), (((y2 + 8) * 1) + 0).toNat ≤ n → iv a → jfr jW_X8_append a0 a → 0 - 8 ≤ y2 → y2 ≤ 24 → (a0 2 1 ≤ 196 → (8 * (a 2 1)) + y2 = (8 * (a0 2 1)) + 24) → (y1 = x1) → (a0 2 1 ≤ 196 → APP (a0 3) (a 3) (a0 2 1) x1 (a 2 1)) → jt (jxX E d 119 3 [some (.inr (.inr (.inl 2))), some (.inl y1), some (.inl y2)] [] (jxSH, a, b0)) (jQ_X8_append x1 a0 b0) := by
    intro y1 y2 a hm hv hf hi0 hi1 hi2 hy1 hap
    refine jt_eq (bq_X8_append_3 E d y1 y2 a b0) ?_
    have h1148_ := iv_get hv0 (k := 2) (j := 1) (l := 0) (u := 200) rfl
    have h1149_ := iv_get hv (k := 2) (j := 1) (l := 0) (u := 200) rfl
    refine jt_ite (fun c1150_ => ?_) (fun c1150_ => ?_)
    ·
      exact jt_rV ⟨hv, hf, rfl, (show (a0 2 1 ≤ 196 → a 2 1 = (a0 2 1) + 4) from by omega), (fun h => by rw [show a0 2 1 + 4 = a 2 1 from by omega]; exact hap h)⟩
    ·
      refine jt_ite (fun c1151_ => ?_) (fun c1151_ => ?_)
      ·
        refine jt_grd (by omega) ?_
        have h1153_ : jxw ((a 2 1) + 1) = (a 2 1) + 1 := jxw_id (by omega) (by omega)
        have hv1152_ : iv (jxu a 2 1 (jxw ((a 2 1) + 1))) := iv_put hv (l := 0) (u := 200) rfl (by omega) (by omega)
        have h1155_ := jxshr_b y1 y2
        have h1156_ := jxand_r (jxshr y1 y2) 255 (by decide) (by decide)
        have hv1154_ : iv (jxu (jxu a 2 1 (jxw ((a 2 1) + 1))) 3 ((a 2 1).toNat) (jxand (jxshr y1 y2) 255)) := iv_put hv1152_ (l := 0) (u := 255) rfl (by omega) (by omega)
        have hf1157_ : jfr jW_X8_append a0 (jxu a 2 1 (jxw ((a 2 1) + 1))) := jfr_put hf rfl
        have hf1158_ : jfr jW_X8_append a0 (jxu (jxu a 2 1 (jxw ((a 2 1) + 1))) 3 ((a 2 1).toNat) (jxand (jxshr y1 y2) 255)) := jfr_put hf1157_ rfl
        exact hc42 y1 y2 (jxu (jxu a 2 1 (jxw ((a 2 1) + 1))) 3 ((a 2 1).toNat) (jxand (jxshr y1 y2) 255)) (show (((y2 + 8) * 1) + 0).toNat ≤ n from by omega) hv1154_ hf1158_ (show 0 ≤ y2 from by omega) (show y2 ≤ 24 from by omega) (show 1 ≤ jxw ((a 2 1) + 1) from by omega) (show (a0 2 1 ≤ 196 → (8 * (jxw ((a 2 1) + 1))) + y2 = (8 * (a0 2 1)) + 32) from by omega) (show 0 ≤ y2 from by omega) (by first | rfl | assumption) (fun h => by rw [show jxu (jxu a 2 1 (jxw ((a 2 1) + 1))) 3 ((a 2 1).toNat) (jxand (jxshr y1 y2) 255) 2 1 = a 2 1 + 1 from (show jxw ((a 2 1) + 1) = _ from by omega)]; exact APP_s (s := y2) (hap h) (UP_put (fun _ => rfl)) (by omega) (by omega) (by omega) (by rw [← hy1]))
      ·
        exact hc42 y1 y2 a (show (((y2 + 8) * 1) + 0).toNat ≤ n from by omega) hv hf (show 0 ≤ y2 from by omega) (show y2 ≤ 24 from by omega) (show 1 ≤ a 2 1 from by omega) (show (a0 2 1 ≤ 196 → (8 * (a 2 1)) + y2 = (8 * (a0 2 1)) + 32) from by omega) (show 0 ≤ y2 from by omega) (by first | rfl | assumption) (fun h => absurd h (by omega))
  exact ⟨hc42, hc3⟩
theorem sp_X8_append (E : jxE) (d : Nat) (hd : Nat.ble 1 d = true) (x1 : Int) (a0 b0 : Nat → Nat → Int) (hv0 : iv a0) : jt (jxC E d 119 [.inr (.inr (.inl 2)), .inl x1] (jxSH, a0, b0)) (jQ_X8_append x1 a0 b0) := by
  obtain ⟨d, rfl⟩ := jd_succ hd
  refine jt_eq (bq_X8_append E d x1 a0 b0) ?_
  have h1159_ := iv_get hv0 (k := 2) (j := 1) (l := 0) (u := 200) rfl
  exact (cp_X8_append_3 E d hd x1 a0 b0 hv0 _).2 x1 24 a0 (Nat.le_refl _) hv0 (jfr_rf _ _) (show 0 - 8 ≤ 24 from by omega) (show 24 ≤ 24 from by omega) (show (a0 2 1 ≤ 196 → (8 * (a0 2 1)) + 24 = (8 * (a0 2 1)) + 24) from by omega) (by first | rfl | assumption) (fun _ => APP_0 _ _ _)
def jW_X11_feed : List (Nat × Nat) := [(2, 1), (3, 9999)]
abbrev jQ_X11_feed (x1 x2 x3 x4 x5 : Int) (a0 b0 : Nat → Nat → Int) : List jxV → (Nat → Nat → Int) → (Nat → Nat → Int) → Prop := rI (fun r a b => (iv a) ∧ (jfr jW_X11_feed a0 a) ∧ (b0 = b) ∧ ((((a0 2 1 ≤ 180 ∧ r = (a0 2 1) + 20) ∧ a 2 1 = (a0 2 1) + 20) ∨ ((180 < a0 2 1 ∧ r = 0 - 1) ∧ a 2 1 = a0 2 1))) ∧ (a0 2 1 ≤ 180 → FED (a0 3) (a 3) (a0 2 1) x1 x2 x3 x4 x5) ∧ (180 < a0 2 1 → ∀ j, a 3 j = a0 3 j))
theorem cp_X11_feed_38 (E : jxE) (d : Nat) (hd : Nat.ble 2 (d + 1) = true) (x1 x2 x3 x4 x5 : Int) (a0 b0 : Nat → Nat → Int) (hv0 : iv a0) : ∀ (y4 y5 : Int) (a : Nat → Nat → Int), iv a → jfr jW_X11_feed a0 a → a 2 1 = (a0 2 1) + 12 → a0 2 1 ≤ 180 → (∃ g1 g2 : Nat → Int, APP (a0 3) g1 (a0 2 1) x1 ((a0 2 1) + 4) ∧ APP g1 g2 ((a0 2 1) + 4) x2 ((a0 2 1) + 8) ∧ APP g2 (a 3) ((a0 2 1) + 8) x3 ((a0 2 1) + 12)) → (y4 = x4) → (y5 = x5) → jt (jxX E d 160 38 [some (.inr (.inr (.inl 0))), none, none, none, some (.inl y4), some (.inl y5)] [] (jxSH, a, b0)) (jQ_X11_feed x1 x2 x3 x4 x5 a0 b0) := by
  intro y4 y5 a hv hf hi0 hi1 hfd hy4 hy5
  refine jt_eq (bq_X11_feed_38 E d y4 y5 a b0) ?_
  have h1160_ := iv_get hv (k := 2) (j := 1) (l := 0) (u := 200) rfl
  have h1161_ := iv_get hv0 (k := 2) (j := 1) (l := 0) (u := 200) rfl
  refine jt_bV (sp_X8_append E d (jd_le hd rfl) y4 a b0 hv) (fun a1162_ b1162_ h1162_ => ?_)
  obtain ⟨hv1162_, hf1162_, rfl, hq1162_0, hq1162_1⟩ := h1162_
  have h1163_ := iv_get hv1162_ (k := 2) (j := 1) (l := 0) (u := 200) rfl
  refine jt_bV (sp_X8_append E d (jd_le hd rfl) y5 a1162_ b0 hv1162_) (fun a1164_ b1164_ h1164_ => ?_)
  obtain ⟨hv1164_, hf1164_, rfl, hq1164_0, hq1164_1⟩ := h1164_
  have h1165_ := iv_get hv1164_ (k := 2) (j := 1) (l := 0) (u := 200) rfl
  refine jt_eI (eq_X8_length E d (jd_le hd rfl) a1164_ b0) ?_
  have hf1166_ : jfr jW_X11_feed a0 a1162_ := jfr_tr hf hf1162_ rfl
  have hf1167_ : jfr jW_X11_feed a0 a1164_ := jfr_tr hf1166_ hf1164_ rfl
  have h1168_ := f_X8_length_eq a1164_ b0
  exact jt_rI ⟨hv1164_, hf1167_, rfl, (show (((a0 2 1 ≤ 180 ∧ f_X8_length a1164_ b0 = (a0 2 1) + 20) ∧ a1164_ 2 1 = (a0 2 1) + 20) ∨ ((180 < a0 2 1 ∧ f_X8_length a1164_ b0 = 0 - 1) ∧ a1164_ 2 1 = a0 2 1)) from by omega), (fun _ => by obtain ⟨g1, g2, p1, p2, p3⟩ := hfd; subst hy4; subst hy5; exact ⟨g1, g2, (a 3), (a1162_ 3), p1, p2, p3, APP_c (hq1162_1 (by omega)) (by omega) (by omega), APP_c (hq1164_1 (by omega)) (by omega) (by omega)⟩), (fun h => absurd h (by omega))⟩
theorem sp_X11_feed (E : jxE) (d : Nat) (hd : Nat.ble 2 d = true) (x1 x2 x3 x4 x5 : Int) (a0 b0 : Nat → Nat → Int) (hv0 : iv a0) : jt (jxC E d 160 [.inr (.inr (.inl 0)), .inl x1, .inl x2, .inl x3, .inl x4, .inl x5] (jxSH, a0, b0)) (jQ_X11_feed x1 x2 x3 x4 x5 a0 b0) := by
  obtain ⟨d, rfl⟩ := jd_succ hd
  refine jt_eq (bq_X11_feed E d x1 x2 x3 x4 x5 a0 b0) ?_
  refine jt_eI (eq_X8_hasRoom E d (jd_le hd rfl) 20 a0 b0) ?_
  have h1169_ := f_X8_hasRoom_eq a0 b0 20
  have h1170_ := iv_get hv0 (k := 2) (j := 1) (l := 0) (u := 200) rfl
  have h1171_ : jxw (200 - (a0 2 1)) = 200 - (a0 2 1) := jxw_id (by omega) (by omega)
  refine jt_ite (fun c1172_ => ?_) (fun c1172_ => ?_)
  ·
    exact jt_rI ⟨hv0, (jfr_rf _ _), rfl, (show (((a0 2 1 ≤ 180 ∧ (-1) = (a0 2 1) + 20) ∧ a0 2 1 = (a0 2 1) + 20) ∨ ((180 < a0 2 1 ∧ (-1) = 0 - 1) ∧ a0 2 1 = a0 2 1)) from by omega), (fun h => absurd h (by omega)), (fun _ _ => rfl)⟩
  ·
    refine jt_bV (sp_X8_append E d (jd_le hd rfl) x1 a0 b0 hv0) (fun a1173_ b1173_ h1173_ => ?_)
    obtain ⟨hv1173_, hf1173_, rfl, hq1173_0, hq1173_1⟩ := h1173_
    have h1174_ := iv_get hv1173_ (k := 2) (j := 1) (l := 0) (u := 200) rfl
    refine jt_bV (sp_X8_append E d (jd_le hd rfl) x2 a1173_ b0 hv1173_) (fun a1175_ b1175_ h1175_ => ?_)
    obtain ⟨hv1175_, hf1175_, rfl, hq1175_0, hq1175_1⟩ := h1175_
    have h1176_ := iv_get hv1175_ (k := 2) (j := 1) (l := 0) (u := 200) rfl
    refine jt_bV (sp_X8_append E d (jd_le hd rfl) x3 a1175_ b0 hv1175_) (fun a1177_ b1177_ h1177_ => ?_)
    obtain ⟨hv1177_, hf1177_, rfl, hq1177_0, hq1177_1⟩ := h1177_
    have h1178_ := iv_get hv1177_ (k := 2) (j := 1) (l := 0) (u := 200) rfl
    have hf1179_ : jfr jW_X11_feed a0 a1173_ := jfr_tr (jfr_rf _ _) hf1173_ rfl
    have hf1180_ : jfr jW_X11_feed a0 a1175_ := jfr_tr hf1179_ hf1175_ rfl
    have hf1181_ : jfr jW_X11_feed a0 a1177_ := jfr_tr hf1180_ hf1177_ rfl
    exact cp_X11_feed_38 E d hd x1 x2 x3 x4 x5 a0 b0 hv0 x4 x5 a1177_ hv1177_ hf1181_ (show a1177_ 2 1 = (a0 2 1) + 12 from by omega) (show a0 2 1 ≤ 180 from by omega) ⟨_, _, hq1173_1 (by omega), APP_c (hq1175_1 (by omega)) (by omega) (by omega), APP_c (hq1177_1 (by omega)) (by omega) (by omega)⟩ rfl rfl
def jW_X11_gatherAskers : List (Nat × Nat) := [(77, 9999)]
abbrev jQ_X11_gatherAskers (a0 b0 : Nat → Nat → Int) : List jxV → (Nat → Nat → Int) → (Nat → Nat → Int) → Prop := rI (fun r a b => (iv a) ∧ (jfr jW_X11_gatherAskers a0 a) ∧ (0 ≤ r) ∧ (r ≤ 8) ∧ ((a0 0 9 = 0 → r = 0)))
theorem cp_X11_gatherAskers_4 (E : jxE) (d : Nat) (hd : Nat.ble 4 (d + 1) = true) (a0 b0 : Nat → Nat → Int) (hv0 : iv a0) : ∀ n : Nat, (∀ (y1 y2 : Int) (a b : Nat → Nat → Int), (((8 - y2) * 1) + 0).toNat ≤ n → iv a → jfr jW_X11_gatherAskers a0 a → 0 ≤ y1 → y1 ≤ 7 → 0 ≤ y2 → y2 ≤ 7 → 1 ≤ a 0 9 → y1 ≤ y2 → 1 ≤ a0 0 9 → jt (jxX E d 169 37 [some (.inr (.inr (.inl 0))), some (.inl y1), some (.inl y2)] [] (jxSH, a, b)) (jQ_X11_gatherAskers a0 b0)) ∧ (∀ (y1 y2 : Int) (a b : Nat → Nat → Int), (((8 - y2) * 1) + 0).toNat ≤ n → iv a → jfr jW_X11_gatherAskers a0 a → 0 ≤ y1 → y1 ≤ 8 → 0 ≤ y2 → y2 ≤ 8 → y1 ≤ y2 → (a0 0 9 = 0 → y1 = 0) → jt (jxX E d 169 4 [some (.inr (.inr (.inl 0))), some (.inl y1), some (.inl y2)] [] (jxSH, a, b)) (jQ_X11_gatherAskers a0 b0)) := by
  refine jx_ind fun n ih => ?_
  have ih37 : ∀ (y1 y2 : Int) (a b : Nat → Nat → Int), (((8 - y2) * 1) + 0).toNat < n → iv a → jfr jW_X11_gatherAskers a0 a → 0 ≤ y1 → y1 ≤ 7 → 0 ≤ y2 → y2 ≤ 7 → 1 ≤ a 0 9 → y1 ≤ y2 → 1 ≤ a0 0 9 → jt (jxX E d 169 37 [some (.inr (.inr (.inl 0))), some (.inl y1), some (.inl y2)] [] (jxSH, a, b)) (jQ_X11_gatherAskers a0 b0) := fun y1 y2 a b hlt i0 i1 i2 i3 i4 i5 i6 i7 i8 => (ih _ hlt).1 y1 y2 a b (Nat.le_refl _) i0 i1 i2 i3 i4 i5 i6 i7 i8
  have ih4 : ∀ (y1 y2 : Int) (a b : Nat → Nat → Int), (((8 - y2) * 1) + 0).toNat < n → iv a → jfr jW_X11_gatherAskers a0 a → 0 ≤ y1 → y1 ≤ 8 → 0 ≤ y2 → y2 ≤ 8 → y1 ≤ y2 → (a0 0 9 = 0 → y1 = 0) → jt (jxX E d 169 4 [some (.inr (.inr (.inl 0))), some (.inl y1), some (.inl y2)] [] (jxSH, a, b)) (jQ_X11_gatherAskers a0 b0) := fun y1 y2 a b hlt i0 i1 i2 i3 i4 i5 i6 i7 => (ih _ hlt).2 y1 y2 a b (Nat.le_refl _) i0 i1 i2 i3 i4 i5 i6 i7
  have hc37 : ∀ (y1 y2 : Int) (a b : Nat → Nat → Int), (((8 - y2) * 1) + 0).toNat ≤ n → iv a → jfr jW_X11_gatherAskers a0 a → 0 ≤ y1 → y1 ≤ 7 → 0 ≤ y2 → y2 ≤ 7 → 1 ≤ a 0 9 → y1 ≤ y2 → 1 ≤ a0 0 9 → jt (jxX E d 169 37 [some (.inr (.inr (.inl 0))), some (.inl y1), some (.inl y2)] [] (jxSH, a, b)) (jQ_X11_gatherAskers a0 b0) := by
    intro y1 y2 a b hm hv hf hi0 hi1 hi2 hi3 hi4 hi5 hi6
    refine jt_eq (bq_X11_gatherAskers_37 E d y1 y2 a b) ?_
    have h1182_ := iv_get hv (k := 0) (j := 9) (l := 0) (u := 8) rfl
    have h1183_ : a 0 9 = a0 0 9 := hf 0 9 rfl
    have h1184_ := iv_get hv0 (k := 0) (j := 9) (l := 0) (u := 8) rfl
    refine jt_grd (by omega) ?_
    refine jt_bJ (sp_X0_reachedBy E d (jd_le hd rfl) (a 76 (y2.toNat)) a b hv) (fun r1185_ a1185_ b1185_ h1185_ => ?_)
    obtain ⟨rfl, rfl, hq1185_0⟩ := h1185_
    refine jt_grd (by omega) ?_
    have h1186_ : jxw (y1 + 1) = y1 + 1 := jxw_id (by omega) (by omega)
    have h1187_ : jxw (y2 + 1) = y2 + 1 := jxw_id (by omega) (by omega)
    exact ih4 (jxw (y1 + 1)) (jxw (y2 + 1)) a (jxu b 78 (y1.toNat) r1185_) (show (((8 - (jxw (y2 + 1))) * 1) + 0).toNat < n from by omega) hv hf (show 0 ≤ jxw (y1 + 1) from by omega) (show jxw (y1 + 1) ≤ 8 from by omega) (show 0 ≤ jxw (y2 + 1) from by omega) (show jxw (y2 + 1) ≤ 8 from by omega) (show jxw (y1 + 1) ≤ jxw (y2 + 1) from by omega) (show (a0 0 9 = 0 → jxw (y1 + 1) = 0) from by omega)
  have hc4 : ∀ (y1 y2 : Int) (a b : Nat → Nat → Int), (((8 - y2) * 1) + 0).toNat ≤ n → iv a → jfr jW_X11_gatherAskers a0 a → 0 ≤ y1 → y1 ≤ 8 → 0 ≤ y2 → y2 ≤ 8 → y1 ≤ y2 → (a0 0 9 = 0 → y1 = 0) → jt (jxX E d 169 4 [some (.inr (.inr (.inl 0))), some (.inl y1), some (.inl y2)] [] (jxSH, a, b)) (jQ_X11_gatherAskers a0 b0) := by
    intro y1 y2 a b hm hv hf hi0 hi1 hi2 hi3 hi4 hi5
    refine jt_eq (bq_X11_gatherAskers_4 E d y1 y2 a b) ?_
    have h1188_ := iv_get hv0 (k := 0) (j := 9) (l := 0) (u := 8) rfl
    have h1189_ := iv_get hv (k := 0) (j := 9) (l := 0) (u := 8) rfl
    have h1190_ : a 0 9 = a0 0 9 := hf 0 9 rfl
    refine jt_ite (fun c1191_ => ?_) (fun c1191_ => ?_)
    ·
      refine jt_grd (by omega) ?_
      refine jt_eI (eq_X11_mayAsk E d (jd_le hd rfl) (a 76 (y2.toNat)) a b) ?_
      have h1192_ : a 76 (y2.toNat) = a0 76 (y2.toNat) := hf 76 (y2.toNat) rfl
      have h1193_ := f_X11_mayAsk_bool a b (a 76 (y2.toNat))
      refine jt_ite (fun c1194_ => ?_) (fun c1194_ => ?_)
      ·
        have h1195_ : jxw (y2 + 1) = y2 + 1 := jxw_id (by omega) (by omega)
        exact ih4 y1 (jxw (y2 + 1)) a b (show (((8 - (jxw (y2 + 1))) * 1) + 0).toNat < n from by omega) hv hf (show 0 ≤ y1 from by omega) (show y1 ≤ 8 from by omega) (show 0 ≤ jxw (y2 + 1) from by omega) (show jxw (y2 + 1) ≤ 8 from by omega) (show y1 ≤ jxw (y2 + 1) from by omega) (show (a0 0 9 = 0 → y1 = 0) from by omega)
      ·
        refine jt_grd (by omega) ?_
        refine jt_grd (by omega) ?_
        have hv1196_ : iv (jxu a 77 (y1.toNat) (a 76 (y2.toNat))) := iv_putf hv rfl
        have hf1197_ : jfr jW_X11_gatherAskers a0 (jxu a 77 (y1.toNat) (a 76 (y2.toNat))) := jfr_put hf rfl
        exact hc37 y1 y2 (jxu a 77 (y1.toNat) (a 76 (y2.toNat))) b (show (((8 - y2) * 1) + 0).toNat ≤ n from by omega) hv1196_ hf1197_ (show 0 ≤ y1 from by omega) (show y1 ≤ 7 from by omega) (show 0 ≤ y2 from by omega) (show y2 ≤ 7 from by omega) (show 1 ≤ a 0 9 from by omega) (show y1 ≤ y2 from by omega) (show 1 ≤ a0 0 9 from by omega)
    ·
      exact jt_rI ⟨hv, hf, (show 0 ≤ y1 from by omega), (show y1 ≤ 8 from by omega), (show (a0 0 9 = 0 → y1 = 0) from by omega)⟩
  exact ⟨hc37, hc4⟩
theorem sp_X11_gatherAskers (E : jxE) (d : Nat) (hd : Nat.ble 4 d = true) (a0 b0 : Nat → Nat → Int) (hv0 : iv a0) : jt (jxC E d 169 [.inr (.inr (.inl 0))] (jxSH, a0, b0)) (jQ_X11_gatherAskers a0 b0) := by
  obtain ⟨d, rfl⟩ := jd_succ hd
  refine jt_eq (bq_X11_gatherAskers E d a0 b0) ?_
  have h1198_ := iv_get hv0 (k := 0) (j := 9) (l := 0) (u := 8) rfl
  exact (cp_X11_gatherAskers_4 E d hd a0 b0 hv0 _).2 0 0 a0 b0 (Nat.le_refl _) hv0 (jfr_rf _ _) (show 0 ≤ 0 from by omega) (show 0 ≤ 8 from by omega) (show 0 ≤ 0 from by omega) (show 0 ≤ 8 from by omega) (show 0 ≤ 0 from by omega) (show (a0 0 9 = 0 → 0 = 0) from by omega)
abbrev jQ_X2_allow (x1 x2 x3 : Int) (a0 b0 : Nat → Nat → Int) : List jxV → (Nat → Nat → Int) → (Nat → Nat → Int) → Prop := rV (fun a b => (a0 = a) ∧ (0 ≤ x1 → x1 ≤ 7 → b = jxu b0 82 x1.toNat (jxwl ((jxwl ((jxwl (x2 * 1048576)) - x3)) - 1099511627776))))
theorem cp_X2_allow_29 (E : jxE) (d : Nat) (hd : Nat.ble 2 (d + 1) = true) (x1 x2 x3 : Int) (a0 b0 : Nat → Nat → Int) (hv0 : iv a0) : ∀ (b : Nat → Nat → Int), (0 ≤ x1 → x1 ≤ 7 → b = jxu b0 82 x1.toNat (jxwl ((jxwl ((jxwl (x2 * 1048576)) - x3)) - 1099511627776))) → jt (jxX E d 43 29 [none, none, none, none] [] (jxSH, a0, b)) (jQ_X2_allow x1 x2 x3 a0 b0) := by
  intro b hb
  refine jt_eq (bq_X2_allow_29 E d a0 b) ?_
  exact jt_rV ⟨rfl, hb⟩
theorem sp_X2_allow (E : jxE) (d : Nat) (hd : Nat.ble 2 d = true) (x1 x2 x3 : Int) (a0 b0 : Nat → Nat → Int) (hv0 : iv a0) : jt (jxC E d 43 [.inr (.inr (.inl 79)), .inl x1, .inl x2, .inl x3] (jxSH, a0, b0)) (jQ_X2_allow x1 x2 x3 a0 b0) := by
  obtain ⟨d, rfl⟩ := jd_succ hd
  refine jt_eq (bq_X2_allow E d x1 x2 x3 a0 b0) ?_
  refine jt_eI (eq_X11_within E d (jd_le hd rfl) x1 0 7 a0 b0) ?_
  have h1199_ := f_X11_within_eq a0 b0 x1 0 7
  refine jt_ite (fun c1200_ => ?_) (fun c1200_ => ?_)
  ·
    exact cp_X2_allow_29 E d hd x1 x2 x3 a0 b0 hv0 b0 (by first | exact (fun _ _ => rfl) | exact (fun h1 h2 => absurd (by omega : False) id))
  ·
    refine jt_grd (by omega) ?_
    exact cp_X2_allow_29 E d hd x1 x2 x3 a0 b0 hv0 (jxu b0 82 (x1.toNat) (jxwl ((jxwl ((jxwl (x2 * 1048576)) - x3)) - 1099511627776))) (by first | exact (fun _ _ => rfl) | exact (fun h1 h2 => absurd (by omega : False) id))
abbrev jQ_X2_forbidAll (a0 b0 : Nat → Nat → Int) : List jxV → (Nat → Nat → Int) → (Nat → Nat → Int) → Prop := rV (fun a b => (a0 = a) ∧ (∀ i : Nat, i < 8 → b 82 i = IMPO) ∧ (jbf [82] b0 b))
theorem cp_X2_forbidAll_2 (E : jxE) (d : Nat) (hd : Nat.ble 1 (d + 1) = true) (a0 b0 : Nat → Nat → Int) (hv0 : iv a0) : ∀ n : Nat, (∀ (y1 : Int) (b : Nat → Nat → Int), (((8 - y1) * 1) + 0).toNat ≤ n → 0 ≤ y1 → y1 ≤ 8 → 0 ≤ y1 → y1 ≤ 8 → (∀ i : Nat, (i : Int) < y1 → b 82 i = IMPO) → (jbf [82] b0 b) → jt (jxX E d 42 2 [some (.inr (.inr (.inl 79))), some (.inl y1)] [] (jxSH, a0, b)) (jQ_X2_forbidAll a0 b0)) := by
  refine jx_ind fun n ih => ?_
  have ih2 : ∀ (y1 : Int) (b : Nat → Nat → Int), (((8 - y1) * 1) + 0).toNat < n → 0 ≤ y1 → y1 ≤ 8 → 0 ≤ y1 → y1 ≤ 8 → (∀ i : Nat, (i : Int) < y1 → b 82 i = IMPO) → (jbf [82] b0 b) → jt (jxX E d 42 2 [some (.inr (.inr (.inl 79))), some (.inl y1)] [] (jxSH, a0, b)) (jQ_X2_forbidAll a0 b0) := fun y1 b hlt i0 i1 i2 i3 i4 i5 => (ih _ hlt) y1 b (Nat.le_refl _) i0 i1 i2 i3 i4 i5
  have hc2 : ∀ (y1 : Int) (b : Nat → Nat → Int), (((8 - y1) * 1) + 0).toNat ≤ n → 0 ≤ y1 → y1 ≤ 8 → 0 ≤ y1 → y1 ≤ 8 → (∀ i : Nat, (i : Int) < y1 → b 82 i = IMPO) → (jbf [82] b0 b) → jt (jxX E d 42 2 [some (.inr (.inr (.inl 79))), some (.inl y1)] [] (jxSH, a0, b)) (jQ_X2_forbidAll a0 b0) := by
    intro y1 b hm hi0 hi1 hi2 hi3 hz hbf
    refine jt_eq (bq_X2_forbidAll_2 E d y1 a0 b) ?_
    refine jt_ite (fun c1201_ => ?_) (fun c1201_ => ?_)
    ·
      refine jt_grd (by omega) ?_
      have h1202_ : jxw (y1 + 1) = y1 + 1 := jxw_id (by omega) (by omega)
      exact ih2 (jxw (y1 + 1)) (jxu b 82 (y1.toNat) 4611686018427387904) (show (((8 - (jxw (y1 + 1))) * 1) + 0).toNat < n from by omega) (show 0 ≤ jxw (y1 + 1) from by omega) (show jxw (y1 + 1) ≤ 8 from by omega) (show 0 ≤ jxw (y1 + 1) from by omega) (show jxw (y1 + 1) ≤ 8 from by omega) (by first | exact (fun i h => absurd h (by omega)) | (intro i h; by_cases e : i = y1.toNat <;> first | (rw [e, jxu_at]; rfl) | (rw [jxu_nj e]; exact hz i (by omega)))) (by first | exact jbf_rf _ _ | exact jbf_put hbf rfl)
    ·
      exact jt_rV ⟨rfl, (fun i h => hz i (by omega)), hbf⟩
  exact hc2
theorem sp_X2_forbidAll (E : jxE) (d : Nat) (hd : Nat.ble 1 d = true) (a0 b0 : Nat → Nat → Int) (hv0 : iv a0) : jt (jxC E d 42 [.inr (.inr (.inl 79))] (jxSH, a0, b0)) (jQ_X2_forbidAll a0 b0) := by
  obtain ⟨d, rfl⟩ := jd_succ hd
  refine jt_eq (bq_X2_forbidAll E d a0 b0) ?_
  exact (cp_X2_forbidAll_2 E d hd a0 b0 hv0 _) 0 b0 (Nat.le_refl _) (show 0 ≤ 0 from by omega) (show 0 ≤ 8 from by omega) (show 0 ≤ 0 from by omega) (show 0 ≤ 8 from by omega) (by first | exact (fun i h => absurd h (by omega)) | (intro i h; by_cases e : i = y1.toNat <;> first | (rw [e, jxu_at]; rfl) | (rw [jxu_nj e]; exact hz i (by omega)))) (by first | exact jbf_rf _ _ | exact jbf_put hbf rfl)
def jWbe : List (Nat × Nat) := [(79, 3)]
def jW_X2_begin : List (Nat × Nat) := [(79, 3)]
abbrev jQ_X2_begin (x1 : Int) (a0 b0 : Nat → Nat → Int) : List jxV → (Nat → Nat → Int) → (Nat → Nat → Int) → Prop := rV (fun a b => (iv a) ∧ (jfr jW_X2_begin a0 a) ∧ (0 ≤ x1 → x1 ≤ 8 → a 79 3 = x1 ∧ ∀ (A : Nat → Nat → Prop) (p : Nat → Nat → Int), DPC A p x1.toNat 0 (b 80) (b 81)) ∧ (∀ i : Nat, i < 8 → b 82 i = IMPO) ∧ (jbf [80, 81, 82] b0 b))
theorem cp_X2_begin_56 (E : jxE) (d : Nat) (hd : Nat.ble 2 (d + 1) = true) (x1 : Int) (a0 b0 : Nat → Nat → Int) (hv0 : iv a0) : ∀ n : Nat, (∀ (y2 : Int) (a b : Nat → Nat → Int), (((8 - y2) * 1) + 0).toNat ≤ n → iv a → jfr jW_X2_begin a0 a → 0 ≤ y2 → y2 ≤ 7 → 1 ≤ a 79 3 → (0 ≤ x1 → x1 ≤ 8 → a 79 3 = x1) → (jbf [80, 81, 82] b0 b) → (b 80 0 = 0 ∧ ∀ s : Nat, 0 < s → s < 256 → b 80 s = IMPO) → 0 ≤ y2 → y2 < a 79 3 → (b 81 0 = SUMN (fun i => 40 * PW i) (y2.toNat + 1)) → jt (jxX E d 41 81 [some (.inr (.inr (.inl 79))), none, some (.inl y2)] [] (jxSH, a, b)) (jQ_X2_begin x1 a0 b0)) ∧ (∀ (y2 : Int) (a b : Nat → Nat → Int), (((8 - y2) * 1) + 0).toNat ≤ n → iv a → jfr jW_X2_begin a0 a → 0 ≤ y2 → y2 ≤ 8 → (0 ≤ x1 → x1 ≤ 8 → a 79 3 = x1) → (jbf [80, 81, 82] b0 b) → (b 80 0 = 0 ∧ ∀ s : Nat, 0 < s → s < 256 → b 80 s = IMPO) → 0 ≤ y2 → y2 ≤ a 79 3 → (b 81 0 = SUMN (fun i => 40 * PW i) y2.toNat) → jt (jxX E d 41 56 [some (.inr (.inr (.inl 79))), none, some (.inl y2)] [] (jxSH, a, b)) (jQ_X2_begin x1 a0 b0)) := by
  refine jx_ind fun n ih => ?_
  have ih81 : ∀ (y2 : Int) (a b : Nat → Nat → Int), (((8 - y2) * 1) + 0).toNat < n → iv a → jfr jW_X2_begin a0 a → 0 ≤ y2 → y2 ≤ 7 → 1 ≤ a 79 3 → (0 ≤ x1 → x1 ≤ 8 → a 79 3 = x1) → (jbf [80, 81, 82] b0 b) → (b 80 0 = 0 ∧ ∀ s : Nat, 0 < s → s < 256 → b 80 s = IMPO) → 0 ≤ y2 → y2 < a 79 3 → (b 81 0 = SUMN (fun i => 40 * PW i) (y2.toNat + 1)) → jt (jxX E d 41 81 [some (.inr (.inr (.inl 79))), none, some (.inl y2)] [] (jxSH, a, b)) (jQ_X2_begin x1 a0 b0) := fun y2 a b hlt i0 i1 i2 i3 i4 i5 i6 i7 i8 i9 i10 => (ih _ hlt).1 y2 a b (Nat.le_refl _) i0 i1 i2 i3 i4 i5 i6 i7 i8 i9 i10
  have ih56 : ∀ (y2 : Int) (a b : Nat → Nat → Int), (((8 - y2) * 1) + 0).toNat < n → iv a → jfr jW_X2_begin a0 a → 0 ≤ y2 → y2 ≤ 8 → (0 ≤ x1 → x1 ≤ 8 → a 79 3 = x1) → (jbf [80, 81, 82] b0 b) → (b 80 0 = 0 ∧ ∀ s : Nat, 0 < s → s < 256 → b 80 s = IMPO) → 0 ≤ y2 → y2 ≤ a 79 3 → (b 81 0 = SUMN (fun i => 40 * PW i) y2.toNat) → jt (jxX E d 41 56 [some (.inr (.inr (.inl 79))), none, some (.inl y2)] [] (jxSH, a, b)) (jQ_X2_begin x1 a0 b0) := fun y2 a b hlt i0 i1 i2 i3 i4 i5 i6 i7 i8 i9 => (ih _ hlt).2 y2 a b (Nat.le_refl _) i0 i1 i2 i3 i4 i5 i6 i7 i8 i9
  have hc81 : ∀ (y2 : Int) (a b : Nat → Nat → Int), (((8 - y2) * 1) + 0).toNat ≤ n → iv a → jfr jW_X2_begin a0 a → 0 ≤ y2 → y2 ≤ 7 → 1 ≤ a 79 3 → (0 ≤ x1 → x1 ≤ 8 → a 79 3 = x1) → (jbf [80, 81, 82] b0 b) → (b 80 0 = 0 ∧ ∀ s : Nat, 0 < s → s < 256 → b 80 s = IMPO) → 0 ≤ y2 → y2 < a 79 3 → (b 81 0 = SUMN (fun i => 40 * PW i) (y2.toNat + 1)) → jt (jxX E d 41 81 [some (.inr (.inr (.inl 79))), none, some (.inl y2)] [] (jxSH, a, b)) (jQ_X2_begin x1 a0 b0) := by
    intro y2 a b hm hv hf hi0 hi1 hi2 hm hbf hc0 hi6 hi7 ho0
    refine jt_eq (bq_X2_begin_81 E d y2 a b) ?_
    have h1203_ := iv_get hv (k := 79) (j := 3) (l := 0) (u := 8) rfl
    have i793 := iv_get hv (k := 79) (j := 3) (l := 0) (u := 8) rfl
    have h1204_ : jxw (y2 + 1) = y2 + 1 := jxw_id (by omega) (by omega)
    exact ih56 (jxw (y2 + 1)) a b (show (((8 - (jxw (y2 + 1))) * 1) + 0).toNat < n from by omega) hv hf (show 0 ≤ jxw (y2 + 1) from by omega) (show jxw (y2 + 1) ≤ 8 from by omega) (by first | assumption | (intro h1 h2; show (if (if 0 < x1 then x1 else 0) > 8 then _ else _) = _; split <;> split <;> omega) | (intro h1 h2; show f_J9_min_7cf53 a0 b0 (f_J9_max_7cf53 a0 b0 x1 0) 8 = x1; rw [f_J9_min_7cf53_eq, f_J9_max_7cf53_eq]; split <;> split <;> omega)) (by first | exact jbf_rf _ _ | exact hbf | exact jbf_put hbf rfl | exact jbf_put (jbf_put hbf rfl) rfl) (by first | exact hc0 | exact ⟨(jxu_nk (by decide)).trans hc0.1, fun s h1 h2 => (jxu_nk (by decide)).trans (hc0.2 s h1 h2)⟩) (show 0 ≤ jxw (y2 + 1) from by omega) (show jxw (y2 + 1) ≤ a 79 3 from by omega) (by first | exact ho0 | (rw [show (jxw (y2 + 1)).toNat = y2.toNat + 1 from by omega]; exact ho0))
  have hc56 : ∀ (y2 : Int) (a b : Nat → Nat → Int), (((8 - y2) * 1) + 0).toNat ≤ n → iv a → jfr jW_X2_begin a0 a → 0 ≤ y2 → y2 ≤ 8 → (0 ≤ x1 → x1 ≤ 8 → a 79 3 = x1) → (jbf [80, 81, 82] b0 b) → (b 80 0 = 0 ∧ ∀ s : Nat, 0 < s → s < 256 → b 80 s = IMPO) → 0 ≤ y2 → y2 ≤ a 79 3 → (b 81 0 = SUMN (fun i => 40 * PW i) y2.toNat) → jt (jxX E d 41 56 [some (.inr (.inr (.inl 79))), none, some (.inl y2)] [] (jxSH, a, b)) (jQ_X2_begin x1 a0 b0) := by
    intro y2 a b hm hv hf hi0 hi1 hm hbf hc0 hi5 hi6 ho0
    refine jt_eq (bq_X2_begin_56 E d y2 a b) ?_
    have h1205_ := iv_get hv (k := 79) (j := 3) (l := 0) (u := 8) rfl
    have i793 := iv_get hv (k := 79) (j := 3) (l := 0) (u := 8) rfl
    refine jt_ite (fun c1206_ => ?_) (fun c1206_ => ?_)
    ·
      refine jt_eI (eq_X2_shiftOf E d (jd_le hd rfl) y2 a b) ?_
      exact hc81 y2 a (jxu b 81 0 (jxwl ((b 81 0) + (jxshll 40 (f_X2_shiftOf a b y2))))) (show (((8 - y2) * 1) + 0).toNat ≤ n from by omega) hv hf (show 0 ≤ y2 from by omega) (show y2 ≤ 7 from by omega) (show 1 ≤ a 79 3 from by omega) (by first | assumption | (intro h1 h2; show (if (if 0 < x1 then x1 else 0) > 8 then _ else _) = _; split <;> split <;> omega) | (intro h1 h2; show f_J9_min_7cf53 a0 b0 (f_J9_max_7cf53 a0 b0 x1 0) 8 = x1; rw [f_J9_min_7cf53_eq, f_J9_max_7cf53_eq]; split <;> split <;> omega)) (by first | exact jbf_rf _ _ | exact hbf | exact jbf_put hbf rfl | exact jbf_put (jbf_put hbf rfl) rfl) (by first | exact hc0 | exact ⟨(jxu_nk (by decide)).trans hc0.1, fun s h1 h2 => (jxu_nk (by decide)).trans (hc0.2 s h1 h2)⟩) (show 0 ≤ y2 from by omega) (show y2 < a 79 3 from by omega) (by rw [jxu_at]; have esh : jxshll 40 (f_X2_shiftOf a b y2) = 40 * PW y2.toNat := (by show jxshll 40 (jxw (6 * (jxw (7 - y2)))) = _; have q := shiftPW (x := 40) (i := y2.toNat) (by decide) (by decide) (by omega); rw [show ((y2.toNat : Nat) : Int) = y2 from by omega] at q; exact q); rw [esh, ho0]; show jxwl (SUMN (fun i => 40 * PW i) y2.toNat + 40 * PW y2.toNat) = SUMN (fun i => 40 * PW i) y2.toNat + 40 * PW y2.toNat; have bd := SUMN_bd2 (f := fun i => 40 * PW i) (l := 0) (u := 175921860444160) (n := y2.toNat) (fun k _ => by have q1 := PW_pos k; have q2 := PW_le k; show 0 ≤ 40 * PW k ∧ 40 * PW k ≤ 175921860444160; omega); have q1 := PW_pos y2.toNat; have q2 := PW_le y2.toNat; exact jxwl_id (by omega) (by omega))
    ·
      refine jt_bV (sp_X2_forbidAll E d (jd_le hd rfl) a b hv) (fun a1207_ b1207_ h1207_ => ?_)
      obtain ⟨rfl, hq1207_0, hq1207_1⟩ := h1207_
      exact jt_rV ⟨hv, hf, (fun h1 h2 => ⟨hm h1 h2, fun A p => DPC_0 ((hq1207_1 80 0 rfl).trans hc0.1) ((hq1207_1 81 0 rfl).trans (by rw [ho0]; have e := hm h1 h2; rw [show y2.toNat = x1.toNat from by omega])) (fun s q1 q2 => (hq1207_1 80 s rfl).trans (hc0.2 s q1 (Nat.lt_of_lt_of_le q2 (Nat.pow_le_pow_right (n := 2) (by decide) (show x1.toNat ≤ 8 by omega)))))⟩), hq1207_0, (jbf_tr hbf hq1207_1 rfl)⟩
  exact ⟨hc81, hc56⟩
theorem cp_X2_begin_54 (E : jxE) (d : Nat) (hd : Nat.ble 2 (d + 1) = true) (x1 : Int) (a0 b0 : Nat → Nat → Int) (hv0 : iv a0) : ∀ (a b : Nat → Nat → Int), iv a → jfr jW_X2_begin a0 a → (0 ≤ x1 → x1 ≤ 8 → a 79 3 = x1) → (jbf [80, 81, 82] b0 b) → (b 80 0 = 0 ∧ ∀ s : Nat, 0 < s → s < 256 → b 80 s = IMPO) → (b 81 0 = 0) → jt (jxX E d 41 54 [some (.inr (.inr (.inl 79))), none, none] [] (jxSH, a, b)) (jQ_X2_begin x1 a0 b0) := by
  intro a b hv hf hm hbf hc0 ho0
  refine jt_eq (bq_X2_begin_54 E d a b) ?_
  have h1208_ := iv_get hv (k := 79) (j := 3) (l := 0) (u := 8) rfl
  exact (cp_X2_begin_56 E d hd x1 a0 b0 hv0 _).2 0 a b (Nat.le_refl _) hv hf (show 0 ≤ 0 from by omega) (show 0 ≤ 8 from by omega) (by first | assumption | (intro h1 h2; show (if (if 0 < x1 then x1 else 0) > 8 then _ else _) = _; split <;> split <;> omega) | (intro h1 h2; show f_J9_min_7cf53 a0 b0 (f_J9_max_7cf53 a0 b0 x1 0) 8 = x1; rw [f_J9_min_7cf53_eq, f_J9_max_7cf53_eq]; split <;> split <;> omega)) (by first | exact jbf_rf _ _ | exact hbf | exact jbf_put hbf rfl | exact jbf_put (jbf_put hbf rfl) rfl) (by first | exact hc0 | exact ⟨(jxu_nk (by decide)).trans hc0.1, fun s h1 h2 => (jxu_nk (by decide)).trans (hc0.2 s h1 h2)⟩) (show 0 ≤ 0 from by omega) (show 0 ≤ a 79 3 from by omega) (by first | exact ho0 | (rw [show (jxw (y2 + 1)).toNat = y2.toNat + 1 from by omega]; exact ho0))
theorem cp_X2_begin_16 (E : jxE) (d : Nat) (hd : Nat.ble 2 (d + 1) = true) (x1 : Int) (a0 b0 : Nat → Nat → Int) (hv0 : iv a0) : ∀ n : Nat, (∀ (y2 : Int) (a b : Nat → Nat → Int), (((256 - y2) * 1) + 0).toNat ≤ n → iv a → jfr jW_X2_begin a0 a → 0 ≤ y2 → y2 ≤ 256 → (0 ≤ x1 → x1 ≤ 8 → a 79 3 = x1) → (jbf [80, 81, 82] b0 b) → 0 ≤ y2 → (∀ s : Nat, (s : Int) < y2 → b 80 s = IMPO) → jt (jxX E d 41 16 [some (.inr (.inr (.inl 79))), none, some (.inl y2)] [] (jxSH, a, b)) (jQ_X2_begin x1 a0 b0)) := by
  refine jx_ind fun n ih => ?_
  have ih16 : ∀ (y2 : Int) (a b : Nat → Nat → Int), (((256 - y2) * 1) + 0).toNat < n → iv a → jfr jW_X2_begin a0 a → 0 ≤ y2 → y2 ≤ 256 → (0 ≤ x1 → x1 ≤ 8 → a 79 3 = x1) → (jbf [80, 81, 82] b0 b) → 0 ≤ y2 → (∀ s : Nat, (s : Int) < y2 → b 80 s = IMPO) → jt (jxX E d 41 16 [some (.inr (.inr (.inl 79))), none, some (.inl y2)] [] (jxSH, a, b)) (jQ_X2_begin x1 a0 b0) := fun y2 a b hlt i0 i1 i2 i3 i4 i5 i6 i7 => (ih _ hlt) y2 a b (Nat.le_refl _) i0 i1 i2 i3 i4 i5 i6 i7
  have hc16 : ∀ (y2 : Int) (a b : Nat → Nat → Int), (((256 - y2) * 1) + 0).toNat ≤ n → iv a → jfr jW_X2_begin a0 a → 0 ≤ y2 → y2 ≤ 256 → (0 ≤ x1 → x1 ≤ 8 → a 79 3 = x1) → (jbf [80, 81, 82] b0 b) → 0 ≤ y2 → (∀ s : Nat, (s : Int) < y2 → b 80 s = IMPO) → jt (jxX E d 41 16 [some (.inr (.inr (.inl 79))), none, some (.inl y2)] [] (jxSH, a, b)) (jQ_X2_begin x1 a0 b0) := by
    intro y2 a b hm hv hf hi0 hi1 hm hbf hi4 hz
    refine jt_eq (bq_X2_begin_16 E d y2 a b) ?_
    refine jt_ite (fun c1209_ => ?_) (fun c1209_ => ?_)
    ·
      refine jt_grd (by omega) ?_
      have h1210_ : jxw (y2 + 1) = y2 + 1 := jxw_id (by omega) (by omega)
      exact ih16 (jxw (y2 + 1)) a (jxu b 80 (y2.toNat) 4611686018427387904) (show (((256 - (jxw (y2 + 1))) * 1) + 0).toNat < n from by omega) hv hf (show 0 ≤ jxw (y2 + 1) from by omega) (show jxw (y2 + 1) ≤ 256 from by omega) (by first | assumption | (intro h1 h2; show (if (if 0 < x1 then x1 else 0) > 8 then _ else _) = _; split <;> split <;> omega) | (intro h1 h2; show f_J9_min_7cf53 a0 b0 (f_J9_max_7cf53 a0 b0 x1 0) 8 = x1; rw [f_J9_min_7cf53_eq, f_J9_max_7cf53_eq]; split <;> split <;> omega)) (by first | exact jbf_rf _ _ | exact hbf | exact jbf_put hbf rfl | exact jbf_put (jbf_put hbf rfl) rfl) (show 0 ≤ jxw (y2 + 1) from by omega) (by first | exact (fun i h => absurd h (by omega)) | (intro i h; by_cases e : i = y2.toNat <;> first | (rw [e, jxu_at]; rfl) | (rw [jxu_nj e]; exact hz i (by omega))))
    ·
      exact cp_X2_begin_54 E d hd x1 a0 b0 hv0 a (jxu (jxu b 80 0 0) 81 0 0) hv hf (by first | assumption | (intro h1 h2; show (if (if 0 < x1 then x1 else 0) > 8 then _ else _) = _; split <;> split <;> omega) | (intro h1 h2; show f_J9_min_7cf53 a0 b0 (f_J9_max_7cf53 a0 b0 x1 0) 8 = x1; rw [f_J9_min_7cf53_eq, f_J9_max_7cf53_eq]; split <;> split <;> omega)) (by first | exact jbf_rf _ _ | exact hbf | exact jbf_put hbf rfl | exact jbf_put (jbf_put hbf rfl) rfl) (by refine ⟨by rw [jxu_nk (by decide), jxu_at], fun s h1 h2 => ?_⟩; rw [jxu_nk (by decide), jxu_nj (by omega)]; exact hz s (by omega)) (jxu_at _ _ _ _)
  exact hc16
theorem sp_X2_begin (E : jxE) (d : Nat) (hd : Nat.ble 2 d = true) (x1 : Int) (a0 b0 : Nat → Nat → Int) (hv0 : iv a0) : jt (jxC E d 41 [.inr (.inr (.inl 79)), .inl x1] (jxSH, a0, b0)) (jQ_X2_begin x1 a0 b0) := by
  obtain ⟨d, rfl⟩ := jd_succ hd
  refine jt_eq (bq_X2_begin E d x1 a0 b0) ?_
  refine jt_eI (eq_J9_max_7cf53 E d (jd_le hd rfl) x1 0 a0 b0) ?_
  refine jt_eI (eq_J9_min_7cf53 E d (jd_le hd rfl) (f_J9_max_7cf53 a0 b0 x1 0) 8 a0 b0) ?_
  have h1212_ := f_J9_max_7cf53_eq a0 b0 x1 0
  have h1213_ := f_J9_min_7cf53_eq a0 b0 (f_J9_max_7cf53 a0 b0 x1 0) 8
  have hv1211_ : iv (jxu a0 79 3 (f_J9_min_7cf53 a0 b0 (f_J9_max_7cf53 a0 b0 x1 0) 8)) := iv_put hv0 (l := 0) (u := 8) rfl (by omega) (by omega)
  have hf1214_ : jfr jW_X2_begin a0 (jxu a0 79 3 (f_J9_min_7cf53 a0 b0 (f_J9_max_7cf53 a0 b0 x1 0) 8)) := jfr_put (jfr_rf _ _) rfl
  exact (cp_X2_begin_16 E d hd x1 a0 b0 hv0 _) 0 (jxu a0 79 3 (f_J9_min_7cf53 a0 b0 (f_J9_max_7cf53 a0 b0 x1 0) 8)) b0 (Nat.le_refl _) hv1211_ hf1214_ (show 0 ≤ 0 from by omega) (show 0 ≤ 256 from by omega) (by first | assumption | (intro h1 h2; show (if (if 0 < x1 then x1 else 0) > 8 then _ else _) = _; split <;> split <;> omega) | (intro h1 h2; show f_J9_min_7cf53 a0 b0 (f_J9_max_7cf53 a0 b0 x1 0) 8 = x1; rw [f_J9_min_7cf53_eq, f_J9_max_7cf53_eq]; split <;> split <;> omega)) (by first | exact jbf_rf _ _ | exact hbf | exact jbf_put hbf rfl | exact jbf_put (jbf_put hbf rfl) rfl) (show 0 ≤ 0 from by omega) (by first | exact (fun i h => absurd h (by omega)) | (intro i h; by_cases e : i = y2.toNat <;> first | (rw [e, jxu_at]; rfl) | (rw [jxu_nj e]; exact hz i (by omega))))
abbrev jQ_X2_finish (a0 b0 : Nat → Nat → Int) : List jxV → (Nat → Nat → Int) → (Nat → Nat → Int) → Prop := rV (fun a b => (a0 = a) ∧ (∃ sb : Nat, sb < 2 ^ (a0 79 3).toNat ∧ b = jxu b0 79 4 (b0 81 sb) ∧ ∀ s : Nat, s < 2 ^ (a0 79 3).toNat → (b0 80 sb < b0 80 s ∨ (b0 80 sb = b0 80 s ∧ b0 81 sb ≤ b0 81 s))))
theorem cp_X2_finish_4 (E : jxE) (d : Nat) (hd : Nat.ble 1 (d + 1) = true) (a0 b0 : Nat → Nat → Int) (hv0 : iv a0) : ∀ n : Nat, (∀ (y1 y2 : Int) (b : Nat → Nat → Int), (((256 - y2) * 1) + 0).toNat ≤ n → 0 ≤ y1 → y1 ≤ 255 → 1 ≤ y2 → y2 ≤ 255 → 0 ≤ y1 → 0 ≤ y2 → (y1 < 2 ^ (a0 79 3).toNat) → (y2 < 2 ^ (a0 79 3).toNat) → (b = b0) → (∀ s : Nat, (s : Int) < y2 + 1 → (b0 80 y1.toNat < b0 80 s ∨ (b0 80 y1.toNat = b0 80 s ∧ b0 81 y1.toNat ≤ b0 81 s))) → jt (jxX E d 46 64 [some (.inr (.inr (.inl 79))), some (.inl y1), some (.inl y2)] [] (jxSH, a0, b)) (jQ_X2_finish a0 b0)) ∧ (∀ (y2 : Int) (b : Nat → Nat → Int), (((256 - y2) * 1) + 0).toNat ≤ n → 1 ≤ y2 → y2 ≤ 255 → 0 ≤ y2 → (y2 < 2 ^ (a0 79 3).toNat) → (b = b0) → (∀ s : Nat, (s : Int) < y2 + 1 → (b0 80 y2.toNat < b0 80 s ∨ (b0 80 y2.toNat = b0 80 s ∧ b0 81 y2.toNat ≤ b0 81 s))) → jt (jxX E d 46 62 [some (.inr (.inr (.inl 79))), none, some (.inl y2)] [] (jxSH, a0, b)) (jQ_X2_finish a0 b0)) ∧ (∀ (y1 y2 : Int) (b : Nat → Nat → Int), (((256 - y2) * 1) + 0).toNat ≤ n → 0 ≤ y1 → y1 ≤ 255 → 1 ≤ y2 → y2 ≤ 255 → 0 ≤ y1 → 0 ≤ y2 → (y1 < 2 ^ (a0 79 3).toNat) → (y2 < 2 ^ (a0 79 3).toNat) → (b = b0) → (∀ s : Nat, (s : Int) < y2 → (b0 80 y1.toNat < b0 80 s ∨ (b0 80 y1.toNat = b0 80 s ∧ b0 81 y1.toNat ≤ b0 81 s))) → (b0 80 y1.toNat ≤ b0 80 y2.toNat) → jt (jxX E d 46 30 [some (.inr (.inr (.inl 79))), some (.inl y1), some (.inl y2)] [] (jxSH, a0, b)) (jQ_X2_finish a0 b0)) ∧ (∀ (y1 y2 : Int) (b : Nat → Nat → Int), (((256 - y2) * 1) + 0).toNat ≤ n → 0 ≤ y1 → y1 ≤ 255 → 1 ≤ y2 → y2 ≤ 256 → 0 ≤ y1 → 0 ≤ y2 → (y1 < 2 ^ (a0 79 3).toNat) → (b = b0) → (y2 ≤ 2 ^ (a0 79 3).toNat) → 1 ≤ y2 → (∀ s : Nat, (s : Int) < y2 → (b0 80 y1.toNat < b0 80 s ∨ (b0 80 y1.toNat = b0 80 s ∧ b0 81 y1.toNat ≤ b0 81 s))) → jt (jxX E d 46 4 [some (.inr (.inr (.inl 79))), some (.inl y1), some (.inl y2)] [] (jxSH, a0, b)) (jQ_X2_finish a0 b0)) := by
  refine jx_ind fun n ih => ?_
  have ih64 : ∀ (y1 y2 : Int) (b : Nat → Nat → Int), (((256 - y2) * 1) + 0).toNat < n → 0 ≤ y1 → y1 ≤ 255 → 1 ≤ y2 → y2 ≤ 255 → 0 ≤ y1 → 0 ≤ y2 → (y1 < 2 ^ (a0 79 3).toNat) → (y2 < 2 ^ (a0 79 3).toNat) → (b = b0) → (∀ s : Nat, (s : Int) < y2 + 1 → (b0 80 y1.toNat < b0 80 s ∨ (b0 80 y1.toNat = b0 80 s ∧ b0 81 y1.toNat ≤ b0 81 s))) → jt (jxX E d 46 64 [some (.inr (.inr (.inl 79))), some (.inl y1), some (.inl y2)] [] (jxSH, a0, b)) (jQ_X2_finish a0 b0) := fun y1 y2 b hlt i0 i1 i2 i3 i4 i5 i6 i7 i8 i9 => (ih _ hlt).1 y1 y2 b (Nat.le_refl _) i0 i1 i2 i3 i4 i5 i6 i7 i8 i9
  have ih62 : ∀ (y2 : Int) (b : Nat → Nat → Int), (((256 - y2) * 1) + 0).toNat < n → 1 ≤ y2 → y2 ≤ 255 → 0 ≤ y2 → (y2 < 2 ^ (a0 79 3).toNat) → (b = b0) → (∀ s : Nat, (s : Int) < y2 + 1 → (b0 80 y2.toNat < b0 80 s ∨ (b0 80 y2.toNat = b0 80 s ∧ b0 81 y2.toNat ≤ b0 81 s))) → jt (jxX E d 46 62 [some (.inr (.inr (.inl 79))), none, some (.inl y2)] [] (jxSH, a0, b)) (jQ_X2_finish a0 b0) := fun y2 b hlt i0 i1 i2 i3 i4 i5 => (ih _ hlt).2.1 y2 b (Nat.le_refl _) i0 i1 i2 i3 i4 i5
  have ih30 : ∀ (y1 y2 : Int) (b : Nat → Nat → Int), (((256 - y2) * 1) + 0).toNat < n → 0 ≤ y1 → y1 ≤ 255 → 1 ≤ y2 → y2 ≤ 255 → 0 ≤ y1 → 0 ≤ y2 → (y1 < 2 ^ (a0 79 3).toNat) → (y2 < 2 ^ (a0 79 3).toNat) → (b = b0) → (∀ s : Nat, (s : Int) < y2 → (b0 80 y1.toNat < b0 80 s ∨ (b0 80 y1.toNat = b0 80 s ∧ b0 81 y1.toNat ≤ b0 81 s))) → (b0 80 y1.toNat ≤ b0 80 y2.toNat) → jt (jxX E d 46 30 [some (.inr (.inr (.inl 79))), some (.inl y1), some (.inl y2)] [] (jxSH, a0, b)) (jQ_X2_finish a0 b0) := fun y1 y2 b hlt i0 i1 i2 i3 i4 i5 i6 i7 i8 i9 i10 => (ih _ hlt).2.2.1 y1 y2 b (Nat.le_refl _) i0 i1 i2 i3 i4 i5 i6 i7 i8 i9 i10
  have ih4 : ∀ (y1 y2 : Int) (b : Nat → Nat → Int), (((256 - y2) * 1) + 0).toNat < n → 0 ≤ y1 → y1 ≤ 255 → 1 ≤ y2 → y2 ≤ 256 → 0 ≤ y1 → 0 ≤ y2 → (y1 < 2 ^ (a0 79 3).toNat) → (b = b0) → (y2 ≤ 2 ^ (a0 79 3).toNat) → 1 ≤ y2 → (∀ s : Nat, (s : Int) < y2 → (b0 80 y1.toNat < b0 80 s ∨ (b0 80 y1.toNat = b0 80 s ∧ b0 81 y1.toNat ≤ b0 81 s))) → jt (jxX E d 46 4 [some (.inr (.inr (.inl 79))), some (.inl y1), some (.inl y2)] [] (jxSH, a0, b)) (jQ_X2_finish a0 b0) := fun y1 y2 b hlt i0 i1 i2 i3 i4 i5 i6 i7 i8 i9 i10 => (ih _ hlt).2.2.2 y1 y2 b (Nat.le_refl _) i0 i1 i2 i3 i4 i5 i6 i7 i8 i9 i10
  have hc64 : ∀ (y1 y2 : Int) (b : Nat → Nat → Int), (((256 - y2) * 1) + 0).toNat ≤ n → 0 ≤ y1 → y1 ≤ 255 → 1 ≤ y2 → y2 ≤ 255 → 0 ≤ y1 → 0 ≤ y2 → (y1 < 2 ^ (a0 79 3).toNat) → (y2 < 2 ^ (a0 79 3).toNat) → (b = b0) → (∀ s : Nat, (s : Int) < y2 + 1 → (b0 80 y1.toNat < b0 80 s ∨ (b0 80 y1.toNat = b0 80 s ∧ b0 81 y1.toNat ≤ b0 81 s))) → jt (jxX E d 46 64 [some (.inr (.inr (.inl 79))), some (.inl y1), some (.inl y2)] [] (jxSH, a0, b)) (jQ_X2_finish a0 b0) := by
    intro y1 y2 b hm hi0 hi1 hi2 hi3 hi4 hi5 hm2 hm3 hbb hbest
    refine jt_eq (bq_X2_finish_64 E d y1 y2 a0 b) ?_
    have i793 := iv_get hv0 (k := 79) (j := 3) (l := 0) (u := 8) rfl
    have h1215_ : jxw (y2 + 1) = y2 + 1 := jxw_id (by omega) (by omega)
    exact ih4 y1 (jxw (y2 + 1)) b (show (((256 - (jxw (y2 + 1))) * 1) + 0).toNat < n from by omega) (show 0 ≤ y1 from by omega) (show y1 ≤ 255 from by omega) (show 1 ≤ jxw (y2 + 1) from by omega) (show jxw (y2 + 1) ≤ 256 from by omega) (show 0 ≤ y1 from by omega) (show 0 ≤ jxw (y2 + 1) from by omega) (by first | exact hm2 | (have e := pow79 i793.1 i793.2; omega)) (by first | rfl | assumption) (by first | (have e := pow79 i793.1 i793.2; omega) | omega) (show 1 ≤ jxw (y2 + 1) from by omega) (by first | (intro s h; have e : s = 0 := (by omega); rw [e]; exact Or.inr ⟨rfl, Int.le_refl _⟩) | exact (fun s h => hbest s (by omega)))
  have hc62 : ∀ (y2 : Int) (b : Nat → Nat → Int), (((256 - y2) * 1) + 0).toNat ≤ n → 1 ≤ y2 → y2 ≤ 255 → 0 ≤ y2 → (y2 < 2 ^ (a0 79 3).toNat) → (b = b0) → (∀ s : Nat, (s : Int) < y2 + 1 → (b0 80 y2.toNat < b0 80 s ∨ (b0 80 y2.toNat = b0 80 s ∧ b0 81 y2.toNat ≤ b0 81 s))) → jt (jxX E d 46 62 [some (.inr (.inr (.inl 79))), none, some (.inl y2)] [] (jxSH, a0, b)) (jQ_X2_finish a0 b0) := by
    intro y2 b hm hi0 hi1 hi2 hm3 hbb hbest
    refine jt_eq (bq_X2_finish_62 E d y2 a0 b) ?_
    have i793 := iv_get hv0 (k := 79) (j := 3) (l := 0) (u := 8) rfl
    exact hc64 y2 y2 b (show (((256 - y2) * 1) + 0).toNat ≤ n from by omega) (show 0 ≤ y2 from by omega) (show y2 ≤ 255 from by omega) (show 1 ≤ y2 from by omega) (show y2 ≤ 255 from by omega) (show 0 ≤ y2 from by omega) (show 0 ≤ y2 from by omega) (by first | exact hm2 | (have e := pow79 i793.1 i793.2; omega)) (by first | exact hm3 | (have e := pow79 i793.1 i793.2; omega)) (by first | rfl | assumption) hbest
  have hc30 : ∀ (y1 y2 : Int) (b : Nat → Nat → Int), (((256 - y2) * 1) + 0).toNat ≤ n → 0 ≤ y1 → y1 ≤ 255 → 1 ≤ y2 → y2 ≤ 255 → 0 ≤ y1 → 0 ≤ y2 → (y1 < 2 ^ (a0 79 3).toNat) → (y2 < 2 ^ (a0 79 3).toNat) → (b = b0) → (∀ s : Nat, (s : Int) < y2 → (b0 80 y1.toNat < b0 80 s ∨ (b0 80 y1.toNat = b0 80 s ∧ b0 81 y1.toNat ≤ b0 81 s))) → (b0 80 y1.toNat ≤ b0 80 y2.toNat) → jt (jxX E d 46 30 [some (.inr (.inr (.inl 79))), some (.inl y1), some (.inl y2)] [] (jxSH, a0, b)) (jQ_X2_finish a0 b0) := by
    intro y1 y2 b hm hi0 hi1 hi2 hi3 hi4 hi5 hm2 hm3 hbb hbest hge
    refine jt_eq (bq_X2_finish_30 E d y1 y2 a0 b) ?_
    have i793 := iv_get hv0 (k := 79) (j := 3) (l := 0) (u := 8) rfl
    refine jt_grd (by omega) ?_
    refine jt_grd (by omega) ?_
    have h1216_ := jxlcmp_b (b 80 (y2.toNat)) (b 80 (y1.toNat))
    refine jt_ite (fun c1217_ => ?_) (fun c1217_ => ?_)
    ·
      refine jt_grd (by omega) ?_
      refine jt_grd (by omega) ?_
      have h1218_ := jxlcmp_b (b 81 (y2.toNat)) (b 81 (y1.toNat))
      refine jt_ite (fun c1219_ => ?_) (fun c1219_ => ?_)
      ·
        exact hc62 y2 b (show (((256 - y2) * 1) + 0).toNat ≤ n from by omega) (show 1 ≤ y2 from by omega) (show y2 ≤ 255 from by omega) (show 0 ≤ y2 from by omega) (by first | exact hm3 | (have e := pow79 i793.1 i793.2; omega)) (by first | rfl | assumption) (fun s h => by by_cases e : (s : Int) = y2 <;> first | (have e2 : s = y2.toNat := (by omega); rw [e2]; exact Or.inr ⟨rfl, Int.le_refl _⟩) | (have q := hbest s (by omega); have e1 : b 80 (y2.toNat) = b0 80 (y2.toNat) := (by rw [hbb]); have e2 : b 80 (y1.toNat) = b0 80 (y1.toNat) := (by rw [hbb]); have e3 : b 81 (y2.toNat) = b0 81 (y2.toNat) := (by rw [hbb]); have e4 : b 81 (y1.toNat) = b0 81 (y1.toNat) := (by rw [hbb]); omega))
      ·
        exact hc64 y1 y2 b (show (((256 - y2) * 1) + 0).toNat ≤ n from by omega) (show 0 ≤ y1 from by omega) (show y1 ≤ 255 from by omega) (show 1 ≤ y2 from by omega) (show y2 ≤ 255 from by omega) (show 0 ≤ y1 from by omega) (show 0 ≤ y2 from by omega) (by first | exact hm2 | (have e := pow79 i793.1 i793.2; omega)) (by first | exact hm3 | (have e := pow79 i793.1 i793.2; omega)) (by first | rfl | assumption) (fun s h => by by_cases e : (s : Int) = y2 <;> first | (have e2 : s = y2.toNat := (by omega); rw [e2]; have e1 : b 80 (y2.toNat) = b0 80 (y2.toNat) := (by rw [hbb]); have e4 : b 80 (y1.toNat) = b0 80 (y1.toNat) := (by rw [hbb]); have e3 : b 81 (y2.toNat) = b0 81 (y2.toNat) := (by rw [hbb]); have e5 : b 81 (y1.toNat) = b0 81 (y1.toNat) := (by rw [hbb]); omega) | exact hbest s (by omega))
    ·
      exact hc64 y1 y2 b (show (((256 - y2) * 1) + 0).toNat ≤ n from by omega) (show 0 ≤ y1 from by omega) (show y1 ≤ 255 from by omega) (show 1 ≤ y2 from by omega) (show y2 ≤ 255 from by omega) (show 0 ≤ y1 from by omega) (show 0 ≤ y2 from by omega) (by first | exact hm2 | (have e := pow79 i793.1 i793.2; omega)) (by first | exact hm3 | (have e := pow79 i793.1 i793.2; omega)) (by first | rfl | assumption) (fun s h => by by_cases e : (s : Int) = y2 <;> first | (have e2 : s = y2.toNat := (by omega); rw [e2]; have e1 : b 80 (y2.toNat) = b0 80 (y2.toNat) := (by rw [hbb]); have e4 : b 80 (y1.toNat) = b0 80 (y1.toNat) := (by rw [hbb]); have e3 : b 81 (y2.toNat) = b0 81 (y2.toNat) := (by rw [hbb]); have e5 : b 81 (y1.toNat) = b0 81 (y1.toNat) := (by rw [hbb]); omega) | exact hbest s (by omega))
  have hc4 : ∀ (y1 y2 : Int) (b : Nat → Nat → Int), (((256 - y2) * 1) + 0).toNat ≤ n → 0 ≤ y1 → y1 ≤ 255 → 1 ≤ y2 → y2 ≤ 256 → 0 ≤ y1 → 0 ≤ y2 → (y1 < 2 ^ (a0 79 3).toNat) → (b = b0) → (y2 ≤ 2 ^ (a0 79 3).toNat) → 1 ≤ y2 → (∀ s : Nat, (s : Int) < y2 → (b0 80 y1.toNat < b0 80 s ∨ (b0 80 y1.toNat = b0 80 s ∧ b0 81 y1.toNat ≤ b0 81 s))) → jt (jxX E d 46 4 [some (.inr (.inr (.inl 79))), some (.inl y1), some (.inl y2)] [] (jxSH, a0, b)) (jQ_X2_finish a0 b0) := by
    intro y1 y2 b hm hi0 hi1 hi2 hi3 hi4 hi5 hm2 hbb hm4 hi9 hbest
    refine jt_eq (bq_X2_finish_4 E d y1 y2 a0 b) ?_
    have i793 := iv_get hv0 (k := 79) (j := 3) (l := 0) (u := 8) rfl
    have e79 := pow79 i793.1 i793.2
    have h1220_ := iv_get hv0 (k := 79) (j := 3) (l := 0) (u := 8) rfl
    have h1221_ := jxshl1_b (a0 79 3)
    refine jt_ite (fun c1222_ => ?_) (fun c1222_ => ?_)
    ·
      refine jt_grd (by omega) ?_
      refine jt_grd (by omega) ?_
      have h1223_ := jxlcmp_b (b 80 (y2.toNat)) (b 80 (y1.toNat))
      refine jt_ite (fun c1224_ => ?_) (fun c1224_ => ?_)
      ·
        exact hc62 y2 b (show (((256 - y2) * 1) + 0).toNat ≤ n from by omega) (show 1 ≤ y2 from by omega) (show y2 ≤ 255 from by omega) (show 0 ≤ y2 from by omega) (by first | exact hm3 | (have e := pow79 i793.1 i793.2; omega)) (by first | rfl | assumption) (fun s h => by by_cases e : (s : Int) = y2 <;> first | (have e2 : s = y2.toNat := (by omega); rw [e2]; exact Or.inr ⟨rfl, Int.le_refl _⟩) | (have q := hbest s (by omega); have e1 : b 80 (y2.toNat) = b0 80 (y2.toNat) := (by rw [hbb]); have e2 : b 80 (y1.toNat) = b0 80 (y1.toNat) := (by rw [hbb]); have e3 : b 81 (y2.toNat) = b0 81 (y2.toNat) := (by rw [hbb]); have e4 : b 81 (y1.toNat) = b0 81 (y1.toNat) := (by rw [hbb]); omega))
      ·
        exact hc30 y1 y2 b (show (((256 - y2) * 1) + 0).toNat ≤ n from by omega) (show 0 ≤ y1 from by omega) (show y1 ≤ 255 from by omega) (show 1 ≤ y2 from by omega) (show y2 ≤ 255 from by omega) (show 0 ≤ y1 from by omega) (show 0 ≤ y2 from by omega) (by first | exact hm2 | (have e := pow79 i793.1 i793.2; omega)) (by first | exact hm3 | (have e := pow79 i793.1 i793.2; omega)) (by first | rfl | assumption) hbest (by rw [← hbb]; omega)
    ·
      refine jt_grd (by omega) ?_
      exact jt_rV ⟨rfl, ⟨y1.toNat, by omega, by rw [hbb], fun s h => hbest s (by have e : ((2 ^ (a0 79 3).toNat : Nat) : Int) = 2 ^ (a0 79 3).toNat := (by rw [Int.natCast_pow]; rfl); omega)⟩⟩
  exact ⟨hc64, hc62, hc30, hc4⟩
theorem sp_X2_finish (E : jxE) (d : Nat) (hd : Nat.ble 1 d = true) (a0 b0 : Nat → Nat → Int) (hv0 : iv a0) : jt (jxC E d 46 [.inr (.inr (.inl 79))] (jxSH, a0, b0)) (jQ_X2_finish a0 b0) := by
  obtain ⟨d, rfl⟩ := jd_succ hd
  refine jt_eq (bq_X2_finish E d a0 b0) ?_
  have i793 := iv_get hv0 (k := 79) (j := 3) (l := 0) (u := 8) rfl
  exact (cp_X2_finish_4 E d hd a0 b0 hv0 _).2.2.2 0 1 b0 (Nat.le_refl _) (show 0 ≤ 0 from by omega) (show 0 ≤ 255 from by omega) (show 1 ≤ 1 from by omega) (show 1 ≤ 256 from by omega) (show 0 ≤ 0 from by omega) (show 0 ≤ 1 from by omega) (by first | exact hm2 | (have e := pow79 i793.1 i793.2; omega)) (by first | rfl | assumption) (by first | (have e := pow79 i793.1 i793.2; omega) | omega) (show 1 ≤ 1 from by omega) (by first | (intro s h; have e : s = 0 := (by omega); rw [e]; exact Or.inr ⟨rfl, Int.le_refl _⟩) | exact (fun s h => hbest s (by omega)))
abbrev jQ_X2_tryPair (x1 x2 x3 : Int) (a0 b0 : Nat → Nat → Int) : List jxV → (Nat → Nat → Int) → (Nat → Nat → Int) → Prop := rV (fun a b => (a0 = a) ∧ (TPR b0 b x1 x2 x3))
theorem cp_X2_tryPair_110 (E : jxE) (d : Nat) (hd : Nat.ble 2 (d + 1) = true) (x1 x2 x3 : Int) (a0 b0 : Nat → Nat → Int) (hv0 : iv a0) (hp0 : 0 ≤ x1) (hp1 : x1 ≤ 255) (hp2 : 0 ≤ x2) (hp3 : x2 ≤ 7) : ∀ (b : Nat → Nat → Int), (TPR b0 b x1 x2 x3) → jt (jxX E d 45 110 [none, none, none, none, none, none, none, none, none] [] (jxSH, a0, b)) (jQ_X2_tryPair x1 x2 x3 a0 b0) := by
  intro b htp
  refine jt_eq (bq_X2_tryPair_110 E d a0 b) ?_
  exact jt_rV ⟨rfl, htp⟩
theorem cp_X2_tryPair_94 (E : jxE) (d : Nat) (hd : Nat.ble 2 (d + 1) = true) (x1 x2 x3 : Int) (a0 b0 : Nat → Nat → Int) (hv0 : iv a0) (hp0 : 0 ≤ x1) (hp1 : x1 ≤ 255) (hp2 : 0 ≤ x2) (hp3 : x2 ≤ 7) : ∀ (y1 y5 y7 : Int) (b : Nat → Nat → Int), 0 ≤ y1 → y1 ≤ 255 → (y1 = x1) → (y5 = TPN b0 x1 x2) → (y7 = TPO b0 x1 x2 x3) → (b = b0) → (¬ b0 80 (TPW x1 x2) = IMPO) → ((TPN b0 x1 x2 < b0 80 x1.toNat ∨ (TPN b0 x1 x2 = b0 80 x1.toNat ∧ TPO b0 x1 x2 x3 < b0 81 x1.toNat))) → jt (jxX E d 45 94 [some (.inr (.inr (.inl 79))), some (.inl y1), none, none, none, some (.inr (.inl y5)), none, some (.inr (.inl y7)), none] [] (jxSH, a0, b)) (jQ_X2_tryPair x1 x2 x3 a0 b0) := by
  intro y1 y5 y7 b hi0 hi1 hy1 hy5 hy7 hbb hni hlt
  refine jt_eq (bq_X2_tryPair_94 E d y1 y5 y7 a0 b) ?_
  refine jt_grd (by omega) ?_
  refine jt_grd (by omega) ?_
  exact cp_X2_tryPair_110 E d hd x1 x2 x3 a0 b0 hv0 hp0 hp1 hp2 hp3 (jxu (jxu b 80 (y1.toNat) y5) 81 (y1.toNat) y7) (Or.inr ⟨hni, Or.inl ⟨hlt, by rw [hbb, hy1, hy5, hy7]⟩⟩)
theorem cp_X2_tryPair_70 (E : jxE) (d : Nat) (hd : Nat.ble 2 (d + 1) = true) (x1 x2 x3 : Int) (a0 b0 : Nat → Nat → Int) (hv0 : iv a0) (hp0 : 0 ≤ x1) (hp1 : x1 ≤ 255) (hp2 : 0 ≤ x2) (hp3 : x2 ≤ 7) : ∀ (y1 y5 y7 : Int) (b : Nat → Nat → Int), 0 ≤ y1 → y1 ≤ 255 → (y1 = x1) → (y5 = TPN b0 x1 x2) → (y7 = TPO b0 x1 x2 x3) → (b = b0) → (¬ b0 80 (TPW x1 x2) = IMPO) → (¬ TPN b0 x1 x2 < b0 80 x1.toNat) → jt (jxX E d 45 70 [some (.inr (.inr (.inl 79))), some (.inl y1), none, none, none, some (.inr (.inl y5)), none, some (.inr (.inl y7)), none] [] (jxSH, a0, b)) (jQ_X2_tryPair x1 x2 x3 a0 b0) := by
  intro y1 y5 y7 b hi0 hi1 hy1 hy5 hy7 hbb hni hge
  refine jt_eq (bq_X2_tryPair_70 E d y1 y5 y7 a0 b) ?_
  refine jt_grd (by omega) ?_
  have h1225_ := jxlcmp_b y5 (b 80 (y1.toNat))
  refine jt_ite (fun c1226_ => ?_) (fun c1226_ => ?_)
  ·
    refine jt_grd (by omega) ?_
    have h1227_ := jxlcmp_b y7 (b 81 (y1.toNat))
    refine jt_ite (fun c1228_ => ?_) (fun c1228_ => ?_)
    ·
      exact cp_X2_tryPair_94 E d hd x1 x2 x3 a0 b0 hv0 hp0 hp1 hp2 hp3 y1 y5 y7 b (show 0 ≤ y1 from by omega) (show y1 ≤ 255 from by omega) (by first | rfl | assumption) hy5 (by first | exact hy7 | (rw [hbb, hy4, hy2, hy3]; rfl)) (by first | rfl | assumption) hni (by have e1 : b 80 (y1.toNat) = b0 80 (x1.toNat) := (by rw [hbb, hy1]); have e2 : b 81 (y1.toNat) = b0 81 (x1.toNat) := (by rw [hbb, hy1]); omega)
    ·
      exact cp_X2_tryPair_110 E d hd x1 x2 x3 a0 b0 hv0 hp0 hp1 hp2 hp3 b (Or.inr ⟨hni, Or.inr ⟨by have e1 : b 80 (y1.toNat) = b0 80 (x1.toNat) := (by rw [hbb, hy1]); have e2 : b 81 (y1.toNat) = b0 81 (x1.toNat) := (by rw [hbb, hy1]); omega, hbb⟩⟩)
  ·
    exact cp_X2_tryPair_110 E d hd x1 x2 x3 a0 b0 hv0 hp0 hp1 hp2 hp3 b (Or.inr ⟨hni, Or.inr ⟨by have e1 : b 80 (y1.toNat) = b0 80 (x1.toNat) := (by rw [hbb, hy1]); have e2 : b 81 (y1.toNat) = b0 81 (x1.toNat) := (by rw [hbb, hy1]); omega, hbb⟩⟩)
theorem cp_X2_tryPair_38 (E : jxE) (d : Nat) (hd : Nat.ble 2 (d + 1) = true) (x1 x2 x3 : Int) (a0 b0 : Nat → Nat → Int) (hv0 : iv a0) (hp0 : 0 ≤ x1) (hp1 : x1 ≤ 255) (hp2 : 0 ≤ x2) (hp3 : x2 ≤ 7) : ∀ (y1 y2 y3 y4 y5 : Int) (b : Nat → Nat → Int), 0 ≤ y1 → y1 ≤ 255 → 0 ≤ y2 → y2 ≤ 7 → 0 ≤ y4 → y4 ≤ 255 → (y1 = x1) → (y2 = x2) → (y3 = x3) → (y4 = jxxor x1 (jxshl 1 x2)) → (y5 = TPN b0 x1 x2) → (b = b0) → (¬ b0 80 (TPW x1 x2) = IMPO) → jt (jxX E d 45 38 [some (.inr (.inr (.inl 79))), some (.inl y1), some (.inl y2), some (.inl y3), some (.inl y4), some (.inr (.inl y5)), none, none, none] [] (jxSH, a0, b)) (jQ_X2_tryPair x1 x2 x3 a0 b0) := by
  intro y1 y2 y3 y4 y5 b hi0 hi1 hi2 hi3 hi4 hi5 hy1 hy2 hy3 hy4 hy5 hbb hni
  refine jt_eq (bq_X2_tryPair_38 E d y1 y2 y3 y4 y5 a0 b) ?_
  refine jt_grd (by omega) ?_
  refine jt_eI (eq_X2_shiftOf E d (jd_le hd rfl) y2 a0 b) ?_
  refine jt_grd (by omega) ?_
  have h1229_ := jxlcmp_b y5 (b 80 (y1.toNat))
  refine jt_ite (fun c1230_ => ?_) (fun c1230_ => ?_)
  ·
    have h1231_ := jxw_im (40 - y3)
    have h1232_ := jxw_rg (40 - y3)
    have h1233_ := f_X2_shiftOf_eq a0 b y2
    have h1234_ : jxw (7 - y2) = 7 - y2 := jxw_id (by omega) (by omega)
    have h1235_ : jxw (6 * (jxw (7 - y2))) = 6 * (jxw (7 - y2)) := jxw_id (by omega) (by omega)
    exact cp_X2_tryPair_94 E d hd x1 x2 x3 a0 b0 hv0 hp0 hp1 hp2 hp3 y1 y5 (jxwl ((b 81 (y4.toNat)) - (jxshll (jxw (40 - y3)) (f_X2_shiftOf a0 b y2)))) b (show 0 ≤ y1 from by omega) (show y1 ≤ 255 from by omega) (by first | rfl | assumption) hy5 (by first | exact hy7 | (rw [hbb, hy4, hy2, hy3]; rfl)) (by first | rfl | assumption) hni (by have e1 : b 80 (y1.toNat) = b0 80 (x1.toNat) := (by rw [hbb, hy1]); have e2 : b 81 (y1.toNat) = b0 81 (x1.toNat) := (by rw [hbb, hy1]); omega)
  ·
    have h1236_ := jxw_im (40 - y3)
    have h1237_ := jxw_rg (40 - y3)
    have h1238_ := f_X2_shiftOf_eq a0 b y2
    have h1239_ : jxw (7 - y2) = 7 - y2 := jxw_id (by omega) (by omega)
    have h1240_ : jxw (6 * (jxw (7 - y2))) = 6 * (jxw (7 - y2)) := jxw_id (by omega) (by omega)
    exact cp_X2_tryPair_70 E d hd x1 x2 x3 a0 b0 hv0 hp0 hp1 hp2 hp3 y1 y5 (jxwl ((b 81 (y4.toNat)) - (jxshll (jxw (40 - y3)) (f_X2_shiftOf a0 b y2)))) b (show 0 ≤ y1 from by omega) (show y1 ≤ 255 from by omega) (by first | rfl | assumption) hy5 (by first | exact hy7 | (rw [hbb, hy4, hy2, hy3]; rfl)) (by first | rfl | assumption) hni (by have e1 : b 80 (y1.toNat) = b0 80 (x1.toNat) := (by rw [hbb, hy1]); have e2 : b 81 (y1.toNat) = b0 81 (x1.toNat) := (by rw [hbb, hy1]); omega)
theorem sp_X2_tryPair (E : jxE) (d : Nat) (hd : Nat.ble 2 d = true) (x1 x2 x3 : Int) (a0 b0 : Nat → Nat → Int) (hv0 : iv a0) (hp0 : 0 ≤ x1) (hp1 : x1 ≤ 255) (hp2 : 0 ≤ x2) (hp3 : x2 ≤ 7) : jt (jxC E d 45 [.inr (.inr (.inl 79)), .inl x1, .inl x2, .inl x3] (jxSH, a0, b0)) (jQ_X2_tryPair x1 x2 x3 a0 b0) := by
  obtain ⟨d, rfl⟩ := jd_succ hd
  refine jt_eq (bq_X2_tryPair E d x1 x2 x3 a0 b0) ?_
  have h1241_ := jxshl1_b x2
  have h1242_ := jxxor_b x1 (jxshl 1 x2)
  refine jt_grd (by omega) ?_
  have h1243_ := jxlcmp_b (b0 80 ((jxxor x1 (jxshl 1 x2)).toNat)) 4611686018427387904
  refine jt_ite (fun c1244_ => ?_) (fun c1244_ => ?_)
  ·
    exact jt_rV ⟨rfl, (Or.inl ⟨show b0 80 ((jxxor x1 (jxshl 1 x2)).toNat) = 4611686018427387904 from by omega, rfl⟩)⟩
  ·
    refine jt_grd (by omega) ?_
    refine jt_grd (by omega) ?_
    exact cp_X2_tryPair_38 E d hd x1 x2 x3 a0 b0 hv0 hp0 hp1 hp2 hp3 x1 x2 x3 (jxxor x1 (jxshl 1 x2)) (jxwl ((b0 80 ((jxxor x1 (jxshl 1 x2)).toNat)) + (b0 82 (x2.toNat)))) b0 (show 0 ≤ x1 from by omega) (show x1 ≤ 255 from by omega) (show 0 ≤ x2 from by omega) (show x2 ≤ 7 from by omega) (show 0 ≤ jxxor x1 (jxshl 1 x2) from by omega) (show jxxor x1 (jxshl 1 x2) ≤ 255 from by omega) (by first | rfl | assumption) (by first | rfl | assumption) (by first | rfl | assumption) rfl rfl (by first | rfl | assumption) (show ¬ b0 80 ((jxxor x1 (jxshl 1 x2)).toNat) = 4611686018427387904 from by omega)
abbrev jQ_X2_tryReceiver (x1 : Int) (a0 b0 : Nat → Nat → Int) : List jxV → (Nat → Nat → Int) → (Nat → Nat → Int) → Prop := rV (fun a b => (a0 = a) ∧ (∀ (A : Nat → Nat → Prop) (p : Nat → Nat → Int), PBD A p (a0 79 3).toNat → PROW A p (a0 79 3).toNat x1.toNat (b0 82) → DPC A p (a0 79 3).toNat x1.toNat (b0 80) (b0 81) → DPC A p (a0 79 3).toNat (x1.toNat + 1) (b 80) (b 81)) ∧ (∀ i : Nat, i < 8 → b 82 i = IMPO) ∧ (jbf [80, 81, 82] b0 b))
theorem cp_X2_tryReceiver_9 (E : jxE) (d : Nat) (hd : Nat.ble 3 (d + 1) = true) (x1 : Int) (a0 b0 : Nat → Nat → Int) (hv0 : iv a0) (hp0 : (0 ≤ x1 ∧ x1 ≤ 39)) : ∀ n : Nat, (∀ (y1 y2 y3 : Int) (b : Nat → Nat → Int), (((((y2 + 0) * 11) + 0) + ((8 - y3) * 1)) + 0).toNat ≤ n → 0 ≤ y1 → y1 ≤ 39 → 1 ≤ y2 → y2 ≤ 255 → 0 ≤ y3 → y3 ≤ 7 → y1 = x1 → 0 ≤ y2 → (0 ≤ x1 ∧ x1 ≤ 39) → (jbf [80, 81] b0 b) → (y2 < 2 ^ (a0 79 3).toNat) → 0 < y2 → 0 ≤ y3 → y3 < a0 79 3 → (∀ (A : Nat → Nat → Prop) (p : Nat → Nat → Int), PBD A p (a0 79 3).toNat → PROW A p (a0 79 3).toNat x1.toNat (b0 82) → DPC A p (a0 79 3).toNat x1.toNat (b0 80) (b0 81) → TRS A p (a0 79 3).toNat x1.toNat (b 80) (b 81) y2.toNat (y3.toNat + 1)) → jt (jxX E d 44 52 [some (.inr (.inr (.inl 79))), some (.inl y1), some (.inl y2), some (.inl y3)] [] (jxSH, a0, b)) (jQ_X2_tryReceiver x1 a0 b0)) ∧ (∀ (y1 y2 y3 : Int) (b : Nat → Nat → Int), (((((y2 + 0) * 11) + 0) + ((8 - y3) * 1)) + 0).toNat ≤ n → 0 ≤ y1 → y1 ≤ 39 → 1 ≤ y2 → y2 ≤ 255 → 0 ≤ y3 → y3 ≤ 7 → y1 = x1 → 0 ≤ y2 → (0 ≤ x1 ∧ x1 ≤ 39) → (jbf [80, 81] b0 b) → (y2 < 2 ^ (a0 79 3).toNat) → 0 < y2 → 0 ≤ y3 → y3 < a0 79 3 → (∀ (A : Nat → Nat → Prop) (p : Nat → Nat → Int), PBD A p (a0 79 3).toNat → PROW A p (a0 79 3).toNat x1.toNat (b0 82) → DPC A p (a0 79 3).toNat x1.toNat (b0 80) (b0 81) → TRS A p (a0 79 3).toNat x1.toNat (b 80) (b 81) y2.toNat y3.toNat) → (y2.toNat.testBit y3.toNat = true) → (¬ b0 82 y3.toNat = IMPO) → jt (jxX E d 44 45 [some (.inr (.inr (.inl 79))), some (.inl y1), some (.inl y2), some (.inl y3)] [] (jxSH, a0, b)) (jQ_X2_tryReceiver x1 a0 b0)) ∧ (∀ (y1 y2 y3 : Int) (b : Nat → Nat → Int), (((((y2 + 0) * 11) + 0) + ((8 - y3) * 1)) + 0).toNat ≤ n → 0 ≤ y1 → y1 ≤ 39 → 1 ≤ y2 → y2 ≤ 255 → 0 ≤ y3 → y3 ≤ 8 → y1 = x1 → 0 ≤ y2 → (0 ≤ x1 ∧ x1 ≤ 39) → (jbf [80, 81] b0 b) → (y2 < 2 ^ (a0 79 3).toNat) → 0 < y2 → 0 ≤ y3 → y3 ≤ a0 79 3 → (∀ (A : Nat → Nat → Prop) (p : Nat → Nat → Int), PBD A p (a0 79 3).toNat → PROW A p (a0 79 3).toNat x1.toNat (b0 82) → DPC A p (a0 79 3).toNat x1.toNat (b0 80) (b0 81) → TRS A p (a0 79 3).toNat x1.toNat (b 80) (b 81) y2.toNat y3.toNat) → jt (jxX E d 44 15 [some (.inr (.inr (.inl 79))), some (.inl y1), some (.inl y2), some (.inl y3)] [] (jxSH, a0, b)) (jQ_X2_tryReceiver x1 a0 b0)) ∧ (∀ (y1 y2 : Int) (b : Nat → Nat → Int), (((y2 + 0) * 11) + 10).toNat ≤ n → 0 ≤ y1 → y1 ≤ 39 → 0 ≤ y2 → y2 ≤ 255 → y1 = x1 → 0 ≤ y2 → (0 ≤ x1 ∧ x1 ≤ 39) → (jbf [80, 81] b0 b) → (y2 < 2 ^ (a0 79 3).toNat) → (∀ (A : Nat → Nat → Prop) (p : Nat → Nat → Int), PBD A p (a0 79 3).toNat → PROW A p (a0 79 3).toNat x1.toNat (b0 82) → DPC A p (a0 79 3).toNat x1.toNat (b0 80) (b0 81) → TRS A p (a0 79 3).toNat x1.toNat (b 80) (b 81) y2.toNat 0) → jt (jxX E d 44 9 [some (.inr (.inr (.inl 79))), some (.inl y1), some (.inl y2), none] [] (jxSH, a0, b)) (jQ_X2_tryReceiver x1 a0 b0)) := by
  refine jx_ind fun n ih => ?_
  have ih52 : ∀ (y1 y2 y3 : Int) (b : Nat → Nat → Int), (((((y2 + 0) * 11) + 0) + ((8 - y3) * 1)) + 0).toNat < n → 0 ≤ y1 → y1 ≤ 39 → 1 ≤ y2 → y2 ≤ 255 → 0 ≤ y3 → y3 ≤ 7 → y1 = x1 → 0 ≤ y2 → (0 ≤ x1 ∧ x1 ≤ 39) → (jbf [80, 81] b0 b) → (y2 < 2 ^ (a0 79 3).toNat) → 0 < y2 → 0 ≤ y3 → y3 < a0 79 3 → (∀ (A : Nat → Nat → Prop) (p : Nat → Nat → Int), PBD A p (a0 79 3).toNat → PROW A p (a0 79 3).toNat x1.toNat (b0 82) → DPC A p (a0 79 3).toNat x1.toNat (b0 80) (b0 81) → TRS A p (a0 79 3).toNat x1.toNat (b 80) (b 81) y2.toNat (y3.toNat + 1)) → jt (jxX E d 44 52 [some (.inr (.inr (.inl 79))), some (.inl y1), some (.inl y2), some (.inl y3)] [] (jxSH, a0, b)) (jQ_X2_tryReceiver x1 a0 b0) := fun y1 y2 y3 b hlt i0 i1 i2 i3 i4 i5 i6 i7 i8 i9 i10 i11 i12 i13 i14 => (ih _ hlt).1 y1 y2 y3 b (Nat.le_refl _) i0 i1 i2 i3 i4 i5 i6 i7 i8 i9 i10 i11 i12 i13 i14
  have ih45 : ∀ (y1 y2 y3 : Int) (b : Nat → Nat → Int), (((((y2 + 0) * 11) + 0) + ((8 - y3) * 1)) + 0).toNat < n → 0 ≤ y1 → y1 ≤ 39 → 1 ≤ y2 → y2 ≤ 255 → 0 ≤ y3 → y3 ≤ 7 → y1 = x1 → 0 ≤ y2 → (0 ≤ x1 ∧ x1 ≤ 39) → (jbf [80, 81] b0 b) → (y2 < 2 ^ (a0 79 3).toNat) → 0 < y2 → 0 ≤ y3 → y3 < a0 79 3 → (∀ (A : Nat → Nat → Prop) (p : Nat → Nat → Int), PBD A p (a0 79 3).toNat → PROW A p (a0 79 3).toNat x1.toNat (b0 82) → DPC A p (a0 79 3).toNat x1.toNat (b0 80) (b0 81) → TRS A p (a0 79 3).toNat x1.toNat (b 80) (b 81) y2.toNat y3.toNat) → (y2.toNat.testBit y3.toNat = true) → (¬ b0 82 y3.toNat = IMPO) → jt (jxX E d 44 45 [some (.inr (.inr (.inl 79))), some (.inl y1), some (.inl y2), some (.inl y3)] [] (jxSH, a0, b)) (jQ_X2_tryReceiver x1 a0 b0) := fun y1 y2 y3 b hlt i0 i1 i2 i3 i4 i5 i6 i7 i8 i9 i10 i11 i12 i13 i14 i15 i16 => (ih _ hlt).2.1 y1 y2 y3 b (Nat.le_refl _) i0 i1 i2 i3 i4 i5 i6 i7 i8 i9 i10 i11 i12 i13 i14 i15 i16
  have ih15 : ∀ (y1 y2 y3 : Int) (b : Nat → Nat → Int), (((((y2 + 0) * 11) + 0) + ((8 - y3) * 1)) + 0).toNat < n → 0 ≤ y1 → y1 ≤ 39 → 1 ≤ y2 → y2 ≤ 255 → 0 ≤ y3 → y3 ≤ 8 → y1 = x1 → 0 ≤ y2 → (0 ≤ x1 ∧ x1 ≤ 39) → (jbf [80, 81] b0 b) → (y2 < 2 ^ (a0 79 3).toNat) → 0 < y2 → 0 ≤ y3 → y3 ≤ a0 79 3 → (∀ (A : Nat → Nat → Prop) (p : Nat → Nat → Int), PBD A p (a0 79 3).toNat → PROW A p (a0 79 3).toNat x1.toNat (b0 82) → DPC A p (a0 79 3).toNat x1.toNat (b0 80) (b0 81) → TRS A p (a0 79 3).toNat x1.toNat (b 80) (b 81) y2.toNat y3.toNat) → jt (jxX E d 44 15 [some (.inr (.inr (.inl 79))), some (.inl y1), some (.inl y2), some (.inl y3)] [] (jxSH, a0, b)) (jQ_X2_tryReceiver x1 a0 b0) := fun y1 y2 y3 b hlt i0 i1 i2 i3 i4 i5 i6 i7 i8 i9 i10 i11 i12 i13 i14 => (ih _ hlt).2.2.1 y1 y2 y3 b (Nat.le_refl _) i0 i1 i2 i3 i4 i5 i6 i7 i8 i9 i10 i11 i12 i13 i14
  have ih9 : ∀ (y1 y2 : Int) (b : Nat → Nat → Int), (((y2 + 0) * 11) + 10).toNat < n → 0 ≤ y1 → y1 ≤ 39 → 0 ≤ y2 → y2 ≤ 255 → y1 = x1 → 0 ≤ y2 → (0 ≤ x1 ∧ x1 ≤ 39) → (jbf [80, 81] b0 b) → (y2 < 2 ^ (a0 79 3).toNat) → (∀ (A : Nat → Nat → Prop) (p : Nat → Nat → Int), PBD A p (a0 79 3).toNat → PROW A p (a0 79 3).toNat x1.toNat (b0 82) → DPC A p (a0 79 3).toNat x1.toNat (b0 80) (b0 81) → TRS A p (a0 79 3).toNat x1.toNat (b 80) (b 81) y2.toNat 0) → jt (jxX E d 44 9 [some (.inr (.inr (.inl 79))), some (.inl y1), some (.inl y2), none] [] (jxSH, a0, b)) (jQ_X2_tryReceiver x1 a0 b0) := fun y1 y2 b hlt i0 i1 i2 i3 i4 i5 i6 i7 i8 i9 => (ih _ hlt).2.2.2 y1 y2 b (Nat.le_refl _) i0 i1 i2 i3 i4 i5 i6 i7 i8 i9
  have hc52 : ∀ (y1 y2 y3 : Int) (b : Nat → Nat → Int), (((((y2 + 0) * 11) + 0) + ((8 - y3) * 1)) + 0).toNat ≤ n → 0 ≤ y1 → y1 ≤ 39 → 1 ≤ y2 → y2 ≤ 255 → 0 ≤ y3 → y3 ≤ 7 → y1 = x1 → 0 ≤ y2 → (0 ≤ x1 ∧ x1 ≤ 39) → (jbf [80, 81] b0 b) → (y2 < 2 ^ (a0 79 3).toNat) → 0 < y2 → 0 ≤ y3 → y3 < a0 79 3 → (∀ (A : Nat → Nat → Prop) (p : Nat → Nat → Int), PBD A p (a0 79 3).toNat → PROW A p (a0 79 3).toNat x1.toNat (b0 82) → DPC A p (a0 79 3).toNat x1.toNat (b0 80) (b0 81) → TRS A p (a0 79 3).toNat x1.toNat (b 80) (b 81) y2.toNat (y3.toNat + 1)) → jt (jxX E d 44 52 [some (.inr (.inr (.inl 79))), some (.inl y1), some (.inl y2), some (.inl y3)] [] (jxSH, a0, b)) (jQ_X2_tryReceiver x1 a0 b0) := by
    intro y1 y2 y3 b hm hi0 hi1 hi2 hi3 hi4 hi5 hi6 hi7 hi8 hbf hm2 hi11 hi12 hi13 ht
    refine jt_eq (bq_X2_tryReceiver_52 E d y1 y2 y3 a0 b) ?_
    have h1245_ := iv_get hv0 (k := 79) (j := 3) (l := 0) (u := 8) rfl
    have i793 := iv_get hv0 (k := 79) (j := 3) (l := 0) (u := 8) rfl
    have h1246_ : jxw (y3 + 1) = y3 + 1 := jxw_id (by omega) (by omega)
    exact ih15 y1 y2 (jxw (y3 + 1)) b (show (((((y2 + 0) * 11) + 0) + ((8 - (jxw (y3 + 1))) * 1)) + 0).toNat < n from by omega) (show 0 ≤ y1 from by omega) (show y1 ≤ 39 from by omega) (show 1 ≤ y2 from by omega) (show y2 ≤ 255 from by omega) (show 0 ≤ jxw (y3 + 1) from by omega) (show jxw (y3 + 1) ≤ 8 from by omega) (show y1 = x1 from by omega) (show 0 ≤ y2 from by omega) (show (0 ≤ x1 ∧ x1 ≤ 39) from by omega) hbf (by first | exact hm2 | (have e := pow79 i793.1 i793.2; omega)) (show 0 < y2 from by omega) (show 0 ≤ jxw (y3 + 1) from by omega) (show jxw (y3 + 1) ≤ a0 79 3 from by omega) (by rw [show (jxw (y3 + 1)).toNat = y3.toNat + 1 from by omega]; exact ht)
  have hc45 : ∀ (y1 y2 y3 : Int) (b : Nat → Nat → Int), (((((y2 + 0) * 11) + 0) + ((8 - y3) * 1)) + 0).toNat ≤ n → 0 ≤ y1 → y1 ≤ 39 → 1 ≤ y2 → y2 ≤ 255 → 0 ≤ y3 → y3 ≤ 7 → y1 = x1 → 0 ≤ y2 → (0 ≤ x1 ∧ x1 ≤ 39) → (jbf [80, 81] b0 b) → (y2 < 2 ^ (a0 79 3).toNat) → 0 < y2 → 0 ≤ y3 → y3 < a0 79 3 → (∀ (A : Nat → Nat → Prop) (p : Nat → Nat → Int), PBD A p (a0 79 3).toNat → PROW A p (a0 79 3).toNat x1.toNat (b0 82) → DPC A p (a0 79 3).toNat x1.toNat (b0 80) (b0 81) → TRS A p (a0 79 3).toNat x1.toNat (b 80) (b 81) y2.toNat y3.toNat) → (y2.toNat.testBit y3.toNat = true) → (¬ b0 82 y3.toNat = IMPO) → jt (jxX E d 44 45 [some (.inr (.inr (.inl 79))), some (.inl y1), some (.inl y2), some (.inl y3)] [] (jxSH, a0, b)) (jQ_X2_tryReceiver x1 a0 b0) := by
    intro y1 y2 y3 b hm hi0 hi1 hi2 hi3 hi4 hi5 hi6 hi7 hi8 hbf hm2 hi11 hi12 hi13 ht hbit hnp
    refine jt_eq (bq_X2_tryReceiver_45 E d y1 y2 y3 a0 b) ?_
    have h1247_ := iv_get hv0 (k := 79) (j := 3) (l := 0) (u := 8) rfl
    have i793 := iv_get hv0 (k := 79) (j := 3) (l := 0) (u := 8) rfl
    have e79 := pow79 i793.1 i793.2
    refine jt_bV (sp_X2_tryPair E d (jd_le hd rfl) y2 y3 y1 a0 b hv0 (show 0 ≤ y2 from by omega) (show y2 ≤ 255 from by omega) (show 0 ≤ y3 from by omega) (show y3 ≤ 7 from by omega)) (fun a1248_ b1248_ h1248_ => ?_)
    obtain ⟨rfl, hq1248_0⟩ := h1248_
    exact hc52 y1 y2 y3 b1248_ (show (((((y2 + 0) * 11) + 0) + ((8 - y3) * 1)) + 0).toNat ≤ n from by omega) (show 0 ≤ y1 from by omega) (show y1 ≤ 39 from by omega) (show 1 ≤ y2 from by omega) (show y2 ≤ 255 from by omega) (show 0 ≤ y3 from by omega) (show y3 ≤ 7 from by omega) (show y1 = x1 from by omega) (show 0 ≤ y2 from by omega) (show (0 ≤ x1 ∧ x1 ≤ 39) from by omega) (jbf_tr hbf (TPR_fr hq1248_0).1 rfl) (by first | exact hm2 | (have e := pow79 i793.1 i793.2; omega)) (show 0 < y2 from by omega) (show 0 ≤ y3 from by omega) (show y3 < a0 79 3 from by omega) (fun A p h1_ h2_ h3_ => by have q := hq1248_0; have pr := (h2_ y3.toNat (by omega)).resolve_right (fun z => hnp z.2); rw [show y1 = ((x1.toNat : Nat) : Int) from by omega, show y2 = ((y2.toNat : Nat) : Int) from by omega, show y3 = ((y3.toNat : Nat) : Int) from by omega] at q; exact TRS_pair (by omega) (by omega) (by omega) hbit (by omega) pr.1 ((hbf 82 _ rfl).trans pr.2.1) h1_ (ht A p h1_ h2_ h3_) q)
  have hc15 : ∀ (y1 y2 y3 : Int) (b : Nat → Nat → Int), (((((y2 + 0) * 11) + 0) + ((8 - y3) * 1)) + 0).toNat ≤ n → 0 ≤ y1 → y1 ≤ 39 → 1 ≤ y2 → y2 ≤ 255 → 0 ≤ y3 → y3 ≤ 8 → y1 = x1 → 0 ≤ y2 → (0 ≤ x1 ∧ x1 ≤ 39) → (jbf [80, 81] b0 b) → (y2 < 2 ^ (a0 79 3).toNat) → 0 < y2 → 0 ≤ y3 → y3 ≤ a0 79 3 → (∀ (A : Nat → Nat → Prop) (p : Nat → Nat → Int), PBD A p (a0 79 3).toNat → PROW A p (a0 79 3).toNat x1.toNat (b0 82) → DPC A p (a0 79 3).toNat x1.toNat (b0 80) (b0 81) → TRS A p (a0 79 3).toNat x1.toNat (b 80) (b 81) y2.toNat y3.toNat) → jt (jxX E d 44 15 [some (.inr (.inr (.inl 79))), some (.inl y1), some (.inl y2), some (.inl y3)] [] (jxSH, a0, b)) (jQ_X2_tryReceiver x1 a0 b0) := by
    intro y1 y2 y3 b hm hi0 hi1 hi2 hi3 hi4 hi5 hi6 hi7 hi8 hbf hm2 hi11 hi12 hi13 ht
    refine jt_eq (bq_X2_tryReceiver_15 E d y1 y2 y3 a0 b) ?_
    have h1249_ := iv_get hv0 (k := 79) (j := 3) (l := 0) (u := 8) rfl
    have i793 := iv_get hv0 (k := 79) (j := 3) (l := 0) (u := 8) rfl
    refine jt_ite (fun c1250_ => ?_) (fun c1250_ => ?_)
    ·
      have h1251_ := jxshr_b y2 y3
      have h1252_ := jxand_r (jxshr y2 y3) 1 (by decide) (by decide)
      refine jt_ite (fun c1253_ => ?_) (fun c1253_ => ?_)
      ·
        refine jt_grd (by omega) ?_
        have h1254_ := jxlcmp_b (b 82 (y3.toNat)) 4611686018427387904
        refine jt_ite (fun c1255_ => ?_) (fun c1255_ => ?_)
        ·
          exact hc52 y1 y2 y3 b (show (((((y2 + 0) * 11) + 0) + ((8 - y3) * 1)) + 0).toNat ≤ n from by omega) (show 0 ≤ y1 from by omega) (show y1 ≤ 39 from by omega) (show 1 ≤ y2 from by omega) (show y2 ≤ 255 from by omega) (show 0 ≤ y3 from by omega) (show y3 ≤ 7 from by omega) (show y1 = x1 from by omega) (show 0 ≤ y2 from by omega) (show (0 ≤ x1 ∧ x1 ≤ 39) from by omega) hbf (by first | exact hm2 | (have e := pow79 i793.1 i793.2; omega)) (show 0 < y2 from by omega) (show 0 ≤ y3 from by omega) (show y3 < a0 79 3 from by omega) (by first | exact (fun A p h1_ h2_ h3_ => TRS_skip (ht A p h1_ h2_ h3_) (Or.inl (fun z => by have hbt : jxand (jxshr y2 y3) 1 = if y2.toNat.testBit y3.toNat then 1 else 0 := (by have q := jxbit_nat y2.toNat y3.toNat (by have e := pow79 i793.1 i793.2; omega) (by omega); rw [Int.toNat_of_nonneg (by omega), Int.toNat_of_nonneg (by omega)] at q; exact q); rw [z] at hbt; rw [if_pos rfl] at hbt; omega))) | exact (fun A p h1_ h2_ h3_ => TRS_skip (ht A p h1_ h2_ h3_) (Or.inr (fun z => by have pr := (h2_ y3.toNat (by omega)).resolve_right (fun w => w.1 z); apply pr.2.2; rw [← hbf 82 _ rfl]; show b 82 (y3.toNat) = 4611686018427387904; omega))))
        ·
          exact hc45 y1 y2 y3 b (show (((((y2 + 0) * 11) + 0) + ((8 - y3) * 1)) + 0).toNat ≤ n from by omega) (show 0 ≤ y1 from by omega) (show y1 ≤ 39 from by omega) (show 1 ≤ y2 from by omega) (show y2 ≤ 255 from by omega) (show 0 ≤ y3 from by omega) (show y3 ≤ 7 from by omega) (show y1 = x1 from by omega) (show 0 ≤ y2 from by omega) (show (0 ≤ x1 ∧ x1 ≤ 39) from by omega) hbf (by first | exact hm2 | (have e := pow79 i793.1 i793.2; omega)) (show 0 < y2 from by omega) (show 0 ≤ y3 from by omega) (show y3 < a0 79 3 from by omega) ht (by have hbt : jxand (jxshr y2 y3) 1 = if y2.toNat.testBit y3.toNat then 1 else 0 := (by have q := jxbit_nat y2.toNat y3.toNat (by have e := pow79 i793.1 i793.2; omega) (by omega); rw [Int.toNat_of_nonneg (by omega), Int.toNat_of_nonneg (by omega)] at q; exact q); cases c : y2.toNat.testBit y3.toNat <;> first | rfl | (rw [c] at hbt; exact absurd hbt (by rw [if_neg (by decide)]; omega))) (by rw [← hbf 82 _ rfl]; show ¬ b 82 (y3.toNat) = 4611686018427387904; omega)
      ·
        exact hc52 y1 y2 y3 b (show (((((y2 + 0) * 11) + 0) + ((8 - y3) * 1)) + 0).toNat ≤ n from by omega) (show 0 ≤ y1 from by omega) (show y1 ≤ 39 from by omega) (show 1 ≤ y2 from by omega) (show y2 ≤ 255 from by omega) (show 0 ≤ y3 from by omega) (show y3 ≤ 7 from by omega) (show y1 = x1 from by omega) (show 0 ≤ y2 from by omega) (show (0 ≤ x1 ∧ x1 ≤ 39) from by omega) hbf (by first | exact hm2 | (have e := pow79 i793.1 i793.2; omega)) (show 0 < y2 from by omega) (show 0 ≤ y3 from by omega) (show y3 < a0 79 3 from by omega) (by first | exact (fun A p h1_ h2_ h3_ => TRS_skip (ht A p h1_ h2_ h3_) (Or.inl (fun z => by have hbt : jxand (jxshr y2 y3) 1 = if y2.toNat.testBit y3.toNat then 1 else 0 := (by have q := jxbit_nat y2.toNat y3.toNat (by have e := pow79 i793.1 i793.2; omega) (by omega); rw [Int.toNat_of_nonneg (by omega), Int.toNat_of_nonneg (by omega)] at q; exact q); rw [z] at hbt; rw [if_pos rfl] at hbt; omega))) | exact (fun A p h1_ h2_ h3_ => TRS_skip (ht A p h1_ h2_ h3_) (Or.inr (fun z => by have pr := (h2_ y3.toNat (by omega)).resolve_right (fun w => w.1 z); apply pr.2.2; rw [← hbf 82 _ rfl]; show b 82 (y3.toNat) = 4611686018427387904; omega))))
    ·
      have h1256_ : jxw (y2 + (-1)) = y2 + (-1) := jxw_id (by omega) (by omega)
      exact ih9 y1 (jxw (y2 + (-1))) b (show ((((jxw (y2 + (-1))) + 0) * 11) + 10).toNat < n from by omega) (show 0 ≤ y1 from by omega) (show y1 ≤ 39 from by omega) (show 0 ≤ jxw (y2 + (-1)) from by omega) (show jxw (y2 + (-1)) ≤ 255 from by omega) (show y1 = x1 from by omega) (show 0 ≤ jxw (y2 + (-1)) from by omega) (show (0 ≤ x1 ∧ x1 ≤ 39) from by omega) hbf (by first | exact hm2 | (have e := pow79 i793.1 i793.2; omega)) (fun A p h1_ h2_ h3_ => by have q := ht A p h1_ h2_ h3_; rw [show y3.toNat = (a0 79 3).toNat from by omega] at q; have q2 := TRS_next (by omega) q; rw [show y2.toNat - 1 = (jxw (y2 + (-1))).toNat from by omega] at q2; exact q2)
  have hc9 : ∀ (y1 y2 : Int) (b : Nat → Nat → Int), (((y2 + 0) * 11) + 10).toNat ≤ n → 0 ≤ y1 → y1 ≤ 39 → 0 ≤ y2 → y2 ≤ 255 → y1 = x1 → 0 ≤ y2 → (0 ≤ x1 ∧ x1 ≤ 39) → (jbf [80, 81] b0 b) → (y2 < 2 ^ (a0 79 3).toNat) → (∀ (A : Nat → Nat → Prop) (p : Nat → Nat → Int), PBD A p (a0 79 3).toNat → PROW A p (a0 79 3).toNat x1.toNat (b0 82) → DPC A p (a0 79 3).toNat x1.toNat (b0 80) (b0 81) → TRS A p (a0 79 3).toNat x1.toNat (b 80) (b 81) y2.toNat 0) → jt (jxX E d 44 9 [some (.inr (.inr (.inl 79))), some (.inl y1), some (.inl y2), none] [] (jxSH, a0, b)) (jQ_X2_tryReceiver x1 a0 b0) := by
    intro y1 y2 b hm hi0 hi1 hi2 hi3 hi4 hi5 hi6 hbf hm2 ht
    refine jt_eq (bq_X2_tryReceiver_9 E d y1 y2 a0 b) ?_
    have i793 := iv_get hv0 (k := 79) (j := 3) (l := 0) (u := 8) rfl
    refine jt_ite (fun c1257_ => ?_) (fun c1257_ => ?_)
    ·
      have h1258_ := iv_get hv0 (k := 79) (j := 3) (l := 0) (u := 8) rfl
      exact hc15 y1 y2 0 b (show (((((y2 + 0) * 11) + 0) + ((8 - 0) * 1)) + 0).toNat ≤ n from by omega) (show 0 ≤ y1 from by omega) (show y1 ≤ 39 from by omega) (show 1 ≤ y2 from by omega) (show y2 ≤ 255 from by omega) (show 0 ≤ 0 from by omega) (show 0 ≤ 8 from by omega) (show y1 = x1 from by omega) (show 0 ≤ y2 from by omega) (show (0 ≤ x1 ∧ x1 ≤ 39) from by omega) hbf (by first | exact hm2 | (have e := pow79 i793.1 i793.2; omega)) (show 0 < y2 from by omega) (show 0 ≤ 0 from by omega) (show 0 ≤ a0 79 3 from by omega) (fun A p h1_ h2_ h3_ => ht A p h1_ h2_ h3_)
    ·
      refine jt_bV (sp_X2_forbidAll E d (jd_le hd rfl) a0 b hv0) (fun a1259_ b1259_ h1259_ => ?_)
      obtain ⟨rfl, hq1259_0, hq1259_1⟩ := h1259_
      exact jt_rV ⟨rfl, (fun A p h1_ h2_ h3_ => by have q := ht A p h1_ h2_ h3_; rw [show y2.toNat = 0 from by omega] at q; have q2 := TRS_end q; rw [show b1259_ 80 = b 80 from funext fun j => hq1259_1 80 j rfl, show b1259_ 81 = b 81 from funext fun j => hq1259_1 81 j rfl]; exact q2), hq1259_0, (jbf_tr (jbf_tr (jbf_rf [80, 81, 82] b0) hbf rfl) hq1259_1 rfl)⟩
  exact ⟨hc52, hc45, hc15, hc9⟩
theorem sp_X2_tryReceiver (E : jxE) (d : Nat) (hd : Nat.ble 3 d = true) (x1 : Int) (a0 b0 : Nat → Nat → Int) (hv0 : iv a0) (hp0 : (0 ≤ x1 ∧ x1 ≤ 39)) : jt (jxC E d 44 [.inr (.inr (.inl 79)), .inl x1] (jxSH, a0, b0)) (jQ_X2_tryReceiver x1 a0 b0) := by
  obtain ⟨d, rfl⟩ := jd_succ hd
  refine jt_eq (bq_X2_tryReceiver E d x1 a0 b0) ?_
  have i793 := iv_get hv0 (k := 79) (j := 3) (l := 0) (u := 8) rfl
  have e79 := pow79 i793.1 i793.2
  have h1 : jxw (jxshl 1 (a0 79 3) - 1) = jxshl 1 (a0 79 3) - 1 := jxw_id (by omega) (by omega)
  have h1260_ := iv_get hv0 (k := 79) (j := 3) (l := 0) (u := 8) rfl
  have h1261_ := jxshl1_b (a0 79 3)
  have h1262_ : jxw ((jxshl 1 (a0 79 3)) - 1) = (jxshl 1 (a0 79 3)) - 1 := jxw_id (by omega) (by omega)
  exact (cp_X2_tryReceiver_9 E d hd x1 a0 b0 hv0 hp0 _).2.2.2 x1 (jxw ((jxshl 1 (a0 79 3)) - 1)) b0 (Nat.le_refl _) (show 0 ≤ x1 from by omega) (show x1 ≤ 39 from by omega) (show 0 ≤ jxw ((jxshl 1 (a0 79 3)) - 1) from by omega) (show jxw ((jxshl 1 (a0 79 3)) - 1) ≤ 255 from by omega) (show x1 = x1 from by omega) (show 0 ≤ jxw ((jxshl 1 (a0 79 3)) - 1) from by omega) (show (0 ≤ x1 ∧ x1 ≤ 39) from by omega) (jbf_rf _ _) (by first | exact hm2 | (have e := pow79 i793.1 i793.2; omega)) (fun A p h1_ h2_ h3_ => by have q := TRS_start h3_; rw [show (2 : Nat) ^ (a0 79 3).toNat - 1 = (jxw ((jxshl 1 (a0 79 3)) - 1)).toNat from by omega] at q; exact q)
def jW_X11_give : List (Nat × Nat) := [(0, 9), (58, 8), (58, 13), (58, 14), (58, 15), (59, 9999), (60, 9999), (61, 9999), (62, 9999), (63, 9999), (64, 9999), (65, 9999), (70, 9999), (71, 9999), (72, 9999), (73, 9999), (74, 9999), (75, 9999), (77, 9999), (79, 3)]
abbrev jQ_X11_give (a0 b0 : Nat → Nat → Int) : List jxV → (Nat → Nat → Int) → (Nat → Nat → Int) → Prop := rI (fun r a b => (iv a) ∧ (jfr jW_X11_give a0 a) ∧ ((a0 0 9 = 0 → r = 0)))
theorem cp_X11_give_144 (E : jxE) (d : Nat) (hd : Nat.ble 8 (d + 1) = true) (a0 b0 : Nat → Nat → Int) (hv0 : iv a0) (hp0 : WISHR a0) : ∀ n : Nat, (∀ (y1 y2 y3 : Int) (a b : Nat → Nat → Int), (((8 - y3) * 1) + 0).toNat ≤ n → iv a → jfr jW_X11_give a0 a → 1 ≤ y1 → y1 ≤ 8 → 0 ≤ y3 → y3 ≤ 7 → (a0 0 9 = 0 → y1 = 0) → (a0 0 9 = 0 → y2 = 0) → jt (jxX E d 168 179 [some (.inr (.inr (.inl 0))), some (.inl y1), some (.inl y2), some (.inl y3), none] [] (jxSH, a, b)) (jQ_X11_give a0 b0)) ∧ (∀ (y1 y2 y3 : Int) (a b : Nat → Nat → Int), (((8 - y3) * 1) + 0).toNat ≤ n → iv a → jfr jW_X11_give a0 a → 0 ≤ y1 → y1 ≤ 8 → 0 ≤ y3 → y3 ≤ 8 → (a0 0 9 = 0 → y1 = 0) → (a0 0 9 = 0 → y2 = 0) → jt (jxX E d 168 144 [some (.inr (.inr (.inl 0))), some (.inl y1), some (.inl y2), some (.inl y3), none] [] (jxSH, a, b)) (jQ_X11_give a0 b0)) := by
  refine jx_ind fun n ih => ?_
  have ih179 : ∀ (y1 y2 y3 : Int) (a b : Nat → Nat → Int), (((8 - y3) * 1) + 0).toNat < n → iv a → jfr jW_X11_give a0 a → 1 ≤ y1 → y1 ≤ 8 → 0 ≤ y3 → y3 ≤ 7 → (a0 0 9 = 0 → y1 = 0) → (a0 0 9 = 0 → y2 = 0) → jt (jxX E d 168 179 [some (.inr (.inr (.inl 0))), some (.inl y1), some (.inl y2), some (.inl y3), none] [] (jxSH, a, b)) (jQ_X11_give a0 b0) := fun y1 y2 y3 a b hlt i0 i1 i2 i3 i4 i5 i6 i7 => (ih _ hlt).1 y1 y2 y3 a b (Nat.le_refl _) i0 i1 i2 i3 i4 i5 i6 i7
  have ih144 : ∀ (y1 y2 y3 : Int) (a b : Nat → Nat → Int), (((8 - y3) * 1) + 0).toNat < n → iv a → jfr jW_X11_give a0 a → 0 ≤ y1 → y1 ≤ 8 → 0 ≤ y3 → y3 ≤ 8 → (a0 0 9 = 0 → y1 = 0) → (a0 0 9 = 0 → y2 = 0) → jt (jxX E d 168 144 [some (.inr (.inr (.inl 0))), some (.inl y1), some (.inl y2), some (.inl y3), none] [] (jxSH, a, b)) (jQ_X11_give a0 b0) := fun y1 y2 y3 a b hlt i0 i1 i2 i3 i4 i5 i6 i7 => (ih _ hlt).2 y1 y2 y3 a b (Nat.le_refl _) i0 i1 i2 i3 i4 i5 i6 i7
  have hc179 : ∀ (y1 y2 y3 : Int) (a b : Nat → Nat → Int), (((8 - y3) * 1) + 0).toNat ≤ n → iv a → jfr jW_X11_give a0 a → 1 ≤ y1 → y1 ≤ 8 → 0 ≤ y3 → y3 ≤ 7 → (a0 0 9 = 0 → y1 = 0) → (a0 0 9 = 0 → y2 = 0) → jt (jxX E d 168 179 [some (.inr (.inr (.inl 0))), some (.inl y1), some (.inl y2), some (.inl y3), none] [] (jxSH, a, b)) (jQ_X11_give a0 b0) := by
    intro y1 y2 y3 a b hm hv hf hi0 hi1 hi2 hi3 hi4 hi5
    refine jt_eq (bq_X11_give_179 E d y1 y2 y3 a b) ?_
    have h1263_ := iv_get hv0 (k := 0) (j := 9) (l := 0) (u := 8) rfl
    have h1264_ : jxw (y3 + 1) = y3 + 1 := jxw_id (by omega) (by omega)
    have h1265_ := jxw_im (y2 + 1)
    have h1266_ := jxw_rg (y2 + 1)
    exact ih144 y1 (jxw (y2 + 1)) (jxw (y3 + 1)) a b (show (((8 - (jxw (y3 + 1))) * 1) + 0).toNat < n from by omega) hv hf (show 0 ≤ y1 from by omega) (show y1 ≤ 8 from by omega) (show 0 ≤ jxw (y3 + 1) from by omega) (show jxw (y3 + 1) ≤ 8 from by omega) (show (a0 0 9 = 0 → y1 = 0) from by omega) (show (a0 0 9 = 0 → jxw (y2 + 1) = 0) from by omega)
  have hc144 : ∀ (y1 y2 y3 : Int) (a b : Nat → Nat → Int), (((8 - y3) * 1) + 0).toNat ≤ n → iv a → jfr jW_X11_give a0 a → 0 ≤ y1 → y1 ≤ 8 → 0 ≤ y3 → y3 ≤ 8 → (a0 0 9 = 0 → y1 = 0) → (a0 0 9 = 0 → y2 = 0) → jt (jxX E d 168 144 [some (.inr (.inr (.inl 0))), some (.inl y1), some (.inl y2), some (.inl y3), none] [] (jxSH, a, b)) (jQ_X11_give a0 b0) := by
    intro y1 y2 y3 a b hm hv hf hi0 hi1 hi2 hi3 hi4 hi5
    refine jt_eq (bq_X11_give_144 E d y1 y2 y3 a b) ?_
    have h1267_ := iv_get hv0 (k := 0) (j := 9) (l := 0) (u := 8) rfl
    refine jt_ite (fun c1268_ => ?_) (fun c1268_ => ?_)
    ·
      refine jt_eI (eq_X2_receiverOf E d (jd_le hd rfl) y3 a b) ?_
      refine jt_ite (fun c1269_ => ?_) (fun c1269_ => ?_)
      ·
        have h1270_ : jxw (y3 + 1) = y3 + 1 := jxw_id (by omega) (by omega)
        exact ih144 y1 y2 (jxw (y3 + 1)) a b (show (((8 - (jxw (y3 + 1))) * 1) + 0).toNat < n from by omega) hv hf (show 0 ≤ y1 from by omega) (show y1 ≤ 8 from by omega) (show 0 ≤ jxw (y3 + 1) from by omega) (show jxw (y3 + 1) ≤ 8 from by omega) (show (a0 0 9 = 0 → y1 = 0) from by omega) (show (a0 0 9 = 0 → y2 = 0) from by omega)
      ·
        refine jt_grd (by omega) ?_
        refine jt_bI (sp_X11_send E d (jd_le hd rfl) (a 77 (y3.toNat)) (f_X2_receiverOf a b y3) (-1) a b hv) (fun r1271_ a1271_ b1271_ h1271_ => ?_)
        obtain ⟨hv1271_, hf1271_, rfl, hq1271_0, hq1271_1, hq1271_2⟩ := h1271_
        have h1272_ := iv_get hv (k := 58) (j := 8) (l := 0) (u := 300) rfl
        have hf1273_ : jfr jW_X11_give a0 a1271_ := jfr_tr hf hf1271_ rfl
        exact hc179 y1 y2 y3 a1271_ b (show (((8 - y3) * 1) + 0).toNat ≤ n from by omega) hv1271_ hf1273_ (show 1 ≤ y1 from by omega) (show y1 ≤ 8 from by omega) (show 0 ≤ y3 from by omega) (show y3 ≤ 7 from by omega) (show (a0 0 9 = 0 → y1 = 0) from by omega) (show (a0 0 9 = 0 → y2 = 0) from by omega)
    ·
      exact jt_rI ⟨hv, hf, (show (a0 0 9 = 0 → y2 = 0) from by omega)⟩
  exact ⟨hc179, hc144⟩
theorem cp_X11_give_51 (E : jxE) (d : Nat) (hd : Nat.ble 8 (d + 1) = true) (a0 b0 : Nat → Nat → Int) (hv0 : iv a0) (hp0 : WISHR a0) : ∀ n : Nat, (∀ (y1 y2 y3 : Int) (a b : Nat → Nat → Int), (((((40 - y2) * 11) + 0) + ((8 - y3) * 1)) + 0).toNat ≤ n → iv a → jfr jW_X11_give a0 a → 1 ≤ y1 → y1 ≤ 8 → 0 ≤ y2 → y2 ≤ 39 → 0 ≤ y3 → y3 ≤ 7 → (a0 0 9 = 0 → y1 = 0) → jt (jxX E d 168 113 [some (.inr (.inr (.inl 0))), some (.inl y1), some (.inl y2), some (.inl y3), none] [] (jxSH, a, b)) (jQ_X11_give a0 b0)) ∧ (∀ (y1 y2 y3 : Int) (a b : Nat → Nat → Int), (((((40 - y2) * 11) + 0) + ((8 - y3) * 1)) + 0).toNat ≤ n → iv a → jfr jW_X11_give a0 a → 1 ≤ y1 → y1 ≤ 8 → 0 ≤ y2 → y2 ≤ 39 → 0 ≤ y3 → y3 ≤ 7 → (a0 0 9 = 0 → y1 = 0) → jt (jxX E d 168 89 [some (.inr (.inr (.inl 0))), some (.inl y1), some (.inl y2), some (.inl y3), none] [] (jxSH, a, b)) (jQ_X11_give a0 b0)) ∧ (∀ (y1 y2 y3 : Int) (a b : Nat → Nat → Int), (((((40 - y2) * 11) + 0) + ((8 - y3) * 1)) + 0).toNat ≤ n → iv a → jfr jW_X11_give a0 a → 0 ≤ y1 → y1 ≤ 8 → 0 ≤ y2 → y2 ≤ 39 → 0 ≤ y3 → y3 ≤ 8 → (a0 0 9 = 0 → y1 = 0) → jt (jxX E d 168 64 [some (.inr (.inr (.inl 0))), some (.inl y1), some (.inl y2), some (.inl y3), none] [] (jxSH, a, b)) (jQ_X11_give a0 b0)) ∧ (∀ (y1 y2 : Int) (a b : Nat → Nat → Int), (((40 - y2) * 11) + 10).toNat ≤ n → iv a → jfr jW_X11_give a0 a → 0 ≤ y1 → y1 ≤ 8 → 0 ≤ y2 → y2 ≤ 40 → (a0 0 9 = 0 → y1 = 0) → jt (jxX E d 168 51 [some (.inr (.inr (.inl 0))), some (.inl y1), some (.inl y2), none, none] [] (jxSH, a, b)) (jQ_X11_give a0 b0)) := by
  refine jx_ind fun n ih => ?_
  have ih113 : ∀ (y1 y2 y3 : Int) (a b : Nat → Nat → Int), (((((40 - y2) * 11) + 0) + ((8 - y3) * 1)) + 0).toNat < n → iv a → jfr jW_X11_give a0 a → 1 ≤ y1 → y1 ≤ 8 → 0 ≤ y2 → y2 ≤ 39 → 0 ≤ y3 → y3 ≤ 7 → (a0 0 9 = 0 → y1 = 0) → jt (jxX E d 168 113 [some (.inr (.inr (.inl 0))), some (.inl y1), some (.inl y2), some (.inl y3), none] [] (jxSH, a, b)) (jQ_X11_give a0 b0) := fun y1 y2 y3 a b hlt i0 i1 i2 i3 i4 i5 i6 i7 i8 => (ih _ hlt).1 y1 y2 y3 a b (Nat.le_refl _) i0 i1 i2 i3 i4 i5 i6 i7 i8
  have ih89 : ∀ (y1 y2 y3 : Int) (a b : Nat → Nat → Int), (((((40 - y2) * 11) + 0) + ((8 - y3) * 1)) + 0).toNat < n → iv a → jfr jW_X11_give a0 a → 1 ≤ y1 → y1 ≤ 8 → 0 ≤ y2 → y2 ≤ 39 → 0 ≤ y3 → y3 ≤ 7 → (a0 0 9 = 0 → y1 = 0) → jt (jxX E d 168 89 [some (.inr (.inr (.inl 0))), some (.inl y1), some (.inl y2), some (.inl y3), none] [] (jxSH, a, b)) (jQ_X11_give a0 b0) := fun y1 y2 y3 a b hlt i0 i1 i2 i3 i4 i5 i6 i7 i8 => (ih _ hlt).2.1 y1 y2 y3 a b (Nat.le_refl _) i0 i1 i2 i3 i4 i5 i6 i7 i8
  have ih64 : ∀ (y1 y2 y3 : Int) (a b : Nat → Nat → Int), (((((40 - y2) * 11) + 0) + ((8 - y3) * 1)) + 0).toNat < n → iv a → jfr jW_X11_give a0 a → 0 ≤ y1 → y1 ≤ 8 → 0 ≤ y2 → y2 ≤ 39 → 0 ≤ y3 → y3 ≤ 8 → (a0 0 9 = 0 → y1 = 0) → jt (jxX E d 168 64 [some (.inr (.inr (.inl 0))), some (.inl y1), some (.inl y2), some (.inl y3), none] [] (jxSH, a, b)) (jQ_X11_give a0 b0) := fun y1 y2 y3 a b hlt i0 i1 i2 i3 i4 i5 i6 i7 i8 => (ih _ hlt).2.2.1 y1 y2 y3 a b (Nat.le_refl _) i0 i1 i2 i3 i4 i5 i6 i7 i8
  have ih51 : ∀ (y1 y2 : Int) (a b : Nat → Nat → Int), (((40 - y2) * 11) + 10).toNat < n → iv a → jfr jW_X11_give a0 a → 0 ≤ y1 → y1 ≤ 8 → 0 ≤ y2 → y2 ≤ 40 → (a0 0 9 = 0 → y1 = 0) → jt (jxX E d 168 51 [some (.inr (.inr (.inl 0))), some (.inl y1), some (.inl y2), none, none] [] (jxSH, a, b)) (jQ_X11_give a0 b0) := fun y1 y2 a b hlt i0 i1 i2 i3 i4 i5 i6 => (ih _ hlt).2.2.2 y1 y2 a b (Nat.le_refl _) i0 i1 i2 i3 i4 i5 i6
  have hc113 : ∀ (y1 y2 y3 : Int) (a b : Nat → Nat → Int), (((((40 - y2) * 11) + 0) + ((8 - y3) * 1)) + 0).toNat ≤ n → iv a → jfr jW_X11_give a0 a → 1 ≤ y1 → y1 ≤ 8 → 0 ≤ y2 → y2 ≤ 39 → 0 ≤ y3 → y3 ≤ 7 → (a0 0 9 = 0 → y1 = 0) → jt (jxX E d 168 113 [some (.inr (.inr (.inl 0))), some (.inl y1), some (.inl y2), some (.inl y3), none] [] (jxSH, a, b)) (jQ_X11_give a0 b0) := by
    intro y1 y2 y3 a b hm hv hf hi0 hi1 hi2 hi3 hi4 hi5 hi6
    refine jt_eq (bq_X11_give_113 E d y1 y2 y3 a b) ?_
    have h1274_ := iv_get hv0 (k := 0) (j := 9) (l := 0) (u := 8) rfl
    have h1275_ : jxw (y3 + 1) = y3 + 1 := jxw_id (by omega) (by omega)
    exact ih64 y1 y2 (jxw (y3 + 1)) a b (show (((((40 - y2) * 11) + 0) + ((8 - (jxw (y3 + 1))) * 1)) + 0).toNat < n from by omega) hv hf (show 0 ≤ y1 from by omega) (show y1 ≤ 8 from by omega) (show 0 ≤ y2 from by omega) (show y2 ≤ 39 from by omega) (show 0 ≤ jxw (y3 + 1) from by omega) (show jxw (y3 + 1) ≤ 8 from by omega) (show (a0 0 9 = 0 → y1 = 0) from by omega)
  have hc89 : ∀ (y1 y2 y3 : Int) (a b : Nat → Nat → Int), (((((40 - y2) * 11) + 0) + ((8 - y3) * 1)) + 0).toNat ≤ n → iv a → jfr jW_X11_give a0 a → 1 ≤ y1 → y1 ≤ 8 → 0 ≤ y2 → y2 ≤ 39 → 0 ≤ y3 → y3 ≤ 7 → (a0 0 9 = 0 → y1 = 0) → jt (jxX E d 168 89 [some (.inr (.inr (.inl 0))), some (.inl y1), some (.inl y2), some (.inl y3), none] [] (jxSH, a, b)) (jQ_X11_give a0 b0) := by
    intro y1 y2 y3 a b hm hv hf hi0 hi1 hi2 hi3 hi4 hi5 hi6
    refine jt_eq (bq_X11_give_89 E d y1 y2 y3 a b) ?_
    have h1276_ := iv_get hv0 (k := 0) (j := 9) (l := 0) (u := 8) rfl
    refine jt_grd (by omega) ?_
    refine jt_bI (sp_X11_unhappy E d (jd_le hd rfl) (a 77 (y3.toNat)) y2 a b hv (WISHR_fr hp0 hf (fun _ => rfl) (fun _ => rfl) (fun _ => rfl) (fun _ => rfl))) (fun r1277_ a1277_ b1277_ h1277_ => ?_)
    obtain ⟨rfl, rfl, hq1277_0⟩ := h1277_
    refine jt_eI (eq_X11_owed E d (jd_le hd rfl) y2 a b) ?_
    refine jt_bV (sp_X2_allow E d (jd_le hd rfl) y3 r1277_ (f_X11_owed a b y2) a b hv) (fun a1278_ b1278_ h1278_ => ?_)
    obtain ⟨rfl, hq1278_0⟩ := h1278_
    exact hc113 y1 y2 y3 a b1278_ (show (((((40 - y2) * 11) + 0) + ((8 - y3) * 1)) + 0).toNat ≤ n from by omega) hv hf (show 1 ≤ y1 from by omega) (show y1 ≤ 8 from by omega) (show 0 ≤ y2 from by omega) (show y2 ≤ 39 from by omega) (show 0 ≤ y3 from by omega) (show y3 ≤ 7 from by omega) (show (a0 0 9 = 0 → y1 = 0) from by omega)
  have hc64 : ∀ (y1 y2 y3 : Int) (a b : Nat → Nat → Int), (((((40 - y2) * 11) + 0) + ((8 - y3) * 1)) + 0).toNat ≤ n → iv a → jfr jW_X11_give a0 a → 0 ≤ y1 → y1 ≤ 8 → 0 ≤ y2 → y2 ≤ 39 → 0 ≤ y3 → y3 ≤ 8 → (a0 0 9 = 0 → y1 = 0) → jt (jxX E d 168 64 [some (.inr (.inr (.inl 0))), some (.inl y1), some (.inl y2), some (.inl y3), none] [] (jxSH, a, b)) (jQ_X11_give a0 b0) := by
    intro y1 y2 y3 a b hm hv hf hi0 hi1 hi2 hi3 hi4 hi5 hi6
    refine jt_eq (bq_X11_give_64 E d y1 y2 y3 a b) ?_
    have h1279_ := iv_get hv0 (k := 0) (j := 9) (l := 0) (u := 8) rfl
    refine jt_ite (fun c1280_ => ?_) (fun c1280_ => ?_)
    ·
      refine jt_grd (by omega) ?_
      refine jt_grd (by omega) ?_
      refine jt_bI (sp_X11_mayGet E d (jd_le hd rfl) (a 77 (y3.toNat)) y2 (b 78 (y3.toNat)) a b hv (WISHR_fr hp0 hf (fun _ => rfl) (fun _ => rfl) (fun _ => rfl) (fun _ => rfl))) (fun r1281_ a1281_ b1281_ h1281_ => ?_)
      obtain ⟨rfl, rfl, hq1281_0, hq1281_1⟩ := h1281_
      refine jt_ite (fun c1282_ => ?_) (fun c1282_ => ?_)
      ·
        exact hc113 y1 y2 y3 a b (show (((((40 - y2) * 11) + 0) + ((8 - y3) * 1)) + 0).toNat ≤ n from by omega) hv hf (show 1 ≤ y1 from by omega) (show y1 ≤ 8 from by omega) (show 0 ≤ y2 from by omega) (show y2 ≤ 39 from by omega) (show 0 ≤ y3 from by omega) (show y3 ≤ 7 from by omega) (show (a0 0 9 = 0 → y1 = 0) from by omega)
      ·
        exact hc89 y1 y2 y3 a b (show (((((40 - y2) * 11) + 0) + ((8 - y3) * 1)) + 0).toNat ≤ n from by omega) hv hf (show 1 ≤ y1 from by omega) (show y1 ≤ 8 from by omega) (show 0 ≤ y2 from by omega) (show y2 ≤ 39 from by omega) (show 0 ≤ y3 from by omega) (show y3 ≤ 7 from by omega) (show (a0 0 9 = 0 → y1 = 0) from by omega)
    ·
      refine jt_bV (sp_X2_tryReceiver E d (jd_le hd rfl) y2 a b hv (show (0 ≤ y2 ∧ y2 ≤ 39) from by omega)) (fun a1283_ b1283_ h1283_ => ?_)
      obtain ⟨rfl, hq1283_0, hq1283_1, hq1283_2⟩ := h1283_
      have h1284_ : jxw (y2 + 1) = y2 + 1 := jxw_id (by omega) (by omega)
      exact ih51 y1 (jxw (y2 + 1)) a b1283_ (show (((40 - (jxw (y2 + 1))) * 11) + 10).toNat < n from by omega) hv hf (show 0 ≤ y1 from by omega) (show y1 ≤ 8 from by omega) (show 0 ≤ jxw (y2 + 1) from by omega) (show jxw (y2 + 1) ≤ 40 from by omega) (show (a0 0 9 = 0 → y1 = 0) from by omega)
  have hc51 : ∀ (y1 y2 : Int) (a b : Nat → Nat → Int), (((40 - y2) * 11) + 10).toNat ≤ n → iv a → jfr jW_X11_give a0 a → 0 ≤ y1 → y1 ≤ 8 → 0 ≤ y2 → y2 ≤ 40 → (a0 0 9 = 0 → y1 = 0) → jt (jxX E d 168 51 [some (.inr (.inr (.inl 0))), some (.inl y1), some (.inl y2), none, none] [] (jxSH, a, b)) (jQ_X11_give a0 b0) := by
    intro y1 y2 a b hm hv hf hi0 hi1 hi2 hi3 hi4
    refine jt_eq (bq_X11_give_51 E d y1 y2 a b) ?_
    have h1285_ := iv_get hv0 (k := 0) (j := 9) (l := 0) (u := 8) rfl
    refine jt_eI (eq_X3_size E d (jd_le hd rfl) a b) ?_
    have h1286_ := f_X3_size_eq a b
    have h1287_ := iv_get hv (k := 4) (j := 6) (l := 0) (u := 40) rfl
    have h1288_ : a 4 6 = a0 4 6 := hf 4 6 rfl
    have h1289_ := iv_get hv0 (k := 4) (j := 6) (l := 0) (u := 40) rfl
    refine jt_ite (fun c1290_ => ?_) (fun c1290_ => ?_)
    ·
      exact hc64 y1 y2 0 a b (show (((((40 - y2) * 11) + 0) + ((8 - 0) * 1)) + 0).toNat ≤ n from by omega) hv hf (show 0 ≤ y1 from by omega) (show y1 ≤ 8 from by omega) (show 0 ≤ y2 from by omega) (show y2 ≤ 39 from by omega) (show 0 ≤ 0 from by omega) (show 0 ≤ 8 from by omega) (show (a0 0 9 = 0 → y1 = 0) from by omega)
    ·
      refine jt_bV (sp_X2_finish E d (jd_le hd rfl) a b hv) (fun a1291_ b1291_ h1291_ => ?_)
      obtain ⟨rfl, hq1291_0⟩ := h1291_
      exact (cp_X11_give_144 E d hd a0 b0 hv0 hp0 _).2 y1 0 0 a b1291_ (Nat.le_refl _) hv hf (show 0 ≤ y1 from by omega) (show y1 ≤ 8 from by omega) (show 0 ≤ 0 from by omega) (show 0 ≤ 8 from by omega) (show (a0 0 9 = 0 → y1 = 0) from by omega) (show (a0 0 9 = 0 → 0 = 0) from by omega)
  exact ⟨hc113, hc89, hc64, hc51⟩
theorem cp_X11_give_36 (E : jxE) (d : Nat) (hd : Nat.ble 8 (d + 1) = true) (a0 b0 : Nat → Nat → Int) (hv0 : iv a0) (hp0 : WISHR a0) : ∀ (y1 : Int) (a b : Nat → Nat → Int), iv a → jfr jW_X11_give a0 a → 0 ≤ y1 → y1 ≤ 8 → (a0 0 9 = 0 → y1 = 0) → jt (jxX E d 168 36 [some (.inr (.inr (.inl 0))), some (.inl y1), none, none, none] [] (jxSH, a, b)) (jQ_X11_give a0 b0) := by
  intro y1 a b hv hf hi0 hi1 hi2
  refine jt_eq (bq_X11_give_36 E d y1 a b) ?_
  have h1292_ := iv_get hv0 (k := 0) (j := 9) (l := 0) (u := 8) rfl
  have hv1293_ : iv (jxu a 0 9 0) := iv_put hv (l := 0) (u := 8) rfl (by omega) (by omega)
  refine jt_bV (sp_X2_begin E d (jd_le hd rfl) y1 (jxu a 0 9 0) b hv1293_) (fun a1294_ b1294_ h1294_ => ?_)
  obtain ⟨hv1294_, hf1294_, hq1294_0, hq1294_1, hq1294_2⟩ := h1294_
  have hf1295_ : jfr jW_X11_give a0 (jxu a 0 9 0) := jfr_put hf rfl
  have hf1296_ : jfr jW_X11_give a0 a1294_ := jfr_tr hf1295_ hf1294_ rfl
  exact (cp_X11_give_51 E d hd a0 b0 hv0 hp0 _).2.2.2 y1 0 a1294_ b1294_ (Nat.le_refl _) hv1294_ hf1296_ (show 0 ≤ y1 from by omega) (show y1 ≤ 8 from by omega) (show 0 ≤ 0 from by omega) (show 0 ≤ 40 from by omega) (show (a0 0 9 = 0 → y1 = 0) from by omega)
theorem sp_X11_give (E : jxE) (d : Nat) (hd : Nat.ble 8 d = true) (a0 b0 : Nat → Nat → Int) (hv0 : iv a0) (hp0 : WISHR a0) : jt (jxC E d 168 [.inr (.inr (.inl 0))] (jxSH, a0, b0)) (jQ_X11_give a0 b0) := by
  obtain ⟨d, rfl⟩ := jd_succ hd
  refine jt_eq (bq_X11_give E d a0 b0) ?_
  refine jt_eI (eq_X0_hasRoom E d (jd_le hd rfl) (a0 0 9) a0 b0) ?_
  have h1297_ := iv_get hv0 (k := 0) (j := 9) (l := 0) (u := 8) rfl
  have h1298_ := f_X0_hasRoom_eq a0 b0 (a0 0 9)
  have h1299_ := iv_get hv0 (k := 58) (j := 8) (l := 0) (u := 300) rfl
  have h1300_ : jxw (300 - (a0 58 8)) = 300 - (a0 58 8) := jxw_id (by omega) (by omega)
  refine jt_ite (fun c1301_ => ?_) (fun c1301_ => ?_)
  ·
    exact jt_rI ⟨hv0, (jfr_rf _ _), (show (a0 0 9 = 0 → (-1) = 0) from by omega)⟩
  ·
    refine jt_bV (sp_X7_take_r58 E d (jd_le hd rfl) (a0 0 0) a0 b0 hv0) (fun a1302_ b1302_ h1302_ => ?_)
    obtain ⟨hv1302_, hf1302_, rfl, hq1302_0⟩ := h1302_
    refine jt_bI (sp_X11_gatherAskers E d (jd_le hd rfl) a1302_ b0 hv1302_) (fun r1303_ a1303_ b1303_ h1303_ => ?_)
    obtain ⟨hv1303_, hf1303_, hq1303_0, hq1303_1, hq1303_2⟩ := h1303_
    have h1304_ := iv_get hv1302_ (k := 0) (j := 9) (l := 0) (u := 8) rfl
    have h1305_ : a1302_ 0 9 = a0 0 9 := hf1302_ 0 9 rfl
    have hf1306_ : jfr jW_X11_give a0 a1302_ := jfr_tr (jfr_rf _ _) hf1302_ rfl
    have hf1307_ : jfr jW_X11_give a0 a1303_ := jfr_tr hf1306_ hf1303_ rfl
    exact cp_X11_give_36 E d hd a0 b0 hv0 hp0 r1303_ a1303_ b1303_ hv1303_ hf1307_ (show 0 ≤ r1303_ from by omega) (show r1303_ ≤ 8 from by omega) (show (a0 0 9 = 0 → r1303_ = 0) from by omega)
def jW_X3_goAway : List (Nat × Nat) := [(10, 9999)]
abbrev jQ_X3_goAway (x1 : Int) (a0 b0 : Nat → Nat → Int) : List jxV → (Nat → Nat → Int) → (Nat → Nat → Int) → Prop := rV (fun a b => (iv a) ∧ (jfr jW_X3_goAway a0 a) ∧ (b0 = b) ∧ (0 ≤ x1 ∧ x1 < a0 4 6 ∧ x1 < 40 → UP (a0 10) (a 10) x1.toNat 0))
theorem sp_X3_goAway (E : jxE) (d : Nat) (hd : Nat.ble 2 d = true) (x1 : Int) (a0 b0 : Nat → Nat → Int) (hv0 : iv a0) : jt (jxC E d 55 [.inr (.inr (.inl 4)), .inl x1] (jxSH, a0, b0)) (jQ_X3_goAway x1 a0 b0) := by
  obtain ⟨d, rfl⟩ := jd_succ hd
  refine jt_eq (bq_X3_goAway E d x1 a0 b0) ?_
  refine jt_eI (eq_X3_has E d (jd_le hd rfl) x1 a0 b0) ?_
  have h1308_ := f_X3_has_eq a0 b0 x1
  have h1309_ := iv_get hv0 (k := 4) (j := 6) (l := 0) (u := 40) rfl
  refine jt_ite (fun c1310_ => ?_) (fun c1310_ => ?_)
  ·
    exact jt_rV ⟨hv0, (jfr_rf _ _), rfl, (by first | (intro h; exact absurd h (by omega)) | (intro _; exact UP_put (fun _ => rfl)))⟩
  ·
    refine jt_grd (by omega) ?_
    have hv1311_ : iv (jxu a0 10 (x1.toNat) 0) := iv_putf hv0 rfl
    have hf1312_ : jfr jW_X3_goAway a0 (jxu a0 10 (x1.toNat) 0) := jfr_put (jfr_rf _ _) rfl
    exact jt_rV ⟨hv1311_, hf1312_, rfl, (by first | (intro h; exact absurd h (by omega)) | (intro _; exact UP_put (fun _ => rfl)))⟩
def jW_X11_leave : List (Nat × Nat) := [(9, 9999), (10, 9999), (64, 9999), (87, 9999), (88, 9999), (89, 9999)]
abbrev jQ_X11_leave (x1 : Int) (a0 b0 : Nat → Nat → Int) : List jxV → (Nat → Nat → Int) → (Nat → Nat → Int) → Prop := rI (fun r a b => (iv a) ∧ (jfr jW_X11_leave a0 a) ∧ (b0 = b) ∧ ((a0 4 6 = 0 → r = 0 - 1)) ∧ (0 ≤ x1 ∧ x1 < a0 4 6 ∧ ¬ a0 10 x1.toNat = 0 → UP (a0 10) (a 10) x1.toNat 0) ∧ (x1 < 0 ∨ a0 4 6 ≤ x1 ∨ a0 10 x1.toNat = 0 → ∀ j, a 10 j = a0 10 j))
theorem cp_X11_leave_29 (E : jxE) (d : Nat) (hd : Nat.ble 5 (d + 1) = true) (x1 : Int) (a0 b0 : Nat → Nat → Int) (hv0 : iv a0) : ∀ n : Nat, (∀ (y1 y2 y3 : Int) (a : Nat → Nat → Int), (((20 - y3) * 1) + 0).toNat ≤ n → iv a → jfr jW_X11_leave a0 a → 0 ≤ y1 → y1 ≤ 39 → 0 ≤ y3 → y3 ≤ 19 → (UP (a0 10) (a 10) x1.toNat 0) → 1 ≤ a0 4 6 → ((0 ≤ x1 ∧ x1 < a0 4 6) ∧ ¬ a0 10 (x1.toNat) = 0) → jt (jxX E d 157 60 [some (.inr (.inr (.inl 0))), some (.inl y1), some (.inl y2), some (.inl y3)] [] (jxSH, a, b0)) (jQ_X11_leave x1 a0 b0)) ∧ (∀ (y1 y2 y3 : Int) (a : Nat → Nat → Int), (((20 - y3) * 1) + 0).toNat ≤ n → iv a → jfr jW_X11_leave a0 a → 0 ≤ y1 → y1 ≤ 39 → 0 ≤ y3 → y3 ≤ 20 → (UP (a0 10) (a 10) x1.toNat 0) → 1 ≤ a0 4 6 → ((0 ≤ x1 ∧ x1 < a0 4 6) ∧ ¬ a0 10 (x1.toNat) = 0) → jt (jxX E d 157 29 [some (.inr (.inr (.inl 0))), some (.inl y1), some (.inl y2), some (.inl y3)] [] (jxSH, a, b0)) (jQ_X11_leave x1 a0 b0)) := by
  refine jx_ind fun n ih => ?_
  have ih60 : ∀ (y1 y2 y3 : Int) (a : Nat → Nat → Int), (((20 - y3) * 1) + 0).toNat < n → iv a → jfr jW_X11_leave a0 a → 0 ≤ y1 → y1 ≤ 39 → 0 ≤ y3 → y3 ≤ 19 → (UP (a0 10) (a 10) x1.toNat 0) → 1 ≤ a0 4 6 → ((0 ≤ x1 ∧ x1 < a0 4 6) ∧ ¬ a0 10 (x1.toNat) = 0) → jt (jxX E d 157 60 [some (.inr (.inr (.inl 0))), some (.inl y1), some (.inl y2), some (.inl y3)] [] (jxSH, a, b0)) (jQ_X11_leave x1 a0 b0) := fun y1 y2 y3 a hlt i0 i1 i2 i3 i4 i5 i6 i7 i8 => (ih _ hlt).1 y1 y2 y3 a (Nat.le_refl _) i0 i1 i2 i3 i4 i5 i6 i7 i8
  have ih29 : ∀ (y1 y2 y3 : Int) (a : Nat → Nat → Int), (((20 - y3) * 1) + 0).toNat < n → iv a → jfr jW_X11_leave a0 a → 0 ≤ y1 → y1 ≤ 39 → 0 ≤ y3 → y3 ≤ 20 → (UP (a0 10) (a 10) x1.toNat 0) → 1 ≤ a0 4 6 → ((0 ≤ x1 ∧ x1 < a0 4 6) ∧ ¬ a0 10 (x1.toNat) = 0) → jt (jxX E d 157 29 [some (.inr (.inr (.inl 0))), some (.inl y1), some (.inl y2), some (.inl y3)] [] (jxSH, a, b0)) (jQ_X11_leave x1 a0 b0) := fun y1 y2 y3 a hlt i0 i1 i2 i3 i4 i5 i6 i7 i8 => (ih _ hlt).2 y1 y2 y3 a (Nat.le_refl _) i0 i1 i2 i3 i4 i5 i6 i7 i8
  have hc60 : ∀ (y1 y2 y3 : Int) (a : Nat → Nat → Int), (((20 - y3) * 1) + 0).toNat ≤ n → iv a → jfr jW_X11_leave a0 a → 0 ≤ y1 → y1 ≤ 39 → 0 ≤ y3 → y3 ≤ 19 → (UP (a0 10) (a 10) x1.toNat 0) → 1 ≤ a0 4 6 → ((0 ≤ x1 ∧ x1 < a0 4 6) ∧ ¬ a0 10 (x1.toNat) = 0) → jt (jxX E d 157 60 [some (.inr (.inr (.inl 0))), some (.inl y1), some (.inl y2), some (.inl y3)] [] (jxSH, a, b0)) (jQ_X11_leave x1 a0 b0) := by
    intro y1 y2 y3 a hm hv hf hi0 hi1 hi2 hi3 hu10 hi5 hi6
    refine jt_eq (bq_X11_leave_60 E d y1 y2 y3 a b0) ?_
    have h1313_ := iv_get hv0 (k := 4) (j := 6) (l := 0) (u := 40) rfl
    have h1314_ : jxw (y3 + 1) = y3 + 1 := jxw_id (by omega) (by omega)
    exact ih29 y1 y2 (jxw (y3 + 1)) a (show (((20 - (jxw (y3 + 1))) * 1) + 0).toNat < n from by omega) hv hf (show 0 ≤ y1 from by omega) (show y1 ≤ 39 from by omega) (show 0 ≤ jxw (y3 + 1) from by omega) (show jxw (y3 + 1) ≤ 20 from by omega) (UP_cr hu10 (fun j => rfl)) (show 1 ≤ a0 4 6 from by omega) (show ((0 ≤ x1 ∧ x1 < a0 4 6) ∧ ¬ a0 10 (x1.toNat) = 0) from by omega)
  have hc29 : ∀ (y1 y2 y3 : Int) (a : Nat → Nat → Int), (((20 - y3) * 1) + 0).toNat ≤ n → iv a → jfr jW_X11_leave a0 a → 0 ≤ y1 → y1 ≤ 39 → 0 ≤ y3 → y3 ≤ 20 → (UP (a0 10) (a 10) x1.toNat 0) → 1 ≤ a0 4 6 → ((0 ≤ x1 ∧ x1 < a0 4 6) ∧ ¬ a0 10 (x1.toNat) = 0) → jt (jxX E d 157 29 [some (.inr (.inr (.inl 0))), some (.inl y1), some (.inl y2), some (.inl y3)] [] (jxSH, a, b0)) (jQ_X11_leave x1 a0 b0) := by
    intro y1 y2 y3 a hm hv hf hi0 hi1 hi2 hi3 hu10 hi5 hi6
    refine jt_eq (bq_X11_leave_29 E d y1 y2 y3 a b0) ?_
    have h1315_ := iv_get hv0 (k := 4) (j := 6) (l := 0) (u := 40) rfl
    refine jt_eI (eq_X4_size E d (jd_le hd rfl) a b0) ?_
    have h1316_ := f_X4_size_eq a b0
    have h1317_ := iv_get hv (k := 83) (j := 6) (l := 0) (u := 20) rfl
    have h1318_ : a 83 6 = a0 83 6 := hf 83 6 rfl
    have h1319_ := iv_get hv0 (k := 83) (j := 6) (l := 0) (u := 20) rfl
    refine jt_ite (fun c1320_ => ?_) (fun c1320_ => ?_)
    ·
      refine jt_eI (eq_X4_memberOf E d (jd_le hd rfl) y3 a b0) ?_
      have h1321_ := f_X4_memberOf_eq a b0 y3
      have h1322_ := f_X11_entry_r84_eq a b0 (a 83 6) y3
      have h1323_ : a 84 (y3.toNat) = a0 84 (y3.toNat) := hf 84 (y3.toNat) rfl
      refine jt_ite (fun c1324_ => ?_) (fun c1324_ => ?_)
      ·
        refine jt_bI (sp_X11_withdraw E d (jd_le hd rfl) y3 a b0 hv) (fun r1325_ a1325_ b1325_ h1325_ => ?_)
        obtain ⟨hv1325_, hf1325_, rfl⟩ := h1325_
        have hf1326_ : jfr jW_X11_leave a0 a1325_ := jfr_tr hf hf1325_ rfl
        exact hc60 y1 (jxw (y2 + r1325_)) y3 a1325_ (show (((20 - y3) * 1) + 0).toNat ≤ n from by omega) hv1325_ hf1326_ (show 0 ≤ y1 from by omega) (show y1 ≤ 39 from by omega) (show 0 ≤ y3 from by omega) (show y3 ≤ 19 from by omega) (UP_cr hu10 (fun j => (hf1325_ 10 j rfl))) (show 1 ≤ a0 4 6 from by omega) (show ((0 ≤ x1 ∧ x1 < a0 4 6) ∧ ¬ a0 10 (x1.toNat) = 0) from by omega)
      ·
        exact hc60 y1 y2 y3 a (show (((20 - y3) * 1) + 0).toNat ≤ n from by omega) hv hf (show 0 ≤ y1 from by omega) (show y1 ≤ 39 from by omega) (show 0 ≤ y3 from by omega) (show y3 ≤ 19 from by omega) (UP_cr hu10 (fun j => rfl)) (show 1 ≤ a0 4 6 from by omega) (show ((0 ≤ x1 ∧ x1 < a0 4 6) ∧ ¬ a0 10 (x1.toNat) = 0) from by omega)
    ·
      exact jt_rI ⟨hv, hf, rfl, (show (a0 4 6 = 0 → y2 = 0 - 1) from by omega), (fun _ => (UP_cr hu10 (fun j => rfl))), (fun h => absurd h (by omega))⟩
  exact ⟨hc60, hc29⟩
theorem sp_X11_leave (E : jxE) (d : Nat) (hd : Nat.ble 5 d = true) (x1 : Int) (a0 b0 : Nat → Nat → Int) (hv0 : iv a0) : jt (jxC E d 157 [.inr (.inr (.inl 0)), .inl x1] (jxSH, a0, b0)) (jQ_X11_leave x1 a0 b0) := by
  obtain ⟨d, rfl⟩ := jd_succ hd
  refine jt_eq (bq_X11_leave E d x1 a0 b0) ?_
  refine jt_eI (eq_X3_isThere E d (jd_le hd rfl) x1 a0 b0) ?_
  have h1327_ := f_X3_isThere_eq a0 b0 x1
  have h1328_ := f_X3_has_eq a0 b0 x1
  have h1329_ := iv_get hv0 (k := 4) (j := 6) (l := 0) (u := 40) rfl
  refine jt_ite (fun c1330_ => ?_) (fun c1330_ => ?_)
  ·
    exact jt_rI ⟨hv0, (jfr_rf _ _), rfl, (show (a0 4 6 = 0 → (-1) = 0 - 1) from by omega), (fun h => absurd h (by omega)), (fun _ j => rfl)⟩
  ·
    refine jt_bV (sp_X3_goAway E d (jd_le hd rfl) x1 a0 b0 hv0) (fun a1331_ b1331_ h1331_ => ?_)
    obtain ⟨hv1331_, hf1331_, rfl, hq1331_0⟩ := h1331_
    refine jt_bI (sp_X11_cancelCardsTo E d (jd_le hd rfl) x1 a1331_ b0 hv1331_) (fun r1332_ a1332_ b1332_ h1332_ => ?_)
    obtain ⟨hv1332_, hf1332_, rfl⟩ := h1332_
    have hf1333_ : jfr jW_X11_leave a0 a1331_ := jfr_tr (jfr_rf _ _) hf1331_ rfl
    have hf1334_ : jfr jW_X11_leave a0 a1332_ := jfr_tr hf1333_ hf1332_ rfl
    exact (cp_X11_leave_29 E d hd x1 a0 b0 hv0 _).2 x1 r1332_ 0 a1332_ (Nat.le_refl _) hv1332_ hf1334_ (show 0 ≤ x1 from by omega) (show x1 ≤ 39 from by omega) (show 0 ≤ 0 from by omega) (show 0 ≤ 20 from by omega) (UP_cr (hq1331_0 (by omega)) (fun j => (hf1332_ 10 j rfl))) (show 1 ≤ a0 4 6 from by omega) (show ((0 ≤ x1 ∧ x1 < a0 4 6) ∧ ¬ a0 10 (x1.toNat) = 0) from by omega)
def jW_X11_list : List (Nat × Nat) := [(0, 9), (76, 9999)]
abbrev jQ_X11_list (x1 : Int) (a0 b0 : Nat → Nat → Int) : List jxV → (Nat → Nat → Int) → (Nat → Nat → Int) → Prop := rI (fun r a b => (iv a) ∧ (jfr jW_X11_list a0 a) ∧ (b0 = b) ∧ ((a0 4 6 = 0 → r = 0 - 1)))
theorem cp_X11_list_67 (E : jxE) (d : Nat) (hd : Nat.ble 2 (d + 1) = true) (x1 : Int) (a0 b0 : Nat → Nat → Int) (hv0 : iv a0) : ∀ (a : Nat → Nat → Int), iv a → jfr jW_X11_list a0 a → 1 ≤ a 0 9 → 1 ≤ a0 4 6 → jt (jxX E d 167 67 [some (.inr (.inr (.inl 0))), none, none] [] (jxSH, a, b0)) (jQ_X11_list x1 a0 b0) := by
  intro a hv hf hi0 hi1
  refine jt_eq (bq_X11_list_67 E d a b0) ?_
  have h1335_ := iv_get hv (k := 0) (j := 9) (l := 0) (u := 8) rfl
  have h1336_ := iv_get hv0 (k := 4) (j := 6) (l := 0) (u := 40) rfl
  exact jt_rI ⟨hv, hf, rfl, (show (a0 4 6 = 0 → a 0 9 = 0 - 1) from by omega)⟩
theorem cp_X11_list_24 (E : jxE) (d : Nat) (hd : Nat.ble 2 (d + 1) = true) (x1 : Int) (a0 b0 : Nat → Nat → Int) (hv0 : iv a0) : ∀ n : Nat, (∀ (y1 y2 : Int) (a : Nat → Nat → Int), (((7 - y2) * 1) + 0).toNat ≤ n → iv a → jfr jW_X11_list a0 a → 0 ≤ y1 → y1 ≤ 39 → 0 ≤ y2 → y2 ≤ 7 → a 0 9 ≤ 7 → 1 ≤ a0 4 6 → jt (jxX E d 167 24 [some (.inr (.inr (.inl 0))), some (.inl y1), some (.inl y2)] [] (jxSH, a, b0)) (jQ_X11_list x1 a0 b0)) := by
  refine jx_ind fun n ih => ?_
  have ih24 : ∀ (y1 y2 : Int) (a : Nat → Nat → Int), (((7 - y2) * 1) + 0).toNat < n → iv a → jfr jW_X11_list a0 a → 0 ≤ y1 → y1 ≤ 39 → 0 ≤ y2 → y2 ≤ 7 → a 0 9 ≤ 7 → 1 ≤ a0 4 6 → jt (jxX E d 167 24 [some (.inr (.inr (.inl 0))), some (.inl y1), some (.inl y2)] [] (jxSH, a, b0)) (jQ_X11_list x1 a0 b0) := fun y1 y2 a hlt i0 i1 i2 i3 i4 i5 i6 i7 => (ih _ hlt) y1 y2 a (Nat.le_refl _) i0 i1 i2 i3 i4 i5 i6 i7
  have hc24 : ∀ (y1 y2 : Int) (a : Nat → Nat → Int), (((7 - y2) * 1) + 0).toNat ≤ n → iv a → jfr jW_X11_list a0 a → 0 ≤ y1 → y1 ≤ 39 → 0 ≤ y2 → y2 ≤ 7 → a 0 9 ≤ 7 → 1 ≤ a0 4 6 → jt (jxX E d 167 24 [some (.inr (.inr (.inl 0))), some (.inl y1), some (.inl y2)] [] (jxSH, a, b0)) (jQ_X11_list x1 a0 b0) := by
    intro y1 y2 a hm hv hf hi0 hi1 hi2 hi3 hi4 hi5
    refine jt_eq (bq_X11_list_24 E d y1 y2 a b0) ?_
    have h1337_ := iv_get hv (k := 0) (j := 9) (l := 0) (u := 8) rfl
    have h1338_ := iv_get hv0 (k := 4) (j := 6) (l := 0) (u := 40) rfl
    refine jt_ite (fun c1339_ => ?_) (fun c1339_ => ?_)
    ·
      refine jt_grd (by omega) ?_
      refine jt_ite (fun c1340_ => ?_) (fun c1340_ => ?_)
      ·
        exact jt_rI ⟨hv, hf, rfl, (show (a0 4 6 = 0 → (-1) = 0 - 1) from by omega)⟩
      ·
        have h1341_ : jxw (y2 + 1) = y2 + 1 := jxw_id (by omega) (by omega)
        exact ih24 y1 (jxw (y2 + 1)) a (show (((7 - (jxw (y2 + 1))) * 1) + 0).toNat < n from by omega) hv hf (show 0 ≤ y1 from by omega) (show y1 ≤ 39 from by omega) (show 0 ≤ jxw (y2 + 1) from by omega) (show jxw (y2 + 1) ≤ 7 from by omega) (show a 0 9 ≤ 7 from by omega) (show 1 ≤ a0 4 6 from by omega)
    ·
      refine jt_grd (by omega) ?_
      have h1343_ : jxw ((a 0 9) + 1) = (a 0 9) + 1 := jxw_id (by omega) (by omega)
      have hv1342_ : iv (jxu a 0 9 (jxw ((a 0 9) + 1))) := iv_put hv (l := 0) (u := 8) rfl (by omega) (by omega)
      have hv1344_ : iv (jxu (jxu a 0 9 (jxw ((a 0 9) + 1))) 76 ((a 0 9).toNat) y1) := iv_putf hv1342_ rfl
      have hf1345_ : jfr jW_X11_list a0 (jxu a 0 9 (jxw ((a 0 9) + 1))) := jfr_put hf rfl
      have hf1346_ : jfr jW_X11_list a0 (jxu (jxu a 0 9 (jxw ((a 0 9) + 1))) 76 ((a 0 9).toNat) y1) := jfr_put hf1345_ rfl
      exact cp_X11_list_67 E d hd x1 a0 b0 hv0 (jxu (jxu a 0 9 (jxw ((a 0 9) + 1))) 76 ((a 0 9).toNat) y1) hv1344_ hf1346_ (show 1 ≤ jxw ((a 0 9) + 1) from by omega) (show 1 ≤ a0 4 6 from by omega)
  exact hc24
theorem sp_X11_list (E : jxE) (d : Nat) (hd : Nat.ble 2 d = true) (x1 : Int) (a0 b0 : Nat → Nat → Int) (hv0 : iv a0) : jt (jxC E d 167 [.inr (.inr (.inl 0)), .inl x1] (jxSH, a0, b0)) (jQ_X11_list x1 a0 b0) := by
  obtain ⟨d, rfl⟩ := jd_succ hd
  refine jt_eq (bq_X11_list E d x1 a0 b0) ?_
  refine jt_eI (eq_X3_has E d (jd_le hd rfl) x1 a0 b0) ?_
  have h1347_ := f_X3_has_eq a0 b0 x1
  have h1348_ := iv_get hv0 (k := 4) (j := 6) (l := 0) (u := 40) rfl
  refine jt_ite (fun c1349_ => ?_) (fun c1349_ => ?_)
  ·
    exact jt_rI ⟨hv0, (jfr_rf _ _), rfl, (show (a0 4 6 = 0 → (-1) = 0 - 1) from by omega)⟩
  ·
    have h1350_ := iv_get hv0 (k := 0) (j := 9) (l := 0) (u := 8) rfl
    refine jt_ite (fun c1351_ => ?_) (fun c1351_ => ?_)
    ·
      exact (cp_X11_list_24 E d hd x1 a0 b0 hv0 _) x1 0 a0 (Nat.le_refl _) hv0 (jfr_rf _ _) (show 0 ≤ x1 from by omega) (show x1 ≤ 39 from by omega) (show 0 ≤ 0 from by omega) (show 0 ≤ 7 from by omega) (show a0 0 9 ≤ 7 from by omega) (show 1 ≤ a0 4 6 from by omega)
    ·
      exact jt_rI ⟨hv0, (jfr_rf _ _), rfl, (show (a0 4 6 = 0 → (-1) = 0 - 1) from by omega)⟩
def jW_X11_may : List (Nat × Nat) := [(70, 9999), (71, 9999), (72, 9999), (73, 9999), (74, 9999), (75, 9999)]
abbrev jQ_X11_may (x1 x2 : Int) (a0 b0 : Nat → Nat → Int) : List jxV → (Nat → Nat → Int) → (Nat → Nat → Int) → Prop := rI (fun r a b => (iv a) ∧ (jfr jW_X11_may a0 a) ∧ (b0 = b) ∧ ((a0 4 6 = 0 → r = 0 - 1)) ∧ (0 ≤ x1 → x1 < a0 4 6 → 0 ≤ x2 → x2 < a0 4 6 → MAYC a0 b0 x1 x2 r) ∧ (((((x1 < 0 ∨ a0 4 6 ≤ x1) ∨ x2 < 0) ∨ a0 4 6 ≤ x2) → r = 0 - 1)))
theorem cp_X11_may_39 (E : jxE) (d : Nat) (hd : Nat.ble 8 (d + 1) = true) (x1 x2 : Int) (a0 b0 : Nat → Nat → Int) (hv0 : iv a0) (hp0 : WISHR a0) : ∀ (y1 y2 : Int) (a : Nat → Nat → Int), iv a → jfr jW_X11_may a0 a → 0 ≤ y1 → y1 ≤ 39 → 0 ≤ y2 → y2 ≤ 39 → (jfr jWtk a0 a) → (y1 = x1) → (y2 = x2) → (((0 ≤ x1 ∧ x1 < a 4 6) ∧ 0 ≤ x2) ∧ x2 < a 4 6) → (TSUM a0 b0 (a0 0 0) a (a0 58 8).toNat) → 1 ≤ a0 4 6 → jt (jxX E d 166 39 [some (.inr (.inr (.inl 0))), some (.inl y1), some (.inl y2)] [] (jxSH, a, b0)) (jQ_X11_may x1 x2 a0 b0) := by
  intro y1 y2 a hv hf hi0 hi1 hi2 hi3 hfe hy1 hy2 hi7 hts hi9
  refine jt_eq (bq_X11_may_39 E d y1 y2 a b0) ?_
  have h1352_ := iv_get hv (k := 4) (j := 6) (l := 0) (u := 40) rfl
  have h1353_ : a 4 6 = a0 4 6 := hf 4 6 rfl
  have h1354_ := iv_get hv0 (k := 4) (j := 6) (l := 0) (u := 40) rfl
  refine jt_bJ (sp_X0_reachedBy E d (jd_le hd rfl) y1 a b0 hv) (fun r1355_ a1355_ b1355_ h1355_ => ?_)
  obtain ⟨rfl, rfl, hq1355_0⟩ := h1355_
  refine jt_bI (sp_X11_mayGet E d (jd_le hd rfl) y1 y2 r1355_ a b0 hv (WISHR_fr hp0 hf (fun _ => rfl) (fun _ => rfl) (fun _ => rfl) (fun _ => rfl))) (fun r1356_ a1356_ b1356_ h1356_ => ?_)
  obtain ⟨rfl, rfl, hq1356_0, hq1356_1⟩ := h1356_
  refine jt_ite (fun c1357_ => ?_) (fun c1357_ => ?_)
  ·
    exact jt_rI ⟨hv, hf, rfl, (show (a0 4 6 = 0 → 0 = 0 - 1) from by omega), (fun h1 h2 h3 h4 => ⟨a, hfe, hts, by have q := hq1356_1 (by omega) (by omega); rw [hq1355_0, hy1, hy2, hfe 58 8 rfl] at q; omega⟩), (show ((((x1 < 0 ∨ a0 4 6 ≤ x1) ∨ x2 < 0) ∨ a0 4 6 ≤ x2) → 0 = 0 - 1) from by omega)⟩
  ·
    exact jt_rI ⟨hv, hf, rfl, (show (a0 4 6 = 0 → 1 = 0 - 1) from by omega), (fun h1 h2 h3 h4 => ⟨a, hfe, hts, by have q := hq1356_1 (by omega) (by omega); rw [hq1355_0, hy1, hy2, hfe 58 8 rfl] at q; omega⟩), (show ((((x1 < 0 ∨ a0 4 6 ≤ x1) ∨ x2 < 0) ∨ a0 4 6 ≤ x2) → 1 = 0 - 1) from by omega)⟩
theorem sp_X11_may (E : jxE) (d : Nat) (hd : Nat.ble 8 d = true) (x1 x2 : Int) (a0 b0 : Nat → Nat → Int) (hv0 : iv a0) (hp0 : WISHR a0) : jt (jxC E d 166 [.inr (.inr (.inl 0)), .inl x1, .inl x2] (jxSH, a0, b0)) (jQ_X11_may x1 x2 a0 b0) := by
  obtain ⟨d, rfl⟩ := jd_succ hd
  refine jt_eq (bq_X11_may E d x1 x2 a0 b0) ?_
  refine jt_eI (eq_X3_has E d (jd_le hd rfl) x1 a0 b0) ?_
  have h1358_ := f_X3_has_eq a0 b0 x1
  have h1359_ := iv_get hv0 (k := 4) (j := 6) (l := 0) (u := 40) rfl
  refine jt_ite (fun c1360_ => ?_) (fun c1360_ => ?_)
  ·
    exact jt_rI ⟨hv0, (jfr_rf _ _), rfl, (show (a0 4 6 = 0 → (-1) = 0 - 1) from by omega), (fun h1 h2 h3 h4 => absurd (by omega : False) id), (show ((((x1 < 0 ∨ a0 4 6 ≤ x1) ∨ x2 < 0) ∨ a0 4 6 ≤ x2) → (-1) = 0 - 1) from by omega)⟩
  ·
    refine jt_eI (eq_X3_has E d (jd_le hd rfl) x2 a0 b0) ?_
    have h1361_ := f_X3_has_eq a0 b0 x2
    refine jt_ite (fun c1362_ => ?_) (fun c1362_ => ?_)
    ·
      exact jt_rI ⟨hv0, (jfr_rf _ _), rfl, (show (a0 4 6 = 0 → (-1) = 0 - 1) from by omega), (fun h1 h2 h3 h4 => absurd (by omega : False) id), (show ((((x1 < 0 ∨ a0 4 6 ≤ x1) ∨ x2 < 0) ∨ a0 4 6 ≤ x2) → (-1) = 0 - 1) from by omega)⟩
    ·
      refine jt_bV (sp_X7_take_r58 E d (jd_le hd rfl) (a0 0 0) a0 b0 hv0) (fun a1363_ b1363_ h1363_ => ?_)
      obtain ⟨hv1363_, hf1363_, rfl, hq1363_0⟩ := h1363_
      have hf1364_ : jfr jW_X11_may a0 a1363_ := jfr_tr (jfr_rf _ _) hf1363_ rfl
      have hf1365_ : jfr jWtk a0 a1363_ := jfr_tr (jfr_rf _ _) hf1363_ rfl
      have h1366_ := iv_get hv1363_ (k := 4) (j := 6) (l := 0) (u := 40) rfl
      have h1367_ : a1363_ 4 6 = a0 4 6 := hf1363_ 4 6 rfl
      exact cp_X11_may_39 E d hd x1 x2 a0 b0 hv0 hp0 x1 x2 a1363_ hv1363_ hf1364_ (show 0 ≤ x1 from by omega) (show x1 ≤ 39 from by omega) (show 0 ≤ x2 from by omega) (show x2 ≤ 39 from by omega) hf1365_ (by first | rfl | assumption) (by first | rfl | assumption) (show (((0 ≤ x1 ∧ x1 < a1363_ 4 6) ∧ 0 ≤ x2) ∧ x2 < a1363_ 4 6) from by omega) hq1363_0 (show 1 ≤ a0 4 6 from by omega)
abbrev jQ_X11_meets (x1 x2 : Int) (a0 b0 : Nat → Nat → Int) : List jxV → (Nat → Nat → Int) → (Nat → Nat → Int) → Prop := rI (fun r a b => (a0 = a) ∧ (b0 = b) ∧ ((a0 4 6 = 0 → r = 0 - 1)) ∧ (0 ≤ x1 → x1 < a0 4 6 → 0 ≤ x2 → x2 < a0 4 6 → ¬ x1 = x2 → r = METX a0 b0 x1 x2 (a0 0 0)) ∧ ((((((x1 < 0 ∨ a0 4 6 ≤ x1) ∨ x2 < 0) ∨ a0 4 6 ≤ x2) ∨ x1 = x2) → r = 0 - 1)))
theorem cp_X11_meets_45 (E : jxE) (d : Nat) (hd : Nat.ble 6 (d + 1) = true) (x1 x2 : Int) (a0 b0 : Nat → Nat → Int) (hv0 : iv a0) (hp0 : WISHR a0) : ((((0 ≤ x1 ∧ x1 < a0 4 6) ∧ 0 ≤ x2) ∧ x2 < a0 4 6) ∧ ¬ x1 = x2) → (METX a0 b0 x1 x2 (a0 0 0) = 1) → 1 ≤ a0 4 6 → jt (jxX E d 163 45 [none, none, none] [] (jxSH, a0, b0)) (jQ_X11_meets x1 x2 a0 b0) := by
  intro hi0 hmx hi2
  refine jt_eq (bq_X11_meets_45 E d a0 b0) ?_
  have h1368_ := iv_get hv0 (k := 4) (j := 6) (l := 0) (u := 40) rfl
  exact jt_rI ⟨rfl, rfl, (show (a0 4 6 = 0 → 1 = 0 - 1) from by omega), (fun _ _ _ _ _ => hmx.symm), (show (((((x1 < 0 ∨ a0 4 6 ≤ x1) ∨ x2 < 0) ∨ a0 4 6 ≤ x2) ∨ x1 = x2) → 1 = 0 - 1) from by omega)⟩
theorem cp_X11_meets_49 (E : jxE) (d : Nat) (hd : Nat.ble 6 (d + 1) = true) (x1 x2 : Int) (a0 b0 : Nat → Nat → Int) (hv0 : iv a0) (hp0 : WISHR a0) : ((((0 ≤ x1 ∧ x1 < a0 4 6) ∧ 0 ≤ x2) ∧ x2 < a0 4 6) ∧ ¬ x1 = x2) → (METX a0 b0 x1 x2 (a0 0 0) = 0) → 1 ≤ a0 4 6 → jt (jxX E d 163 49 [none, none, none] [] (jxSH, a0, b0)) (jQ_X11_meets x1 x2 a0 b0) := by
  intro hi0 hmx hi2
  refine jt_eq (bq_X11_meets_49 E d a0 b0) ?_
  have h1369_ := iv_get hv0 (k := 4) (j := 6) (l := 0) (u := 40) rfl
  exact jt_rI ⟨rfl, rfl, (show (a0 4 6 = 0 → 0 = 0 - 1) from by omega), (fun _ _ _ _ _ => hmx.symm), (show (((((x1 < 0 ∨ a0 4 6 ≤ x1) ∨ x2 < 0) ∨ a0 4 6 ≤ x2) ∨ x1 = x2) → 0 = 0 - 1) from by omega)⟩
theorem sp_X11_meets (E : jxE) (d : Nat) (hd : Nat.ble 6 d = true) (x1 x2 : Int) (a0 b0 : Nat → Nat → Int) (hv0 : iv a0) (hp0 : WISHR a0) : jt (jxC E d 163 [.inr (.inr (.inl 0)), .inl x1, .inl x2] (jxSH, a0, b0)) (jQ_X11_meets x1 x2 a0 b0) := by
  obtain ⟨d, rfl⟩ := jd_succ hd
  refine jt_eq (bq_X11_meets E d x1 x2 a0 b0) ?_
  refine jt_eI (eq_X3_has E d (jd_le hd rfl) x1 a0 b0) ?_
  have h1370_ := f_X3_has_eq a0 b0 x1
  have h1371_ := iv_get hv0 (k := 4) (j := 6) (l := 0) (u := 40) rfl
  refine jt_ite (fun c1372_ => ?_) (fun c1372_ => ?_)
  ·
    exact jt_rI ⟨rfl, rfl, (show (a0 4 6 = 0 → (-1) = 0 - 1) from by omega), (fun h1 h2 h3 h4 h5 => by omega), (show (((((x1 < 0 ∨ a0 4 6 ≤ x1) ∨ x2 < 0) ∨ a0 4 6 ≤ x2) ∨ x1 = x2) → (-1) = 0 - 1) from by omega)⟩
  ·
    refine jt_eI (eq_X3_has E d (jd_le hd rfl) x2 a0 b0) ?_
    have h1373_ := f_X3_has_eq a0 b0 x2
    refine jt_ite (fun c1374_ => ?_) (fun c1374_ => ?_)
    ·
      exact jt_rI ⟨rfl, rfl, (show (a0 4 6 = 0 → (-1) = 0 - 1) from by omega), (fun h1 h2 h3 h4 h5 => by omega), (show (((((x1 < 0 ∨ a0 4 6 ≤ x1) ∨ x2 < 0) ∨ a0 4 6 ≤ x2) ∨ x1 = x2) → (-1) = 0 - 1) from by omega)⟩
    ·
      refine jt_ite (fun c1375_ => ?_) (fun c1375_ => ?_)
      ·
        exact jt_rI ⟨rfl, rfl, (show (a0 4 6 = 0 → (-1) = 0 - 1) from by omega), (fun h1 h2 h3 h4 h5 => by omega), (show (((((x1 < 0 ∨ a0 4 6 ≤ x1) ∨ x2 < 0) ∨ a0 4 6 ≤ x2) ∨ x1 = x2) → (-1) = 0 - 1) from by omega)⟩
      ·
        refine jt_bI (sp_X10_isMet E d (jd_le hd rfl) x1 x2 (a0 0 0) a0 b0 hv0 hp0) (fun r1376_ a1376_ b1376_ h1376_ => ?_)
        obtain ⟨rfl, rfl, hq1376_0, hq1376_1⟩ := h1376_
        refine jt_ite (fun c1377_ => ?_) (fun c1377_ => ?_)
        ·
          exact cp_X11_meets_49 E d hd x1 x2 a0 b0 hv0 hp0 (show ((((0 ≤ x1 ∧ x1 < a0 4 6) ∧ 0 ≤ x2) ∧ x2 < a0 4 6) ∧ ¬ x1 = x2) from by omega) (by have q := hq1376_1 (by omega) (by omega) (by omega) (by omega); omega) (show 1 ≤ a0 4 6 from by omega)
        ·
          exact cp_X11_meets_45 E d hd x1 x2 a0 b0 hv0 hp0 (show ((((0 ≤ x1 ∧ x1 < a0 4 6) ∧ 0 ≤ x2) ∧ x2 < a0 4 6) ∧ ¬ x1 = x2) from by omega) (by have q := hq1376_1 (by omega) (by omega) (by omega) (by omega); omega) (show 1 ≤ a0 4 6 from by omega)
def jW_X3_add : List (Nat × Nat) := [(4, 6), (5, 9999), (6, 9999), (7, 9999), (8, 9999), (10, 9999)]
abbrev jQ_X3_add (x1 x2 x3 x4 : Int) (a0 b0 : Nat → Nat → Int) : List jxV → (Nat → Nat → Int) → (Nat → Nat → Int) → Prop := rI (fun r a b => (iv a) ∧ (jfr jW_X3_add a0 a) ∧ (b0 = b) ∧ ((((a0 4 6 < 40 ∧ r = a0 4 6) ∧ a 4 6 = (a0 4 6) + 1) ∨ ((40 ≤ a0 4 6 ∧ r = 0 - 1) ∧ a 4 6 = a0 4 6))) ∧ (0 ≤ r → MAD a0 a 5 6 7 8 10 r.toNat x1 x2 x3 x4) ∧ (r < 0 → MSA a0 a 5 6 7 8 10))
theorem cp_X3_add_62 (E : jxE) (d : Nat) (hd : Nat.ble 1 (d + 1) = true) (x1 x2 x3 x4 : Int) (a0 b0 : Nat → Nat → Int) (hv0 : iv a0) : ∀ (a : Nat → Nat → Int), iv a → jfr jW_X3_add a0 a → a 4 6 ≤ 39 → a 4 6 = a0 4 6 → a 4 6 ≤ 39 → (MAD a0 a 5 6 7 8 10 (a0 4 6).toNat x1 x2 x3 x4) → jt (jxX E d 54 62 [some (.inr (.inr (.inl 4))), none, none, none, none] [] (jxSH, a, b0)) (jQ_X3_add x1 x2 x3 x4 a0 b0) := by
  intro a hv hf hi0 hi1 hi2 hmad
  refine jt_eq (bq_X3_add_62 E d a b0) ?_
  have h1378_ := iv_get hv (k := 4) (j := 6) (l := 0) (u := 40) rfl
  have h1379_ := iv_get hv0 (k := 4) (j := 6) (l := 0) (u := 40) rfl
  have h1381_ : jxw ((a 4 6) + 1) = (a 4 6) + 1 := jxw_id (by omega) (by omega)
  have hv1380_ : iv (jxu a 4 6 (jxw ((a 4 6) + 1))) := iv_put hv (l := 0) (u := 40) rfl (by omega) (by omega)
  have hf1382_ : jfr jW_X3_add a0 (jxu a 4 6 (jxw ((a 4 6) + 1))) := jfr_put hf rfl
  exact jt_rI ⟨hv1380_, hf1382_, rfl, (show (((a0 4 6 < 40 ∧ a 4 6 = a0 4 6) ∧ jxw ((a 4 6) + 1) = (a0 4 6) + 1) ∨ ((40 ≤ a0 4 6 ∧ a 4 6 = 0 - 1) ∧ jxw ((a 4 6) + 1) = a0 4 6)) from by omega), (by first | (intro h; exact absurd h (by decide)) | (intro _; rw [show (a 4 6).toNat = (a0 4 6).toNat from by omega]; exact hmad)), (by first | (intro _; exact MSA_rf _ _ _ _ _ _) | (intro h; exact absurd h (by omega)))⟩
theorem cp_X3_add_31 (E : jxE) (d : Nat) (hd : Nat.ble 1 (d + 1) = true) (x1 x2 x3 x4 : Int) (a0 b0 : Nat → Nat → Int) (hv0 : iv a0) : ∀ (y3 y4 : Int) (a : Nat → Nat → Int), iv a → jfr jW_X3_add a0 a → a 4 6 ≤ 39 → a 4 6 = a0 4 6 → a 4 6 ≤ 39 → (UP (a0 5) (a 5) (a0 4 6).toNat x1 ∧ UP (a0 6) (a 6) (a0 4 6).toNat x2) → (y3 = x3) → (y4 = x4) → ((∀ j, a 7 j = a0 7 j) ∧ (∀ j, a 8 j = a0 8 j) ∧ (∀ j, a 10 j = a0 10 j)) → jt (jxX E d 54 31 [some (.inr (.inr (.inl 4))), none, none, some (.inl y3), some (.inl y4)] [] (jxSH, a, b0)) (jQ_X3_add x1 x2 x3 x4 a0 b0) := by
  intro y3 y4 a hv hf hi0 hi1 hi2 hu hy3 hy4 hs
  refine jt_eq (bq_X3_add_31 E d y3 y4 a b0) ?_
  have h1383_ := iv_get hv (k := 4) (j := 6) (l := 0) (u := 40) rfl
  have h1384_ := iv_get hv0 (k := 4) (j := 6) (l := 0) (u := 40) rfl
  refine jt_grd (by omega) ?_
  refine jt_grd (by omega) ?_
  refine jt_grd (by omega) ?_
  have hv1385_ : iv (jxu a 7 ((a 4 6).toNat) y3) := iv_putf hv rfl
  have hv1386_ : iv (jxu (jxu a 7 ((a 4 6).toNat) y3) 8 ((a 4 6).toNat) y4) := iv_putf hv1385_ rfl
  have hv1387_ : iv (jxu (jxu (jxu a 7 ((a 4 6).toNat) y3) 8 ((a 4 6).toNat) y4) 10 ((a 4 6).toNat) 1) := iv_putf hv1386_ rfl
  have hf1388_ : jfr jW_X3_add a0 (jxu a 7 ((a 4 6).toNat) y3) := jfr_put hf rfl
  have hf1389_ : jfr jW_X3_add a0 (jxu (jxu a 7 ((a 4 6).toNat) y3) 8 ((a 4 6).toNat) y4) := jfr_put hf1388_ rfl
  have hf1390_ : jfr jW_X3_add a0 (jxu (jxu (jxu a 7 ((a 4 6).toNat) y3) 8 ((a 4 6).toNat) y4) 10 ((a 4 6).toNat) 1) := jfr_put hf1389_ rfl
  exact cp_X3_add_62 E d hd x1 x2 x3 x4 a0 b0 hv0 (jxu (jxu (jxu a 7 ((a 4 6).toNat) y3) 8 ((a 4 6).toNat) y4) 10 ((a 4 6).toNat) 1) hv1387_ hf1390_ (show a 4 6 ≤ 39 from by omega) (show a 4 6 = a0 4 6 from by omega) (show a 4 6 ≤ 39 from by omega) (by subst hy3; subst hy4; rw [show (a 4 6).toNat = (a0 4 6).toNat from by omega]; exact ⟨hu.1, hu.2, UP_put hs.1, UP_put hs.2.1, UP_put hs.2.2⟩)
theorem sp_X3_add (E : jxE) (d : Nat) (hd : Nat.ble 1 d = true) (x1 x2 x3 x4 : Int) (a0 b0 : Nat → Nat → Int) (hv0 : iv a0) : jt (jxC E d 54 [.inr (.inr (.inl 4)), .inl x1, .inl x2, .inl x3, .inl x4] (jxSH, a0, b0)) (jQ_X3_add x1 x2 x3 x4 a0 b0) := by
  obtain ⟨d, rfl⟩ := jd_succ hd
  refine jt_eq (bq_X3_add E d x1 x2 x3 x4 a0 b0) ?_
  have h1391_ := iv_get hv0 (k := 4) (j := 6) (l := 0) (u := 40) rfl
  refine jt_ite (fun c1392_ => ?_) (fun c1392_ => ?_)
  ·
    refine jt_grd (by omega) ?_
    refine jt_grd (by omega) ?_
    have hv1393_ : iv (jxu a0 5 ((a0 4 6).toNat) x1) := iv_putf hv0 rfl
    have hv1394_ : iv (jxu (jxu a0 5 ((a0 4 6).toNat) x1) 6 ((a0 4 6).toNat) x2) := iv_putf hv1393_ rfl
    have hf1395_ : jfr jW_X3_add a0 (jxu a0 5 ((a0 4 6).toNat) x1) := jfr_put (jfr_rf _ _) rfl
    have hf1396_ : jfr jW_X3_add a0 (jxu (jxu a0 5 ((a0 4 6).toNat) x1) 6 ((a0 4 6).toNat) x2) := jfr_put hf1395_ rfl
    exact cp_X3_add_31 E d hd x1 x2 x3 x4 a0 b0 hv0 x3 x4 (jxu (jxu a0 5 ((a0 4 6).toNat) x1) 6 ((a0 4 6).toNat) x2) hv1394_ hf1396_ (show a0 4 6 ≤ 39 from by omega) (show a0 4 6 = a0 4 6 from by omega) (show a0 4 6 ≤ 39 from by omega) ⟨UP_put (fun _ => rfl), UP_put (fun _ => rfl)⟩ (by first | rfl | assumption) (by first | rfl | assumption) ⟨fun _ => rfl, fun _ => rfl, fun _ => rfl⟩
  ·
    exact jt_rI ⟨hv0, (jfr_rf _ _), rfl, (show (((a0 4 6 < 40 ∧ (-1) = a0 4 6) ∧ a0 4 6 = (a0 4 6) + 1) ∨ ((40 ≤ a0 4 6 ∧ (-1) = 0 - 1) ∧ a0 4 6 = a0 4 6)) from by omega), (by first | (intro h; exact absurd h (by decide)) | (intro _; rw [show (a 4 6).toNat = (a0 4 6).toNat from by omega]; exact hmad)), (by first | (intro _; exact MSA_rf _ _ _ _ _ _) | (intro h; exact absurd h (by omega)))⟩
def jWeM : List (Nat × Nat) := []
def jW_X11_member : List (Nat × Nat) := [(4, 6), (5, 9999), (6, 9999), (7, 9999), (8, 9999), (10, 9999)]
abbrev jQ_X11_member (x1 x2 x3 : Int) (a0 b0 : Nat → Nat → Int) : List jxV → (Nat → Nat → Int) → (Nat → Nat → Int) → Prop := rI (fun r a b => (iv a) ∧ (jfr jW_X11_member a0 a) ∧ (b0 = b) ∧ ((((((((((0 ≤ x1 ∧ x1 ≤ 15) ∧ 0 ≤ x2) ∧ x2 ≤ 65535) ∧ 0 - 1 ≤ x3) ∧ x3 ≤ 19) ∧ a0 4 6 < 40) ∧ r = a0 4 6) ∧ a 4 6 = (a0 4 6) + 1) ∨ ((((((((x1 < 0 ∨ 15 < x1) ∨ x2 < 0) ∨ 65535 < x2) ∨ x3 < 0 - 1) ∨ 19 < x3) ∨ 40 ≤ a0 4 6) ∧ r = 0 - 1) ∧ a 4 6 = a0 4 6))) ∧ (0 ≤ r → MAD a0 a 5 6 7 8 10 r.toNat x1 x2 x3 (a0 0 0)) ∧ (r < 0 → MSA a0 a 5 6 7 8 10))
theorem cp_X11_member_32 (E : jxE) (d : Nat) (hd : Nat.ble 3 (d + 1) = true) (x1 x2 x3 : Int) (a0 b0 : Nat → Nat → Int) (hv0 : iv a0) : ∀ (y1 y2 y3 s0 : Int) (a : Nat → Nat → Int), iv a → jfr jW_X11_member a0 a → 0 ≤ s0 → s0 ≤ 1 → y1 = x1 → y2 = x2 → y3 = x3 → (((((((s0 = 1 ∧ 0 ≤ x1) ∧ x1 ≤ 15) ∧ 0 ≤ x2) ∧ x2 ≤ 65535) ∧ 0 - 1 ≤ x3) ∧ x3 ≤ 19) ∨ (s0 = 0 ∧ (((((x1 < 0 ∨ 15 < x1) ∨ x2 < 0) ∨ 65535 < x2) ∨ x3 < 0 - 1) ∨ 19 < x3))) → a 4 6 = a0 4 6 → (jfr jWeM a0 a) → jt (jxX E d 156 32 [some (.inr (.inr (.inl 0))), some (.inl y1), some (.inl y2), some (.inl y3), none] [.inl s0] (jxSH, a, b0)) (jQ_X11_member x1 x2 x3 a0 b0) := by
  intro y1 y2 y3 s0 a hv hf hi0 hi1 hi2 hi3 hi4 hi5 hi6 hfe
  refine jt_eq (bq_X11_member_32 E d y1 y2 y3 s0 a b0) ?_
  have h1397_ := iv_get hv (k := 4) (j := 6) (l := 0) (u := 40) rfl
  have h1398_ := iv_get hv0 (k := 4) (j := 6) (l := 0) (u := 40) rfl
  refine jt_ite (fun c1399_ => ?_) (fun c1399_ => ?_)
  ·
    exact jt_rI ⟨hv, hf, rfl, (show (((((((((0 ≤ x1 ∧ x1 ≤ 15) ∧ 0 ≤ x2) ∧ x2 ≤ 65535) ∧ 0 - 1 ≤ x3) ∧ x3 ≤ 19) ∧ a0 4 6 < 40) ∧ (-1) = a0 4 6) ∧ a 4 6 = (a0 4 6) + 1) ∨ ((((((((x1 < 0 ∨ 15 < x1) ∨ x2 < 0) ∨ 65535 < x2) ∨ x3 < 0 - 1) ∨ 19 < x3) ∨ 40 ≤ a0 4 6) ∧ (-1) = 0 - 1) ∧ a 4 6 = a0 4 6)) from by omega), (fun h => absurd h (by decide)), (fun _ => MSA_e hfe)⟩
  ·
    refine jt_bI (sp_X3_add E d (jd_le hd rfl) y1 y2 y3 (a 0 0) a b0 hv) (fun r1400_ a1400_ b1400_ h1400_ => ?_)
    obtain ⟨hv1400_, hf1400_, rfl, hq1400_0, hq1400_1, hq1400_2⟩ := h1400_
    have h1401_ := iv_get hv1400_ (k := 4) (j := 6) (l := 0) (u := 40) rfl
    have hf1402_ : jfr jW_X11_member a0 a1400_ := jfr_tr hf hf1400_ rfl
    exact jt_rI ⟨hv1400_, hf1402_, rfl, (show (((((((((0 ≤ x1 ∧ x1 ≤ 15) ∧ 0 ≤ x2) ∧ x2 ≤ 65535) ∧ 0 - 1 ≤ x3) ∧ x3 ≤ 19) ∧ a0 4 6 < 40) ∧ r1400_ = a0 4 6) ∧ a1400_ 4 6 = (a0 4 6) + 1) ∨ ((((((((x1 < 0 ∨ 15 < x1) ∨ x2 < 0) ∨ 65535 < x2) ∨ x3 < 0 - 1) ∨ 19 < x3) ∨ 40 ≤ a0 4 6) ∧ r1400_ = 0 - 1) ∧ a1400_ 4 6 = a0 4 6)) from by omega), (fun h => MAD_e hfe (by rw [show x1 = y1 from by omega, show x2 = y2 from by omega, show x3 = y3 from by omega, show a0 0 0 = a 0 0 from (hfe 0 0 rfl).symm]; exact hq1400_1 h)), (fun h => MSA_e2 hfe (hq1400_2 h))⟩
theorem cp_X11_member_31 (E : jxE) (d : Nat) (hd : Nat.ble 3 (d + 1) = true) (x1 x2 x3 : Int) (a0 b0 : Nat → Nat → Int) (hv0 : iv a0) : ∀ (y1 y2 y3 : Int) (a : Nat → Nat → Int), iv a → jfr jW_X11_member a0 a → y1 = x1 → y2 = x2 → y3 = x3 → (((((x1 < 0 ∨ 15 < x1) ∨ x2 < 0) ∨ 65535 < x2) ∨ x3 < 0 - 1) ∨ 19 < x3) → a 4 6 = a0 4 6 → (jfr jWeM a0 a) → jt (jxX E d 156 31 [some (.inr (.inr (.inl 0))), some (.inl y1), some (.inl y2), some (.inl y3), none] [] (jxSH, a, b0)) (jQ_X11_member x1 x2 x3 a0 b0) := by
  intro y1 y2 y3 a hv hf hi0 hi1 hi2 hi3 hi4 hfe
  refine jt_eq (bq_X11_member_31 E d y1 y2 y3 a b0) ?_
  have h1403_ := iv_get hv (k := 4) (j := 6) (l := 0) (u := 40) rfl
  have h1404_ := iv_get hv0 (k := 4) (j := 6) (l := 0) (u := 40) rfl
  exact cp_X11_member_32 E d hd x1 x2 x3 a0 b0 hv0 y1 y2 y3 0 a hv hf (show 0 ≤ 0 from by omega) (show 0 ≤ 1 from by omega) (show y1 = x1 from by omega) (show y2 = x2 from by omega) (show y3 = x3 from by omega) (show (((((((0 = 1 ∧ 0 ≤ x1) ∧ x1 ≤ 15) ∧ 0 ≤ x2) ∧ x2 ≤ 65535) ∧ 0 - 1 ≤ x3) ∧ x3 ≤ 19) ∨ (0 = 0 ∧ (((((x1 < 0 ∨ 15 < x1) ∨ x2 < 0) ∨ 65535 < x2) ∨ x3 < 0 - 1) ∨ 19 < x3))) from by omega) (show a 4 6 = a0 4 6 from by omega) hfe
theorem sp_X11_member (E : jxE) (d : Nat) (hd : Nat.ble 3 d = true) (x1 x2 x3 : Int) (a0 b0 : Nat → Nat → Int) (hv0 : iv a0) : jt (jxC E d 156 [.inr (.inr (.inl 0)), .inl x1, .inl x2, .inl x3] (jxSH, a0, b0)) (jQ_X11_member x1 x2 x3 a0 b0) := by
  obtain ⟨d, rfl⟩ := jd_succ hd
  refine jt_eq (bq_X11_member E d x1 x2 x3 a0 b0) ?_
  refine jt_eI (eq_X11_isLand E d (jd_le hd rfl) x1 a0 b0) ?_
  have h1405_ := f_X11_isLand_eq a0 b0 x1
  have h1406_ := f_X11_within_eq a0 b0 x1 0 15
  refine jt_ite (fun c1407_ => ?_) (fun c1407_ => ?_)
  ·
    have h1408_ := iv_get hv0 (k := 4) (j := 6) (l := 0) (u := 40) rfl
    exact cp_X11_member_31 E d hd x1 x2 x3 a0 b0 hv0 x1 x2 x3 a0 hv0 (jfr_rf _ _) (show x1 = x1 from by omega) (show x2 = x2 from by omega) (show x3 = x3 from by omega) (show (((((x1 < 0 ∨ 15 < x1) ∨ x2 < 0) ∨ 65535 < x2) ∨ x3 < 0 - 1) ∨ 19 < x3) from by omega) (show a0 4 6 = a0 4 6 from by omega) (jfr_rf _ _)
  ·
    refine jt_eI (eq_X11_within E d (jd_le hd rfl) x2 0 65535 a0 b0) ?_
    have h1409_ := f_X11_within_eq a0 b0 x2 0 65535
    refine jt_ite (fun c1410_ => ?_) (fun c1410_ => ?_)
    ·
      have h1411_ := iv_get hv0 (k := 4) (j := 6) (l := 0) (u := 40) rfl
      exact cp_X11_member_31 E d hd x1 x2 x3 a0 b0 hv0 x1 x2 x3 a0 hv0 (jfr_rf _ _) (show x1 = x1 from by omega) (show x2 = x2 from by omega) (show x3 = x3 from by omega) (show (((((x1 < 0 ∨ 15 < x1) ∨ x2 < 0) ∨ 65535 < x2) ∨ x3 < 0 - 1) ∨ 19 < x3) from by omega) (show a0 4 6 = a0 4 6 from by omega) (jfr_rf _ _)
    ·
      refine jt_eI (eq_X11_within E d (jd_le hd rfl) x3 (-1) 19 a0 b0) ?_
      have h1412_ := f_X11_within_eq a0 b0 x3 (-1) 19
      refine jt_ite (fun c1413_ => ?_) (fun c1413_ => ?_)
      ·
        have h1414_ := iv_get hv0 (k := 4) (j := 6) (l := 0) (u := 40) rfl
        exact cp_X11_member_31 E d hd x1 x2 x3 a0 b0 hv0 x1 x2 x3 a0 hv0 (jfr_rf _ _) (show x1 = x1 from by omega) (show x2 = x2 from by omega) (show x3 = x3 from by omega) (show (((((x1 < 0 ∨ 15 < x1) ∨ x2 < 0) ∨ 65535 < x2) ∨ x3 < 0 - 1) ∨ 19 < x3) from by omega) (show a0 4 6 = a0 4 6 from by omega) (jfr_rf _ _)
      ·
        have h1415_ := iv_get hv0 (k := 4) (j := 6) (l := 0) (u := 40) rfl
        exact cp_X11_member_32 E d hd x1 x2 x3 a0 b0 hv0 x1 x2 x3 1 a0 hv0 (jfr_rf _ _) (show 0 ≤ 1 from by omega) (show 1 ≤ 1 from by omega) (show x1 = x1 from by omega) (show x2 = x2 from by omega) (show x3 = x3 from by omega) (show (((((((1 = 1 ∧ 0 ≤ x1) ∧ x1 ≤ 15) ∧ 0 ≤ x2) ∧ x2 ≤ 65535) ∧ 0 - 1 ≤ x3) ∧ x3 ≤ 19) ∨ (1 = 0 ∧ (((((x1 < 0 ∨ 15 < x1) ∨ x2 < 0) ∨ 65535 < x2) ∨ x3 < 0 - 1) ∨ 19 < x3))) from by omega) (show a0 4 6 = a0 4 6 from by omega) (jfr_rf _ _)
def jW_X4_add : List (Nat × Nat) := [(83, 6), (84, 9999), (85, 9999), (86, 9999), (87, 9999), (88, 9999), (89, 9999)]
abbrev jQ_X4_add (x1 x2 x3 : Int) (a0 b0 : Nat → Nat → Int) : List jxV → (Nat → Nat → Int) → (Nat → Nat → Int) → Prop := rI (fun r a b => (iv a) ∧ (jfr jW_X4_add a0 a) ∧ (b0 = b) ∧ ((((a0 83 6 < 20 ∧ r = a0 83 6) ∧ a 83 6 = (a0 83 6) + 1) ∨ ((20 ≤ a0 83 6 ∧ r = 0 - 1) ∧ a 83 6 = a0 83 6))))
theorem cp_X4_add_61 (E : jxE) (d : Nat) (hd : Nat.ble 1 (d + 1) = true) (x1 x2 x3 : Int) (a0 b0 : Nat → Nat → Int) (hv0 : iv a0) : ∀ (a : Nat → Nat → Int), iv a → jfr jW_X4_add a0 a → a 83 6 ≤ 19 → a 83 6 = a0 83 6 → a 83 6 ≤ 19 → jt (jxX E d 66 61 [some (.inr (.inr (.inl 83))), none, none, none] [] (jxSH, a, b0)) (jQ_X4_add x1 x2 x3 a0 b0) := by
  intro a hv hf hi0 hi1 hi2
  refine jt_eq (bq_X4_add_61 E d a b0) ?_
  have h1416_ := iv_get hv (k := 83) (j := 6) (l := 0) (u := 20) rfl
  have h1417_ := iv_get hv0 (k := 83) (j := 6) (l := 0) (u := 20) rfl
  refine jt_grd (by omega) ?_
  have hv1418_ : iv (jxu a 89 ((a 83 6).toNat) (-1)) := iv_putf hv rfl
  have h1420_ : jxw ((a 83 6) + 1) = (a 83 6) + 1 := jxw_id (by omega) (by omega)
  have hv1419_ : iv (jxu (jxu a 89 ((a 83 6).toNat) (-1)) 83 6 (jxw ((a 83 6) + 1))) := iv_put hv1418_ (l := 0) (u := 20) rfl (by omega) (by omega)
  have hf1421_ : jfr jW_X4_add a0 (jxu a 89 ((a 83 6).toNat) (-1)) := jfr_put hf rfl
  have hf1422_ : jfr jW_X4_add a0 (jxu (jxu a 89 ((a 83 6).toNat) (-1)) 83 6 (jxw ((a 83 6) + 1))) := jfr_put hf1421_ rfl
  exact jt_rI ⟨hv1419_, hf1422_, rfl, (show (((a0 83 6 < 20 ∧ a 83 6 = a0 83 6) ∧ jxw ((a 83 6) + 1) = (a0 83 6) + 1) ∨ ((20 ≤ a0 83 6 ∧ a 83 6 = 0 - 1) ∧ jxw ((a 83 6) + 1) = a0 83 6)) from by omega)⟩
theorem cp_X4_add_31 (E : jxE) (d : Nat) (hd : Nat.ble 1 (d + 1) = true) (x1 x2 x3 : Int) (a0 b0 : Nat → Nat → Int) (hv0 : iv a0) : ∀ (y3 : Int) (a : Nat → Nat → Int), iv a → jfr jW_X4_add a0 a → a 83 6 ≤ 19 → a 83 6 = a0 83 6 → a 83 6 ≤ 19 → jt (jxX E d 66 31 [some (.inr (.inr (.inl 83))), none, none, some (.inl y3)] [] (jxSH, a, b0)) (jQ_X4_add x1 x2 x3 a0 b0) := by
  intro y3 a hv hf hi0 hi1 hi2
  refine jt_eq (bq_X4_add_31 E d y3 a b0) ?_
  have h1423_ := iv_get hv (k := 83) (j := 6) (l := 0) (u := 20) rfl
  have h1424_ := iv_get hv0 (k := 83) (j := 6) (l := 0) (u := 20) rfl
  refine jt_grd (by omega) ?_
  refine jt_grd (by omega) ?_
  refine jt_grd (by omega) ?_
  have hv1425_ : iv (jxu a 86 ((a 83 6).toNat) y3) := iv_putf hv rfl
  have hv1426_ : iv (jxu (jxu a 86 ((a 83 6).toNat) y3) 87 ((a 83 6).toNat) 0) := iv_putf hv1425_ rfl
  have hv1427_ : iv (jxu (jxu (jxu a 86 ((a 83 6).toNat) y3) 87 ((a 83 6).toNat) 0) 88 ((a 83 6).toNat) (-1)) := iv_putf hv1426_ rfl
  have hf1428_ : jfr jW_X4_add a0 (jxu a 86 ((a 83 6).toNat) y3) := jfr_put hf rfl
  have hf1429_ : jfr jW_X4_add a0 (jxu (jxu a 86 ((a 83 6).toNat) y3) 87 ((a 83 6).toNat) 0) := jfr_put hf1428_ rfl
  have hf1430_ : jfr jW_X4_add a0 (jxu (jxu (jxu a 86 ((a 83 6).toNat) y3) 87 ((a 83 6).toNat) 0) 88 ((a 83 6).toNat) (-1)) := jfr_put hf1429_ rfl
  exact cp_X4_add_61 E d hd x1 x2 x3 a0 b0 hv0 (jxu (jxu (jxu a 86 ((a 83 6).toNat) y3) 87 ((a 83 6).toNat) 0) 88 ((a 83 6).toNat) (-1)) hv1427_ hf1430_ (show a 83 6 ≤ 19 from by omega) (show a 83 6 = a0 83 6 from by omega) (show a 83 6 ≤ 19 from by omega)
theorem sp_X4_add (E : jxE) (d : Nat) (hd : Nat.ble 1 d = true) (x1 x2 x3 : Int) (a0 b0 : Nat → Nat → Int) (hv0 : iv a0) : jt (jxC E d 66 [.inr (.inr (.inl 83)), .inl x1, .inl x2, .inl x3] (jxSH, a0, b0)) (jQ_X4_add x1 x2 x3 a0 b0) := by
  obtain ⟨d, rfl⟩ := jd_succ hd
  refine jt_eq (bq_X4_add E d x1 x2 x3 a0 b0) ?_
  have h1431_ := iv_get hv0 (k := 83) (j := 6) (l := 0) (u := 20) rfl
  refine jt_ite (fun c1432_ => ?_) (fun c1432_ => ?_)
  ·
    refine jt_grd (by omega) ?_
    refine jt_grd (by omega) ?_
    have hv1433_ : iv (jxu a0 84 ((a0 83 6).toNat) x1) := iv_putf hv0 rfl
    have hv1434_ : iv (jxu (jxu a0 84 ((a0 83 6).toNat) x1) 85 ((a0 83 6).toNat) x2) := iv_putf hv1433_ rfl
    have hf1435_ : jfr jW_X4_add a0 (jxu a0 84 ((a0 83 6).toNat) x1) := jfr_put (jfr_rf _ _) rfl
    have hf1436_ : jfr jW_X4_add a0 (jxu (jxu a0 84 ((a0 83 6).toNat) x1) 85 ((a0 83 6).toNat) x2) := jfr_put hf1435_ rfl
    exact cp_X4_add_31 E d hd x1 x2 x3 a0 b0 hv0 x3 (jxu (jxu a0 84 ((a0 83 6).toNat) x1) 85 ((a0 83 6).toNat) x2) hv1434_ hf1436_ (show a0 83 6 ≤ 19 from by omega) (show a0 83 6 = a0 83 6 from by omega) (show a0 83 6 ≤ 19 from by omega)
  ·
    exact jt_rI ⟨hv0, (jfr_rf _ _), rfl, (show (((a0 83 6 < 20 ∧ (-1) = a0 83 6) ∧ a0 83 6 = (a0 83 6) + 1) ∨ ((20 ≤ a0 83 6 ∧ (-1) = 0 - 1) ∧ a0 83 6 = a0 83 6)) from by omega)⟩
def jW_X11_offer : List (Nat × Nat) := [(83, 6), (84, 9999), (85, 9999), (86, 9999), (87, 9999), (88, 9999), (89, 9999)]
abbrev jQ_X11_offer (x1 x2 x3 : Int) (a0 b0 : Nat → Nat → Int) : List jxV → (Nat → Nat → Int) → (Nat → Nat → Int) → Prop := rI (fun r a b => (iv a) ∧ (jfr jW_X11_offer a0 a) ∧ (b0 = b) ∧ ((a0 4 6 = 0 → r = 0 - 1)) ∧ (((((((((0 ≤ x1 ∧ x1 < a0 4 6) ∧ ¬ a0 10 (x1.toNat) = 0) ∧ 0 ≤ x2) ∧ x2 ≤ 31) ∧ a0 83 6 < 20) ∧ r = a0 83 6) ∧ a 83 6 = (a0 83 6) + 1) ∨ (((((((x1 < 0 ∨ a0 4 6 ≤ x1) ∨ a0 10 (x1.toNat) = 0) ∨ x2 < 0) ∨ 31 < x2) ∨ 20 ≤ a0 83 6) ∧ r = 0 - 1) ∧ a 83 6 = a0 83 6))))
theorem sp_X11_offer (E : jxE) (d : Nat) (hd : Nat.ble 3 d = true) (x1 x2 x3 : Int) (a0 b0 : Nat → Nat → Int) (hv0 : iv a0) : jt (jxC E d 184 [.inr (.inr (.inl 0)), .inl x1, .inl x2, .inl x3] (jxSH, a0, b0)) (jQ_X11_offer x1 x2 x3 a0 b0) := by
  obtain ⟨d, rfl⟩ := jd_succ hd
  refine jt_eq (bq_X11_offer E d x1 x2 x3 a0 b0) ?_
  refine jt_eI (eq_X3_isThere E d (jd_le hd rfl) x1 a0 b0) ?_
  have h1437_ := f_X3_isThere_eq a0 b0 x1
  have h1438_ := f_X3_has_eq a0 b0 x1
  have h1439_ := iv_get hv0 (k := 4) (j := 6) (l := 0) (u := 40) rfl
  refine jt_ite (fun c1440_ => ?_) (fun c1440_ => ?_)
  ·
    have h1441_ := iv_get hv0 (k := 83) (j := 6) (l := 0) (u := 20) rfl
    exact jt_rI ⟨hv0, (jfr_rf _ _), rfl, (show (a0 4 6 = 0 → (-1) = 0 - 1) from by omega), (show ((((((((0 ≤ x1 ∧ x1 < a0 4 6) ∧ ¬ a0 10 (x1.toNat) = 0) ∧ 0 ≤ x2) ∧ x2 ≤ 31) ∧ a0 83 6 < 20) ∧ (-1) = a0 83 6) ∧ a0 83 6 = (a0 83 6) + 1) ∨ (((((((x1 < 0 ∨ a0 4 6 ≤ x1) ∨ a0 10 (x1.toNat) = 0) ∨ x2 < 0) ∨ 31 < x2) ∨ 20 ≤ a0 83 6) ∧ (-1) = 0 - 1) ∧ a0 83 6 = a0 83 6)) from by omega)⟩
  ·
    refine jt_eI (eq_X11_within E d (jd_le hd rfl) x2 0 31 a0 b0) ?_
    have h1442_ := f_X11_within_eq a0 b0 x2 0 31
    refine jt_ite (fun c1443_ => ?_) (fun c1443_ => ?_)
    ·
      have h1444_ := iv_get hv0 (k := 83) (j := 6) (l := 0) (u := 20) rfl
      exact jt_rI ⟨hv0, (jfr_rf _ _), rfl, (show (a0 4 6 = 0 → (-1) = 0 - 1) from by omega), (show ((((((((0 ≤ x1 ∧ x1 < a0 4 6) ∧ ¬ a0 10 (x1.toNat) = 0) ∧ 0 ≤ x2) ∧ x2 ≤ 31) ∧ a0 83 6 < 20) ∧ (-1) = a0 83 6) ∧ a0 83 6 = (a0 83 6) + 1) ∨ (((((((x1 < 0 ∨ a0 4 6 ≤ x1) ∨ a0 10 (x1.toNat) = 0) ∨ x2 < 0) ∨ 31 < x2) ∨ 20 ≤ a0 83 6) ∧ (-1) = 0 - 1) ∧ a0 83 6 = a0 83 6)) from by omega)⟩
    ·
      refine jt_bI (sp_X4_add E d (jd_le hd rfl) x1 x2 x3 a0 b0 hv0) (fun r1445_ a1445_ b1445_ h1445_ => ?_)
      obtain ⟨hv1445_, hf1445_, rfl, hq1445_0⟩ := h1445_
      have h1446_ := iv_get hv0 (k := 83) (j := 6) (l := 0) (u := 20) rfl
      have h1447_ := iv_get hv1445_ (k := 83) (j := 6) (l := 0) (u := 20) rfl
      have hf1448_ : jfr jW_X11_offer a0 a1445_ := jfr_tr (jfr_rf _ _) hf1445_ rfl
      exact jt_rI ⟨hv1445_, hf1448_, rfl, (show (a0 4 6 = 0 → r1445_ = 0 - 1) from by omega), (show ((((((((0 ≤ x1 ∧ x1 < a0 4 6) ∧ ¬ a0 10 (x1.toNat) = 0) ∧ 0 ≤ x2) ∧ x2 ≤ 31) ∧ a0 83 6 < 20) ∧ r1445_ = a0 83 6) ∧ a1445_ 83 6 = (a0 83 6) + 1) ∨ (((((((x1 < 0 ∨ a0 4 6 ≤ x1) ∨ a0 10 (x1.toNat) = 0) ∨ x2 < 0) ∨ 31 < x2) ∨ 20 ≤ a0 83 6) ∧ r1445_ = 0 - 1) ∧ a1445_ 83 6 = a0 83 6)) from by omega)⟩
abbrev jQ_X1_dearestStamp (a0 b0 : Nat → Nat → Int) : List jxV → (Nat → Nat → Int) → (Nat → Nat → Int) → Prop := rI (fun r a b => (a0 = a) ∧ (b0 = b))
theorem cp_X1_dearestStamp_4 (E : jxE) (d : Nat) (hd : Nat.ble 2 (d + 1) = true) (a0 b0 : Nat → Nat → Int) (hv0 : iv a0) : ∀ n : Nat, (∀ (y1 y2 : Int), (((8 - y2) * 1) + 0).toNat ≤ n → 0 ≤ y1 → 0 ≤ y2 → y2 ≤ 7 → jt (jxX E d 34 30 [some (.inr (.inr (.inl 141))), some (.inl y1), some (.inl y2)] [] (jxSH, a0, b0)) (jQ_X1_dearestStamp a0 b0)) ∧ (∀ (y1 y2 : Int), (((8 - y2) * 1) + 0).toNat ≤ n → 0 ≤ y1 → 0 ≤ y2 → y2 ≤ 8 → jt (jxX E d 34 4 [some (.inr (.inr (.inl 141))), some (.inl y1), some (.inl y2)] [] (jxSH, a0, b0)) (jQ_X1_dearestStamp a0 b0)) := by
  refine jx_ind fun n ih => ?_
  have ih30 : ∀ (y1 y2 : Int), (((8 - y2) * 1) + 0).toNat < n → 0 ≤ y1 → 0 ≤ y2 → y2 ≤ 7 → jt (jxX E d 34 30 [some (.inr (.inr (.inl 141))), some (.inl y1), some (.inl y2)] [] (jxSH, a0, b0)) (jQ_X1_dearestStamp a0 b0) := fun y1 y2 hlt i0 i1 i2 => (ih _ hlt).1 y1 y2 (Nat.le_refl _) i0 i1 i2
  have ih4 : ∀ (y1 y2 : Int), (((8 - y2) * 1) + 0).toNat < n → 0 ≤ y1 → 0 ≤ y2 → y2 ≤ 8 → jt (jxX E d 34 4 [some (.inr (.inr (.inl 141))), some (.inl y1), some (.inl y2)] [] (jxSH, a0, b0)) (jQ_X1_dearestStamp a0 b0) := fun y1 y2 hlt i0 i1 i2 => (ih _ hlt).2 y1 y2 (Nat.le_refl _) i0 i1 i2
  have hc30 : ∀ (y1 y2 : Int), (((8 - y2) * 1) + 0).toNat ≤ n → 0 ≤ y1 → 0 ≤ y2 → y2 ≤ 7 → jt (jxX E d 34 30 [some (.inr (.inr (.inl 141))), some (.inl y1), some (.inl y2)] [] (jxSH, a0, b0)) (jQ_X1_dearestStamp a0 b0) := by
    intro y1 y2 hm hi0 hi1 hi2
    refine jt_eq (bq_X1_dearestStamp_30 E d y1 y2 a0 b0) ?_
    have h1449_ : jxw (y2 + 1) = y2 + 1 := jxw_id (by omega) (by omega)
    exact ih4 y1 (jxw (y2 + 1)) (show (((8 - (jxw (y2 + 1))) * 1) + 0).toNat < n from by omega) (show 0 ≤ y1 from by omega) (show 0 ≤ jxw (y2 + 1) from by omega) (show jxw (y2 + 1) ≤ 8 from by omega)
  have hc4 : ∀ (y1 y2 : Int), (((8 - y2) * 1) + 0).toNat ≤ n → 0 ≤ y1 → 0 ≤ y2 → y2 ≤ 8 → jt (jxX E d 34 4 [some (.inr (.inr (.inl 141))), some (.inl y1), some (.inl y2)] [] (jxSH, a0, b0)) (jQ_X1_dearestStamp a0 b0) := by
    intro y1 y2 hm hi0 hi1 hi2
    refine jt_eq (bq_X1_dearestStamp_4 E d y1 y2 a0 b0) ?_
    refine jt_ite (fun c1450_ => ?_) (fun c1450_ => ?_)
    ·
      refine jt_grd (by omega) ?_
      refine jt_ite (fun c1451_ => ?_) (fun c1451_ => ?_)
      ·
        refine jt_grd (by omega) ?_
        refine jt_eI (eq_J9_max_7cf53 E d (jd_le hd rfl) y1 (a0 142 (y2.toNat)) a0 b0) ?_
        have h1452_ := f_J9_max_7cf53_eq a0 b0 y1 (a0 142 (y2.toNat))
        exact hc30 (f_J9_max_7cf53 a0 b0 y1 (a0 142 (y2.toNat))) y2 (show (((8 - y2) * 1) + 0).toNat ≤ n from by omega) (show 0 ≤ f_J9_max_7cf53 a0 b0 y1 (a0 142 (y2.toNat)) from by omega) (show 0 ≤ y2 from by omega) (show y2 ≤ 7 from by omega)
      ·
        exact hc30 y1 y2 (show (((8 - y2) * 1) + 0).toNat ≤ n from by omega) (show 0 ≤ y1 from by omega) (show 0 ≤ y2 from by omega) (show y2 ≤ 7 from by omega)
    ·
      exact jt_rI ⟨rfl, rfl⟩
  exact ⟨hc30, hc4⟩
theorem sp_X1_dearestStamp (E : jxE) (d : Nat) (hd : Nat.ble 2 d = true) (a0 b0 : Nat → Nat → Int) (hv0 : iv a0) : jt (jxC E d 34 [.inr (.inr (.inl 141))] (jxSH, a0, b0)) (jQ_X1_dearestStamp a0 b0) := by
  obtain ⟨d, rfl⟩ := jd_succ hd
  refine jt_eq (bq_X1_dearestStamp E d a0 b0) ?_
  exact (cp_X1_dearestStamp_4 E d hd a0 b0 hv0 _).2 0 0 (Nat.le_refl _) (show 0 ≤ 0 from by omega) (show 0 ≤ 0 from by omega) (show 0 ≤ 8 from by omega)
abbrev jQ_X1_tryBundle (x1 x2 x3 : Int) (a0 b0 : Nat → Nat → Int) : List jxV → (Nat → Nat → Int) → (Nat → Nat → Int) → Prop := rV (fun a b => (a0 = a))
theorem cp_X1_tryBundle_34 (E : jxE) (d : Nat) (hd : Nat.ble 2 (d + 1) = true) (x1 x2 x3 : Int) (a0 b0 : Nat → Nat → Int) (hv0 : iv a0) (hp0 : 0 ≤ x1) (hp1 : x1 ≤ 7) : ∀ n : Nat, (∀ (y4 y5 y7 : Int) (b : Nat → Nat → Int), ((y7 * 1) + 0).toNat ≤ n → 1 ≤ y4 → y4 ≤ 1399 → 1 ≤ y7 → y7 ≤ 1399 → 0 < y4 → y4 ≤ y7 → jt (jxX E d 37 93 [some (.inr (.inr (.inl 141))), none, none, none, some (.inl y4), some (.inr (.inl y5)), none, some (.inl y7)] [] (jxSH, a0, b)) (jQ_X1_tryBundle x1 x2 x3 a0 b0)) ∧ (∀ (y4 y5 y7 : Int) (b : Nat → Nat → Int), ((y7 * 1) + 0).toNat ≤ n → 1 ≤ y4 → y4 ≤ 1399 → 1 ≤ y7 → y7 ≤ 1399 → 0 < y4 → y4 ≤ y7 → jt (jxX E d 37 63 [some (.inr (.inr (.inl 141))), none, none, none, some (.inl y4), some (.inr (.inl y5)), none, some (.inl y7)] [] (jxSH, a0, b)) (jQ_X1_tryBundle x1 x2 x3 a0 b0)) ∧ (∀ (y4 y5 y7 : Int) (b : Nat → Nat → Int), ((y7 * 1) + 0).toNat ≤ n → y7 ≤ 1399 → jt (jxX E d 37 34 [some (.inr (.inr (.inl 141))), none, none, none, some (.inl y4), some (.inr (.inl y5)), none, some (.inl y7)] [] (jxSH, a0, b)) (jQ_X1_tryBundle x1 x2 x3 a0 b0)) := by
  refine jx_ind fun n ih => ?_
  have ih93 : ∀ (y4 y5 y7 : Int) (b : Nat → Nat → Int), ((y7 * 1) + 0).toNat < n → 1 ≤ y4 → y4 ≤ 1399 → 1 ≤ y7 → y7 ≤ 1399 → 0 < y4 → y4 ≤ y7 → jt (jxX E d 37 93 [some (.inr (.inr (.inl 141))), none, none, none, some (.inl y4), some (.inr (.inl y5)), none, some (.inl y7)] [] (jxSH, a0, b)) (jQ_X1_tryBundle x1 x2 x3 a0 b0) := fun y4 y5 y7 b hlt i0 i1 i2 i3 i4 i5 => (ih _ hlt).1 y4 y5 y7 b (Nat.le_refl _) i0 i1 i2 i3 i4 i5
  have ih63 : ∀ (y4 y5 y7 : Int) (b : Nat → Nat → Int), ((y7 * 1) + 0).toNat < n → 1 ≤ y4 → y4 ≤ 1399 → 1 ≤ y7 → y7 ≤ 1399 → 0 < y4 → y4 ≤ y7 → jt (jxX E d 37 63 [some (.inr (.inr (.inl 141))), none, none, none, some (.inl y4), some (.inr (.inl y5)), none, some (.inl y7)] [] (jxSH, a0, b)) (jQ_X1_tryBundle x1 x2 x3 a0 b0) := fun y4 y5 y7 b hlt i0 i1 i2 i3 i4 i5 => (ih _ hlt).2.1 y4 y5 y7 b (Nat.le_refl _) i0 i1 i2 i3 i4 i5
  have ih34 : ∀ (y4 y5 y7 : Int) (b : Nat → Nat → Int), ((y7 * 1) + 0).toNat < n → y7 ≤ 1399 → jt (jxX E d 37 34 [some (.inr (.inr (.inl 141))), none, none, none, some (.inl y4), some (.inr (.inl y5)), none, some (.inl y7)] [] (jxSH, a0, b)) (jQ_X1_tryBundle x1 x2 x3 a0 b0) := fun y4 y5 y7 b hlt i0 => (ih _ hlt).2.2 y4 y5 y7 b (Nat.le_refl _) i0
  have hc93 : ∀ (y4 y5 y7 : Int) (b : Nat → Nat → Int), ((y7 * 1) + 0).toNat ≤ n → 1 ≤ y4 → y4 ≤ 1399 → 1 ≤ y7 → y7 ≤ 1399 → 0 < y4 → y4 ≤ y7 → jt (jxX E d 37 93 [some (.inr (.inr (.inl 141))), none, none, none, some (.inl y4), some (.inr (.inl y5)), none, some (.inl y7)] [] (jxSH, a0, b)) (jQ_X1_tryBundle x1 x2 x3 a0 b0) := by
    intro y4 y5 y7 b hm hi0 hi1 hi2 hi3 hi4 hi5
    refine jt_eq (bq_X1_tryBundle_93 E d y4 y5 y7 a0 b) ?_
    have h1453_ : jxw (y7 + (-1)) = y7 + (-1) := jxw_id (by omega) (by omega)
    exact ih34 y4 y5 (jxw (y7 + (-1))) b (show (((jxw (y7 + (-1))) * 1) + 0).toNat < n from by omega) (show jxw (y7 + (-1)) ≤ 1399 from by omega)
  have hc63 : ∀ (y4 y5 y7 : Int) (b : Nat → Nat → Int), ((y7 * 1) + 0).toNat ≤ n → 1 ≤ y4 → y4 ≤ 1399 → 1 ≤ y7 → y7 ≤ 1399 → 0 < y4 → y4 ≤ y7 → jt (jxX E d 37 63 [some (.inr (.inr (.inl 141))), none, none, none, some (.inl y4), some (.inr (.inl y5)), none, some (.inl y7)] [] (jxSH, a0, b)) (jQ_X1_tryBundle x1 x2 x3 a0 b0) := by
    intro y4 y5 y7 b hm hi0 hi1 hi2 hi3 hi4 hi5
    refine jt_eq (bq_X1_tryBundle_63 E d y4 y5 y7 a0 b) ?_
    refine jt_grd (by omega) ?_
    have h1454_ : jxw (y7 - y4) = y7 - y4 := jxw_id (by omega) (by omega)
    refine jt_grd (by omega) ?_
    refine jt_eJ (eq_J9_min_f86c9 E d (jd_le hd rfl) (b 145 (y7.toNat)) (jxwl ((b 145 ((jxw (y7 - y4)).toNat)) + y5)) a0 b) ?_
    refine jt_grd (by omega) ?_
    exact hc93 y4 y5 y7 (jxu b 145 (y7.toNat) (f_J9_min_f86c9 a0 b (b 145 (y7.toNat)) (jxwl ((b 145 ((jxw (y7 - y4)).toNat)) + y5)))) (show ((y7 * 1) + 0).toNat ≤ n from by omega) (show 1 ≤ y4 from by omega) (show y4 ≤ 1399 from by omega) (show 1 ≤ y7 from by omega) (show y7 ≤ 1399 from by omega) (show 0 < y4 from by omega) (show y4 ≤ y7 from by omega)
  have hc34 : ∀ (y4 y5 y7 : Int) (b : Nat → Nat → Int), ((y7 * 1) + 0).toNat ≤ n → y7 ≤ 1399 → jt (jxX E d 37 34 [some (.inr (.inr (.inl 141))), none, none, none, some (.inl y4), some (.inr (.inl y5)), none, some (.inl y7)] [] (jxSH, a0, b)) (jQ_X1_tryBundle x1 x2 x3 a0 b0) := by
    intro y4 y5 y7 b hm hi0
    refine jt_eq (bq_X1_tryBundle_34 E d y4 y5 y7 a0 b) ?_
    refine jt_ite (fun c1455_ => ?_) (fun c1455_ => ?_)
    ·
      refine jt_ite (fun c1456_ => ?_) (fun c1456_ => ?_)
      ·
        exact jt_rV rfl
      ·
        have h1457_ : jxw (y7 - y4) = y7 - y4 := jxw_id (by omega) (by omega)
        refine jt_grd (by omega) ?_
        have h1458_ := jxlcmp_b (b 145 ((jxw (y7 - y4)).toNat)) 4611686018427387904
        refine jt_ite (fun c1459_ => ?_) (fun c1459_ => ?_)
        ·
          exact hc93 y4 y5 y7 b (show ((y7 * 1) + 0).toNat ≤ n from by omega) (show 1 ≤ y4 from by omega) (show y4 ≤ 1399 from by omega) (show 1 ≤ y7 from by omega) (show y7 ≤ 1399 from by omega) (show 0 < y4 from by omega) (show y4 ≤ y7 from by omega)
        ·
          exact hc63 y4 y5 y7 b (show ((y7 * 1) + 0).toNat ≤ n from by omega) (show 1 ≤ y4 from by omega) (show y4 ≤ 1399 from by omega) (show 1 ≤ y7 from by omega) (show y7 ≤ 1399 from by omega) (show 0 < y4 from by omega) (show y4 ≤ y7 from by omega)
    ·
      exact jt_rV rfl
  exact ⟨hc93, hc63, hc34⟩
theorem cp_X1_tryBundle_25 (E : jxE) (d : Nat) (hd : Nat.ble 2 (d + 1) = true) (x1 x2 x3 : Int) (a0 b0 : Nat → Nat → Int) (hv0 : iv a0) (hp0 : 0 ≤ x1) (hp1 : x1 ≤ 7) : ∀ (y3 y4 y5 : Int) (b : Nat → Nat → Int), jt (jxX E d 37 25 [some (.inr (.inr (.inl 141))), none, none, some (.inl y3), some (.inl y4), some (.inr (.inl y5)), none, none] [] (jxSH, a0, b)) (jQ_X1_tryBundle x1 x2 x3 a0 b0) := by
  intro y3 y4 y5 b
  refine jt_eq (bq_X1_tryBundle_25 E d y3 y4 y5 a0 b) ?_
  refine jt_eI (eq_J9_min_7cf53 E d (jd_le hd rfl) y3 1399 a0 b) ?_
  have h1460_ := f_J9_min_7cf53_eq a0 b y3 1399
  exact (cp_X1_tryBundle_34 E d hd x1 x2 x3 a0 b0 hv0 hp0 hp1 _).2.2 y4 y5 (f_J9_min_7cf53 a0 b y3 1399) b (Nat.le_refl _) (show f_J9_min_7cf53 a0 b y3 1399 ≤ 1399 from by omega)
theorem sp_X1_tryBundle (E : jxE) (d : Nat) (hd : Nat.ble 2 d = true) (x1 x2 x3 : Int) (a0 b0 : Nat → Nat → Int) (hv0 : iv a0) (hp0 : 0 ≤ x1) (hp1 : x1 ≤ 7) : jt (jxC E d 37 [.inr (.inr (.inl 141)), .inl x1, .inl x2, .inl x3] (jxSH, a0, b0)) (jQ_X1_tryBundle x1 x2 x3 a0 b0) := by
  obtain ⟨d, rfl⟩ := jd_succ hd
  refine jt_eq (bq_X1_tryBundle E d x1 x2 x3 a0 b0) ?_
  refine jt_grd (by omega) ?_
  refine jt_eI (eq_X1_shiftOf E d (jd_le hd rfl) x1 a0 b0) ?_
  exact cp_X1_tryBundle_25 E d hd x1 x2 x3 a0 b0 hv0 hp0 hp1 x3 (jxw (x2 * (a0 142 (x1.toNat)))) (jxwl (x2 * (jxwl (281474976710656 - (jxshll 1 (f_X1_shiftOf a0 b0 x1)))))) b0
abbrev jQ_X1_tryKind (x1 x2 : Int) (a0 b0 : Nat → Nat → Int) : List jxV → (Nat → Nat → Int) → (Nat → Nat → Int) → Prop := rV (fun a b => (a0 = a))
theorem cp_X1_tryKind_10 (E : jxE) (d : Nat) (hd : Nat.ble 3 (d + 1) = true) (x1 x2 : Int) (a0 b0 : Nat → Nat → Int) (hv0 : iv a0) (hp0 : 0 ≤ x1) (hp1 : x1 ≤ 7) : ∀ n : Nat, (∀ (y1 y2 y3 y4 y5 : Int) (b : Nat → Nat → Int), (((100 - y4) * 1) + 0).toNat ≤ n → 0 ≤ y1 → y1 ≤ 7 → 1 ≤ y3 → 1 ≤ y4 → y4 ≤ 50 → 1 ≤ y5 → y5 ≤ 50 → jt (jxX E d 36 37 [some (.inr (.inr (.inl 141))), some (.inl y1), some (.inl y2), some (.inl y3), some (.inl y4), some (.inl y5)] [] (jxSH, a0, b)) (jQ_X1_tryKind x1 x2 a0 b0)) ∧ (∀ (y1 y2 y3 y4 : Int) (b : Nat → Nat → Int), (((100 - y4) * 1) + 0).toNat ≤ n → 0 ≤ y1 → y1 ≤ 7 → 1 ≤ y4 → y4 ≤ 100 → jt (jxX E d 36 10 [some (.inr (.inr (.inl 141))), some (.inl y1), some (.inl y2), some (.inl y3), some (.inl y4), none] [] (jxSH, a0, b)) (jQ_X1_tryKind x1 x2 a0 b0)) := by
  refine jx_ind fun n ih => ?_
  have ih37 : ∀ (y1 y2 y3 y4 y5 : Int) (b : Nat → Nat → Int), (((100 - y4) * 1) + 0).toNat < n → 0 ≤ y1 → y1 ≤ 7 → 1 ≤ y3 → 1 ≤ y4 → y4 ≤ 50 → 1 ≤ y5 → y5 ≤ 50 → jt (jxX E d 36 37 [some (.inr (.inr (.inl 141))), some (.inl y1), some (.inl y2), some (.inl y3), some (.inl y4), some (.inl y5)] [] (jxSH, a0, b)) (jQ_X1_tryKind x1 x2 a0 b0) := fun y1 y2 y3 y4 y5 b hlt i0 i1 i2 i3 i4 i5 i6 => (ih _ hlt).1 y1 y2 y3 y4 y5 b (Nat.le_refl _) i0 i1 i2 i3 i4 i5 i6
  have ih10 : ∀ (y1 y2 y3 y4 : Int) (b : Nat → Nat → Int), (((100 - y4) * 1) + 0).toNat < n → 0 ≤ y1 → y1 ≤ 7 → 1 ≤ y4 → y4 ≤ 100 → jt (jxX E d 36 10 [some (.inr (.inr (.inl 141))), some (.inl y1), some (.inl y2), some (.inl y3), some (.inl y4), none] [] (jxSH, a0, b)) (jQ_X1_tryKind x1 x2 a0 b0) := fun y1 y2 y3 y4 b hlt i0 i1 i2 i3 => (ih _ hlt).2 y1 y2 y3 y4 b (Nat.le_refl _) i0 i1 i2 i3
  have hc37 : ∀ (y1 y2 y3 y4 y5 : Int) (b : Nat → Nat → Int), (((100 - y4) * 1) + 0).toNat ≤ n → 0 ≤ y1 → y1 ≤ 7 → 1 ≤ y3 → 1 ≤ y4 → y4 ≤ 50 → 1 ≤ y5 → y5 ≤ 50 → jt (jxX E d 36 37 [some (.inr (.inr (.inl 141))), some (.inl y1), some (.inl y2), some (.inl y3), some (.inl y4), some (.inl y5)] [] (jxSH, a0, b)) (jQ_X1_tryKind x1 x2 a0 b0) := by
    intro y1 y2 y3 y4 y5 b hm hi0 hi1 hi2 hi3 hi4 hi5 hi6
    refine jt_eq (bq_X1_tryKind_37 E d y1 y2 y3 y4 y5 a0 b) ?_
    have h1461_ : jxw (y4 * 2) = y4 * 2 := jxw_id (by omega) (by omega)
    exact ih10 y1 y2 (jxw (y3 - y5)) (jxw (y4 * 2)) b (show (((100 - (jxw (y4 * 2))) * 1) + 0).toNat < n from by omega) (show 0 ≤ y1 from by omega) (show y1 ≤ 7 from by omega) (show 1 ≤ jxw (y4 * 2) from by omega) (show jxw (y4 * 2) ≤ 100 from by omega)
  have hc10 : ∀ (y1 y2 y3 y4 : Int) (b : Nat → Nat → Int), (((100 - y4) * 1) + 0).toNat ≤ n → 0 ≤ y1 → y1 ≤ 7 → 1 ≤ y4 → y4 ≤ 100 → jt (jxX E d 36 10 [some (.inr (.inr (.inl 141))), some (.inl y1), some (.inl y2), some (.inl y3), some (.inl y4), none] [] (jxSH, a0, b)) (jQ_X1_tryKind x1 x2 a0 b0) := by
    intro y1 y2 y3 y4 b hm hi0 hi1 hi2 hi3
    refine jt_eq (bq_X1_tryKind_10 E d y1 y2 y3 y4 a0 b) ?_
    refine jt_ite (fun c1462_ => ?_) (fun c1462_ => ?_)
    ·
      refine jt_ite (fun c1463_ => ?_) (fun c1463_ => ?_)
      ·
        exact jt_rV rfl
      ·
        refine jt_eI (eq_J9_min_7cf53 E d (jd_le hd rfl) y4 y3 a0 b) ?_
        refine jt_bV (sp_X1_tryBundle E d (jd_le hd rfl) y1 (f_J9_min_7cf53 a0 b y4 y3) y2 a0 b hv0 (show 0 ≤ y1 from by omega) (show y1 ≤ 7 from by omega)) (fun a1464_ b1464_ h1464_ => ?_)
        subst h1464_
        have h1465_ := f_J9_min_7cf53_eq a0 b y4 y3
        exact hc37 y1 y2 y3 y4 (f_J9_min_7cf53 a0 b y4 y3) b1464_ (show (((100 - y4) * 1) + 0).toNat ≤ n from by omega) (show 0 ≤ y1 from by omega) (show y1 ≤ 7 from by omega) (show 1 ≤ y3 from by omega) (show 1 ≤ y4 from by omega) (show y4 ≤ 50 from by omega) (show 1 ≤ f_J9_min_7cf53 a0 b y4 y3 from by omega) (show f_J9_min_7cf53 a0 b y4 y3 ≤ 50 from by omega)
    ·
      exact jt_rV rfl
  exact ⟨hc37, hc10⟩
theorem sp_X1_tryKind (E : jxE) (d : Nat) (hd : Nat.ble 3 d = true) (x1 x2 : Int) (a0 b0 : Nat → Nat → Int) (hv0 : iv a0) (hp0 : 0 ≤ x1) (hp1 : x1 ≤ 7) : jt (jxC E d 36 [.inr (.inr (.inl 141)), .inl x1, .inl x2] (jxSH, a0, b0)) (jQ_X1_tryKind x1 x2 a0 b0) := by
  obtain ⟨d, rfl⟩ := jd_succ hd
  refine jt_eq (bq_X1_tryKind E d x1 x2 a0 b0) ?_
  refine jt_grd (by omega) ?_
  exact (cp_X1_tryKind_10 E d hd x1 x2 a0 b0 hv0 hp0 hp1 _).2 x1 x2 (a0 143 (x1.toNat)) 1 b0 (Nat.le_refl _) (show 0 ≤ x1 from by omega) (show x1 ≤ 7 from by omega) (show 1 ≤ 1 from by omega) (show 1 ≤ 100 from by omega)
abbrev jQ_X1_findBestWays (x1 : Int) (a0 b0 : Nat → Nat → Int) : List jxV → (Nat → Nat → Int) → (Nat → Nat → Int) → Prop := rV (fun a b => (a0 = a))
theorem cp_X1_findBestWays_38 (E : jxE) (d : Nat) (hd : Nat.ble 4 (d + 1) = true) (x1 : Int) (a0 b0 : Nat → Nat → Int) (hv0 : iv a0) : ∀ n : Nat, (∀ (y1 y2 : Int) (b : Nat → Nat → Int), (((8 - y2) * 1) + 0).toNat ≤ n → 0 ≤ y2 → y2 ≤ 8 → jt (jxX E d 35 38 [some (.inr (.inr (.inl 141))), some (.inl y1), some (.inl y2)] [] (jxSH, a0, b)) (jQ_X1_findBestWays x1 a0 b0)) := by
  refine jx_ind fun n ih => ?_
  have ih38 : ∀ (y1 y2 : Int) (b : Nat → Nat → Int), (((8 - y2) * 1) + 0).toNat < n → 0 ≤ y2 → y2 ≤ 8 → jt (jxX E d 35 38 [some (.inr (.inr (.inl 141))), some (.inl y1), some (.inl y2)] [] (jxSH, a0, b)) (jQ_X1_findBestWays x1 a0 b0) := fun y1 y2 b hlt i0 i1 => (ih _ hlt) y1 y2 b (Nat.le_refl _) i0 i1
  have hc38 : ∀ (y1 y2 : Int) (b : Nat → Nat → Int), (((8 - y2) * 1) + 0).toNat ≤ n → 0 ≤ y2 → y2 ≤ 8 → jt (jxX E d 35 38 [some (.inr (.inr (.inl 141))), some (.inl y1), some (.inl y2)] [] (jxSH, a0, b)) (jQ_X1_findBestWays x1 a0 b0) := by
    intro y1 y2 b hm hi0 hi1
    refine jt_eq (bq_X1_findBestWays_38 E d y1 y2 a0 b) ?_
    refine jt_ite (fun c1466_ => ?_) (fun c1466_ => ?_)
    ·
      refine jt_bV (sp_X1_tryKind E d (jd_le hd rfl) y2 y1 a0 b hv0 (show 0 ≤ y2 from by omega) (show y2 ≤ 7 from by omega)) (fun a1467_ b1467_ h1467_ => ?_)
      subst h1467_
      have h1468_ : jxw (y2 + 1) = y2 + 1 := jxw_id (by omega) (by omega)
      exact ih38 y1 (jxw (y2 + 1)) b1467_ (show (((8 - (jxw (y2 + 1))) * 1) + 0).toNat < n from by omega) (show 0 ≤ jxw (y2 + 1) from by omega) (show jxw (y2 + 1) ≤ 8 from by omega)
    ·
      exact jt_rV rfl
  exact hc38
theorem cp_X1_findBestWays_29 (E : jxE) (d : Nat) (hd : Nat.ble 4 (d + 1) = true) (x1 : Int) (a0 b0 : Nat → Nat → Int) (hv0 : iv a0) : ∀ (y1 : Int) (b : Nat → Nat → Int), jt (jxX E d 35 29 [some (.inr (.inr (.inl 141))), some (.inl y1), none] [] (jxSH, a0, b)) (jQ_X1_findBestWays x1 a0 b0) := by
  intro y1 b
  refine jt_eq (bq_X1_findBestWays_29 E d y1 a0 b) ?_
  exact (cp_X1_findBestWays_38 E d hd x1 a0 b0 hv0 _) y1 0 (jxu b 145 0 0) (Nat.le_refl _) (show 0 ≤ 0 from by omega) (show 0 ≤ 8 from by omega)
theorem cp_X1_findBestWays_2 (E : jxE) (d : Nat) (hd : Nat.ble 4 (d + 1) = true) (x1 : Int) (a0 b0 : Nat → Nat → Int) (hv0 : iv a0) : ∀ n : Nat, (∀ (y1 y2 : Int) (b : Nat → Nat → Int), (((1400 - y2) * 1) + 0).toNat ≤ n → 1 ≤ y2 → y2 ≤ 1400 → jt (jxX E d 35 2 [some (.inr (.inr (.inl 141))), some (.inl y1), some (.inl y2)] [] (jxSH, a0, b)) (jQ_X1_findBestWays x1 a0 b0)) := by
  refine jx_ind fun n ih => ?_
  have ih2 : ∀ (y1 y2 : Int) (b : Nat → Nat → Int), (((1400 - y2) * 1) + 0).toNat < n → 1 ≤ y2 → y2 ≤ 1400 → jt (jxX E d 35 2 [some (.inr (.inr (.inl 141))), some (.inl y1), some (.inl y2)] [] (jxSH, a0, b)) (jQ_X1_findBestWays x1 a0 b0) := fun y1 y2 b hlt i0 i1 => (ih _ hlt) y1 y2 b (Nat.le_refl _) i0 i1
  have hc2 : ∀ (y1 y2 : Int) (b : Nat → Nat → Int), (((1400 - y2) * 1) + 0).toNat ≤ n → 1 ≤ y2 → y2 ≤ 1400 → jt (jxX E d 35 2 [some (.inr (.inr (.inl 141))), some (.inl y1), some (.inl y2)] [] (jxSH, a0, b)) (jQ_X1_findBestWays x1 a0 b0) := by
    intro y1 y2 b hm hi0 hi1
    refine jt_eq (bq_X1_findBestWays_2 E d y1 y2 a0 b) ?_
    refine jt_ite (fun c1469_ => ?_) (fun c1469_ => ?_)
    ·
      exact cp_X1_findBestWays_29 E d hd x1 a0 b0 hv0 y1 b
    ·
      refine jt_ite (fun c1470_ => ?_) (fun c1470_ => ?_)
      ·
        refine jt_grd (by omega) ?_
        have h1471_ : jxw (y2 + 1) = y2 + 1 := jxw_id (by omega) (by omega)
        exact ih2 y1 (jxw (y2 + 1)) (jxu b 145 (y2.toNat) 4611686018427387904) (show (((1400 - (jxw (y2 + 1))) * 1) + 0).toNat < n from by omega) (show 1 ≤ jxw (y2 + 1) from by omega) (show jxw (y2 + 1) ≤ 1400 from by omega)
      ·
        exact cp_X1_findBestWays_29 E d hd x1 a0 b0 hv0 y1 b
  exact hc2
theorem sp_X1_findBestWays (E : jxE) (d : Nat) (hd : Nat.ble 4 d = true) (x1 : Int) (a0 b0 : Nat → Nat → Int) (hv0 : iv a0) : jt (jxC E d 35 [.inr (.inr (.inl 141)), .inl x1] (jxSH, a0, b0)) (jQ_X1_findBestWays x1 a0 b0) := by
  obtain ⟨d, rfl⟩ := jd_succ hd
  refine jt_eq (bq_X1_findBestWays E d x1 a0 b0) ?_
  exact (cp_X1_findBestWays_2 E d hd x1 a0 b0 hv0 _) x1 1 b0 (Nat.le_refl _) (show 1 ≤ 1 from by omega) (show 1 ≤ 1400 from by omega)
def jW_X1_takeOut : List (Nat × Nat) := [(143, 9999), (144, 9999)]
abbrev jQ_X1_takeOut (x1 : Int) (a0 b0 : Nat → Nat → Int) : List jxV → (Nat → Nat → Int) → (Nat → Nat → Int) → Prop := rV (fun a b => (iv a) ∧ (jfr jW_X1_takeOut a0 a) ∧ (b0 = b))
theorem cp_X1_takeOut_22 (E : jxE) (d : Nat) (hd : Nat.ble 2 (d + 1) = true) (x1 : Int) (a0 b0 : Nat → Nat → Int) (hv0 : iv a0) : ∀ n : Nat, (∀ (y5 y7 : Int) (a : Nat → Nat → Int), (((8 - y7) * 1) + 0).toNat ≤ n → iv a → jfr jW_X1_takeOut a0 a → 0 ≤ y7 → y7 ≤ 7 → jt (jxX E d 38 48 [some (.inr (.inr (.inl 141))), none, none, none, none, some (.inr (.inl y5)), none, some (.inl y7)] [] (jxSH, a, b0)) (jQ_X1_takeOut x1 a0 b0)) ∧ (∀ (y5 y7 : Int) (a : Nat → Nat → Int), (((8 - y7) * 1) + 0).toNat ≤ n → iv a → jfr jW_X1_takeOut a0 a → 0 ≤ y7 → y7 ≤ 8 → jt (jxX E d 38 22 [some (.inr (.inr (.inl 141))), none, none, none, none, some (.inr (.inl y5)), none, some (.inl y7)] [] (jxSH, a, b0)) (jQ_X1_takeOut x1 a0 b0)) := by
  refine jx_ind fun n ih => ?_
  have ih48 : ∀ (y5 y7 : Int) (a : Nat → Nat → Int), (((8 - y7) * 1) + 0).toNat < n → iv a → jfr jW_X1_takeOut a0 a → 0 ≤ y7 → y7 ≤ 7 → jt (jxX E d 38 48 [some (.inr (.inr (.inl 141))), none, none, none, none, some (.inr (.inl y5)), none, some (.inl y7)] [] (jxSH, a, b0)) (jQ_X1_takeOut x1 a0 b0) := fun y5 y7 a hlt i0 i1 i2 i3 => (ih _ hlt).1 y5 y7 a (Nat.le_refl _) i0 i1 i2 i3
  have ih22 : ∀ (y5 y7 : Int) (a : Nat → Nat → Int), (((8 - y7) * 1) + 0).toNat < n → iv a → jfr jW_X1_takeOut a0 a → 0 ≤ y7 → y7 ≤ 8 → jt (jxX E d 38 22 [some (.inr (.inr (.inl 141))), none, none, none, none, some (.inr (.inl y5)), none, some (.inl y7)] [] (jxSH, a, b0)) (jQ_X1_takeOut x1 a0 b0) := fun y5 y7 a hlt i0 i1 i2 i3 => (ih _ hlt).2 y5 y7 a (Nat.le_refl _) i0 i1 i2 i3
  have hc48 : ∀ (y5 y7 : Int) (a : Nat → Nat → Int), (((8 - y7) * 1) + 0).toNat ≤ n → iv a → jfr jW_X1_takeOut a0 a → 0 ≤ y7 → y7 ≤ 7 → jt (jxX E d 38 48 [some (.inr (.inr (.inl 141))), none, none, none, none, some (.inr (.inl y5)), none, some (.inl y7)] [] (jxSH, a, b0)) (jQ_X1_takeOut x1 a0 b0) := by
    intro y5 y7 a hm hv hf hi0 hi1
    refine jt_eq (bq_X1_takeOut_48 E d y5 y7 a b0) ?_
    refine jt_grd (by omega) ?_
    refine jt_grd (by omega) ?_
    refine jt_grd (by omega) ?_
    have hv1472_ : iv (jxu a 143 (y7.toNat) (jxw ((a 143 (y7.toNat)) - (a 144 (y7.toNat))))) := iv_putf hv rfl
    have hf1473_ : jfr jW_X1_takeOut a0 (jxu a 143 (y7.toNat) (jxw ((a 143 (y7.toNat)) - (a 144 (y7.toNat))))) := jfr_put hf rfl
    have h1474_ : jxw (y7 + 1) = y7 + 1 := jxw_id (by omega) (by omega)
    exact ih22 y5 (jxw (y7 + 1)) (jxu a 143 (y7.toNat) (jxw ((a 143 (y7.toNat)) - (a 144 (y7.toNat))))) (show (((8 - (jxw (y7 + 1))) * 1) + 0).toNat < n from by omega) hv1472_ hf1473_ (show 0 ≤ jxw (y7 + 1) from by omega) (show jxw (y7 + 1) ≤ 8 from by omega)
  have hc22 : ∀ (y5 y7 : Int) (a : Nat → Nat → Int), (((8 - y7) * 1) + 0).toNat ≤ n → iv a → jfr jW_X1_takeOut a0 a → 0 ≤ y7 → y7 ≤ 8 → jt (jxX E d 38 22 [some (.inr (.inr (.inl 141))), none, none, none, none, some (.inr (.inl y5)), none, some (.inl y7)] [] (jxSH, a, b0)) (jQ_X1_takeOut x1 a0 b0) := by
    intro y5 y7 a hm hv hf hi0 hi1
    refine jt_eq (bq_X1_takeOut_22 E d y5 y7 a b0) ?_
    refine jt_ite (fun c1475_ => ?_) (fun c1475_ => ?_)
    ·
      refine jt_eI (eq_X1_shiftOf E d (jd_le hd rfl) y7 a b0) ?_
      refine jt_grd (by omega) ?_
      have hv1476_ : iv (jxu a 144 (y7.toNat) (jxand (jxw (jxshrl y5 (f_X1_shiftOf a b0 y7))) 63)) := iv_putf hv rfl
      have hf1477_ : jfr jW_X1_takeOut a0 (jxu a 144 (y7.toNat) (jxand (jxw (jxshrl y5 (f_X1_shiftOf a b0 y7))) 63)) := jfr_put hf rfl
      exact hc48 y5 y7 (jxu a 144 (y7.toNat) (jxand (jxw (jxshrl y5 (f_X1_shiftOf a b0 y7))) 63)) (show (((8 - y7) * 1) + 0).toNat ≤ n from by omega) hv1476_ hf1477_ (show 0 ≤ y7 from by omega) (show y7 ≤ 7 from by omega)
    ·
      exact jt_rV ⟨hv, hf, rfl⟩
  exact ⟨hc48, hc22⟩
theorem cp_X1_takeOut_19 (E : jxE) (d : Nat) (hd : Nat.ble 2 (d + 1) = true) (x1 : Int) (a0 b0 : Nat → Nat → Int) (hv0 : iv a0) : ∀ (y5 : Int) (a : Nat → Nat → Int), iv a → jfr jW_X1_takeOut a0 a → jt (jxX E d 38 19 [some (.inr (.inr (.inl 141))), none, none, none, none, some (.inr (.inl y5)), none, none] [] (jxSH, a, b0)) (jQ_X1_takeOut x1 a0 b0) := by
  intro y5 a hv hf
  refine jt_eq (bq_X1_takeOut_19 E d y5 a b0) ?_
  exact (cp_X1_takeOut_22 E d hd x1 a0 b0 hv0 _).2 y5 0 a (Nat.le_refl _) hv hf (show 0 ≤ 0 from by omega) (show 0 ≤ 8 from by omega)
theorem sp_X1_takeOut (E : jxE) (d : Nat) (hd : Nat.ble 2 d = true) (x1 : Int) (a0 b0 : Nat → Nat → Int) (hv0 : iv a0) : jt (jxC E d 38 [.inr (.inr (.inl 141)), .inr (.inl x1)] (jxSH, a0, b0)) (jQ_X1_takeOut x1 a0 b0) := by
  obtain ⟨d, rfl⟩ := jd_succ hd
  refine jt_eq (bq_X1_takeOut E d x1 a0 b0) ?_
  exact cp_X1_takeOut_19 E d hd x1 a0 b0 hv0 (jxwl ((jxshll (jxshrl (jxwl ((jxwl (x1 + 281474976710656)) - 1)) 48) 48) - x1)) a0 hv0 (jfr_rf _ _)
def jW_X1_payAtLeast : List (Nat × Nat) := [(143, 9999), (144, 9999)]
abbrev jQ_X1_payAtLeast (x1 : Int) (a0 b0 : Nat → Nat → Int) : List jxV → (Nat → Nat → Int) → (Nat → Nat → Int) → Prop := rI (fun r a b => (iv a) ∧ (jfr jW_X1_payAtLeast a0 a))
theorem cp_X1_payAtLeast_54 (E : jxE) (d : Nat) (hd : Nat.ble 5 (d + 1) = true) (x1 : Int) (a0 b0 : Nat → Nat → Int) (hv0 : iv a0) : ∀ (y3 : Int) (a b : Nat → Nat → Int), iv a → jfr jW_X1_payAtLeast a0 a → 0 ≤ y3 → y3 ≤ 1399 → jt (jxX E d 33 54 [none, none, none, some (.inl y3)] [] (jxSH, a, b)) (jQ_X1_payAtLeast x1 a0 b0) := by
  intro y3 a b hv hf hi0 hi1
  refine jt_eq (bq_X1_payAtLeast_54 E d y3 a b) ?_
  exact jt_rI ⟨hv, hf⟩
theorem cp_X1_payAtLeast_26 (E : jxE) (d : Nat) (hd : Nat.ble 5 (d + 1) = true) (x1 : Int) (a0 b0 : Nat → Nat → Int) (hv0 : iv a0) : ∀ n : Nat, (∀ (y2 y3 : Int) (a b : Nat → Nat → Int), (((1400 - y3) * 1) + 0).toNat ≤ n → iv a → jfr jW_X1_payAtLeast a0 a → y2 ≤ 1399 → 0 ≤ y3 → jt (jxX E d 33 26 [some (.inr (.inr (.inl 141))), none, some (.inl y2), some (.inl y3)] [] (jxSH, a, b)) (jQ_X1_payAtLeast x1 a0 b0)) := by
  refine jx_ind fun n ih => ?_
  have ih26 : ∀ (y2 y3 : Int) (a b : Nat → Nat → Int), (((1400 - y3) * 1) + 0).toNat < n → iv a → jfr jW_X1_payAtLeast a0 a → y2 ≤ 1399 → 0 ≤ y3 → jt (jxX E d 33 26 [some (.inr (.inr (.inl 141))), none, some (.inl y2), some (.inl y3)] [] (jxSH, a, b)) (jQ_X1_payAtLeast x1 a0 b0) := fun y2 y3 a b hlt i0 i1 i2 i3 => (ih _ hlt) y2 y3 a b (Nat.le_refl _) i0 i1 i2 i3
  have hc26 : ∀ (y2 y3 : Int) (a b : Nat → Nat → Int), (((1400 - y3) * 1) + 0).toNat ≤ n → iv a → jfr jW_X1_payAtLeast a0 a → y2 ≤ 1399 → 0 ≤ y3 → jt (jxX E d 33 26 [some (.inr (.inr (.inl 141))), none, some (.inl y2), some (.inl y3)] [] (jxSH, a, b)) (jQ_X1_payAtLeast x1 a0 b0) := by
    intro y2 y3 a b hm hv hf hi0 hi1
    refine jt_eq (bq_X1_payAtLeast_26 E d y2 y3 a b) ?_
    refine jt_ite (fun c1478_ => ?_) (fun c1478_ => ?_)
    ·
      exact jt_rI ⟨hv, hf⟩
    ·
      refine jt_grd (by omega) ?_
      have h1479_ := jxlcmp_b (b 145 (y3.toNat)) 4611686018427387904
      refine jt_ite (fun c1480_ => ?_) (fun c1480_ => ?_)
      ·
        have h1481_ : jxw (y3 + 1) = y3 + 1 := jxw_id (by omega) (by omega)
        exact ih26 y2 (jxw (y3 + 1)) a b (show (((1400 - (jxw (y3 + 1))) * 1) + 0).toNat < n from by omega) hv hf (show y2 ≤ 1399 from by omega) (show 0 ≤ jxw (y3 + 1) from by omega)
      ·
        refine jt_grd (by omega) ?_
        refine jt_bV (sp_X1_takeOut E d (jd_le hd rfl) (b 145 (y3.toNat)) a b hv) (fun a1482_ b1482_ h1482_ => ?_)
        obtain ⟨hv1482_, hf1482_, rfl⟩ := h1482_
        have hf1483_ : jfr jW_X1_payAtLeast a0 a1482_ := jfr_tr hf hf1482_ rfl
        exact cp_X1_payAtLeast_54 E d hd x1 a0 b0 hv0 y3 a1482_ b hv1482_ hf1483_ (show 0 ≤ y3 from by omega) (show y3 ≤ 1399 from by omega)
  exact hc26
theorem sp_X1_payAtLeast (E : jxE) (d : Nat) (hd : Nat.ble 5 d = true) (x1 : Int) (a0 b0 : Nat → Nat → Int) (hv0 : iv a0) : jt (jxC E d 33 [.inr (.inr (.inl 141)), .inl x1] (jxSH, a0, b0)) (jQ_X1_payAtLeast x1 a0 b0) := by
  obtain ⟨d, rfl⟩ := jd_succ hd
  refine jt_eq (bq_X1_payAtLeast E d x1 a0 b0) ?_
  refine jt_bI (sp_X1_dearestStamp E d (jd_le hd rfl) a0 b0 hv0) (fun r1484_ a1484_ b1484_ h1484_ => ?_)
  obtain ⟨rfl, rfl⟩ := h1484_
  refine jt_eI (eq_J9_min_7cf53 E d (jd_le hd rfl) (jxw ((jxw (x1 + r1484_)) - 1)) 1399 a0 b0) ?_
  refine jt_bV (sp_X1_findBestWays E d (jd_le hd rfl) (f_J9_min_7cf53 a0 b0 (jxw ((jxw (x1 + r1484_)) - 1)) 1399) a0 b0 hv0) (fun a1485_ b1485_ h1485_ => ?_)
  subst h1485_
  refine jt_eI (eq_J9_max_7cf53 E d (jd_le hd rfl) x1 0 a0 b1485_) ?_
  have h1486_ := jxw_im (x1 + r1484_)
  have h1487_ := jxw_rg (x1 + r1484_)
  have h1488_ := jxw_im ((jxw (x1 + r1484_)) - 1)
  have h1489_ := jxw_rg ((jxw (x1 + r1484_)) - 1)
  have h1490_ := f_J9_min_7cf53_eq a0 b0 (jxw ((jxw (x1 + r1484_)) - 1)) 1399
  have h1491_ := f_J9_max_7cf53_eq a0 b1485_ x1 0
  exact (cp_X1_payAtLeast_26 E d hd x1 a0 b0 hv0 _) (f_J9_min_7cf53 a0 b0 (jxw ((jxw (x1 + r1484_)) - 1)) 1399) (f_J9_max_7cf53 a0 b1485_ x1 0) a0 b1485_ (Nat.le_refl _) hv0 (jfr_rf _ _) (show f_J9_min_7cf53 a0 b0 (jxw ((jxw (x1 + r1484_)) - 1)) 1399 ≤ 1399 from by omega) (show 0 ≤ f_J9_max_7cf53 a0 b1485_ x1 0 from by omega)
abbrev jQ_X9_holdingOn (x1 : Int) (a0 b0 : Nat → Nat → Int) : List jxV → (Nat → Nat → Int) → (Nat → Nat → Int) → Prop := rI (fun r a b => (a0 = a) ∧ (b0 = b) ∧ ((a0 105 5 = 0 → r = 0 - 1)) ∧ (r = HO (a0 106) x1 (a0 105 5).toNat))
theorem cp_X9_holdingOn_4 (E : jxE) (d : Nat) (hd : Nat.ble 1 (d + 1) = true) (x1 : Int) (a0 b0 : Nat → Nat → Int) (hv0 : iv a0) : ∀ n : Nat, (∀ (y1 y2 y3 : Int), (((10 - y3) * 1) + 0).toNat ≤ n → 0 - 1 ≤ y2 → y2 ≤ 9 → 0 ≤ y3 → y3 ≤ 9 → 1 ≤ a0 105 5 → (y1 = x1) → y3 < a0 105 5 → (y2 = HO (a0 106) x1 (y3.toNat + 1)) → jt (jxX E d 139 44 [some (.inr (.inr (.inl 105))), some (.inl y1), some (.inl y2), some (.inl y3)] [] (jxSH, a0, b0)) (jQ_X9_holdingOn x1 a0 b0)) ∧ (∀ (y1 y3 : Int), (((10 - y3) * 1) + 0).toNat ≤ n → 0 ≤ y3 → y3 ≤ 9 → 1 ≤ a0 105 5 → (y1 = x1) → y3 < a0 105 5 → (HO (a0 106) x1 (y3.toNat + 1) = y3) → jt (jxX E d 139 42 [some (.inr (.inr (.inl 105))), some (.inl y1), none, some (.inl y3)] [] (jxSH, a0, b0)) (jQ_X9_holdingOn x1 a0 b0)) ∧ (∀ (y1 y2 y3 : Int), (((10 - y3) * 1) + 0).toNat ≤ n → 0 - 1 ≤ y2 → y2 ≤ 9 → 0 ≤ y3 → y3 ≤ 10 → (a0 105 5 = 0 → y2 = 0 - 1) → (y1 = x1) → y3 ≤ a0 105 5 → (y2 = HO (a0 106) x1 y3.toNat) → jt (jxX E d 139 4 [some (.inr (.inr (.inl 105))), some (.inl y1), some (.inl y2), some (.inl y3)] [] (jxSH, a0, b0)) (jQ_X9_holdingOn x1 a0 b0)) := by
  refine jx_ind fun n ih => ?_
  have ih44 : ∀ (y1 y2 y3 : Int), (((10 - y3) * 1) + 0).toNat < n → 0 - 1 ≤ y2 → y2 ≤ 9 → 0 ≤ y3 → y3 ≤ 9 → 1 ≤ a0 105 5 → (y1 = x1) → y3 < a0 105 5 → (y2 = HO (a0 106) x1 (y3.toNat + 1)) → jt (jxX E d 139 44 [some (.inr (.inr (.inl 105))), some (.inl y1), some (.inl y2), some (.inl y3)] [] (jxSH, a0, b0)) (jQ_X9_holdingOn x1 a0 b0) := fun y1 y2 y3 hlt i0 i1 i2 i3 i4 i5 i6 i7 => (ih _ hlt).1 y1 y2 y3 (Nat.le_refl _) i0 i1 i2 i3 i4 i5 i6 i7
  have ih42 : ∀ (y1 y3 : Int), (((10 - y3) * 1) + 0).toNat < n → 0 ≤ y3 → y3 ≤ 9 → 1 ≤ a0 105 5 → (y1 = x1) → y3 < a0 105 5 → (HO (a0 106) x1 (y3.toNat + 1) = y3) → jt (jxX E d 139 42 [some (.inr (.inr (.inl 105))), some (.inl y1), none, some (.inl y3)] [] (jxSH, a0, b0)) (jQ_X9_holdingOn x1 a0 b0) := fun y1 y3 hlt i0 i1 i2 i3 i4 i5 => (ih _ hlt).2.1 y1 y3 (Nat.le_refl _) i0 i1 i2 i3 i4 i5
  have ih4 : ∀ (y1 y2 y3 : Int), (((10 - y3) * 1) + 0).toNat < n → 0 - 1 ≤ y2 → y2 ≤ 9 → 0 ≤ y3 → y3 ≤ 10 → (a0 105 5 = 0 → y2 = 0 - 1) → (y1 = x1) → y3 ≤ a0 105 5 → (y2 = HO (a0 106) x1 y3.toNat) → jt (jxX E d 139 4 [some (.inr (.inr (.inl 105))), some (.inl y1), some (.inl y2), some (.inl y3)] [] (jxSH, a0, b0)) (jQ_X9_holdingOn x1 a0 b0) := fun y1 y2 y3 hlt i0 i1 i2 i3 i4 i5 i6 i7 => (ih _ hlt).2.2 y1 y2 y3 (Nat.le_refl _) i0 i1 i2 i3 i4 i5 i6 i7
  have hc44 : ∀ (y1 y2 y3 : Int), (((10 - y3) * 1) + 0).toNat ≤ n → 0 - 1 ≤ y2 → y2 ≤ 9 → 0 ≤ y3 → y3 ≤ 9 → 1 ≤ a0 105 5 → (y1 = x1) → y3 < a0 105 5 → (y2 = HO (a0 106) x1 (y3.toNat + 1)) → jt (jxX E d 139 44 [some (.inr (.inr (.inl 105))), some (.inl y1), some (.inl y2), some (.inl y3)] [] (jxSH, a0, b0)) (jQ_X9_holdingOn x1 a0 b0) := by
    intro y1 y2 y3 hm hi0 hi1 hi2 hi3 hi4 hy1 hi6 hho
    refine jt_eq (bq_X9_holdingOn_44 E d y1 y2 y3 a0 b0) ?_
    have h1492_ := iv_get hv0 (k := 105) (j := 5) (l := 0) (u := 10) rfl
    have h1493_ : jxw (y3 + 1) = y3 + 1 := jxw_id (by omega) (by omega)
    exact ih4 y1 y2 (jxw (y3 + 1)) (show (((10 - (jxw (y3 + 1))) * 1) + 0).toNat < n from by omega) (show 0 - 1 ≤ y2 from by omega) (show y2 ≤ 9 from by omega) (show 0 ≤ jxw (y3 + 1) from by omega) (show jxw (y3 + 1) ≤ 10 from by omega) (show (a0 105 5 = 0 → y2 = 0 - 1) from by omega) (by first | rfl | assumption) (show jxw (y3 + 1) ≤ a0 105 5 from by omega) (by first | rfl | (rw [show (jxw (y3 + 1)).toNat = y3.toNat + 1 from by omega]; exact hho))
  have hc42 : ∀ (y1 y3 : Int), (((10 - y3) * 1) + 0).toNat ≤ n → 0 ≤ y3 → y3 ≤ 9 → 1 ≤ a0 105 5 → (y1 = x1) → y3 < a0 105 5 → (HO (a0 106) x1 (y3.toNat + 1) = y3) → jt (jxX E d 139 42 [some (.inr (.inr (.inl 105))), some (.inl y1), none, some (.inl y3)] [] (jxSH, a0, b0)) (jQ_X9_holdingOn x1 a0 b0) := by
    intro y1 y3 hm hi0 hi1 hi2 hy1 hi4 hh
    refine jt_eq (bq_X9_holdingOn_42 E d y1 y3 a0 b0) ?_
    have h1494_ := iv_get hv0 (k := 105) (j := 5) (l := 0) (u := 10) rfl
    exact hc44 y1 y3 y3 (show (((10 - y3) * 1) + 0).toNat ≤ n from by omega) (show 0 - 1 ≤ y3 from by omega) (show y3 ≤ 9 from by omega) (show 0 ≤ y3 from by omega) (show y3 ≤ 9 from by omega) (show 1 ≤ a0 105 5 from by omega) (by first | rfl | assumption) (show y3 < a0 105 5 from by omega) (by first | (rw [HO_s2 (Or.inl (by rw [← hy1]; omega))]; exact hho) | (rw [HO_s2 (Or.inr ⟨by rw [← hho]; omega, by rw [← hho]; omega⟩)]; exact hho) | exact hh.symm)
  have hc4 : ∀ (y1 y2 y3 : Int), (((10 - y3) * 1) + 0).toNat ≤ n → 0 - 1 ≤ y2 → y2 ≤ 9 → 0 ≤ y3 → y3 ≤ 10 → (a0 105 5 = 0 → y2 = 0 - 1) → (y1 = x1) → y3 ≤ a0 105 5 → (y2 = HO (a0 106) x1 y3.toNat) → jt (jxX E d 139 4 [some (.inr (.inr (.inl 105))), some (.inl y1), some (.inl y2), some (.inl y3)] [] (jxSH, a0, b0)) (jQ_X9_holdingOn x1 a0 b0) := by
    intro y1 y2 y3 hm hi0 hi1 hi2 hi3 hi4 hy1 hi6 hho
    refine jt_eq (bq_X9_holdingOn_4 E d y1 y2 y3 a0 b0) ?_
    have h1495_ := iv_get hv0 (k := 105) (j := 5) (l := 0) (u := 10) rfl
    refine jt_ite (fun c1496_ => ?_) (fun c1496_ => ?_)
    ·
      refine jt_grd (by omega) ?_
      refine jt_ite (fun c1497_ => ?_) (fun c1497_ => ?_)
      ·
        exact hc44 y1 y2 y3 (show (((10 - y3) * 1) + 0).toNat ≤ n from by omega) (show 0 - 1 ≤ y2 from by omega) (show y2 ≤ 9 from by omega) (show 0 ≤ y3 from by omega) (show y3 ≤ 9 from by omega) (show 1 ≤ a0 105 5 from by omega) (by first | rfl | assumption) (show y3 < a0 105 5 from by omega) (by first | (rw [HO_s2 (Or.inl (by rw [← hy1]; omega))]; exact hho) | (rw [HO_s2 (Or.inr ⟨by rw [← hho]; omega, by rw [← hho]; omega⟩)]; exact hho) | exact hh.symm)
      ·
        refine jt_ite (fun c1498_ => ?_) (fun c1498_ => ?_)
        ·
          exact hc42 y1 y3 (show (((10 - y3) * 1) + 0).toNat ≤ n from by omega) (show 0 ≤ y3 from by omega) (show y3 ≤ 9 from by omega) (show 1 ≤ a0 105 5 from by omega) (by first | rfl | assumption) (show y3 < a0 105 5 from by omega) (by have e := HO_s1 (f := a0 106) (d := x1) (m := y3.toNat) (by rw [← hy1]; omega) (by rw [← hho]; first | (left; omega) | (right; omega)); rw [e]; omega)
        ·
          refine jt_grd (by omega) ?_
          refine jt_grd (by omega) ?_
          refine jt_ite (fun c1499_ => ?_) (fun c1499_ => ?_)
          ·
            exact hc44 y1 y2 y3 (show (((10 - y3) * 1) + 0).toNat ≤ n from by omega) (show 0 - 1 ≤ y2 from by omega) (show y2 ≤ 9 from by omega) (show 0 ≤ y3 from by omega) (show y3 ≤ 9 from by omega) (show 1 ≤ a0 105 5 from by omega) (by first | rfl | assumption) (show y3 < a0 105 5 from by omega) (by first | (rw [HO_s2 (Or.inl (by rw [← hy1]; omega))]; exact hho) | (rw [HO_s2 (Or.inr ⟨by rw [← hho]; omega, by rw [← hho]; omega⟩)]; exact hho) | exact hh.symm)
          ·
            exact hc42 y1 y3 (show (((10 - y3) * 1) + 0).toNat ≤ n from by omega) (show 0 ≤ y3 from by omega) (show y3 ≤ 9 from by omega) (show 1 ≤ a0 105 5 from by omega) (by first | rfl | assumption) (show y3 < a0 105 5 from by omega) (by have e := HO_s1 (f := a0 106) (d := x1) (m := y3.toNat) (by rw [← hy1]; omega) (by rw [← hho]; first | (left; omega) | (right; omega)); rw [e]; omega)
    ·
      exact jt_rI ⟨rfl, rfl, (show (a0 105 5 = 0 → y2 = 0 - 1) from by omega), (by rw [show (a0 105 5).toNat = y3.toNat from by omega]; exact hho)⟩
  exact ⟨hc44, hc42, hc4⟩
theorem sp_X9_holdingOn (E : jxE) (d : Nat) (hd : Nat.ble 1 d = true) (x1 : Int) (a0 b0 : Nat → Nat → Int) (hv0 : iv a0) : jt (jxC E d 139 [.inr (.inr (.inl 105)), .inl x1] (jxSH, a0, b0)) (jQ_X9_holdingOn x1 a0 b0) := by
  obtain ⟨d, rfl⟩ := jd_succ hd
  refine jt_eq (bq_X9_holdingOn E d x1 a0 b0) ?_
  have h1500_ := iv_get hv0 (k := 105) (j := 5) (l := 0) (u := 10) rfl
  exact (cp_X9_holdingOn_4 E d hd x1 a0 b0 hv0 _).2.2 x1 (-1) 0 (Nat.le_refl _) (show 0 - 1 ≤ (-1) from by omega) (show (-1) ≤ 9 from by omega) (show 0 ≤ 0 from by omega) (show 0 ≤ 10 from by omega) (show (a0 105 5 = 0 → (-1) = 0 - 1) from by omega) (by first | rfl | assumption) (show 0 ≤ a0 105 5 from by omega) (by first | rfl | (rw [show (jxw (y3 + 1)).toNat = y3.toNat + 1 from by omega]; exact hho))
abbrev jQ_X9_coinsFor (x1 x2 x3 : Int) (a0 b0 : Nat → Nat → Int) : List jxV → (Nat → Nat → Int) → (Nat → Nat → Int) → Prop := rI (fun r a b => (a0 = a) ∧ (b0 = b) ∧ ((a0 105 5 = 0 → r = 0 - 1)) ∧ (r = (if HO (a0 106) x3 (a0 105 5).toNat < 0 then -1 else CO (fun c => a0 108 ((HO (a0 106) x3 (a0 105 5).toNat).toNat * 12 + c)) (fun c => a0 119 ((HO (a0 106) x3 (a0 105 5).toNat).toNat * 12 + c)) (fun c => a0 130 ((HO (a0 106) x3 (a0 105 5).toNat).toNat * 12 + c)) (a0 107 (HO (a0 106) x3 (a0 105 5).toNat).toNat).toNat x1 x2 0)))
theorem cp_X9_coinsFor_26 (E : jxE) (d : Nat) (hd : Nat.ble 2 (d + 1) = true) (x1 x2 x3 : Int) (a0 b0 : Nat → Nat → Int) (hv0 : iv a0) : ∀ n : Nat, (∀ (y1 y2 y4 y5 : Int), (((12 - y5) * 1) + 0).toNat ≤ n → 0 ≤ y4 → y4 ≤ 9 → 0 ≤ y5 → y5 ≤ 11 → (y1 = x1) → (y2 = x2) → (y4 = HO (a0 106) x3 (a0 105 5).toNat) → 0 ≤ y5 → y5 < a0 107 (y4.toNat) → (CO (fun c => a0 108 ((HO (a0 106) x3 (a0 105 5).toNat).toNat * 12 + c)) (fun c => a0 119 ((HO (a0 106) x3 (a0 105 5).toNat).toNat * 12 + c)) (fun c => a0 130 ((HO (a0 106) x3 (a0 105 5).toNat).toNat * 12 + c)) (a0 107 (HO (a0 106) x3 (a0 105 5).toNat).toNat).toNat x1 x2 (y5.toNat + 1) = CO (fun c => a0 108 ((HO (a0 106) x3 (a0 105 5).toNat).toNat * 12 + c)) (fun c => a0 119 ((HO (a0 106) x3 (a0 105 5).toNat).toNat * 12 + c)) (fun c => a0 130 ((HO (a0 106) x3 (a0 105 5).toNat).toNat * 12 + c)) (a0 107 (HO (a0 106) x3 (a0 105 5).toNat).toNat).toNat x1 x2 0) → 1 ≤ a0 105 5 → jt (jxX E d 138 84 [some (.inr (.inr (.inl 105))), some (.inl y1), some (.inl y2), none, some (.inl y4), some (.inl y5)] [] (jxSH, a0, b0)) (jQ_X9_coinsFor x1 x2 x3 a0 b0)) ∧ (∀ (y1 y2 y4 y5 : Int), (((12 - y5) * 1) + 0).toNat ≤ n → 0 ≤ y1 → y1 ≤ 999 → 0 ≤ y4 → y4 ≤ 9 → 0 ≤ y5 → y5 ≤ 11 → (y1 = x1) → (y2 = x2) → (y4 = HO (a0 106) x3 (a0 105 5).toNat) → 0 ≤ y5 → y5 < a0 107 (y4.toNat) → (CO (fun c => a0 108 ((HO (a0 106) x3 (a0 105 5).toNat).toNat * 12 + c)) (fun c => a0 119 ((HO (a0 106) x3 (a0 105 5).toNat).toNat * 12 + c)) (fun c => a0 130 ((HO (a0 106) x3 (a0 105 5).toNat).toNat * 12 + c)) (a0 107 (HO (a0 106) x3 (a0 105 5).toNat).toNat).toNat x1 x2 y5.toNat = CO (fun c => a0 108 ((HO (a0 106) x3 (a0 105 5).toNat).toNat * 12 + c)) (fun c => a0 119 ((HO (a0 106) x3 (a0 105 5).toNat).toNat * 12 + c)) (fun c => a0 130 ((HO (a0 106) x3 (a0 105 5).toNat).toNat * 12 + c)) (a0 107 (HO (a0 106) x3 (a0 105 5).toNat).toNat).toNat x1 x2 0) → (a0 108 (y4.toNat * 12 + y5.toNat) = x1) → 1 ≤ a0 105 5 → jt (jxX E d 138 59 [some (.inr (.inr (.inl 105))), some (.inl y1), some (.inl y2), none, some (.inl y4), some (.inl y5)] [] (jxSH, a0, b0)) (jQ_X9_coinsFor x1 x2 x3 a0 b0)) ∧ (∀ (y1 y2 y4 y5 : Int), (((12 - y5) * 1) + 0).toNat ≤ n → 0 ≤ y4 → y4 ≤ 9 → 0 ≤ y5 → y5 ≤ 12 → (y1 = x1) → (y2 = x2) → (y4 = HO (a0 106) x3 (a0 105 5).toNat) → 0 ≤ y5 → (CO (fun c => a0 108 ((HO (a0 106) x3 (a0 105 5).toNat).toNat * 12 + c)) (fun c => a0 119 ((HO (a0 106) x3 (a0 105 5).toNat).toNat * 12 + c)) (fun c => a0 130 ((HO (a0 106) x3 (a0 105 5).toNat).toNat * 12 + c)) (a0 107 (HO (a0 106) x3 (a0 105 5).toNat).toNat).toNat x1 x2 y5.toNat = CO (fun c => a0 108 ((HO (a0 106) x3 (a0 105 5).toNat).toNat * 12 + c)) (fun c => a0 119 ((HO (a0 106) x3 (a0 105 5).toNat).toNat * 12 + c)) (fun c => a0 130 ((HO (a0 106) x3 (a0 105 5).toNat).toNat * 12 + c)) (a0 107 (HO (a0 106) x3 (a0 105 5).toNat).toNat).toNat x1 x2 0) → 1 ≤ a0 105 5 → jt (jxX E d 138 26 [some (.inr (.inr (.inl 105))), some (.inl y1), some (.inl y2), none, some (.inl y4), some (.inl y5)] [] (jxSH, a0, b0)) (jQ_X9_coinsFor x1 x2 x3 a0 b0)) := by
  refine jx_ind fun n ih => ?_
  have ih84 : ∀ (y1 y2 y4 y5 : Int), (((12 - y5) * 1) + 0).toNat < n → 0 ≤ y4 → y4 ≤ 9 → 0 ≤ y5 → y5 ≤ 11 → (y1 = x1) → (y2 = x2) → (y4 = HO (a0 106) x3 (a0 105 5).toNat) → 0 ≤ y5 → y5 < a0 107 (y4.toNat) → (CO (fun c => a0 108 ((HO (a0 106) x3 (a0 105 5).toNat).toNat * 12 + c)) (fun c => a0 119 ((HO (a0 106) x3 (a0 105 5).toNat).toNat * 12 + c)) (fun c => a0 130 ((HO (a0 106) x3 (a0 105 5).toNat).toNat * 12 + c)) (a0 107 (HO (a0 106) x3 (a0 105 5).toNat).toNat).toNat x1 x2 (y5.toNat + 1) = CO (fun c => a0 108 ((HO (a0 106) x3 (a0 105 5).toNat).toNat * 12 + c)) (fun c => a0 119 ((HO (a0 106) x3 (a0 105 5).toNat).toNat * 12 + c)) (fun c => a0 130 ((HO (a0 106) x3 (a0 105 5).toNat).toNat * 12 + c)) (a0 107 (HO (a0 106) x3 (a0 105 5).toNat).toNat).toNat x1 x2 0) → 1 ≤ a0 105 5 → jt (jxX E d 138 84 [some (.inr (.inr (.inl 105))), some (.inl y1), some (.inl y2), none, some (.inl y4), some (.inl y5)] [] (jxSH, a0, b0)) (jQ_X9_coinsFor x1 x2 x3 a0 b0) := fun y1 y2 y4 y5 hlt i0 i1 i2 i3 i4 i5 i6 i7 i8 i9 i10 => (ih _ hlt).1 y1 y2 y4 y5 (Nat.le_refl _) i0 i1 i2 i3 i4 i5 i6 i7 i8 i9 i10
  have ih59 : ∀ (y1 y2 y4 y5 : Int), (((12 - y5) * 1) + 0).toNat < n → 0 ≤ y1 → y1 ≤ 999 → 0 ≤ y4 → y4 ≤ 9 → 0 ≤ y5 → y5 ≤ 11 → (y1 = x1) → (y2 = x2) → (y4 = HO (a0 106) x3 (a0 105 5).toNat) → 0 ≤ y5 → y5 < a0 107 (y4.toNat) → (CO (fun c => a0 108 ((HO (a0 106) x3 (a0 105 5).toNat).toNat * 12 + c)) (fun c => a0 119 ((HO (a0 106) x3 (a0 105 5).toNat).toNat * 12 + c)) (fun c => a0 130 ((HO (a0 106) x3 (a0 105 5).toNat).toNat * 12 + c)) (a0 107 (HO (a0 106) x3 (a0 105 5).toNat).toNat).toNat x1 x2 y5.toNat = CO (fun c => a0 108 ((HO (a0 106) x3 (a0 105 5).toNat).toNat * 12 + c)) (fun c => a0 119 ((HO (a0 106) x3 (a0 105 5).toNat).toNat * 12 + c)) (fun c => a0 130 ((HO (a0 106) x3 (a0 105 5).toNat).toNat * 12 + c)) (a0 107 (HO (a0 106) x3 (a0 105 5).toNat).toNat).toNat x1 x2 0) → (a0 108 (y4.toNat * 12 + y5.toNat) = x1) → 1 ≤ a0 105 5 → jt (jxX E d 138 59 [some (.inr (.inr (.inl 105))), some (.inl y1), some (.inl y2), none, some (.inl y4), some (.inl y5)] [] (jxSH, a0, b0)) (jQ_X9_coinsFor x1 x2 x3 a0 b0) := fun y1 y2 y4 y5 hlt i0 i1 i2 i3 i4 i5 i6 i7 i8 i9 i10 i11 i12 i13 => (ih _ hlt).2.1 y1 y2 y4 y5 (Nat.le_refl _) i0 i1 i2 i3 i4 i5 i6 i7 i8 i9 i10 i11 i12 i13
  have ih26 : ∀ (y1 y2 y4 y5 : Int), (((12 - y5) * 1) + 0).toNat < n → 0 ≤ y4 → y4 ≤ 9 → 0 ≤ y5 → y5 ≤ 12 → (y1 = x1) → (y2 = x2) → (y4 = HO (a0 106) x3 (a0 105 5).toNat) → 0 ≤ y5 → (CO (fun c => a0 108 ((HO (a0 106) x3 (a0 105 5).toNat).toNat * 12 + c)) (fun c => a0 119 ((HO (a0 106) x3 (a0 105 5).toNat).toNat * 12 + c)) (fun c => a0 130 ((HO (a0 106) x3 (a0 105 5).toNat).toNat * 12 + c)) (a0 107 (HO (a0 106) x3 (a0 105 5).toNat).toNat).toNat x1 x2 y5.toNat = CO (fun c => a0 108 ((HO (a0 106) x3 (a0 105 5).toNat).toNat * 12 + c)) (fun c => a0 119 ((HO (a0 106) x3 (a0 105 5).toNat).toNat * 12 + c)) (fun c => a0 130 ((HO (a0 106) x3 (a0 105 5).toNat).toNat * 12 + c)) (a0 107 (HO (a0 106) x3 (a0 105 5).toNat).toNat).toNat x1 x2 0) → 1 ≤ a0 105 5 → jt (jxX E d 138 26 [some (.inr (.inr (.inl 105))), some (.inl y1), some (.inl y2), none, some (.inl y4), some (.inl y5)] [] (jxSH, a0, b0)) (jQ_X9_coinsFor x1 x2 x3 a0 b0) := fun y1 y2 y4 y5 hlt i0 i1 i2 i3 i4 i5 i6 i7 i8 i9 => (ih _ hlt).2.2 y1 y2 y4 y5 (Nat.le_refl _) i0 i1 i2 i3 i4 i5 i6 i7 i8 i9
  have hc84 : ∀ (y1 y2 y4 y5 : Int), (((12 - y5) * 1) + 0).toNat ≤ n → 0 ≤ y4 → y4 ≤ 9 → 0 ≤ y5 → y5 ≤ 11 → (y1 = x1) → (y2 = x2) → (y4 = HO (a0 106) x3 (a0 105 5).toNat) → 0 ≤ y5 → y5 < a0 107 (y4.toNat) → (CO (fun c => a0 108 ((HO (a0 106) x3 (a0 105 5).toNat).toNat * 12 + c)) (fun c => a0 119 ((HO (a0 106) x3 (a0 105 5).toNat).toNat * 12 + c)) (fun c => a0 130 ((HO (a0 106) x3 (a0 105 5).toNat).toNat * 12 + c)) (a0 107 (HO (a0 106) x3 (a0 105 5).toNat).toNat).toNat x1 x2 (y5.toNat + 1) = CO (fun c => a0 108 ((HO (a0 106) x3 (a0 105 5).toNat).toNat * 12 + c)) (fun c => a0 119 ((HO (a0 106) x3 (a0 105 5).toNat).toNat * 12 + c)) (fun c => a0 130 ((HO (a0 106) x3 (a0 105 5).toNat).toNat * 12 + c)) (a0 107 (HO (a0 106) x3 (a0 105 5).toNat).toNat).toNat x1 x2 0) → 1 ≤ a0 105 5 → jt (jxX E d 138 84 [some (.inr (.inr (.inl 105))), some (.inl y1), some (.inl y2), none, some (.inl y4), some (.inl y5)] [] (jxSH, a0, b0)) (jQ_X9_coinsFor x1 x2 x3 a0 b0) := by
    intro y1 y2 y4 y5 hm hi0 hi1 hi2 hi3 hy1 hy2 hhy hi7 hi8 hco hi10
    refine jt_eq (bq_X9_coinsFor_84 E d y1 y2 y4 y5 a0 b0) ?_
    have h1501_ := iv_get hv0 (k := 107) (j := y4.toNat) (l := 0) (u := 12) rfl
    have h1502_ := iv_get hv0 (k := 105) (j := 5) (l := 0) (u := 10) rfl
    have h1503_ : jxw (y5 + 1) = y5 + 1 := jxw_id (by omega) (by omega)
    exact ih26 y1 y2 y4 (jxw (y5 + 1)) (show (((12 - (jxw (y5 + 1))) * 1) + 0).toNat < n from by omega) (show 0 ≤ y4 from by omega) (show y4 ≤ 9 from by omega) (show 0 ≤ jxw (y5 + 1) from by omega) (show jxw (y5 + 1) ≤ 12 from by omega) (by first | rfl | assumption) (by first | rfl | assumption) (by first | exact hhy | exact hq0_1) (show 0 ≤ jxw (y5 + 1) from by omega) (by first | rfl | (rw [show (jxw (y5 + 1)).toNat = y5.toNat + 1 from by omega]; exact hco)) (show 1 ≤ a0 105 5 from by omega)
  have hc59 : ∀ (y1 y2 y4 y5 : Int), (((12 - y5) * 1) + 0).toNat ≤ n → 0 ≤ y1 → y1 ≤ 999 → 0 ≤ y4 → y4 ≤ 9 → 0 ≤ y5 → y5 ≤ 11 → (y1 = x1) → (y2 = x2) → (y4 = HO (a0 106) x3 (a0 105 5).toNat) → 0 ≤ y5 → y5 < a0 107 (y4.toNat) → (CO (fun c => a0 108 ((HO (a0 106) x3 (a0 105 5).toNat).toNat * 12 + c)) (fun c => a0 119 ((HO (a0 106) x3 (a0 105 5).toNat).toNat * 12 + c)) (fun c => a0 130 ((HO (a0 106) x3 (a0 105 5).toNat).toNat * 12 + c)) (a0 107 (HO (a0 106) x3 (a0 105 5).toNat).toNat).toNat x1 x2 y5.toNat = CO (fun c => a0 108 ((HO (a0 106) x3 (a0 105 5).toNat).toNat * 12 + c)) (fun c => a0 119 ((HO (a0 106) x3 (a0 105 5).toNat).toNat * 12 + c)) (fun c => a0 130 ((HO (a0 106) x3 (a0 105 5).toNat).toNat * 12 + c)) (a0 107 (HO (a0 106) x3 (a0 105 5).toNat).toNat).toNat x1 x2 0) → (a0 108 (y4.toNat * 12 + y5.toNat) = x1) → 1 ≤ a0 105 5 → jt (jxX E d 138 59 [some (.inr (.inr (.inl 105))), some (.inl y1), some (.inl y2), none, some (.inl y4), some (.inl y5)] [] (jxSH, a0, b0)) (jQ_X9_coinsFor x1 x2 x3 a0 b0) := by
    intro y1 y2 y4 y5 hm hi0 hi1 hi2 hi3 hi4 hi5 hy1 hy2 hhy hi9 hi10 hco hz hi13
    refine jt_eq (bq_X9_coinsFor_59 E d y1 y2 y4 y5 a0 b0) ?_
    have h1504_ := iv_get hv0 (k := 107) (j := y4.toNat) (l := 0) (u := 12) rfl
    have h1505_ := iv_get hv0 (k := 105) (j := 5) (l := 0) (u := 10) rfl
    refine jt_grd (by omega) ?_
    refine jt_grd (by omega) ?_
    refine jt_grd (by omega) ?_
    have h1506_ := iv_get hv0 (k := 119) (j := (y4.toNat) * 12 + (y5.toNat)) (l := 0) (u := 999) rfl
    refine jt_ite (fun c1507_ => ?_) (fun c1507_ => ?_)
    ·
      exact hc84 y1 y2 y4 y5 (show (((12 - y5) * 1) + 0).toNat ≤ n from by omega) (show 0 ≤ y4 from by omega) (show y4 ≤ 9 from by omega) (show 0 ≤ y5 from by omega) (show y5 ≤ 11 from by omega) (by first | rfl | assumption) (by first | rfl | assumption) (by first | exact hhy | exact hq0_1) (show 0 ≤ y5 from by omega) (show y5 < a0 107 (y4.toNat) from by omega) (by rw [← hco]; rw [← hhy]; refine (CO_on (by omega) ?_).symm; first | (left; rw [← hy1]; assumption) | (right; rw [← hy2]; assumption)) (show 1 ≤ a0 105 5 from by omega)
    ·
      refine jt_grd (by omega) ?_
      refine jt_grd (by omega) ?_
      refine jt_grd (by omega) ?_
      have h1508_ := iv_get hv0 (k := 130) (j := (y4.toNat) * 12 + (y5.toNat)) (l := 0) (u := 999) rfl
      exact jt_rI ⟨rfl, rfl, (show (a0 105 5 = 0 → a0 130 ((y4.toNat) * 12 + (y5.toNat)) = 0 - 1) from by omega), (by first | exact absurd (by omega : False) id | (rw [← hhy, if_neg (by omega)]; have h := hco; rw [← hhy] at h; rw [← h]; first | (rw [CO_end (by omega)]) | exact (CO_hit (z := fun c => a0 108 (y4.toNat * 12 + c)) (g := fun c => a0 119 (y4.toNat * 12 + c)) (k := fun c => a0 130 (y4.toNat * 12 + c)) (c := y5.toNat) (by omega) hz (by show x2 ≤ a0 119 (y4.toNat * 12 + y5.toNat); omega)).symm))⟩
  have hc26 : ∀ (y1 y2 y4 y5 : Int), (((12 - y5) * 1) + 0).toNat ≤ n → 0 ≤ y4 → y4 ≤ 9 → 0 ≤ y5 → y5 ≤ 12 → (y1 = x1) → (y2 = x2) → (y4 = HO (a0 106) x3 (a0 105 5).toNat) → 0 ≤ y5 → (CO (fun c => a0 108 ((HO (a0 106) x3 (a0 105 5).toNat).toNat * 12 + c)) (fun c => a0 119 ((HO (a0 106) x3 (a0 105 5).toNat).toNat * 12 + c)) (fun c => a0 130 ((HO (a0 106) x3 (a0 105 5).toNat).toNat * 12 + c)) (a0 107 (HO (a0 106) x3 (a0 105 5).toNat).toNat).toNat x1 x2 y5.toNat = CO (fun c => a0 108 ((HO (a0 106) x3 (a0 105 5).toNat).toNat * 12 + c)) (fun c => a0 119 ((HO (a0 106) x3 (a0 105 5).toNat).toNat * 12 + c)) (fun c => a0 130 ((HO (a0 106) x3 (a0 105 5).toNat).toNat * 12 + c)) (a0 107 (HO (a0 106) x3 (a0 105 5).toNat).toNat).toNat x1 x2 0) → 1 ≤ a0 105 5 → jt (jxX E d 138 26 [some (.inr (.inr (.inl 105))), some (.inl y1), some (.inl y2), none, some (.inl y4), some (.inl y5)] [] (jxSH, a0, b0)) (jQ_X9_coinsFor x1 x2 x3 a0 b0) := by
    intro y1 y2 y4 y5 hm hi0 hi1 hi2 hi3 hy1 hy2 hhy hi7 hco hi9
    refine jt_eq (bq_X9_coinsFor_26 E d y1 y2 y4 y5 a0 b0) ?_
    have h1509_ := iv_get hv0 (k := 105) (j := 5) (l := 0) (u := 10) rfl
    refine jt_grd (by omega) ?_
    have h1510_ := iv_get hv0 (k := 107) (j := y4.toNat) (l := 0) (u := 12) rfl
    refine jt_ite (fun c1511_ => ?_) (fun c1511_ => ?_)
    ·
      refine jt_ite (fun c1512_ => ?_) (fun c1512_ => ?_)
      ·
        refine jt_grd (by omega) ?_
        refine jt_grd (by omega) ?_
        refine jt_grd (by omega) ?_
        have h1513_ := iv_get hv0 (k := 108) (j := (y4.toNat) * 12 + (y5.toNat)) (l := 0) (u := 999) rfl
        refine jt_ite (fun c1514_ => ?_) (fun c1514_ => ?_)
        ·
          exact hc59 y1 y2 y4 y5 (show (((12 - y5) * 1) + 0).toNat ≤ n from by omega) (show 0 ≤ y1 from by omega) (show y1 ≤ 999 from by omega) (show 0 ≤ y4 from by omega) (show y4 ≤ 9 from by omega) (show 0 ≤ y5 from by omega) (show y5 ≤ 11 from by omega) (by first | rfl | assumption) (by first | rfl | assumption) (by first | exact hhy | exact hq0_1) (show 0 ≤ y5 from by omega) (show y5 < a0 107 (y4.toNat) from by omega) hco (by rw [← hy1]; assumption) (show 1 ≤ a0 105 5 from by omega)
        ·
          exact hc84 y1 y2 y4 y5 (show (((12 - y5) * 1) + 0).toNat ≤ n from by omega) (show 0 ≤ y4 from by omega) (show y4 ≤ 9 from by omega) (show 0 ≤ y5 from by omega) (show y5 ≤ 11 from by omega) (by first | rfl | assumption) (by first | rfl | assumption) (by first | exact hhy | exact hq0_1) (show 0 ≤ y5 from by omega) (show y5 < a0 107 (y4.toNat) from by omega) (by rw [← hco]; rw [← hhy]; refine (CO_on (by omega) ?_).symm; first | (left; rw [← hy1]; assumption) | (right; rw [← hy2]; assumption)) (show 1 ≤ a0 105 5 from by omega)
      ·
        exact jt_rI ⟨rfl, rfl, (show (a0 105 5 = 0 → (-1) = 0 - 1) from by omega), (by first | exact absurd (by omega : False) id | (rw [← hhy, if_neg (by omega)]; have h := hco; rw [← hhy] at h; rw [← h]; first | (rw [CO_end (by omega)]) | exact (CO_hit (z := fun c => a0 108 (y4.toNat * 12 + c)) (g := fun c => a0 119 (y4.toNat * 12 + c)) (k := fun c => a0 130 (y4.toNat * 12 + c)) (c := y5.toNat) (by omega) hz (by show x2 ≤ a0 119 (y4.toNat * 12 + y5.toNat); omega)).symm))⟩
    ·
      exact jt_rI ⟨rfl, rfl, (show (a0 105 5 = 0 → (-1) = 0 - 1) from by omega), (by first | exact absurd (by omega : False) id | (rw [← hhy, if_neg (by omega)]; have h := hco; rw [← hhy] at h; rw [← h]; first | (rw [CO_end (by omega)]) | exact (CO_hit (z := fun c => a0 108 (y4.toNat * 12 + c)) (g := fun c => a0 119 (y4.toNat * 12 + c)) (k := fun c => a0 130 (y4.toNat * 12 + c)) (c := y5.toNat) (by omega) hz (by show x2 ≤ a0 119 (y4.toNat * 12 + y5.toNat); omega)).symm))⟩
  exact ⟨hc84, hc59, hc26⟩
theorem sp_X9_coinsFor (E : jxE) (d : Nat) (hd : Nat.ble 2 d = true) (x1 x2 x3 : Int) (a0 b0 : Nat → Nat → Int) (hv0 : iv a0) : jt (jxC E d 138 [.inr (.inr (.inl 105)), .inl x1, .inl x2, .inl x3] (jxSH, a0, b0)) (jQ_X9_coinsFor x1 x2 x3 a0 b0) := by
  obtain ⟨d, rfl⟩ := jd_succ hd
  refine jt_eq (bq_X9_coinsFor E d x1 x2 x3 a0 b0) ?_
  refine jt_bI (sp_X9_holdingOn E d (jd_le hd rfl) x3 a0 b0 hv0) (fun r1515_ a1515_ b1515_ h1515_ => ?_)
  obtain ⟨rfl, rfl, hq1515_0, hq1515_1⟩ := h1515_
  have h1516_ := iv_get hv0 (k := 105) (j := 5) (l := 0) (u := 10) rfl
  refine jt_ite (fun c1517_ => ?_) (fun c1517_ => ?_)
  ·
    exact jt_rI ⟨rfl, rfl, (show (a0 105 5 = 0 → (-1) = 0 - 1) from by omega), (by first | (rw [← hq1515_1, if_pos (by omega)]) | exact absurd (by have q := HO_bd (a0 106) x3 (a0 105 5).toNat; rw [← hq1515_1] at q; omega : False) id)⟩
  ·
    refine jt_ite (fun c1518_ => ?_) (fun c1518_ => ?_)
    ·
      exact (cp_X9_coinsFor_26 E d hd x1 x2 x3 a0 b0 hv0 _).2.2 x1 x2 r1515_ 0 (Nat.le_refl _) (show 0 ≤ r1515_ from by omega) (show r1515_ ≤ 9 from by omega) (show 0 ≤ 0 from by omega) (show 0 ≤ 12 from by omega) (by first | rfl | assumption) (by first | rfl | assumption) (by first | exact hhy | exact hq1515_1) (show 0 ≤ 0 from by omega) (by first | rfl | (rw [show (jxw (y5 + 1)).toNat = y5.toNat + 1 from by omega]; exact hco)) (show 1 ≤ a0 105 5 from by omega)
    ·
      exact jt_rI ⟨rfl, rfl, (show (a0 105 5 = 0 → (-1) = 0 - 1) from by omega), (by first | (rw [← hq1515_1, if_pos (by omega)]) | exact absurd (by have q := HO_bd (a0 106) x3 (a0 105 5).toNat; rw [← hq1515_1] at q; omega : False) id)⟩
def jW_X11_pay : List (Nat × Nat) := [(143, 9999), (144, 9999)]
abbrev jQ_X11_pay (x1 x2 : Int) (a0 b0 : Nat → Nat → Int) : List jxV → (Nat → Nat → Int) → (Nat → Nat → Int) → Prop := rI (fun r a b => (iv a) ∧ (jfr jW_X11_pay a0 a) ∧ ((a0 58 8 = 0 → r = 0 - 1)))
theorem cp_X11_pay_78 (E : jxE) (d : Nat) (hd : Nat.ble 6 (d + 1) = true) (x1 x2 : Int) (a0 b0 : Nat → Nat → Int) (hv0 : iv a0) : ∀ (y5 : Int) (a b : Nat → Nat → Int), iv a → jfr jW_X11_pay a0 a → 1 ≤ a0 58 8 → jt (jxX E d 194 78 [some (.inr (.inr (.inl 0))), none, none, none, none, some (.inl y5), none] [] (jxSH, a, b)) (jQ_X11_pay x1 x2 a0 b0) := by
  intro y5 a b hv hf hi0
  refine jt_eq (bq_X11_pay_78 E d y5 a b) ?_
  have h1519_ := iv_get hv0 (k := 58) (j := 8) (l := 0) (u := 300) rfl
  refine jt_ite (fun c1520_ => ?_) (fun c1520_ => ?_)
  ·
    exact jt_rI ⟨hv, hf, (show (a0 58 8 = 0 → (-2) = 0 - 1) from by omega)⟩
  ·
    refine jt_bI (sp_X1_payAtLeast E d (jd_le hd rfl) y5 a b hv) (fun r1521_ a1521_ b1521_ h1521_ => ?_)
    obtain ⟨hv1521_, hf1521_⟩ := h1521_
    refine jt_ite (fun c1522_ => ?_) (fun c1522_ => ?_)
    ·
      have hf1523_ : jfr jW_X11_pay a0 a1521_ := jfr_tr hf hf1521_ rfl
      exact jt_rI ⟨hv1521_, hf1523_, (show (a0 58 8 = 0 → (-3) = 0 - 1) from by omega)⟩
    ·
      have hf1524_ : jfr jW_X11_pay a0 a1521_ := jfr_tr hf hf1521_ rfl
      exact jt_rI ⟨hv1521_, hf1524_, (show (a0 58 8 = 0 → r1521_ = 0 - 1) from by omega)⟩
theorem cp_X11_pay_40 (E : jxE) (d : Nat) (hd : Nat.ble 6 (d + 1) = true) (x1 x2 : Int) (a0 b0 : Nat → Nat → Int) (hv0 : iv a0) : ∀ (y1 y2 y3 : Int) (a b : Nat → Nat → Int), iv a → jfr jW_X11_pay a0 a → 0 ≤ y1 → y1 ≤ 299 → 1 ≤ y2 → y2 ≤ 500 → 1 ≤ a0 58 8 → jt (jxX E d 194 40 [some (.inr (.inr (.inl 0))), some (.inl y1), some (.inl y2), some (.inl y3), none, none, none] [] (jxSH, a, b)) (jQ_X11_pay x1 x2 a0 b0) := by
  intro y1 y2 y3 a b hv hf hi0 hi1 hi2 hi3 hi4
  refine jt_eq (bq_X11_pay_40 E d y1 y2 y3 a b) ?_
  have h1525_ := iv_get hv0 (k := 58) (j := 8) (l := 0) (u := 300) rfl
  refine jt_eI (eq_X0_toOf E d (jd_le hd rfl) y1 a b) ?_
  refine jt_eI (eq_X3_landOf E d (jd_le hd rfl) (f_X0_toOf a b y1) a b) ?_
  refine jt_eI (eq_X11_zone E d (jd_le hd rfl) y3 (f_X3_landOf a b (f_X0_toOf a b y1)) a b) ?_
  refine jt_bI (sp_X9_coinsFor E d (jd_le hd rfl) (f_X11_zone a b y3 (f_X3_landOf a b (f_X0_toOf a b y1))) y2 (a 0 0) a b hv) (fun r1526_ a1526_ b1526_ h1526_ => ?_)
  obtain ⟨rfl, rfl, hq1526_0, hq1526_1⟩ := h1526_
  have h1527_ := iv_get hv (k := 105) (j := 5) (l := 0) (u := 10) rfl
  have h1528_ : a 105 5 = a0 105 5 := hf 105 5 rfl
  have h1529_ := iv_get hv0 (k := 105) (j := 5) (l := 0) (u := 10) rfl
  exact cp_X11_pay_78 E d hd x1 x2 a0 b0 hv0 r1526_ a b hv hf (show 1 ≤ a0 58 8 from by omega)
theorem sp_X11_pay (E : jxE) (d : Nat) (hd : Nat.ble 6 d = true) (x1 x2 : Int) (a0 b0 : Nat → Nat → Int) (hv0 : iv a0) : jt (jxC E d 194 [.inr (.inr (.inl 0)), .inl x1, .inl x2] (jxSH, a0, b0)) (jQ_X11_pay x1 x2 a0 b0) := by
  obtain ⟨d, rfl⟩ := jd_succ hd
  refine jt_eq (bq_X11_pay E d x1 x2 a0 b0) ?_
  refine jt_eI (eq_X0_has E d (jd_le hd rfl) x1 a0 b0) ?_
  have h1530_ := f_X0_has_eq a0 b0 x1
  have h1531_ := iv_get hv0 (k := 58) (j := 8) (l := 0) (u := 300) rfl
  refine jt_ite (fun c1532_ => ?_) (fun c1532_ => ?_)
  ·
    exact jt_rI ⟨hv0, (jfr_rf _ _), (show (a0 58 8 = 0 → (-1) = 0 - 1) from by omega)⟩
  ·
    refine jt_eI (eq_X11_within E d (jd_le hd rfl) x2 1 500 a0 b0) ?_
    have h1533_ := f_X11_within_eq a0 b0 x2 1 500
    refine jt_ite (fun c1534_ => ?_) (fun c1534_ => ?_)
    ·
      exact jt_rI ⟨hv0, (jfr_rf _ _), (show (a0 58 8 = 0 → (-1) = 0 - 1) from by omega)⟩
    ·
      refine jt_eI (eq_X0_fromOf E d (jd_le hd rfl) x1 a0 b0) ?_
      refine jt_eI (eq_X3_landOf E d (jd_le hd rfl) (f_X0_fromOf a0 b0 x1) a0 b0) ?_
      exact cp_X11_pay_40 E d hd x1 x2 a0 b0 hv0 x1 x2 (f_X3_landOf a0 b0 (f_X0_fromOf a0 b0 x1)) a0 b0 hv0 (jfr_rf _ _) (show 0 ≤ x1 from by omega) (show x1 ≤ 299 from by omega) (show 1 ≤ x2 from by omega) (show x2 ≤ 500 from by omega) (show 1 ≤ a0 58 8 from by omega)
abbrev jQ_X11_price (x1 x2 x3 x4 : Int) (a0 b0 : Nat → Nat → Int) : List jxV → (Nat → Nat → Int) → (Nat → Nat → Int) → Prop := rI (fun r a b => (a0 = a) ∧ (b0 = b) ∧ ((a0 105 5 = 0 → (((((((((0 ≤ x1 ∧ x1 ≤ 15) ∧ 0 ≤ x2) ∧ x2 ≤ 15) ∧ 1 ≤ x3) ∧ x3 ≤ 500) ∧ 0 ≤ x4) ∧ x4 ≤ 1999) ∧ r = 0 - 2) ∨ ((((((((x1 < 0 ∨ 15 < x1) ∨ x2 < 0) ∨ 15 < x2) ∨ x3 < 1) ∨ 500 < x3) ∨ x4 < 0) ∨ 1999 < x4) ∧ r = 0 - 1)))) ∧ (0 ≤ x1 ∧ x1 ≤ 15 ∧ 0 ≤ x2 ∧ x2 ≤ 15 ∧ 1 ≤ x3 ∧ x3 ≤ 500 ∧ 0 ≤ x4 ∧ x4 ≤ 1999 → r = PR1 a0 (ZN x1 x2 (a0 1 (16 * x1 + x2).toNat)) x3 x4) ∧ (((((((((x1 < 0 ∨ 15 < x1) ∨ x2 < 0) ∨ 15 < x2) ∨ x3 < 1) ∨ 500 < x3) ∨ x4 < 0) ∨ 1999 < x4) → r = 0 - 1)))
theorem cp_X11_price_33 (E : jxE) (d : Nat) (hd : Nat.ble 4 (d + 1) = true) (x1 x2 x3 x4 : Int) (a0 b0 : Nat → Nat → Int) (hv0 : iv a0) : (((((((x1 < 0 ∨ 15 < x1) ∨ x2 < 0) ∨ 15 < x2) ∨ x3 < 1) ∨ 500 < x3) ∨ x4 < 0) ∨ 1999 < x4) → jt (jxX E d 192 33 [none, none, none, none, none, none] [] (jxSH, a0, b0)) (jQ_X11_price x1 x2 x3 x4 a0 b0) := by
  intro hi0
  refine jt_eq (bq_X11_price_33 E d a0 b0) ?_
  have h1535_ := iv_get hv0 (k := 105) (j := 5) (l := 0) (u := 10) rfl
  exact jt_rI ⟨rfl, rfl, (show (a0 105 5 = 0 → (((((((((0 ≤ x1 ∧ x1 ≤ 15) ∧ 0 ≤ x2) ∧ x2 ≤ 15) ∧ 1 ≤ x3) ∧ x3 ≤ 500) ∧ 0 ≤ x4) ∧ x4 ≤ 1999) ∧ (-1) = 0 - 2) ∨ ((((((((x1 < 0 ∨ 15 < x1) ∨ x2 < 0) ∨ 15 < x2) ∨ x3 < 1) ∨ 500 < x3) ∨ x4 < 0) ∨ 1999 < x4) ∧ (-1) = 0 - 1))) from by omega), (fun h => absurd h (by omega)), (show ((((((((x1 < 0 ∨ 15 < x1) ∨ x2 < 0) ∨ 15 < x2) ∨ x3 < 1) ∨ 500 < x3) ∨ x4 < 0) ∨ 1999 < x4) → (-1) = 0 - 1) from by omega)⟩
theorem cp_X11_price_35 (E : jxE) (d : Nat) (hd : Nat.ble 4 (d + 1) = true) (x1 x2 x3 x4 : Int) (a0 b0 : Nat → Nat → Int) (hv0 : iv a0) : ∀ (y1 y2 y3 y4 : Int), 0 ≤ y1 → y1 ≤ 15 → 0 ≤ y2 → y2 ≤ 15 → 1 ≤ y3 → y3 ≤ 500 → 0 ≤ y4 → y4 ≤ 1999 → (((((((0 ≤ x1 ∧ x1 ≤ 15) ∧ 0 ≤ x2) ∧ x2 ≤ 15) ∧ 1 ≤ x3) ∧ x3 ≤ 500) ∧ 0 ≤ x4) ∧ x4 ≤ 1999) → (y1 = x1) → (y2 = x2) → (y3 = x3) → (y4 = x4) → jt (jxX E d 192 35 [some (.inr (.inr (.inl 0))), some (.inl y1), some (.inl y2), some (.inl y3), some (.inl y4), none] [] (jxSH, a0, b0)) (jQ_X11_price x1 x2 x3 x4 a0 b0) := by
  intro y1 y2 y3 y4 hi0 hi1 hi2 hi3 hi4 hi5 hi6 hi7 hi8 hy1 hy2 hy3 hy4
  refine jt_eq (bq_X11_price_35 E d y1 y2 y3 y4 a0 b0) ?_
  refine jt_eI (eq_X11_zone E d (jd_le hd rfl) y1 y2 a0 b0) ?_
  refine jt_bI (sp_X9_coinsFor E d (jd_le hd rfl) (f_X11_zone a0 b0 y1 y2) y3 y4 a0 b0 hv0) (fun r1536_ a1536_ b1536_ h1536_ => ?_)
  obtain ⟨rfl, rfl, hq1536_0, hq1536_1⟩ := h1536_
  have h1537_ := iv_get hv0 (k := 105) (j := 5) (l := 0) (u := 10) rfl
  refine jt_ite (fun c1538_ => ?_) (fun c1538_ => ?_)
  ·
    exact jt_rI ⟨rfl, rfl, (show (a0 105 5 = 0 → (((((((((0 ≤ x1 ∧ x1 ≤ 15) ∧ 0 ≤ x2) ∧ x2 ≤ 15) ∧ 1 ≤ x3) ∧ x3 ≤ 500) ∧ 0 ≤ x4) ∧ x4 ≤ 1999) ∧ (-2) = 0 - 2) ∨ ((((((((x1 < 0 ∨ 15 < x1) ∨ x2 < 0) ∨ 15 < x2) ∨ x3 < 1) ∨ 500 < x3) ∨ x4 < 0) ∨ 1999 < x4) ∧ (-2) = 0 - 1))) from by omega), (fun _ => by have e := hq1536_1; rw [zn11 a0 b0 y1 y2 (by omega) (by omega), hy1, hy2, hy3, hy4] at e; unfold PR1 PRC; by_cases h0 : HO (a0 106) x4 (a0 105 5).toNat < 0 <;> first | (rw [if_pos h0] at e; first | exact absurd e (by assumption) | (rw [if_pos h0])) | (rw [if_neg h0] at e ⊢; rw [← e]; first | (rw [if_pos (by assumption)]) | (rw [if_neg (by assumption)]))), (show ((((((((x1 < 0 ∨ 15 < x1) ∨ x2 < 0) ∨ 15 < x2) ∨ x3 < 1) ∨ 500 < x3) ∨ x4 < 0) ∨ 1999 < x4) → (-2) = 0 - 1) from by omega)⟩
  ·
    exact jt_rI ⟨rfl, rfl, (show (a0 105 5 = 0 → (((((((((0 ≤ x1 ∧ x1 ≤ 15) ∧ 0 ≤ x2) ∧ x2 ≤ 15) ∧ 1 ≤ x3) ∧ x3 ≤ 500) ∧ 0 ≤ x4) ∧ x4 ≤ 1999) ∧ r1536_ = 0 - 2) ∨ ((((((((x1 < 0 ∨ 15 < x1) ∨ x2 < 0) ∨ 15 < x2) ∨ x3 < 1) ∨ 500 < x3) ∨ x4 < 0) ∨ 1999 < x4) ∧ r1536_ = 0 - 1))) from by omega), (fun _ => by have e := hq1536_1; rw [zn11 a0 b0 y1 y2 (by omega) (by omega), hy1, hy2, hy3, hy4] at e; unfold PR1 PRC; by_cases h0 : HO (a0 106) x4 (a0 105 5).toNat < 0 <;> first | (rw [if_pos h0] at e; first | exact absurd e (by assumption) | (rw [if_pos h0])) | (rw [if_neg h0] at e ⊢; rw [← e]; first | (rw [if_pos (by assumption)]) | (rw [if_neg (by assumption)]))), (show ((((((((x1 < 0 ∨ 15 < x1) ∨ x2 < 0) ∨ 15 < x2) ∨ x3 < 1) ∨ 500 < x3) ∨ x4 < 0) ∨ 1999 < x4) → r1536_ = 0 - 1) from by omega)⟩
theorem sp_X11_price (E : jxE) (d : Nat) (hd : Nat.ble 4 d = true) (x1 x2 x3 x4 : Int) (a0 b0 : Nat → Nat → Int) (hv0 : iv a0) : jt (jxC E d 192 [.inr (.inr (.inl 0)), .inl x1, .inl x2, .inl x3, .inl x4] (jxSH, a0, b0)) (jQ_X11_price x1 x2 x3 x4 a0 b0) := by
  obtain ⟨d, rfl⟩ := jd_succ hd
  refine jt_eq (bq_X11_price E d x1 x2 x3 x4 a0 b0) ?_
  refine jt_eI (eq_X11_isLand E d (jd_le hd rfl) x1 a0 b0) ?_
  have h1539_ := f_X11_isLand_eq a0 b0 x1
  have h1540_ := f_X11_within_eq a0 b0 x1 0 15
  refine jt_ite (fun c1541_ => ?_) (fun c1541_ => ?_)
  ·
    exact cp_X11_price_33 E d hd x1 x2 x3 x4 a0 b0 hv0 (show (((((((x1 < 0 ∨ 15 < x1) ∨ x2 < 0) ∨ 15 < x2) ∨ x3 < 1) ∨ 500 < x3) ∨ x4 < 0) ∨ 1999 < x4) from by omega)
  ·
    refine jt_eI (eq_X11_isLand E d (jd_le hd rfl) x2 a0 b0) ?_
    have h1542_ := f_X11_isLand_eq a0 b0 x2
    have h1543_ := f_X11_within_eq a0 b0 x2 0 15
    refine jt_ite (fun c1544_ => ?_) (fun c1544_ => ?_)
    ·
      exact cp_X11_price_33 E d hd x1 x2 x3 x4 a0 b0 hv0 (show (((((((x1 < 0 ∨ 15 < x1) ∨ x2 < 0) ∨ 15 < x2) ∨ x3 < 1) ∨ 500 < x3) ∨ x4 < 0) ∨ 1999 < x4) from by omega)
    ·
      refine jt_eI (eq_X11_within E d (jd_le hd rfl) x3 1 500 a0 b0) ?_
      have h1545_ := f_X11_within_eq a0 b0 x3 1 500
      refine jt_ite (fun c1546_ => ?_) (fun c1546_ => ?_)
      ·
        exact cp_X11_price_33 E d hd x1 x2 x3 x4 a0 b0 hv0 (show (((((((x1 < 0 ∨ 15 < x1) ∨ x2 < 0) ∨ 15 < x2) ∨ x3 < 1) ∨ 500 < x3) ∨ x4 < 0) ∨ 1999 < x4) from by omega)
      ·
        refine jt_eI (eq_X11_isDay E d (jd_le hd rfl) x4 a0 b0) ?_
        have h1547_ := f_X11_isDay_eq a0 b0 x4
        have h1548_ := f_X11_within_eq a0 b0 x4 0 1999
        refine jt_ite (fun c1549_ => ?_) (fun c1549_ => ?_)
        ·
          exact cp_X11_price_33 E d hd x1 x2 x3 x4 a0 b0 hv0 (show (((((((x1 < 0 ∨ 15 < x1) ∨ x2 < 0) ∨ 15 < x2) ∨ x3 < 1) ∨ 500 < x3) ∨ x4 < 0) ∨ 1999 < x4) from by omega)
        ·
          exact cp_X11_price_35 E d hd x1 x2 x3 x4 a0 b0 hv0 x1 x2 x3 x4 (show 0 ≤ x1 from by omega) (show x1 ≤ 15 from by omega) (show 0 ≤ x2 from by omega) (show x2 ≤ 15 from by omega) (show 1 ≤ x3 from by omega) (show x3 ≤ 500 from by omega) (show 0 ≤ x4 from by omega) (show x4 ≤ 1999 from by omega) (show (((((((0 ≤ x1 ∧ x1 ≤ 15) ∧ 0 ≤ x2) ∧ x2 ≤ 15) ∧ 1 ≤ x3) ∧ x3 ≤ 500) ∧ 0 ≤ x4) ∧ x4 ≤ 1999) from by omega) (by first | rfl | assumption) (by first | rfl | assumption) (by first | rfl | assumption) (by first | rfl | assumption)
abbrev jQ_X9_lastGrams (x1 : Int) (a0 b0 : Nat → Nat → Int) : List jxV → (Nat → Nat → Int) → (Nat → Nat → Int) → Prop := rI (fun r a b => (a0 = a) ∧ (b0 = b) ∧ (r = LG (fun c => a0 108 ((a0 105 5).toNat * 12 + c)) (fun c => a0 119 ((a0 105 5).toNat * 12 + c)) x1 (a0 107 (a0 105 5).toNat).toNat))
theorem cp_X9_lastGrams_4 (E : jxE) (d : Nat) (hd : Nat.ble 1 (d + 1) = true) (x1 : Int) (a0 b0 : Nat → Nat → Int) (hv0 : iv a0) (hp0 : a0 105 5 ≤ 9) : ∀ n : Nat, (∀ (y1 y2 y3 : Int), (((12 - y3) * 1) + 0).toNat ≤ n → 0 ≤ y2 → y2 ≤ 999 → 0 ≤ y3 → y3 ≤ 11 → (y1 = x1) → y3 < a0 107 ((a0 105 5).toNat) → (y2 = LG (fun c => a0 108 ((a0 105 5).toNat * 12 + c)) (fun c => a0 119 ((a0 105 5).toNat * 12 + c)) x1 (y3.toNat + 1)) → jt (jxX E d 137 44 [some (.inr (.inr (.inl 105))), some (.inl y1), some (.inl y2), some (.inl y3)] [] (jxSH, a0, b0)) (jQ_X9_lastGrams x1 a0 b0)) ∧ (∀ (y1 y3 : Int), (((12 - y3) * 1) + 0).toNat ≤ n → 0 ≤ y1 → y1 ≤ 999 → 0 ≤ y3 → y3 ≤ 11 → (y1 = x1) → y3 < a0 107 ((a0 105 5).toNat) → (a0 108 ((a0 105 5).toNat * 12 + y3.toNat) = x1) → jt (jxX E d 137 32 [some (.inr (.inr (.inl 105))), some (.inl y1), none, some (.inl y3)] [] (jxSH, a0, b0)) (jQ_X9_lastGrams x1 a0 b0)) ∧ (∀ (y1 y2 y3 : Int), (((12 - y3) * 1) + 0).toNat ≤ n → 0 ≤ y2 → y2 ≤ 999 → 0 ≤ y3 → y3 ≤ 12 → (y1 = x1) → y3 ≤ a0 107 ((a0 105 5).toNat) → (y2 = LG (fun c => a0 108 ((a0 105 5).toNat * 12 + c)) (fun c => a0 119 ((a0 105 5).toNat * 12 + c)) x1 y3.toNat) → jt (jxX E d 137 4 [some (.inr (.inr (.inl 105))), some (.inl y1), some (.inl y2), some (.inl y3)] [] (jxSH, a0, b0)) (jQ_X9_lastGrams x1 a0 b0)) := by
  refine jx_ind fun n ih => ?_
  have ih44 : ∀ (y1 y2 y3 : Int), (((12 - y3) * 1) + 0).toNat < n → 0 ≤ y2 → y2 ≤ 999 → 0 ≤ y3 → y3 ≤ 11 → (y1 = x1) → y3 < a0 107 ((a0 105 5).toNat) → (y2 = LG (fun c => a0 108 ((a0 105 5).toNat * 12 + c)) (fun c => a0 119 ((a0 105 5).toNat * 12 + c)) x1 (y3.toNat + 1)) → jt (jxX E d 137 44 [some (.inr (.inr (.inl 105))), some (.inl y1), some (.inl y2), some (.inl y3)] [] (jxSH, a0, b0)) (jQ_X9_lastGrams x1 a0 b0) := fun y1 y2 y3 hlt i0 i1 i2 i3 i4 i5 i6 => (ih _ hlt).1 y1 y2 y3 (Nat.le_refl _) i0 i1 i2 i3 i4 i5 i6
  have ih32 : ∀ (y1 y3 : Int), (((12 - y3) * 1) + 0).toNat < n → 0 ≤ y1 → y1 ≤ 999 → 0 ≤ y3 → y3 ≤ 11 → (y1 = x1) → y3 < a0 107 ((a0 105 5).toNat) → (a0 108 ((a0 105 5).toNat * 12 + y3.toNat) = x1) → jt (jxX E d 137 32 [some (.inr (.inr (.inl 105))), some (.inl y1), none, some (.inl y3)] [] (jxSH, a0, b0)) (jQ_X9_lastGrams x1 a0 b0) := fun y1 y3 hlt i0 i1 i2 i3 i4 i5 i6 => (ih _ hlt).2.1 y1 y3 (Nat.le_refl _) i0 i1 i2 i3 i4 i5 i6
  have ih4 : ∀ (y1 y2 y3 : Int), (((12 - y3) * 1) + 0).toNat < n → 0 ≤ y2 → y2 ≤ 999 → 0 ≤ y3 → y3 ≤ 12 → (y1 = x1) → y3 ≤ a0 107 ((a0 105 5).toNat) → (y2 = LG (fun c => a0 108 ((a0 105 5).toNat * 12 + c)) (fun c => a0 119 ((a0 105 5).toNat * 12 + c)) x1 y3.toNat) → jt (jxX E d 137 4 [some (.inr (.inr (.inl 105))), some (.inl y1), some (.inl y2), some (.inl y3)] [] (jxSH, a0, b0)) (jQ_X9_lastGrams x1 a0 b0) := fun y1 y2 y3 hlt i0 i1 i2 i3 i4 i5 i6 => (ih _ hlt).2.2 y1 y2 y3 (Nat.le_refl _) i0 i1 i2 i3 i4 i5 i6
  have hc44 : ∀ (y1 y2 y3 : Int), (((12 - y3) * 1) + 0).toNat ≤ n → 0 ≤ y2 → y2 ≤ 999 → 0 ≤ y3 → y3 ≤ 11 → (y1 = x1) → y3 < a0 107 ((a0 105 5).toNat) → (y2 = LG (fun c => a0 108 ((a0 105 5).toNat * 12 + c)) (fun c => a0 119 ((a0 105 5).toNat * 12 + c)) x1 (y3.toNat + 1)) → jt (jxX E d 137 44 [some (.inr (.inr (.inl 105))), some (.inl y1), some (.inl y2), some (.inl y3)] [] (jxSH, a0, b0)) (jQ_X9_lastGrams x1 a0 b0) := by
    intro y1 y2 y3 hm hi0 hi1 hi2 hi3 hy1 hi5 hlg
    refine jt_eq (bq_X9_lastGrams_44 E d y1 y2 y3 a0 b0) ?_
    have h1550_ := iv_get hv0 (k := 105) (j := 5) (l := 0) (u := 10) rfl
    have h1551_ := iv_get hv0 (k := 107) (j := (a0 105 5).toNat) (l := 0) (u := 12) rfl
    have h1552_ : jxw (y3 + 1) = y3 + 1 := jxw_id (by omega) (by omega)
    exact ih4 y1 y2 (jxw (y3 + 1)) (show (((12 - (jxw (y3 + 1))) * 1) + 0).toNat < n from by omega) (show 0 ≤ y2 from by omega) (show y2 ≤ 999 from by omega) (show 0 ≤ jxw (y3 + 1) from by omega) (show jxw (y3 + 1) ≤ 12 from by omega) (by first | rfl | assumption) (show jxw (y3 + 1) ≤ a0 107 ((a0 105 5).toNat) from by omega) (by first | rfl | (rw [show (jxw (y3 + 1)).toNat = y3.toNat + 1 from by omega]; exact hlg))
  have hc32 : ∀ (y1 y3 : Int), (((12 - y3) * 1) + 0).toNat ≤ n → 0 ≤ y1 → y1 ≤ 999 → 0 ≤ y3 → y3 ≤ 11 → (y1 = x1) → y3 < a0 107 ((a0 105 5).toNat) → (a0 108 ((a0 105 5).toNat * 12 + y3.toNat) = x1) → jt (jxX E d 137 32 [some (.inr (.inr (.inl 105))), some (.inl y1), none, some (.inl y3)] [] (jxSH, a0, b0)) (jQ_X9_lastGrams x1 a0 b0) := by
    intro y1 y3 hm hi0 hi1 hi2 hi3 hy1 hi5 hz
    refine jt_eq (bq_X9_lastGrams_32 E d y1 y3 a0 b0) ?_
    have h1553_ := iv_get hv0 (k := 105) (j := 5) (l := 0) (u := 10) rfl
    have h1554_ := iv_get hv0 (k := 107) (j := (a0 105 5).toNat) (l := 0) (u := 12) rfl
    refine jt_grd (by omega) ?_
    refine jt_grd (by omega) ?_
    refine jt_grd (by omega) ?_
    have h1555_ := iv_get hv0 (k := 119) (j := ((a0 105 5).toNat) * 12 + (y3.toNat)) (l := 0) (u := 999) rfl
    exact hc44 y1 (a0 119 (((a0 105 5).toNat) * 12 + (y3.toNat))) y3 (show (((12 - y3) * 1) + 0).toNat ≤ n from by omega) (show 0 ≤ a0 119 (((a0 105 5).toNat) * 12 + (y3.toNat)) from by omega) (show a0 119 (((a0 105 5).toNat) * 12 + (y3.toNat)) ≤ 999 from by omega) (show 0 ≤ y3 from by omega) (show y3 ≤ 11 from by omega) (by first | rfl | assumption) (show y3 < a0 107 ((a0 105 5).toNat) from by omega) (by first | exact (LG_s1 (z := fun c => a0 108 ((a0 105 5).toNat * 12 + c)) (g := fun c => a0 119 ((a0 105 5).toNat * 12 + c)) (m := y3.toNat) hz).symm | (rw [LG_s2 (by rw [← hy1]; assumption)]; exact hlg))
  have hc4 : ∀ (y1 y2 y3 : Int), (((12 - y3) * 1) + 0).toNat ≤ n → 0 ≤ y2 → y2 ≤ 999 → 0 ≤ y3 → y3 ≤ 12 → (y1 = x1) → y3 ≤ a0 107 ((a0 105 5).toNat) → (y2 = LG (fun c => a0 108 ((a0 105 5).toNat * 12 + c)) (fun c => a0 119 ((a0 105 5).toNat * 12 + c)) x1 y3.toNat) → jt (jxX E d 137 4 [some (.inr (.inr (.inl 105))), some (.inl y1), some (.inl y2), some (.inl y3)] [] (jxSH, a0, b0)) (jQ_X9_lastGrams x1 a0 b0) := by
    intro y1 y2 y3 hm hi0 hi1 hi2 hi3 hy1 hi5 hlg
    refine jt_eq (bq_X9_lastGrams_4 E d y1 y2 y3 a0 b0) ?_
    have h1556_ := iv_get hv0 (k := 105) (j := 5) (l := 0) (u := 10) rfl
    have h1557_ := iv_get hv0 (k := 107) (j := (a0 105 5).toNat) (l := 0) (u := 12) rfl
    refine jt_grd (by omega) ?_
    refine jt_ite (fun c1558_ => ?_) (fun c1558_ => ?_)
    ·
      refine jt_grd (by omega) ?_
      refine jt_grd (by omega) ?_
      refine jt_grd (by omega) ?_
      have h1559_ := iv_get hv0 (k := 108) (j := ((a0 105 5).toNat) * 12 + (y3.toNat)) (l := 0) (u := 999) rfl
      refine jt_ite (fun c1560_ => ?_) (fun c1560_ => ?_)
      ·
        exact hc32 y1 y3 (show (((12 - y3) * 1) + 0).toNat ≤ n from by omega) (show 0 ≤ y1 from by omega) (show y1 ≤ 999 from by omega) (show 0 ≤ y3 from by omega) (show y3 ≤ 11 from by omega) (by first | rfl | assumption) (show y3 < a0 107 ((a0 105 5).toNat) from by omega) (by rw [← hy1]; assumption)
      ·
        exact hc44 y1 y2 y3 (show (((12 - y3) * 1) + 0).toNat ≤ n from by omega) (show 0 ≤ y2 from by omega) (show y2 ≤ 999 from by omega) (show 0 ≤ y3 from by omega) (show y3 ≤ 11 from by omega) (by first | rfl | assumption) (show y3 < a0 107 ((a0 105 5).toNat) from by omega) (by first | exact (LG_s1 (z := fun c => a0 108 ((a0 105 5).toNat * 12 + c)) (g := fun c => a0 119 ((a0 105 5).toNat * 12 + c)) (m := y3.toNat) hz).symm | (rw [LG_s2 (by rw [← hy1]; assumption)]; exact hlg))
    ·
      exact jt_rI ⟨rfl, rfl, (by rw [show (a0 107 (a0 105 5).toNat).toNat = y3.toNat from by omega]; exact hlg)⟩
  exact ⟨hc44, hc32, hc4⟩
theorem sp_X9_lastGrams (E : jxE) (d : Nat) (hd : Nat.ble 1 d = true) (x1 : Int) (a0 b0 : Nat → Nat → Int) (hv0 : iv a0) (hp0 : a0 105 5 ≤ 9) : jt (jxC E d 137 [.inr (.inr (.inl 105)), .inl x1] (jxSH, a0, b0)) (jQ_X9_lastGrams x1 a0 b0) := by
  obtain ⟨d, rfl⟩ := jd_succ hd
  refine jt_eq (bq_X9_lastGrams E d x1 a0 b0) ?_
  have h1561_ := iv_get hv0 (k := 105) (j := 5) (l := 0) (u := 10) rfl
  have h1562_ := iv_get hv0 (k := 107) (j := (a0 105 5).toNat) (l := 0) (u := 12) rfl
  exact (cp_X9_lastGrams_4 E d hd x1 a0 b0 hv0 hp0 _).2.2 x1 0 0 (Nat.le_refl _) (show 0 ≤ 0 from by omega) (show 0 ≤ 999 from by omega) (show 0 ≤ 0 from by omega) (show 0 ≤ 12 from by omega) (by first | rfl | assumption) (show 0 ≤ a0 107 ((a0 105 5).toNat) from by omega) (by first | rfl | (rw [show (jxw (y3 + 1)).toNat = y3.toNat + 1 from by omega]; exact hlg))
def jW_X9_readClause_r2 : List (Nat × Nat) := [(2, 2), (2, 3), (107, 9999), (108, 9999), (119, 9999), (130, 9999)]
abbrev jQ_X9_readClause_r2 (a0 b0 : Nat → Nat → Int) : List jxV → (Nat → Nat → Int) → (Nat → Nat → Int) → Prop := rV (fun a b => (iv a) ∧ (jfr jW_X9_readClause_r2 a0 a) ∧ (b0 = b) ∧ ((((a0 2 1 = 0 ∧ a0 2 2 = 0) ∧ a0 2 3 = 0) → (a 2 3 = 1 ∧ a 2 2 = 0))) ∧ (a 2 3 = CF (a0 3) (a0 2 1).toNat (a0 2 2).toNat (a0 107 (a0 105 5).toNat) (LSa a0)) ∧ ((RCU a0 a (a0 105 5).toNat ((a0 105 5).toNat * 12 + (a0 107 (a0 105 5).toNat).toNat) (NV (a0 3) (a0 2 1).toNat (C1 (a0 3) (a0 2 1).toNat (a0 2 2).toNat)) (NV (a0 3) (a0 2 1).toNat (C2 (a0 3) (a0 2 1).toNat (a0 2 2).toNat)) (NV (a0 3) (a0 2 1).toNat (C3 (a0 3) (a0 2 1).toNat (a0 2 2).toNat)) ((a0 107 (a0 105 5).toNat) + 1)) ∨ (RCS a0 a ∧ ¬ CF (a0 3) (a0 2 1).toNat (a0 2 2).toNat (a0 107 (a0 105 5).toNat) (LSa a0) = 0)) ∧ (CF (a0 3) (a0 2 1).toNat (a0 2 2).toNat (a0 107 (a0 105 5).toNat) (LSa a0) = 0 → a 2 2 = ((C4 (a0 3) (a0 2 1).toNat (a0 2 2).toNat) : Int)))
theorem cp_X9_readClause_r2_35 (E : jxE) (d : Nat) (hd : Nat.ble 6 (d + 1) = true) (a0 b0 : Nat → Nat → Int) (hv0 : iv a0) (hp0 : a0 105 5 ≤ 9) (hp1 : a0 2 3 = 0) : ∀ (y2 : Int) (a : Nat → Nat → Int), iv a → jfr jW_X9_readClause_r2 a0 a → 0 ≤ y2 → y2 ≤ 200 → a 105 5 ≤ 9 → (TW (a0 3) (a0 2 1).toNat (a0 2 2).toNat 15) → (12 ≤ (a0 107 (a0 105 5).toNat)) → (y2 = a0 2 2) → a 2 3 = 0 → (∀ j, a 108 j = a0 108 j) → (∀ j, a 119 j = a0 119 j) → (∀ j, a 130 j = a0 130 j) → (∀ j, a 107 j = a0 107 j) → 1 ≤ a0 2 1 → jt (jxX E d 136 35 [none, some (.inr (.inr (.inl 2))), some (.inl y2), none, none] [] (jxSH, a, b0)) (jQ_X9_readClause_r2 a0 b0) := by
  intro y2 a hv hf hi0 hi1 hi2 htw h12 hy2 hi6 hs108 hs119 hs130 hs107 hi11
  refine jt_eq (bq_X9_readClause_r2_35 E d y2 a b0) ?_
  have h1563_ := iv_get hv (k := 105) (j := 5) (l := 0) (u := 10) rfl
  have h1564_ : a 105 5 = a0 105 5 := hf 105 5 rfl
  have h1565_ := iv_get hv0 (k := 105) (j := 5) (l := 0) (u := 10) rfl
  have h1566_ := iv_get hv0 (k := 2) (j := 1) (l := 0) (u := 200) rfl
  have h3 : a 3 = a0 3 := funext fun j => hf 3 j rfl
  have h21 := hf 2 1 rfl
  refine jt_bV (sp_X8_noteFault E d (jd_le hd rfl) y2 2 a b0 hv) (fun a1567_ b1567_ h1567_ => ?_)
  obtain ⟨hv1567_, hf1567_, rfl, hq1567_0, hq1567_1⟩ := h1567_
  have hf1568_ : jfr jW_X9_readClause_r2 a0 a1567_ := jfr_tr hf hf1567_ rfl
  have h1569_ := iv_get hv0 (k := 2) (j := 2) (l := 0) (u := 200) rfl
  have h1570_ := iv_get hv1567_ (k := 2) (j := 2) (l := 0) (u := 200) rfl
  have h1571_ : a1567_ 2 2 = a 2 2 := hf1567_ 2 2 rfl
  have h1572_ := iv_get hv (k := 2) (j := 2) (l := 0) (u := 200) rfl
  exact jt_rV ⟨hv1567_, hf1568_, rfl, (show (((a0 2 1 = 0 ∧ a0 2 2 = 0) ∧ a0 2 3 = 0) → (a1567_ 2 3 = 1 ∧ a1567_ 2 2 = 0)) from by omega), (by rw [CF_12 htw h12]; omega), (Or.inr ⟨fun j => ⟨((hf1567_ 108 j rfl)).trans (hs108 j), ((hf1567_ 119 j rfl)).trans (hs119 j), ((hf1567_ 130 j rfl)).trans (hs130 j), ((hf1567_ 107 j rfl)).trans (hs107 j)⟩, (by rw [CF_12 htw h12]; omega)⟩), (fun h => absurd h (by rw [CF_12 htw h12]; omega))⟩
theorem cp_X9_readClause_r2_152 (E : jxE) (d : Nat) (hd : Nat.ble 6 (d + 1) = true) (a0 b0 : Nat → Nat → Int) (hv0 : iv a0) (hp0 : a0 105 5 ≤ 9) (hp1 : a0 2 3 = 0) : ∀ (a : Nat → Nat → Int), iv a → jfr jW_X9_readClause_r2 a0 a → a 105 5 ≤ 9 → (a 2 3 = CF (a0 3) (a0 2 1).toNat (a0 2 2).toNat (a0 107 (a0 105 5).toNat) (LSa a0)) → (a 2 2 = ((C4 (a0 3) (a0 2 1).toNat (a0 2 2).toNat) : Int)) → (RCU a0 a (a0 105 5).toNat ((a0 105 5).toNat * 12 + (a0 107 (a0 105 5).toNat).toNat) (NV (a0 3) (a0 2 1).toNat (C1 (a0 3) (a0 2 1).toNat (a0 2 2).toNat)) (NV (a0 3) (a0 2 1).toNat (C2 (a0 3) (a0 2 1).toNat (a0 2 2).toNat)) (NV (a0 3) (a0 2 1).toNat (C3 (a0 3) (a0 2 1).toNat (a0 2 2).toNat)) ((a0 107 (a0 105 5).toNat) + 1)) → 1 ≤ a0 2 1 → jt (jxX E d 136 152 [none, none, none, none, none] [] (jxSH, a, b0)) (jQ_X9_readClause_r2 a0 b0) := by
  intro a hv hf hi0 hcf hat hru hi4
  refine jt_eq (bq_X9_readClause_r2_152 E d a b0) ?_
  have h1573_ := iv_get hv (k := 105) (j := 5) (l := 0) (u := 10) rfl
  have h1574_ : a 105 5 = a0 105 5 := hf 105 5 rfl
  have h1575_ := iv_get hv0 (k := 105) (j := 5) (l := 0) (u := 10) rfl
  have h1576_ := iv_get hv0 (k := 2) (j := 1) (l := 0) (u := 200) rfl
  have h3 : a 3 = a0 3 := funext fun j => hf 3 j rfl
  have h21 := hf 2 1 rfl
  have h1577_ := iv_get hv0 (k := 2) (j := 2) (l := 0) (u := 200) rfl
  have h1578_ := iv_get hv (k := 2) (j := 2) (l := 0) (u := 200) rfl
  exact jt_rV ⟨hv, hf, rfl, (show (((a0 2 1 = 0 ∧ a0 2 2 = 0) ∧ a0 2 3 = 0) → (a 2 3 = 1 ∧ a 2 2 = 0)) from by omega), hcf, (Or.inl hru), (fun _ => hat)⟩
theorem cp_X9_readClause_r2_120 (E : jxE) (d : Nat) (hd : Nat.ble 6 (d + 1) = true) (a0 b0 : Nat → Nat → Int) (hv0 : iv a0) (hp0 : a0 105 5 ≤ 9) (hp1 : a0 2 3 = 0) : ∀ (y3 : Int) (a : Nat → Nat → Int), iv a → jfr jW_X9_readClause_r2 a0 a → 0 ≤ y3 → y3 ≤ 11 → a 105 5 ≤ 9 → (TW (a0 3) (a0 2 1).toNat (a0 2 2).toNat 15) → (y3 = (a0 107 (a0 105 5).toNat)) → y3 ≤ 11 → (UP (a0 108) (a 108) ((a0 105 5).toNat * 12 + (a0 107 (a0 105 5).toNat).toNat) (NV (a0 3) (a0 2 1).toNat (C1 (a0 3) (a0 2 1).toNat (a0 2 2).toNat))) → (UP (a0 119) (a 119) ((a0 105 5).toNat * 12 + (a0 107 (a0 105 5).toNat).toNat) (NV (a0 3) (a0 2 1).toNat (C2 (a0 3) (a0 2 1).toNat (a0 2 2).toNat))) → (∀ j, a 130 j = a0 130 j) → (∀ j, a 107 j = a0 107 j) → (a 2 2 = ((C3 (a0 3) (a0 2 1).toNat (a0 2 2).toNat) : Int)) → (a 2 3 = (if ¬ NF (a0 3) (a0 2 1).toNat (C1 (a0 3) (a0 2 1).toNat (a0 2 2).toNat) 0 3 = 0 then NF (a0 3) (a0 2 1).toNat (C1 (a0 3) (a0 2 1).toNat (a0 2 2).toNat) 0 3 else NF (a0 3) (a0 2 1).toNat (C2 (a0 3) (a0 2 1).toNat (a0 2 2).toNat) (LSa a0 + 1) 500)) → y3 = a 107 ((a0 105 5).toNat) → 1 ≤ a0 2 1 → jt (jxX E d 136 120 [some (.inr (.inr (.inl 105))), some (.inr (.inr (.inl 2))), none, some (.inl y3), none] [] (jxSH, a, b0)) (jQ_X9_readClause_r2 a0 b0) := by
  intro y3 a hv hf hi0 hi1 hi2 htw hy3 hi5 hu108 hu119 hs130 hs107 hat hft2 hi12 hi13
  refine jt_eq (bq_X9_readClause_r2_120 E d y3 a b0) ?_
  have h1579_ := iv_get hv (k := 105) (j := 5) (l := 0) (u := 10) rfl
  have h1580_ : a 105 5 = a0 105 5 := hf 105 5 rfl
  have h1581_ := iv_get hv0 (k := 105) (j := 5) (l := 0) (u := 10) rfl
  have h1582_ := iv_get hv (k := 107) (j := (a0 105 5).toNat) (l := 0) (u := 12) rfl
  have h1583_ := iv_get hv0 (k := 2) (j := 1) (l := 0) (u := 200) rfl
  have h3 : a 3 = a0 3 := funext fun j => hf 3 j rfl
  have h21 := hf 2 1 rfl
  have hP : (a 2 2).toNat = (C3 (a0 3) (a0 2 1).toNat (a0 2 2).toNat) := by rw [hat]; exact Int.toNat_natCast _
  have hi : (a 105 5).toNat * 12 + y3.toNat = ((a0 105 5).toNat * 12 + (a0 107 (a0 105 5).toNat).toNat) := by rw [hf 105 5 rfl, hy3]
  refine jt_grd (by omega) ?_
  refine jt_bI (sp_X8_takeNumber E d (jd_le hd rfl) 1 900 a b0 hv) (fun r1584_ a1584_ b1584_ h1584_ => ?_)
  obtain ⟨hv1584_, hf1584_, rfl, hq1584_0, hq1584_1, hq1584_2, hq1584_3⟩ := h1584_
  refine jt_grd (by omega) ?_
  refine jt_grd (by omega) ?_
  have h1585_ := iv_get hv1584_ (k := 105) (j := 5) (l := 0) (u := 10) rfl
  have h1586_ : a1584_ 105 5 = a 105 5 := hf1584_ 105 5 rfl
  refine jt_grd (by omega) ?_
  refine jt_grd (by omega) ?_
  have hv1587_ : iv (jxu a1584_ 130 (((a 105 5).toNat) * 12 + (y3.toNat)) r1584_) := iv_put hv1584_ (l := 0) (u := 999) rfl (by omega) (by omega)
  have h1589_ : a1584_ 107 ((a1584_ 105 5).toNat) = a1584_ 107 ((a0 105 5).toNat) := by rw [show a1584_ 105 5 = a0 105 5 from by omega]
  have h1590_ := iv_get hv1584_ (k := 107) (j := (a0 105 5).toNat) (l := 0) (u := 12) rfl
  have h1591_ : a1584_ 107 ((a0 105 5).toNat) = a 107 ((a0 105 5).toNat) := hf1584_ 107 ((a0 105 5).toNat) rfl
  have h1592_ := iv_get hv1584_ (k := 107) (j := (a1584_ 105 5).toNat) (l := 0) (u := 12) rfl
  have h1593_ : a1584_ 107 ((a1584_ 105 5).toNat) = a 107 ((a1584_ 105 5).toNat) := hf1584_ 107 ((a1584_ 105 5).toNat) rfl
  have h1594_ : a 107 ((a1584_ 105 5).toNat) = a 107 ((a0 105 5).toNat) := by rw [show a1584_ 105 5 = a0 105 5 from by omega]
  have h1595_ := iv_get hv (k := 107) (j := (a1584_ 105 5).toNat) (l := 0) (u := 12) rfl
  have h1596_ : jxw ((a1584_ 107 ((a1584_ 105 5).toNat)) + 1) = (a1584_ 107 ((a1584_ 105 5).toNat)) + 1 := jxw_id (by omega) (by omega)
  have hv1588_ : iv (jxu (jxu a1584_ 130 (((a 105 5).toNat) * 12 + (y3.toNat)) r1584_) 107 ((a1584_ 105 5).toNat) (jxw ((a1584_ 107 ((a1584_ 105 5).toNat)) + 1))) := iv_put hv1587_ (l := 0) (u := 12) rfl (by omega) (by omega)
  have hf1597_ : jfr jW_X9_readClause_r2 a0 a1584_ := jfr_tr hf hf1584_ rfl
  have hf1598_ : jfr jW_X9_readClause_r2 a0 (jxu a1584_ 130 (((a 105 5).toNat) * 12 + (y3.toNat)) r1584_) := jfr_put hf1597_ rfl
  have hf1599_ : jfr jW_X9_readClause_r2 a0 (jxu (jxu a1584_ 130 (((a 105 5).toNat) * 12 + (y3.toNat)) r1584_) 107 ((a1584_ 105 5).toNat) (jxw ((a1584_ 107 ((a1584_ 105 5).toNat)) + 1))) := jfr_put hf1598_ rfl
  exact cp_X9_readClause_r2_152 E d hd a0 b0 hv0 hp0 hp1 (jxu (jxu a1584_ 130 (((a 105 5).toNat) * 12 + (y3.toNat)) r1584_) 107 ((a1584_ 105 5).toNat) (jxw ((a1584_ 107 ((a1584_ 105 5).toNat)) + 1))) hv1588_ hf1599_ (show a1584_ 105 5 ≤ 9 from by omega) (by have e0 := hq1584_0; have e1 := hq1584_1; have e2 := hq1584_2; rw [h3, h21, hP] at e0 e1 e2; rw [CF_go htw (by rw [← hy3]; omega), ← CF_split, ← hft2]; exact e2) (by have e0 := hq1584_0; have e1 := hq1584_1; have e2 := hq1584_2; rw [h3, h21, hP] at e0 e1 e2; exact e1) (by have e0 := hq1584_0; have e1 := hq1584_1; have e2 := hq1584_2; rw [h3, h21, hP] at e0 e1 e2; have hs7 : a1584_ 105 5 = a0 105 5 := (hf1584_ 105 5 rfl).trans (hf 105 5 rfl); refine ⟨UP_cr hu108 (fun j => hf1584_ 108 j rfl), UP_cr hu119 (fun j => hf1584_ 119 j rfl), ?_, ?_⟩ <;> first | (rw [← hi, ← e0]; exact UP_put (fun j => (hf1584_ 130 j rfl).trans (hs130 j))) | (rw [show (a0 107 (a0 105 5).toNat) + 1 = jxw ((a1584_ 107 ((a1584_ 105 5).toNat)) + 1) from (by rw [hs7, hf1584_ 107 _ rfl, hs107, ← hy3, jxw_id (by omega) (by omega)]), ← hs7]; exact UP_put (fun j => (hf1584_ 107 j rfl).trans (hs107 j)))) (show 1 ≤ a0 2 1 from by omega)
theorem cp_X9_readClause_r2_113 (E : jxE) (d : Nat) (hd : Nat.ble 6 (d + 1) = true) (a0 b0 : Nat → Nat → Int) (hv0 : iv a0) (hp0 : a0 105 5 ≤ 9) (hp1 : a0 2 3 = 0) : ∀ (y3 y4 : Int) (a : Nat → Nat → Int), iv a → jfr jW_X9_readClause_r2 a0 a → 0 ≤ y3 → y3 ≤ 11 → 0 ≤ y4 → y4 ≤ 200 → a 105 5 ≤ 9 → (TW (a0 3) (a0 2 1).toNat (a0 2 2).toNat 15) → (y3 = (a0 107 (a0 105 5).toNat)) → y3 ≤ 11 → (UP (a0 108) (a 108) ((a0 105 5).toNat * 12 + (a0 107 (a0 105 5).toNat).toNat) (NV (a0 3) (a0 2 1).toNat (C1 (a0 3) (a0 2 1).toNat (a0 2 2).toNat))) → (UP (a0 119) (a 119) ((a0 105 5).toNat * 12 + (a0 107 (a0 105 5).toNat).toNat) (NV (a0 3) (a0 2 1).toNat (C2 (a0 3) (a0 2 1).toNat (a0 2 2).toNat))) → (∀ j, a 130 j = a0 130 j) → (∀ j, a 107 j = a0 107 j) → (a 2 2 = ((C3 (a0 3) (a0 2 1).toNat (a0 2 2).toNat) : Int)) → (y4 = ((C2 (a0 3) (a0 2 1).toNat (a0 2 2).toNat) : Int)) → (a 2 3 = (if NF (a0 3) (a0 2 1).toNat (C1 (a0 3) (a0 2 1).toNat (a0 2 2).toNat) 0 3 = 0 then NF (a0 3) (a0 2 1).toNat (C2 (a0 3) (a0 2 1).toNat (a0 2 2).toNat) 1 500 else NF (a0 3) (a0 2 1).toNat (C1 (a0 3) (a0 2 1).toNat (a0 2 2).toNat) 0 3)) → (NV (a0 3) (a0 2 1).toNat (C2 (a0 3) (a0 2 1).toNat (a0 2 2).toNat) ≤ LSa a0) → y3 = a 107 ((a0 105 5).toNat) → 1 ≤ a0 2 1 → jt (jxX E d 136 113 [some (.inr (.inr (.inl 105))), some (.inr (.inr (.inl 2))), none, some (.inl y3), some (.inl y4)] [] (jxSH, a, b0)) (jQ_X9_readClause_r2 a0 b0) := by
  intro y3 y4 a hv hf hi0 hi1 hi2 hi3 hi4 htw hy3 hi7 hu108 hu119 hs130 hs107 hat hy4 hft hle hi16 hi17
  refine jt_eq (bq_X9_readClause_r2_113 E d y3 y4 a b0) ?_
  have h1600_ := iv_get hv (k := 105) (j := 5) (l := 0) (u := 10) rfl
  have h1601_ : a 105 5 = a0 105 5 := hf 105 5 rfl
  have h1602_ := iv_get hv0 (k := 105) (j := 5) (l := 0) (u := 10) rfl
  have h1603_ := iv_get hv (k := 107) (j := (a0 105 5).toNat) (l := 0) (u := 12) rfl
  have h1604_ := iv_get hv0 (k := 2) (j := 1) (l := 0) (u := 200) rfl
  have h3 : a 3 = a0 3 := funext fun j => hf 3 j rfl
  have h21 := hf 2 1 rfl
  refine jt_bV (sp_X8_noteFault E d (jd_le hd rfl) y4 1 a b0 hv) (fun a1605_ b1605_ h1605_ => ?_)
  obtain ⟨hv1605_, hf1605_, rfl, hq1605_0, hq1605_1⟩ := h1605_
  have hf1606_ : jfr jW_X9_readClause_r2 a0 a1605_ := jfr_tr hf hf1605_ rfl
  have h1607_ := iv_get hv1605_ (k := 105) (j := 5) (l := 0) (u := 10) rfl
  have h1608_ : a1605_ 105 5 = a 105 5 := hf1605_ 105 5 rfl
  have h1609_ := iv_get hv1605_ (k := 107) (j := (a0 105 5).toNat) (l := 0) (u := 12) rfl
  have h1610_ : a1605_ 107 ((a0 105 5).toNat) = a 107 ((a0 105 5).toNat) := hf1605_ 107 ((a0 105 5).toNat) rfl
  exact cp_X9_readClause_r2_120 E d hd a0 b0 hv0 hp0 hp1 y3 a1605_ hv1605_ hf1606_ (show 0 ≤ y3 from by omega) (show y3 ≤ 11 from by omega) (show a1605_ 105 5 ≤ 9 from by omega) (by first | exact htw | exact (hq1605_3 (by omega)).2.1) (by first | exact hy3 | (rw [hf1605_ 107 _ rfl, hf1605_ 105 5 rfl])) (show y3 ≤ 11 from by omega) (UP_cr hu108 (fun j => (hf1605_ 108 j rfl))) (UP_cr hu119 (fun j => (hf1605_ 119 j rfl))) (fun j => ((hf1605_ 130 j rfl)).trans (hs130 j)) (fun j => ((hf1605_ 107 j rfl)).trans (hs107 j)) (by rw [hf1605_ 2 2 rfl]; exact hat) (by have hb := LSa_bd hv0; have n1 := NF_pos (a0 3) (a0 2 1).toNat (C1 (a0 3) (a0 2 1).toNat (a0 2 2).toNat) 0 3; have n2 := NF_pos (a0 3) (a0 2 1).toNat (C2 (a0 3) (a0 2 1).toNat (a0 2 2).toNat) 1 500; rw [NF_two hb.1, if_pos hle]; have p0 := hq1605_0; have p1 := hq1605_1; rw [hft] at p0 p1; split at p0 <;> split <;> (try split) <;> omega) (show y3 = a1605_ 107 ((a0 105 5).toNat) from by omega) (show 1 ≤ a0 2 1 from by omega)
theorem cp_X9_readClause_r2_65 (E : jxE) (d : Nat) (hd : Nat.ble 6 (d + 1) = true) (a0 b0 : Nat → Nat → Int) (hv0 : iv a0) (hp0 : a0 105 5 ≤ 9) (hp1 : a0 2 3 = 0) : ∀ (y3 y4 : Int) (a : Nat → Nat → Int), iv a → jfr jW_X9_readClause_r2 a0 a → 0 ≤ y3 → y3 ≤ 11 → 0 ≤ y4 → y4 ≤ 200 → a 105 5 ≤ 9 → (TW (a0 3) (a0 2 1).toNat (a0 2 2).toNat 15) → (y3 = (a0 107 (a0 105 5).toNat)) → y3 ≤ 11 → (y4 = ((C2 (a0 3) (a0 2 1).toNat (a0 2 2).toNat) : Int)) → (a 2 2 = ((C2 (a0 3) (a0 2 1).toNat (a0 2 2).toNat) : Int)) → (UP (a0 108) (a 108) ((a0 105 5).toNat * 12 + (a0 107 (a0 105 5).toNat).toNat) (NV (a0 3) (a0 2 1).toNat (C1 (a0 3) (a0 2 1).toNat (a0 2 2).toNat))) → (a 2 3 = NF (a0 3) (a0 2 1).toNat (C1 (a0 3) (a0 2 1).toNat (a0 2 2).toNat) 0 3) → (∀ j, a 119 j = a0 119 j) → (∀ j, a 130 j = a0 130 j) → (∀ j, a 107 j = a0 107 j) → y3 = a 107 ((a0 105 5).toNat) → 1 ≤ a0 2 1 → jt (jxX E d 136 65 [some (.inr (.inr (.inl 105))), some (.inr (.inr (.inl 2))), none, some (.inl y3), some (.inl y4)] [] (jxSH, a, b0)) (jQ_X9_readClause_r2 a0 b0) := by
  intro y3 y4 a hv hf hi0 hi1 hi2 hi3 hi4 htw hy3 hi7 hy4 hat hu108 hft hs119 hs130 hs107 hi15 hi16
  refine jt_eq (bq_X9_readClause_r2_65 E d y3 y4 a b0) ?_
  have h1611_ := iv_get hv (k := 105) (j := 5) (l := 0) (u := 10) rfl
  have h1612_ : a 105 5 = a0 105 5 := hf 105 5 rfl
  have h1613_ := iv_get hv0 (k := 105) (j := 5) (l := 0) (u := 10) rfl
  have h1614_ := iv_get hv (k := 107) (j := (a0 105 5).toNat) (l := 0) (u := 12) rfl
  have h1615_ := iv_get hv0 (k := 2) (j := 1) (l := 0) (u := 200) rfl
  have h3 : a 3 = a0 3 := funext fun j => hf 3 j rfl
  have h21 := hf 2 1 rfl
  have hP : (a 2 2).toNat = (C2 (a0 3) (a0 2 1).toNat (a0 2 2).toNat) := by rw [hat]; exact Int.toNat_natCast _
  have hi : (a 105 5).toNat * 12 + y3.toNat = ((a0 105 5).toNat * 12 + (a0 107 (a0 105 5).toNat).toNat) := by rw [hf 105 5 rfl, hy3]
  refine jt_grd (by omega) ?_
  refine jt_bI (sp_X8_takeNumber E d (jd_le hd rfl) 1 500 a b0 hv) (fun r1616_ a1616_ b1616_ h1616_ => ?_)
  obtain ⟨hv1616_, hf1616_, rfl, hq1616_0, hq1616_1, hq1616_2, hq1616_3⟩ := h1616_
  refine jt_grd (by omega) ?_
  refine jt_grd (by omega) ?_
  have h1617_ := iv_get hv1616_ (k := 105) (j := 5) (l := 0) (u := 10) rfl
  have h1618_ : a1616_ 105 5 = a 105 5 := hf1616_ 105 5 rfl
  refine jt_grd (by omega) ?_
  refine jt_grd (by omega) ?_
  refine jt_grd (by omega) ?_
  refine jt_grd (by omega) ?_
  refine jt_grd (by omega) ?_
  refine jt_grd (by omega) ?_
  have hv1619_ : iv (jxu a1616_ 119 (((a 105 5).toNat) * 12 + (y3.toNat)) r1616_) := iv_put hv1616_ (l := 0) (u := 999) rfl (by omega) (by omega)
  refine jt_bI (sp_X9_lastGrams E d (jd_le hd rfl) (a1616_ 108 (((a1616_ 105 5).toNat) * 12 + (y3.toNat))) (jxu a1616_ 119 (((a 105 5).toNat) * 12 + (y3.toNat)) r1616_) b0 hv1619_ (show a1616_ 105 5 ≤ 9 from by omega)) (fun r1620_ a1620_ b1620_ h1620_ => ?_)
  obtain ⟨he1620_, rfl, hq1620_0⟩ := h1620_
  have hv1620_ : iv a1620_ := he1620_ ▸ hv1619_
  have hf1620_ : jfr [] (jxu a1616_ 119 (((a 105 5).toNat) * 12 + (y3.toNat)) r1616_) a1620_ := jfr_eq he1620_
  have h1621_ := iv_get hv1619_ (k := 119) (j := ((a1616_ 105 5).toNat) * 12 + (y3.toNat)) (l := 0) (u := 999) rfl
  have h1622_ := jxu_sp a1616_ 119 (((a 105 5).toNat) * 12 + (y3.toNat)) r1616_ (((a1616_ 105 5).toNat) * 12 + (y3.toNat))
  have h1623_ := iv_get hv1616_ (k := 119) (j := ((a1616_ 105 5).toNat) * 12 + (y3.toNat)) (l := 0) (u := 999) rfl
  have h1624_ : a1616_ 119 (((a1616_ 105 5).toNat) * 12 + (y3.toNat)) = a 119 (((a1616_ 105 5).toNat) * 12 + (y3.toNat)) := hf1616_ 119 (((a1616_ 105 5).toNat) * 12 + (y3.toNat)) rfl
  have h1625_ := iv_get hv (k := 119) (j := ((a1616_ 105 5).toNat) * 12 + (y3.toNat)) (l := 0) (u := 999) rfl
  refine jt_ite (fun c1626_ => ?_) (fun c1626_ => ?_)
  ·
    have hf1627_ : jfr jW_X9_readClause_r2 a0 a1616_ := jfr_tr hf hf1616_ rfl
    have hf1628_ : jfr jW_X9_readClause_r2 a0 (jxu a1616_ 119 (((a 105 5).toNat) * 12 + (y3.toNat)) r1616_) := jfr_put hf1627_ rfl
    have hf1629_ : jfr jW_X9_readClause_r2 a0 a1620_ := jfr_tr hf1628_ hf1620_ rfl
    have h1630_ := iv_get hv1620_ (k := 105) (j := 5) (l := 0) (u := 10) rfl
    have h1631_ : a1620_ 105 5 = a1616_ 105 5 := hf1620_ 105 5 rfl
    have h1632_ := iv_get hv1620_ (k := 107) (j := (a0 105 5).toNat) (l := 0) (u := 12) rfl
    have h1633_ : a1620_ 107 ((a0 105 5).toNat) = a1616_ 107 ((a0 105 5).toNat) := hf1620_ 107 ((a0 105 5).toNat) rfl
    have h1634_ := iv_get hv1616_ (k := 107) (j := (a0 105 5).toNat) (l := 0) (u := 12) rfl
    have h1635_ : a1616_ 107 ((a0 105 5).toNat) = a 107 ((a0 105 5).toNat) := hf1616_ 107 ((a0 105 5).toNat) rfl
    exact cp_X9_readClause_r2_120 E d hd a0 b0 hv0 hp0 hp1 y3 a1620_ hv1620_ hf1629_ (show 0 ≤ y3 from by omega) (show y3 ≤ 11 from by omega) (show a1620_ 105 5 ≤ 9 from by omega) (by first | exact htw | exact (hq1620_3 (by omega)).2.1) (by first | exact hy3 | (rw [hf1620_ 107 _ rfl, hf1620_ 105 5 rfl])) (show y3 ≤ 11 from by omega) (UP_cr hu108 (fun j => ((hf1620_ 108 j rfl).trans (hf1616_ 108 j rfl)))) (by have e0 := hq1616_0; have e1 := hq1616_1; have e2 := hq1616_2; rw [h3, h21, hP] at e0 e1 e2; rw [← hi, ← e0]; exact UP_cr (UP_put (fun j => (hf1616_ 119 j rfl).trans (hs119 j))) (fun j => hf1620_ 119 j rfl)) (fun j => (((hf1620_ 130 j rfl).trans (hf1616_ 130 j rfl))).trans (hs130 j)) (fun j => (((hf1620_ 107 j rfl).trans (hf1616_ 107 j rfl))).trans (hs107 j)) (by have e0 := hq1616_0; have e1 := hq1616_1; have e2 := hq1616_2; rw [h3, h21, hP] at e0 e1 e2; exact (hf1620_ 2 2 rfl).trans e1) (by have e0 := hq1616_0; have e1 := hq1616_1; have e2 := hq1616_2; rw [h3, h21, hP] at e0 e1 e2; have hl := hq1620_0; have hU8 : UP (a0 108) (a1616_ 108) ((a0 105 5).toNat * 12 + (a0 107 (a0 105 5).toNat).toNat) _ := UP_cr hu108 (fun j => hf1616_ 108 j rfl); have hU9 : UP (a0 119) (jxu a1616_ 119 ((a0 105 5).toNat * 12 + (a0 107 (a0 105 5).toNat).toNat) r1616_ 119) ((a0 105 5).toNat * 12 + (a0 107 (a0 105 5).toNat).toNat) r1616_ := UP_put (fun j => (hf1616_ 119 j rfl).trans (hs119 j)); have hlr : r1620_ = LSa a0 := (by rw [hl]; show LG (fun c => a1616_ 108 ((a1616_ 105 5).toNat * 12 + c)) (fun c => jxu a1616_ 119 ((a 105 5).toNat * 12 + y3.toNat) r1616_ 119 ((a1616_ 105 5).toNat * 12 + c)) (a1616_ 108 ((a1616_ 105 5).toNat * 12 + y3.toNat)) (a1616_ 107 (a1616_ 105 5).toNat).toNat = _; rw [hf1616_ 105 5 rfl, hi, hf1616_ 107 _ rfl, hs107, hf 105 5 rfl, LG_keep hU8 hU9, hU8 _, if_pos rfl]; rfl); have hb := LSa_bd hv0; rw [NF_two_ok hb.1 (by rw [← hlr, ← e0]; omega)]; rw [hft] at e2; rw [hf1620_ 2 3 rfl]; show a1616_ 2 3 = _; rw [e2]; split <;> (try split) <;> (try split) <;> first | rfl | omega) (show y3 = a1620_ 107 ((a0 105 5).toNat) from by omega) (show 1 ≤ a0 2 1 from by omega)
  ·
    have hf1636_ : jfr jW_X9_readClause_r2 a0 a1616_ := jfr_tr hf hf1616_ rfl
    have hf1637_ : jfr jW_X9_readClause_r2 a0 (jxu a1616_ 119 (((a 105 5).toNat) * 12 + (y3.toNat)) r1616_) := jfr_put hf1636_ rfl
    have hf1638_ : jfr jW_X9_readClause_r2 a0 a1620_ := jfr_tr hf1637_ hf1620_ rfl
    have h1639_ := iv_get hv1620_ (k := 105) (j := 5) (l := 0) (u := 10) rfl
    have h1640_ : a1620_ 105 5 = a1616_ 105 5 := hf1620_ 105 5 rfl
    have h1641_ := iv_get hv1620_ (k := 107) (j := (a0 105 5).toNat) (l := 0) (u := 12) rfl
    have h1642_ : a1620_ 107 ((a0 105 5).toNat) = a1616_ 107 ((a0 105 5).toNat) := hf1620_ 107 ((a0 105 5).toNat) rfl
    have h1643_ := iv_get hv1616_ (k := 107) (j := (a0 105 5).toNat) (l := 0) (u := 12) rfl
    have h1644_ : a1616_ 107 ((a0 105 5).toNat) = a 107 ((a0 105 5).toNat) := hf1616_ 107 ((a0 105 5).toNat) rfl
    exact cp_X9_readClause_r2_113 E d hd a0 b0 hv0 hp0 hp1 y3 y4 a1620_ hv1620_ hf1638_ (show 0 ≤ y3 from by omega) (show y3 ≤ 11 from by omega) (show 0 ≤ y4 from by omega) (show y4 ≤ 200 from by omega) (show a1620_ 105 5 ≤ 9 from by omega) (by first | exact htw | exact (hq1620_3 (by omega)).2.1) (by first | exact hy3 | (rw [hf1620_ 107 _ rfl, hf1620_ 105 5 rfl])) (show y3 ≤ 11 from by omega) (UP_cr hu108 (fun j => ((hf1620_ 108 j rfl).trans (hf1616_ 108 j rfl)))) (by have e0 := hq1616_0; have e1 := hq1616_1; have e2 := hq1616_2; rw [h3, h21, hP] at e0 e1 e2; rw [← hi, ← e0]; exact UP_cr (UP_put (fun j => (hf1616_ 119 j rfl).trans (hs119 j))) (fun j => hf1620_ 119 j rfl)) (fun j => (((hf1620_ 130 j rfl).trans (hf1616_ 130 j rfl))).trans (hs130 j)) (fun j => (((hf1620_ 107 j rfl).trans (hf1616_ 107 j rfl))).trans (hs107 j)) (by have e0 := hq1616_0; have e1 := hq1616_1; have e2 := hq1616_2; rw [h3, h21, hP] at e0 e1 e2; exact (hf1620_ 2 2 rfl).trans e1) hy4 (by have e0 := hq1616_0; have e1 := hq1616_1; have e2 := hq1616_2; rw [h3, h21, hP] at e0 e1 e2; rw [hft] at e2; exact (hf1620_ 2 3 rfl).trans e2) (by have e0 := hq1616_0; have e1 := hq1616_1; have e2 := hq1616_2; rw [h3, h21, hP] at e0 e1 e2; have hl := hq1620_0; have hU8 : UP (a0 108) (a1616_ 108) ((a0 105 5).toNat * 12 + (a0 107 (a0 105 5).toNat).toNat) _ := UP_cr hu108 (fun j => hf1616_ 108 j rfl); have hU9 : UP (a0 119) (jxu a1616_ 119 ((a0 105 5).toNat * 12 + (a0 107 (a0 105 5).toNat).toNat) r1616_ 119) ((a0 105 5).toNat * 12 + (a0 107 (a0 105 5).toNat).toNat) r1616_ := UP_put (fun j => (hf1616_ 119 j rfl).trans (hs119 j)); have hlr : r1620_ = LSa a0 := (by rw [hl]; show LG (fun c => a1616_ 108 ((a1616_ 105 5).toNat * 12 + c)) (fun c => jxu a1616_ 119 ((a 105 5).toNat * 12 + y3.toNat) r1616_ 119 ((a1616_ 105 5).toNat * 12 + c)) (a1616_ 108 ((a1616_ 105 5).toNat * 12 + y3.toNat)) (a1616_ 107 (a1616_ 105 5).toNat).toNat = _; rw [hf1616_ 105 5 rfl, hi, hf1616_ 107 _ rfl, hs107, hf 105 5 rfl, LG_keep hU8 hU9, hU8 _, if_pos rfl]; rfl); rw [← hlr, ← e0]; omega) (show y3 = a1620_ 107 ((a0 105 5).toNat) from by omega) (show 1 ≤ a0 2 1 from by omega)
theorem cp_X9_readClause_r2_42 (E : jxE) (d : Nat) (hd : Nat.ble 6 (d + 1) = true) (a0 b0 : Nat → Nat → Int) (hv0 : iv a0) (hp0 : a0 105 5 ≤ 9) (hp1 : a0 2 3 = 0) : ∀ (y3 : Int) (a : Nat → Nat → Int), iv a → jfr jW_X9_readClause_r2 a0 a → 0 ≤ y3 → y3 ≤ 11 → a 105 5 ≤ 9 → (TW (a0 3) (a0 2 1).toNat (a0 2 2).toNat 15) → (y3 = (a0 107 (a0 105 5).toNat)) → y3 ≤ 11 → (a 2 2 = ((C1 (a0 3) (a0 2 1).toNat (a0 2 2).toNat) : Int)) → a 2 3 = 0 → (∀ j, a 108 j = a0 108 j) → (∀ j, a 119 j = a0 119 j) → (∀ j, a 130 j = a0 130 j) → (∀ j, a 107 j = a0 107 j) → y3 = a 107 ((a0 105 5).toNat) → 1 ≤ a0 2 1 → jt (jxX E d 136 42 [some (.inr (.inr (.inl 105))), some (.inr (.inr (.inl 2))), none, some (.inl y3), none] [] (jxSH, a, b0)) (jQ_X9_readClause_r2 a0 b0) := by
  intro y3 a hv hf hi0 hi1 hi2 htw hy3 hi5 hat hi7 hs108 hs119 hs130 hs107 hi12 hi13
  refine jt_eq (bq_X9_readClause_r2_42 E d y3 a b0) ?_
  have h1645_ := iv_get hv (k := 105) (j := 5) (l := 0) (u := 10) rfl
  have h1646_ : a 105 5 = a0 105 5 := hf 105 5 rfl
  have h1647_ := iv_get hv0 (k := 105) (j := 5) (l := 0) (u := 10) rfl
  have h1648_ := iv_get hv (k := 107) (j := (a0 105 5).toNat) (l := 0) (u := 12) rfl
  have h1649_ := iv_get hv0 (k := 2) (j := 1) (l := 0) (u := 200) rfl
  have h3 : a 3 = a0 3 := funext fun j => hf 3 j rfl
  have h21 := hf 2 1 rfl
  have hP : (a 2 2).toNat = (C1 (a0 3) (a0 2 1).toNat (a0 2 2).toNat) := by rw [hat]; exact Int.toNat_natCast _
  have hi : (a 105 5).toNat * 12 + y3.toNat = ((a0 105 5).toNat * 12 + (a0 107 (a0 105 5).toNat).toNat) := by rw [hf 105 5 rfl, hy3]
  refine jt_grd (by omega) ?_
  refine jt_bI (sp_X8_takeNumber E d (jd_le hd rfl) 0 3 a b0 hv) (fun r1650_ a1650_ b1650_ h1650_ => ?_)
  obtain ⟨hv1650_, hf1650_, rfl, hq1650_0, hq1650_1, hq1650_2, hq1650_3⟩ := h1650_
  refine jt_grd (by omega) ?_
  refine jt_grd (by omega) ?_
  refine jt_eI (eq_X8_place E d (jd_le hd rfl) (jxu a1650_ 108 (((a 105 5).toNat) * 12 + (y3.toNat)) r1650_) b0) ?_
  have hv1651_ : iv (jxu a1650_ 108 (((a 105 5).toNat) * 12 + (y3.toNat)) r1650_) := iv_put hv1650_ (l := 0) (u := 999) rfl (by omega) (by omega)
  have hf1652_ : jfr jW_X9_readClause_r2 a0 a1650_ := jfr_tr hf hf1650_ rfl
  have hf1653_ : jfr jW_X9_readClause_r2 a0 (jxu a1650_ 108 (((a 105 5).toNat) * 12 + (y3.toNat)) r1650_) := jfr_put hf1652_ rfl
  have h1654_ : f_X8_place (jxu a1650_ 108 (((a 105 5).toNat) * 12 + (y3.toNat)) r1650_) b0 = (a1650_ 2 2) := f_X8_place_eq (jxu a1650_ 108 (((a 105 5).toNat) * 12 + (y3.toNat)) r1650_) b0
  have h1655_ := iv_get hv1650_ (k := 2) (j := 2) (l := 0) (u := 200) rfl
  have h1656_ := iv_get hv1650_ (k := 105) (j := 5) (l := 0) (u := 10) rfl
  have h1657_ : a1650_ 105 5 = a 105 5 := hf1650_ 105 5 rfl
  have h1658_ := iv_get hv1650_ (k := 107) (j := (a0 105 5).toNat) (l := 0) (u := 12) rfl
  have h1659_ : a1650_ 107 ((a0 105 5).toNat) = a 107 ((a0 105 5).toNat) := hf1650_ 107 ((a0 105 5).toNat) rfl
  exact cp_X9_readClause_r2_65 E d hd a0 b0 hv0 hp0 hp1 y3 (f_X8_place (jxu a1650_ 108 (((a 105 5).toNat) * 12 + (y3.toNat)) r1650_) b0) (jxu a1650_ 108 (((a 105 5).toNat) * 12 + (y3.toNat)) r1650_) hv1651_ hf1653_ (show 0 ≤ y3 from by omega) (show y3 ≤ 11 from by omega) (show 0 ≤ f_X8_place (jxu a1650_ 108 (((a 105 5).toNat) * 12 + (y3.toNat)) r1650_) b0 from by omega) (show f_X8_place (jxu a1650_ 108 (((a 105 5).toNat) * 12 + (y3.toNat)) r1650_) b0 ≤ 200 from by omega) (show a1650_ 105 5 ≤ 9 from by omega) (by first | exact htw | exact (hq1650_3 (by omega)).2.1) (by first | exact hy3 | (rw [hf1650_ 107 _ rfl, hf1650_ 105 5 rfl])) (show y3 ≤ 11 from by omega) (by have e0 := hq1650_0; have e1 := hq1650_1; have e2 := hq1650_2; rw [h3, h21, hP] at e0 e1 e2; exact e1) (by have e0 := hq1650_0; have e1 := hq1650_1; have e2 := hq1650_2; rw [h3, h21, hP] at e0 e1 e2; exact e1) (by have e0 := hq1650_0; have e1 := hq1650_1; have e2 := hq1650_2; rw [h3, h21, hP] at e0 e1 e2; rw [← hi, ← e0]; exact UP_put (fun j => (hf1650_ 108 j rfl).trans (hs108 j))) (by have e0 := hq1650_0; have e1 := hq1650_1; have e2 := hq1650_2; rw [h3, h21, hP] at e0 e1 e2; rw [if_pos (by omega)] at e2; exact e2) (fun j => ((hf1650_ 119 j rfl)).trans (hs119 j)) (fun j => ((hf1650_ 130 j rfl)).trans (hs130 j)) (fun j => ((hf1650_ 107 j rfl)).trans (hs107 j)) (show y3 = a1650_ 107 ((a0 105 5).toNat) from by omega) (show 1 ≤ a0 2 1 from by omega)
theorem sp_X9_readClause_r2 (E : jxE) (d : Nat) (hd : Nat.ble 6 d = true) (a0 b0 : Nat → Nat → Int) (hv0 : iv a0) (hp0 : a0 105 5 ≤ 9) (hp1 : a0 2 3 = 0) : jt (jxC E d 136 [.inr (.inr (.inl 105)), .inr (.inr (.inl 2))] (jxSH, a0, b0)) (jQ_X9_readClause_r2 a0 b0) := by
  obtain ⟨d, rfl⟩ := jd_succ hd
  refine jt_eq (bq_X9_readClause_r2 E d a0 b0) ?_
  have h1660_ := iv_get hv0 (k := 105) (j := 5) (l := 0) (u := 10) rfl
  refine jt_eI (eq_X8_place E d (jd_le hd rfl) a0 b0) ?_
  refine jt_bI (sp_X8_takesWord_r1015 E d (jd_le hd rfl) a0 b0 hv0) (fun r1661_ a1661_ b1661_ h1661_ => ?_)
  obtain ⟨hv1661_, hf1661_, rfl, hq1661_0, hq1661_1, hq1661_2, hq1661_3, hq1661_4⟩ := h1661_
  have h1662_ := iv_get hv0 (k := 2) (j := 1) (l := 0) (u := 200) rfl
  have h1663_ := iv_get hv0 (k := 2) (j := 2) (l := 0) (u := 200) rfl
  have h1664_ := iv_get hv1661_ (k := 2) (j := 2) (l := 0) (u := 200) rfl
  refine jt_ite (fun c1665_ => ?_) (fun c1665_ => ?_)
  ·
    refine jt_bV (sp_X8_noteCannotStand E d (jd_le hd rfl) a1661_ b0 hv1661_) (fun a1666_ b1666_ h1666_ => ?_)
    obtain ⟨hv1666_, hf1666_, rfl, hq1666_0, hq1666_1⟩ := h1666_
    have h1667_ : a1661_ 2 3 = a0 2 3 := hf1661_ 2 3 rfl
    have hf1668_ : jfr jW_X9_readClause_r2 a0 a1661_ := jfr_tr (jfr_rf _ _) hf1661_ rfl
    have hf1669_ : jfr jW_X9_readClause_r2 a0 a1666_ := jfr_tr hf1668_ hf1666_ rfl
    have h1670_ := iv_get hv1666_ (k := 2) (j := 2) (l := 0) (u := 200) rfl
    have h1671_ : a1666_ 2 2 = a1661_ 2 2 := hf1666_ 2 2 rfl
    exact jt_rV ⟨hv1666_, hf1669_, rfl, (show (((a0 2 1 = 0 ∧ a0 2 2 = 0) ∧ a0 2 3 = 0) → (a1666_ 2 3 = 1 ∧ a1666_ 2 2 = 0)) from by omega), (by rw [CF_no ((hq1661_4 (by omega)).resolve_left (fun h => h (by omega)))]; omega), (Or.inr ⟨fun j => ⟨((hf1666_ 108 j rfl).trans (hf1661_ 108 j rfl)), ((hf1666_ 119 j rfl).trans (hf1661_ 119 j rfl)), ((hf1666_ 130 j rfl).trans (hf1661_ 130 j rfl)), ((hf1666_ 107 j rfl).trans (hf1661_ 107 j rfl))⟩, (by rw [CF_no ((hq1661_4 (by omega)).resolve_left (fun h => h (by omega)))]; omega)⟩), (fun h => absurd h (by rw [CF_no ((hq1661_4 (by omega)).resolve_left (fun h => h (by omega)))]; omega))⟩
  ·
    have h1672_ := iv_get hv1661_ (k := 105) (j := 5) (l := 0) (u := 10) rfl
    have h1673_ : a1661_ 105 5 = a0 105 5 := hf1661_ 105 5 rfl
    refine jt_grd (by omega) ?_
    have h1674_ : a1661_ 107 ((a1661_ 105 5).toNat) = a1661_ 107 ((a0 105 5).toNat) := by rw [show a1661_ 105 5 = a0 105 5 from by omega]
    have h1675_ := iv_get hv1661_ (k := 107) (j := (a0 105 5).toNat) (l := 0) (u := 12) rfl
    have h1676_ : a1661_ 107 ((a0 105 5).toNat) = a0 107 ((a0 105 5).toNat) := hf1661_ 107 ((a0 105 5).toNat) rfl
    have h1677_ := iv_get hv0 (k := 107) (j := (a0 105 5).toNat) (l := 0) (u := 12) rfl
    have h1678_ := iv_get hv1661_ (k := 107) (j := (a1661_ 105 5).toNat) (l := 0) (u := 12) rfl
    have h1679_ : a1661_ 107 ((a1661_ 105 5).toNat) = a0 107 ((a1661_ 105 5).toNat) := hf1661_ 107 ((a1661_ 105 5).toNat) rfl
    have h1680_ : a0 107 ((a1661_ 105 5).toNat) = a0 107 ((a0 105 5).toNat) := by rw [show a1661_ 105 5 = a0 105 5 from by omega]
    have h1681_ := iv_get hv0 (k := 107) (j := (a1661_ 105 5).toNat) (l := 0) (u := 12) rfl
    refine jt_ite (fun c1682_ => ?_) (fun c1682_ => ?_)
    ·
      have hf1683_ : jfr jW_X9_readClause_r2 a0 a1661_ := jfr_tr (jfr_rf _ _) hf1661_ rfl
      have h1684_ : a1661_ 2 3 = a0 2 3 := hf1661_ 2 3 rfl
      exact cp_X9_readClause_r2_42 E d hd a0 b0 hv0 hp0 hp1 (a1661_ 107 ((a1661_ 105 5).toNat)) a1661_ hv1661_ hf1683_ (show 0 ≤ a1661_ 107 ((a1661_ 105 5).toNat) from by omega) (show a1661_ 107 ((a1661_ 105 5).toNat) ≤ 11 from by omega) (show a1661_ 105 5 ≤ 9 from by omega) (by first | exact htw | exact (hq1661_3 (by omega)).2.1) (by first | exact hy3 | (rw [hf1661_ 107 _ rfl, hf1661_ 105 5 rfl])) (show a1661_ 107 ((a1661_ 105 5).toNat) ≤ 11 from by omega) ((hq1661_3 (by omega)).2.2) (show a1661_ 2 3 = 0 from by omega) (fun j => (hf1661_ 108 j rfl)) (fun j => (hf1661_ 119 j rfl)) (fun j => (hf1661_ 130 j rfl)) (fun j => (hf1661_ 107 j rfl)) (show a1661_ 107 ((a1661_ 105 5).toNat) = a1661_ 107 ((a0 105 5).toNat) from by omega) (show 1 ≤ a0 2 1 from by omega)
    ·
      have hf1685_ : jfr jW_X9_readClause_r2 a0 a1661_ := jfr_tr (jfr_rf _ _) hf1661_ rfl
      have h1686_ := f_X8_place_eq a0 b0
      have h1687_ : a1661_ 2 3 = a0 2 3 := hf1661_ 2 3 rfl
      exact cp_X9_readClause_r2_35 E d hd a0 b0 hv0 hp0 hp1 (f_X8_place a0 b0) a1661_ hv1661_ hf1685_ (show 0 ≤ f_X8_place a0 b0 from by omega) (show f_X8_place a0 b0 ≤ 200 from by omega) (show a1661_ 105 5 ≤ 9 from by omega) (by first | exact htw | exact (hq1661_3 (by omega)).2.1) (by have e := hf1661_ 107 ((a1661_ 105 5).toNat) rfl; rw [hf1661_ 105 5 rfl] at *; omega) (by rfl) (show a1661_ 2 3 = 0 from by omega) (fun j => (hf1661_ 108 j rfl)) (fun j => (hf1661_ 119 j rfl)) (fun j => (hf1661_ 130 j rfl)) (fun j => (hf1661_ 107 j rfl)) (show 1 ≤ a0 2 1 from by omega)
def jW_X9_read_r2 : List (Nat × Nat) := [(2, 2), (2, 3), (105, 5), (106, 9999), (107, 9999), (108, 9999), (119, 9999), (130, 9999)]
abbrev jQ_X9_read_r2 (x2 : Int) (a0 b0 : Nat → Nat → Int) : List jxV → (Nat → Nat → Int) → (Nat → Nat → Int) → Prop := rI (fun r a b => (iv a) ∧ (jfr jW_X9_read_r2 a0 a) ∧ (b0 = b) ∧ (((a0 2 1 = 0 ∧ a0 105 5 ≤ 9) → r = 0 - 3)) ∧ (a0 105 5 ≤ 9 → RTR (a0 3) (a0 2 1).toNat r) ∧ (a0 105 5 ≤ 9 → (1 ≤ r ∧ a 105 5 = a0 105 5 + 1) ∨ (r < 0 ∧ a 105 5 = a0 105 5)) ∧ (KPR a0 a (a0 105 5).toNat) ∧ (1 ≤ r → RWS a (a0 3) (a0 2 1).toNat (a0 105 5).toNat r.toNat ∧ a 107 (a0 105 5).toNat = r ∧ UP (a0 106) (a 106) (a0 105 5).toNat x2) ∧ (r < 0 → ∀ j, a 106 j = a0 106 j))
theorem cp_X9_read_r2_70 (E : jxE) (d : Nat) (hd : Nat.ble 7 (d + 1) = true) (x2 : Int) (a0 b0 : Nat → Nat → Int) (hv0 : iv a0) : ∀ (y2 : Int) (a : Nat → Nat → Int), iv a → jfr jW_X9_read_r2 a0 a → a 105 5 ≤ 9 → (a0 2 1 = 0 → (a 2 2 = 0 ∧ a 2 3 = 1)) → a 105 5 = a0 105 5 → a 105 5 ≤ 9 → (KPR a0 a (a0 105 5).toNat) → (RD7 a0 a (a0 105 5).toNat) → (y2 = x2) → (∀ j, a 106 j = a0 106 j) → jt (jxX E d 135 70 [some (.inr (.inr (.inl 105))), some (.inr (.inr (.inl 2))), some (.inl y2), none, none] [] (jxSH, a, b0)) (jQ_X9_read_r2 x2 a0 b0) := by
  intro y2 a hv hf hi0 hi1 hi2 hi3 hkp hrd hy2 hs106
  refine jt_eq (bq_X9_read_r2_70 E d y2 a b0) ?_
  have h1688_ := iv_get hv (k := 105) (j := 5) (l := 0) (u := 10) rfl
  have h1689_ := iv_get hv0 (k := 2) (j := 1) (l := 0) (u := 200) rfl
  have h1690_ := iv_get hv (k := 2) (j := 2) (l := 0) (u := 200) rfl
  have h1691_ := iv_get hv0 (k := 105) (j := 5) (l := 0) (u := 10) rfl
  have h3 : a 3 = a0 3 := funext fun j => hf 3 j rfl
  have h21 := hf 2 1 rfl
  have h105 : True := trivial
  refine jt_eI (eq_X8_isFaulty E d (jd_le hd rfl) a b0) ?_
  have h1692_ := f_X8_isFaulty_eq a b0
  refine jt_ite (fun c1693_ => ?_) (fun c1693_ => ?_)
  ·
    refine jt_grd (by omega) ?_
    refine jt_grd (by omega) ?_
    have hv1694_ : iv (jxu a 106 ((a 105 5).toNat) y2) := iv_putf hv rfl
    have h1696_ : jxw ((a 105 5) + 1) = (a 105 5) + 1 := jxw_id (by omega) (by omega)
    have hv1695_ : iv (jxu (jxu a 106 ((a 105 5).toNat) y2) 105 5 (jxw ((a 105 5) + 1))) := iv_put hv1694_ (l := 0) (u := 10) rfl (by omega) (by omega)
    have hf1697_ : jfr jW_X9_read_r2 a0 (jxu a 106 ((a 105 5).toNat) y2) := jfr_put hf rfl
    have hf1698_ : jfr jW_X9_read_r2 a0 (jxu (jxu a 106 ((a 105 5).toNat) y2) 105 5 (jxw ((a 105 5) + 1))) := jfr_put hf1697_ rfl
    have h1699_ := iv_get hv (k := 107) (j := (a 105 5).toNat) (l := 0) (u := 12) rfl
    exact jt_rI ⟨hv1695_, hf1698_, rfl, (show ((a0 2 1 = 0 ∧ a0 105 5 ≤ 9) → a 107 ((a 105 5).toNat) = 0 - 3) from by omega), (fun _ => by have e5 : (a 105 5).toNat = (a0 105 5).toNat := (by rw [show a 105 5 = a0 105 5 from by omega]); rw [e5]; exact (hrd.1 (by omega)).1), (fun _ => Or.inl ⟨by have q := (hrd.1 (by omega)).2.1; have e5 : (a 105 5).toNat = (a0 105 5).toNat := (by rw [show a 105 5 = a0 105 5 from by omega]); rw [e5]; exact q, show jxw ((a 105 5) + 1) = _ from by omega⟩), hkp, (fun _ => by have e5 : (a 105 5).toNat = (a0 105 5).toNat := (by rw [show a 105 5 = a0 105 5 from by omega]); rw [e5]; exact ⟨(hrd.1 (by omega)).2.2, rfl, by rw [← hy2, ← e5]; exact UP_put (fun j => hs106 j)⟩), (fun h => absurd h (by have q := (hrd.1 (by omega)).2.1; have e5 : (a 105 5).toNat = (a0 105 5).toNat := (by rw [show a 105 5 = a0 105 5 from by omega]); rw [← e5] at q; omega))⟩
  ·
    refine jt_eI (eq_X8_answerOfFault E d (jd_le hd rfl) a b0) ?_
    have h1700_ := f_X8_answerOfFault_eq a b0
    have h1701_ := jxw_im ((-2) - (a 2 3))
    have h1702_ := jxw_rg ((-2) - (a 2 3))
    exact jt_rI ⟨hv, hf, rfl, (show ((a0 2 1 = 0 ∧ a0 105 5 ≤ 9) → f_X8_answerOfFault a b0 = 0 - 3) from by omega), (fun _ => by have e5 : (a 105 5).toNat = (a0 105 5).toNat := (by rw [show a 105 5 = a0 105 5 from by omega]); have q := (hrd.2 (by omega)).1; have q2 := RTR_bd q (tn200 hv0); have q3 := (hrd.2 (by omega)).2; rw [show f_X8_answerOfFault a b0 = -2 - a 2 3 from by omega]; exact q), (fun _ => Or.inr ⟨by have q := (hrd.2 (by omega)).2; have q2 := RTR_bd (hrd.2 (by omega)).1 (tn200 hv0); omega, by omega⟩), hkp, (fun h => absurd h (by have q := (hrd.2 (by omega)).2; have q2 := RTR_bd (hrd.2 (by omega)).1 (tn200 hv0); omega)), (fun _ => hs106)⟩
theorem cp_X9_read_r2_59 (E : jxE) (d : Nat) (hd : Nat.ble 7 (d + 1) = true) (x2 : Int) (a0 b0 : Nat → Nat → Int) (hv0 : iv a0) : ∀ (y2 : Int) (a : Nat → Nat → Int), iv a → jfr jW_X9_read_r2 a0 a → a 105 5 ≤ 9 → (a0 2 1 = 0 → (a 2 2 = 0 ∧ a 2 3 = 1)) → a 105 5 = a0 105 5 → a 105 5 ≤ 9 → (KPR a0 a (a0 105 5).toNat) → (RDE a0 a (a0 105 5).toNat) → (y2 = x2) → (∀ j, a 106 j = a0 106 j) → jt (jxX E d 135 59 [some (.inr (.inr (.inl 105))), some (.inr (.inr (.inl 2))), some (.inl y2), none, none] [] (jxSH, a, b0)) (jQ_X9_read_r2 x2 a0 b0) := by
  intro y2 a hv hf hi0 hi1 hi2 hi3 hkp hre hy2 hs106
  refine jt_eq (bq_X9_read_r2_59 E d y2 a b0) ?_
  have h1703_ := iv_get hv (k := 105) (j := 5) (l := 0) (u := 10) rfl
  have h1704_ := iv_get hv0 (k := 2) (j := 1) (l := 0) (u := 200) rfl
  have h1705_ := iv_get hv (k := 2) (j := 2) (l := 0) (u := 200) rfl
  have h1706_ := iv_get hv0 (k := 105) (j := 5) (l := 0) (u := 10) rfl
  have h3 : a 3 = a0 3 := funext fun j => hf 3 j rfl
  have h21 := hf 2 1 rfl
  have h105 : True := trivial
  refine jt_eI (eq_X8_isAtEnd E d (jd_le hd rfl) a b0) ?_
  have h1707_ := f_X8_isAtEnd_eq a b0
  have h1708_ := iv_get hv (k := 2) (j := 1) (l := 0) (u := 200) rfl
  have h1709_ : a 2 1 = a0 2 1 := hf 2 1 rfl
  refine jt_ite (fun c1710_ => ?_) (fun c1710_ => ?_)
  ·
    refine jt_bV (sp_X8_noteCannotStand E d (jd_le hd rfl) a b0 hv) (fun a1711_ b1711_ h1711_ => ?_)
    obtain ⟨hv1711_, hf1711_, rfl, hq1711_0, hq1711_1⟩ := h1711_
    have hf1712_ : jfr jW_X9_read_r2 a0 a1711_ := jfr_tr hf hf1711_ rfl
    have h1713_ := iv_get hv1711_ (k := 105) (j := 5) (l := 0) (u := 10) rfl
    have h1714_ : a1711_ 105 5 = a 105 5 := hf1711_ 105 5 rfl
    have h1715_ := iv_get hv1711_ (k := 2) (j := 2) (l := 0) (u := 200) rfl
    have h1716_ : a1711_ 2 2 = a 2 2 := hf1711_ 2 2 rfl
    exact cp_X9_read_r2_70 E d hd x2 a0 b0 hv0 y2 a1711_ hv1711_ hf1712_ (show a1711_ 105 5 ≤ 9 from by omega) (show (a0 2 1 = 0 → (a1711_ 2 2 = 0 ∧ a1711_ 2 3 = 1)) from by omega) (show a1711_ 105 5 = a0 105 5 from by omega) (show a1711_ 105 5 ≤ 9 from by omega) (KPR_cl hkp (fun j => ⟨(hf1711_ 108 j rfl), (hf1711_ 119 j rfl), (hf1711_ 130 j rfl), (hf1711_ 107 j rfl)⟩)) (RD_end2 hre (hf 2 1 rfl) (by omega) (by omega) hq1711_0 hq1711_1) (by first | rfl | assumption) (fun j => ((hf1711_ 106 j rfl)).trans (hs106 j))
  ·
    exact cp_X9_read_r2_70 E d hd x2 a0 b0 hv0 y2 a hv hf (show a 105 5 ≤ 9 from by omega) (show (a0 2 1 = 0 → (a 2 2 = 0 ∧ a 2 3 = 1)) from by omega) (show a 105 5 = a0 105 5 from by omega) (show a 105 5 ≤ 9 from by omega) (KPR_cl hkp (fun j => ⟨rfl, rfl, rfl, rfl⟩)) (RD_end1 hre (hf 2 1 rfl) (by omega)) (by first | rfl | assumption) (fun j => (rfl).trans (hs106 j))
theorem cp_X9_read_r2_30 (E : jxE) (d : Nat) (hd : Nat.ble 7 (d + 1) = true) (x2 : Int) (a0 b0 : Nat → Nat → Int) (hv0 : iv a0) : ∀ n : Nat, (∀ (y2 y3 y4 : Int) (a : Nat → Nat → Int), (((13 - y4) * 1) + 0).toNat ≤ n → iv a → jfr jW_X9_read_r2 a0 a → 0 ≤ y3 → y3 ≤ 1 → 0 ≤ y4 → y4 ≤ 13 → a 105 5 ≤ 9 → (a0 2 1 = 0 → ((((a 2 2 = 0 ∧ y4 = 0) ∧ ¬ y3 = 0) ∧ a 2 3 = 0) ∨ ((a 2 2 = 0 ∧ y3 = 0) ∧ a 2 3 = 1))) → a 105 5 = a0 105 5 → a 105 5 ≤ 9 → (KPR a0 a (a0 105 5).toNat) → (¬ y3 = 0 → RDL a0 a (a0 105 5).toNat y4) → (y3 = 0 → RDE a0 a (a0 105 5).toNat) → (y2 = x2) → (∀ j, a 106 j = a0 106 j) → jt (jxX E d 135 30 [some (.inr (.inr (.inl 105))), some (.inr (.inr (.inl 2))), some (.inl y2), some (.inl y3), some (.inl y4)] [] (jxSH, a, b0)) (jQ_X9_read_r2 x2 a0 b0)) := by
  refine jx_ind fun n ih => ?_
  have ih30 : ∀ (y2 y3 y4 : Int) (a : Nat → Nat → Int), (((13 - y4) * 1) + 0).toNat < n → iv a → jfr jW_X9_read_r2 a0 a → 0 ≤ y3 → y3 ≤ 1 → 0 ≤ y4 → y4 ≤ 13 → a 105 5 ≤ 9 → (a0 2 1 = 0 → ((((a 2 2 = 0 ∧ y4 = 0) ∧ ¬ y3 = 0) ∧ a 2 3 = 0) ∨ ((a 2 2 = 0 ∧ y3 = 0) ∧ a 2 3 = 1))) → a 105 5 = a0 105 5 → a 105 5 ≤ 9 → (KPR a0 a (a0 105 5).toNat) → (¬ y3 = 0 → RDL a0 a (a0 105 5).toNat y4) → (y3 = 0 → RDE a0 a (a0 105 5).toNat) → (y2 = x2) → (∀ j, a 106 j = a0 106 j) → jt (jxX E d 135 30 [some (.inr (.inr (.inl 105))), some (.inr (.inr (.inl 2))), some (.inl y2), some (.inl y3), some (.inl y4)] [] (jxSH, a, b0)) (jQ_X9_read_r2 x2 a0 b0) := fun y2 y3 y4 a hlt i0 i1 i2 i3 i4 i5 i6 i7 i8 i9 i10 i11 i12 i13 i14 => (ih _ hlt) y2 y3 y4 a (Nat.le_refl _) i0 i1 i2 i3 i4 i5 i6 i7 i8 i9 i10 i11 i12 i13 i14
  have hc30 : ∀ (y2 y3 y4 : Int) (a : Nat → Nat → Int), (((13 - y4) * 1) + 0).toNat ≤ n → iv a → jfr jW_X9_read_r2 a0 a → 0 ≤ y3 → y3 ≤ 1 → 0 ≤ y4 → y4 ≤ 13 → a 105 5 ≤ 9 → (a0 2 1 = 0 → ((((a 2 2 = 0 ∧ y4 = 0) ∧ ¬ y3 = 0) ∧ a 2 3 = 0) ∨ ((a 2 2 = 0 ∧ y3 = 0) ∧ a 2 3 = 1))) → a 105 5 = a0 105 5 → a 105 5 ≤ 9 → (KPR a0 a (a0 105 5).toNat) → (¬ y3 = 0 → RDL a0 a (a0 105 5).toNat y4) → (y3 = 0 → RDE a0 a (a0 105 5).toNat) → (y2 = x2) → (∀ j, a 106 j = a0 106 j) → jt (jxX E d 135 30 [some (.inr (.inr (.inl 105))), some (.inr (.inr (.inl 2))), some (.inl y2), some (.inl y3), some (.inl y4)] [] (jxSH, a, b0)) (jQ_X9_read_r2 x2 a0 b0) := by
    intro y2 y3 y4 a hm hv hf hi0 hi1 hi2 hi3 hi4 hi5 hi6 hi7 hkp hrl hre hy2 hs106
    refine jt_eq (bq_X9_read_r2_30 E d y2 y3 y4 a b0) ?_
    have h1717_ := iv_get hv (k := 105) (j := 5) (l := 0) (u := 10) rfl
    have h1718_ := iv_get hv0 (k := 2) (j := 1) (l := 0) (u := 200) rfl
    have h1719_ := iv_get hv (k := 2) (j := 2) (l := 0) (u := 200) rfl
    have h1720_ := iv_get hv0 (k := 105) (j := 5) (l := 0) (u := 10) rfl
    have h3 : a 3 = a0 3 := funext fun j => hf 3 j rfl
    have h21 := hf 2 1 rfl
    have h105 : True := trivial
    have hf0 : ¬ y3 = 0 → a 2 3 = 0 := fun h => (hrl h).1
    have hbig : ¬ y3 = 0 → y4 ≤ 12 := fun h => by rcases Int.lt_or_le 12 y4 with q | q <;> first | exact (RDL_big (hrl h) q).elim | exact q
    refine jt_ite (fun c1721_ => ?_) (fun c1721_ => ?_)
    ·
      exact cp_X9_read_r2_59 E d hd x2 a0 b0 hv0 y2 a hv hf (show a 105 5 ≤ 9 from by omega) (show (a0 2 1 = 0 → (a 2 2 = 0 ∧ a 2 3 = 1)) from by omega) (show a 105 5 = a0 105 5 from by omega) (show a 105 5 ≤ 9 from by omega) (KPR_cl hkp (fun j => ⟨rfl, rfl, rfl, rfl⟩)) (by first | exact hre (by omega) | exact absurd (by omega : False) id) (by first | rfl | assumption) (fun j => (rfl).trans (hs106 j))
    ·
      refine jt_ite (fun c1722_ => ?_) (fun c1722_ => ?_)
      ·
        exact cp_X9_read_r2_59 E d hd x2 a0 b0 hv0 y2 a hv hf (show a 105 5 ≤ 9 from by omega) (show (a0 2 1 = 0 → (a 2 2 = 0 ∧ a 2 3 = 1)) from by omega) (show a 105 5 = a0 105 5 from by omega) (show a 105 5 ≤ 9 from by omega) (KPR_cl hkp (fun j => ⟨rfl, rfl, rfl, rfl⟩)) (by first | exact hre (by omega) | exact absurd (by omega : False) id) (by first | rfl | assumption) (fun j => (rfl).trans (hs106 j))
      ·
        refine jt_bV (sp_X9_readClause_r2 E d (jd_le hd rfl) a b0 hv (show a 105 5 ≤ 9 from by omega) (show a 2 3 = 0 from by omega)) (fun a1723_ b1723_ h1723_ => ?_)
        obtain ⟨hv1723_, hf1723_, rfl, hq1723_0, hq1723_1, hq1723_2, hq1723_3⟩ := h1723_
        have h1724_ := iv_get hv (k := 2) (j := 1) (l := 0) (u := 200) rfl
        have h1725_ : a 2 1 = a0 2 1 := hf 2 1 rfl
        have h1726_ := iv_get hv1723_ (k := 2) (j := 2) (l := 0) (u := 200) rfl
        refine jt_bI (sp_X8_takesSign E d (jd_le hd rfl) 59 a1723_ b0 hv1723_) (fun r1727_ a1727_ b1727_ h1727_ => ?_)
        obtain ⟨hv1727_, hf1727_, rfl, hq1727_0, hq1727_1, hq1727_2, hq1727_3, hq1727_4⟩ := h1727_
        have h1728_ := iv_get hv1723_ (k := 2) (j := 1) (l := 0) (u := 200) rfl
        have h1729_ : a1723_ 2 1 = a 2 1 := hf1723_ 2 1 rfl
        have h1730_ := iv_get hv1727_ (k := 2) (j := 2) (l := 0) (u := 200) rfl
        have hstep := RD_step (s := (a0 105 5).toNat) (i := y4) (r := r1727_) (by omega) (hrl (by omega)) hkp h3 (hf 2 1 rfl) (by rw [show a 105 5 = a0 105 5 from by omega]) hq1723_1 hq1723_2 hq1723_3 (funext fun j => hf1723_ 3 j rfl) (hf1723_ 2 1 rfl) hq1727_2 hq1727_3 hq1727_4 (hf1727_ 2 3 rfl) (fun j => ⟨hf1727_ 108 j rfl, hf1727_ 119 j rfl, hf1727_ 130 j rfl, hf1727_ 107 j rfl⟩) (by omega)
        have hf1731_ : jfr jW_X9_read_r2 a0 a1723_ := jfr_tr hf hf1723_ rfl
        have hf1732_ : jfr jW_X9_read_r2 a0 a1727_ := jfr_tr hf1731_ hf1727_ rfl
        have h1733_ : jxw (y4 + 1) = y4 + 1 := jxw_id (by omega) (by omega)
        have h1734_ := iv_get hv1727_ (k := 105) (j := 5) (l := 0) (u := 10) rfl
        have h1735_ : a1727_ 105 5 = a1723_ 105 5 := hf1727_ 105 5 rfl
        have h1736_ := iv_get hv1723_ (k := 105) (j := 5) (l := 0) (u := 10) rfl
        have h1737_ : a1723_ 105 5 = a 105 5 := hf1723_ 105 5 rfl
        have h1738_ : a1727_ 2 3 = a1723_ 2 3 := hf1727_ 2 3 rfl
        exact ih30 y2 r1727_ (jxw (y4 + 1)) a1727_ (show (((13 - (jxw (y4 + 1))) * 1) + 0).toNat < n from by omega) hv1727_ hf1732_ (show 0 ≤ r1727_ from by omega) (show r1727_ ≤ 1 from by omega) (show 0 ≤ jxw (y4 + 1) from by omega) (show jxw (y4 + 1) ≤ 13 from by omega) (show a1727_ 105 5 ≤ 9 from by omega) (show (a0 2 1 = 0 → ((((a1727_ 2 2 = 0 ∧ jxw (y4 + 1) = 0) ∧ ¬ r1727_ = 0) ∧ a1727_ 2 3 = 0) ∨ ((a1727_ 2 2 = 0 ∧ r1727_ = 0) ∧ a1727_ 2 3 = 1))) from by omega) (show a1727_ 105 5 = a0 105 5 from by omega) (show a1727_ 105 5 ≤ 9 from by omega) (hstep).2.2 (by first | exact (fun _ => hrl) | (rw [show jxw (y4 + 1) = y4 + 1 from by omega]; exact hstep.1)) (by first | exact (fun h => absurd h (by omega)) | exact hstep.2.1) (by first | rfl | assumption) (fun j => (((hf1727_ 106 j rfl).trans (hf1723_ 106 j rfl))).trans (hs106 j))
  exact hc30
theorem cp_X9_read_r2_27 (E : jxE) (d : Nat) (hd : Nat.ble 7 (d + 1) = true) (x2 : Int) (a0 b0 : Nat → Nat → Int) (hv0 : iv a0) : ∀ (y2 y3 : Int) (a : Nat → Nat → Int), iv a → jfr jW_X9_read_r2 a0 a → 1 ≤ y3 → y3 ≤ 1 → a 105 5 ≤ 9 → (a0 2 1 = 0 → (a 2 2 = 0 ∧ a 2 3 = 0)) → y3 = 1 → a 105 5 = a0 105 5 → a 105 5 ≤ 9 → (KPR a0 a (a0 105 5).toNat) → (RDL a0 a (a0 105 5).toNat 0) → (y2 = x2) → (∀ j, a 106 j = a0 106 j) → jt (jxX E d 135 27 [some (.inr (.inr (.inl 105))), some (.inr (.inr (.inl 2))), some (.inl y2), some (.inl y3), none] [] (jxSH, a, b0)) (jQ_X9_read_r2 x2 a0 b0) := by
  intro y2 y3 a hv hf hi0 hi1 hi2 hi3 hi4 hi5 hi6 hkp hrl hy2 hs106
  refine jt_eq (bq_X9_read_r2_27 E d y2 y3 a b0) ?_
  have h1739_ := iv_get hv (k := 105) (j := 5) (l := 0) (u := 10) rfl
  have h1740_ := iv_get hv0 (k := 2) (j := 1) (l := 0) (u := 200) rfl
  have h1741_ := iv_get hv (k := 2) (j := 2) (l := 0) (u := 200) rfl
  have h1742_ := iv_get hv0 (k := 105) (j := 5) (l := 0) (u := 10) rfl
  have h3 : a 3 = a0 3 := funext fun j => hf 3 j rfl
  have h21 := hf 2 1 rfl
  have h105 : True := trivial
  exact (cp_X9_read_r2_30 E d hd x2 a0 b0 hv0 _) y2 y3 0 a (Nat.le_refl _) hv hf (show 0 ≤ y3 from by omega) (show y3 ≤ 1 from by omega) (show 0 ≤ 0 from by omega) (show 0 ≤ 13 from by omega) (show a 105 5 ≤ 9 from by omega) (show (a0 2 1 = 0 → ((((a 2 2 = 0 ∧ 0 = 0) ∧ ¬ y3 = 0) ∧ a 2 3 = 0) ∨ ((a 2 2 = 0 ∧ y3 = 0) ∧ a 2 3 = 1))) from by omega) (show a 105 5 = a0 105 5 from by omega) (show a 105 5 ≤ 9 from by omega) (KPR_cl hkp (fun j => ⟨rfl, rfl, rfl, rfl⟩)) (by first | exact (fun _ => hrl) | (rw [show jxw (y4 + 1) = y4 + 1 from by omega]; exact hstep.1)) (by first | exact (fun h => absurd h (by omega)) | exact hstep.2.1) (by first | rfl | assumption) (fun j => (rfl).trans (hs106 j))
theorem sp_X9_read_r2 (E : jxE) (d : Nat) (hd : Nat.ble 7 d = true) (x2 : Int) (a0 b0 : Nat → Nat → Int) (hv0 : iv a0) : jt (jxC E d 135 [.inr (.inr (.inl 105)), .inr (.inr (.inl 2)), .inl x2] (jxSH, a0, b0)) (jQ_X9_read_r2 x2 a0 b0) := by
  obtain ⟨d, rfl⟩ := jd_succ hd
  refine jt_eq (bq_X9_read_r2 E d x2 a0 b0) ?_
  have h1743_ := iv_get hv0 (k := 105) (j := 5) (l := 0) (u := 10) rfl
  refine jt_ite (fun c1744_ => ?_) (fun c1744_ => ?_)
  ·
    refine jt_grd (by omega) ?_
    have hv1745_ : iv (jxu a0 107 ((a0 105 5).toNat) 0) := iv_put hv0 (l := 0) (u := 12) rfl (by omega) (by omega)
    refine jt_bV (sp_X8_startReading E d (jd_le hd rfl) (jxu a0 107 ((a0 105 5).toNat) 0) b0 hv1745_) (fun a1746_ b1746_ h1746_ => ?_)
    obtain ⟨hv1746_, hf1746_, rfl, hq1746_0, hq1746_1, hq1746_2⟩ := h1746_
    have h1747_ : a1746_ 2 3 = 0 := hq1746_0
    have h1748_ := iv_get hv0 (k := 2) (j := 1) (l := 0) (u := 200) rfl
    have h1749_ := iv_get hv1746_ (k := 2) (j := 2) (l := 0) (u := 200) rfl
    have h1750_ : (a0 2 1 = 0 → a1746_ 2 2 = 0) := hq1746_1
    have hf1751_ : jfr jW_X9_read_r2 a0 (jxu a0 107 ((a0 105 5).toNat) 0) := jfr_put (jfr_rf _ _) rfl
    have hf1752_ : jfr jW_X9_read_r2 a0 a1746_ := jfr_tr hf1751_ hf1746_ rfl
    have h1753_ := iv_get hv1746_ (k := 105) (j := 5) (l := 0) (u := 10) rfl
    have h1754_ : a1746_ 105 5 = a0 105 5 := hf1746_ 105 5 rfl
    exact cp_X9_read_r2_27 E d hd x2 a0 b0 hv0 x2 1 a1746_ hv1746_ hf1752_ (show 1 ≤ 1 from by omega) (show 1 ≤ 1 from by omega) (show a1746_ 105 5 ≤ 9 from by omega) (show (a0 2 1 = 0 → (a1746_ 2 2 = 0 ∧ a1746_ 2 3 = 0)) from by omega) (show 1 = 1 from by omega) (show a1746_ 105 5 = a0 105 5 from by omega) (show a1746_ 105 5 ≤ 9 from by omega) ⟨fun j hj => ((hf1746_ 107 j rfl)).trans (show jxu a0 107 (a0 105 5).toNat 0 107 j = a0 107 j from by simp only [jxu]; simp; omega), fun j _ => ⟨(hf1746_ 108 j rfl), (hf1746_ 119 j rfl), (hf1746_ 130 j rfl)⟩⟩ (by refine ⟨?_, ?_, ?_, fun k hk => absurd hk (Nat.not_lt_zero _), fun k hk => absurd hk (Nat.not_lt_zero _)⟩ <;> first | omega | exact hq1746_2 | (rw [hf1746_ 107 _ rfl]; simp [jxu])) (by first | rfl | assumption) (fun j => (hf1746_ 106 j rfl))
  ·
    have h1755_ := iv_get hv0 (k := 2) (j := 1) (l := 0) (u := 200) rfl
    exact jt_rI ⟨hv0, (jfr_rf _ _), rfl, (show ((a0 2 1 = 0 ∧ a0 105 5 ≤ 9) → (-1) = 0 - 3) from by omega), (fun h => absurd h (by omega)), (fun h => absurd h (by omega)), ⟨fun _ _ => rfl, fun _ _ => ⟨rfl, rfl, rfl⟩⟩, (fun h => absurd h (by decide)), (fun _ _ => rfl)⟩
def jW_X11_rates : List (Nat × Nat) := [(2, 1), (2, 2), (2, 3), (105, 5), (106, 9999), (107, 9999), (108, 9999), (119, 9999), (130, 9999)]
abbrev jQ_X11_rates (x1 : Int) (a0 b0 : Nat → Nat → Int) : List jxV → (Nat → Nat → Int) → (Nat → Nat → Int) → Prop := rI (fun r a b => (iv a) ∧ (jfr jW_X11_rates a0 a) ∧ (b0 = b) ∧ (((a0 2 1 = 0 ∧ a0 105 5 = 0) → (((0 ≤ x1 ∧ x1 ≤ 1999) ∧ r = 0 - 3) ∨ ((x1 < 0 ∨ 1999 < x1) ∧ r = 0 - 1)))) ∧ ((((0 ≤ x1 ∧ x1 ≤ 1999) ∧ a0 105 5 ≤ 9) → a 2 1 = 0)) ∧ ((((x1 < 0 ∨ 1999 < x1) ∨ 9 < a0 105 5) → ((r = 0 - 1 ∧ a 2 1 = a0 2 1) ∧ a 105 5 = a0 105 5))) ∧ (0 ≤ x1 ∧ x1 ≤ 1999 ∧ a0 105 5 ≤ 9 → RTR (a0 3) (a0 2 1).toNat r ∧ ((1 ≤ r ∧ a 105 5 = a0 105 5 + 1) ∨ (r < 0 ∧ a 105 5 = a0 105 5))) ∧ (KPR a0 a (a0 105 5).toNat ∧ (1 ≤ r → RWS a (a0 3) (a0 2 1).toNat (a0 105 5).toNat r.toNat ∧ a 107 (a0 105 5).toNat = r ∧ UP (a0 106) (a 106) (a0 105 5).toNat x1) ∧ (r < 0 → ∀ j, a 106 j = a0 106 j)))
theorem cp_X11_rates_32 (E : jxE) (d : Nat) (hd : Nat.ble 8 (d + 1) = true) (x1 : Int) (a0 b0 : Nat → Nat → Int) (hv0 : iv a0) : ∀ (y2 : Int) (a : Nat → Nat → Int), iv a → jfr jW_X11_rates a0 a → ((a0 2 1 = 0 ∧ a0 105 5 = 0) → ((0 ≤ x1 ∧ x1 ≤ 1999) ∧ y2 = 0 - 3)) → ((0 ≤ x1 ∧ x1 ≤ 1999) ∧ a0 105 5 ≤ 9) → (RTR (a0 3) (a0 2 1).toNat y2 ∧ ((1 ≤ y2 ∧ a 105 5 = a0 105 5 + 1) ∨ (y2 < 0 ∧ a 105 5 = a0 105 5))) → (KPR a0 a (a0 105 5).toNat ∧ (1 ≤ y2 → RWS a (a0 3) (a0 2 1).toNat (a0 105 5).toNat y2.toNat ∧ a 107 (a0 105 5).toNat = y2 ∧ UP (a0 106) (a 106) (a0 105 5).toNat x1) ∧ (y2 < 0 → ∀ j, a 106 j = a0 106 j)) → jt (jxX E d 191 32 [some (.inr (.inr (.inl 0))), none, some (.inl y2)] [] (jxSH, a, b0)) (jQ_X11_rates x1 a0 b0) := by
  intro y2 a hv hf hi0 hi1 hrt hrw
  refine jt_eq (bq_X11_rates_32 E d y2 a b0) ?_
  have h1756_ := iv_get hv0 (k := 2) (j := 1) (l := 0) (u := 200) rfl
  have h1757_ := iv_get hv0 (k := 105) (j := 5) (l := 0) (u := 10) rfl
  refine jt_bV (sp_X8_cut E d (jd_le hd rfl) 0 a b0 hv) (fun a1758_ b1758_ h1758_ => ?_)
  obtain ⟨hv1758_, hf1758_, rfl, hq1758_0⟩ := h1758_
  have h1759_ := iv_get hv (k := 2) (j := 1) (l := 0) (u := 200) rfl
  have h1760_ := iv_get hv1758_ (k := 2) (j := 1) (l := 0) (u := 200) rfl
  have hf1761_ : jfr jW_X11_rates a0 a1758_ := jfr_tr hf hf1758_ rfl
  have h1762_ := iv_get hv1758_ (k := 105) (j := 5) (l := 0) (u := 10) rfl
  have h1763_ : a1758_ 105 5 = a 105 5 := hf1758_ 105 5 rfl
  have h1764_ := iv_get hv (k := 105) (j := 5) (l := 0) (u := 10) rfl
  exact jt_rI ⟨hv1758_, hf1761_, rfl, (show ((a0 2 1 = 0 ∧ a0 105 5 = 0) → (((0 ≤ x1 ∧ x1 ≤ 1999) ∧ y2 = 0 - 3) ∨ ((x1 < 0 ∨ 1999 < x1) ∧ y2 = 0 - 1))) from by omega), (show (((0 ≤ x1 ∧ x1 ≤ 1999) ∧ a0 105 5 ≤ 9) → a1758_ 2 1 = 0) from by omega), (show (((x1 < 0 ∨ 1999 < x1) ∨ 9 < a0 105 5) → ((y2 = 0 - 1 ∧ a1758_ 2 1 = a0 2 1) ∧ a1758_ 105 5 = a0 105 5)) from by omega), (fun _ => by rw [hf1758_ 105 5 rfl]; exact hrt), ⟨KPR_cl hrw.1 (fun j => ⟨hf1758_ 108 j rfl, hf1758_ 119 j rfl, hf1758_ 130 j rfl, hf1758_ 107 j rfl⟩), fun q => ⟨fun k hk => by rw [hf1758_ 108 _ rfl, hf1758_ 119 _ rfl, hf1758_ 130 _ rfl]; exact (hrw.2.1 q).1 k hk, (hf1758_ 107 _ rfl).trans (hrw.2.1 q).2.1, UP_cr (hrw.2.1 q).2.2 (fun j => hf1758_ 106 j rfl)⟩, fun q j => (hf1758_ 106 j rfl).trans (hrw.2.2 q j)⟩⟩
theorem sp_X11_rates (E : jxE) (d : Nat) (hd : Nat.ble 8 d = true) (x1 : Int) (a0 b0 : Nat → Nat → Int) (hv0 : iv a0) : jt (jxC E d 191 [.inr (.inr (.inl 0)), .inl x1] (jxSH, a0, b0)) (jQ_X11_rates x1 a0 b0) := by
  obtain ⟨d, rfl⟩ := jd_succ hd
  refine jt_eq (bq_X11_rates E d x1 a0 b0) ?_
  refine jt_eI (eq_X11_isDay E d (jd_le hd rfl) x1 a0 b0) ?_
  have h1765_ := f_X11_isDay_eq a0 b0 x1
  have h1766_ := f_X11_within_eq a0 b0 x1 0 1999
  refine jt_ite (fun c1767_ => ?_) (fun c1767_ => ?_)
  ·
    have h1768_ := iv_get hv0 (k := 2) (j := 1) (l := 0) (u := 200) rfl
    have h1769_ := iv_get hv0 (k := 105) (j := 5) (l := 0) (u := 10) rfl
    exact jt_rI ⟨hv0, (jfr_rf _ _), rfl, (show ((a0 2 1 = 0 ∧ a0 105 5 = 0) → (((0 ≤ x1 ∧ x1 ≤ 1999) ∧ (-1) = 0 - 3) ∨ ((x1 < 0 ∨ 1999 < x1) ∧ (-1) = 0 - 1))) from by omega), (show (((0 ≤ x1 ∧ x1 ≤ 1999) ∧ a0 105 5 ≤ 9) → a0 2 1 = 0) from by omega), (show (((x1 < 0 ∨ 1999 < x1) ∨ 9 < a0 105 5) → (((-1) = 0 - 1 ∧ a0 2 1 = a0 2 1) ∧ a0 105 5 = a0 105 5)) from by omega), (fun h => absurd h (by omega)), ⟨⟨fun _ _ => rfl, fun _ _ => ⟨rfl, rfl, rfl⟩⟩, fun h => absurd h (by decide), fun _ _ => rfl⟩⟩
  ·
    refine jt_eI (eq_X9_hasRoom E d (jd_le hd rfl) a0 b0) ?_
    have h1770_ := f_X9_hasRoom_eq a0 b0
    have h1771_ := iv_get hv0 (k := 105) (j := 5) (l := 0) (u := 10) rfl
    refine jt_ite (fun c1772_ => ?_) (fun c1772_ => ?_)
    ·
      have h1773_ := iv_get hv0 (k := 2) (j := 1) (l := 0) (u := 200) rfl
      exact jt_rI ⟨hv0, (jfr_rf _ _), rfl, (show ((a0 2 1 = 0 ∧ a0 105 5 = 0) → (((0 ≤ x1 ∧ x1 ≤ 1999) ∧ (-1) = 0 - 3) ∨ ((x1 < 0 ∨ 1999 < x1) ∧ (-1) = 0 - 1))) from by omega), (show (((0 ≤ x1 ∧ x1 ≤ 1999) ∧ a0 105 5 ≤ 9) → a0 2 1 = 0) from by omega), (show (((x1 < 0 ∨ 1999 < x1) ∨ 9 < a0 105 5) → (((-1) = 0 - 1 ∧ a0 2 1 = a0 2 1) ∧ a0 105 5 = a0 105 5)) from by omega), (fun h => absurd h (by omega)), ⟨⟨fun _ _ => rfl, fun _ _ => ⟨rfl, rfl, rfl⟩⟩, fun h => absurd h (by decide), fun _ _ => rfl⟩⟩
    ·
      refine jt_bI (sp_X9_read_r2 E d (jd_le hd rfl) x1 a0 b0 hv0) (fun r1774_ a1774_ b1774_ h1774_ => ?_)
      obtain ⟨hv1774_, hf1774_, rfl, hq1774_0, hq1774_1, hq1774_2, hq1774_3, hq1774_4, hq1774_5⟩ := h1774_
      have h1775_ := iv_get hv0 (k := 2) (j := 1) (l := 0) (u := 200) rfl
      have hf1776_ : jfr jW_X11_rates a0 a1774_ := jfr_tr (jfr_rf _ _) hf1774_ rfl
      exact cp_X11_rates_32 E d hd x1 a0 b0 hv0 r1774_ a1774_ hv1774_ hf1776_ (show ((a0 2 1 = 0 ∧ a0 105 5 = 0) → ((0 ≤ x1 ∧ x1 ≤ 1999) ∧ r1774_ = 0 - 3)) from by omega) (show ((0 ≤ x1 ∧ x1 ≤ 1999) ∧ a0 105 5 ≤ 9) from by omega) ⟨hq1774_1 (by omega), hq1774_2 (by omega)⟩ ⟨hq1774_3, hq1774_4, hq1774_5⟩
def jW_X5_linkSeats : List (Nat × Nat) := [(92, 9999), (93, 9999)]
abbrev jQ_X5_linkSeats (a0 b0 : Nat → Nat → Int) : List jxV → (Nat → Nat → Int) → (Nat → Nat → Int) → Prop := rV (fun a b => (iv a) ∧ (jfr jW_X5_linkSeats a0 a) ∧ (b0 = b))
theorem cp_X5_linkSeats_2 (E : jxE) (d : Nat) (hd : Nat.ble 3 (d + 1) = true) (a0 b0 : Nat → Nat → Int) (hv0 : iv a0) : ∀ n : Nat, (∀ (y1 y2 : Int) (a : Nat → Nat → Int), (((((12 - y1) * 15) + 0) + ((12 - y2) * 1)) + 0).toNat ≤ n → iv a → jfr jW_X5_linkSeats a0 a → 0 ≤ y1 → y1 ≤ 11 → 0 ≤ y2 → y2 ≤ 11 → 1 ≤ a 90 3 → jt (jxX E d 84 130 [some (.inr (.inr (.inl 90))), some (.inl y1), some (.inl y2)] [] (jxSH, a, b0)) (jQ_X5_linkSeats a0 b0)) ∧ (∀ (y1 y2 : Int) (a : Nat → Nat → Int), (((((12 - y1) * 15) + 0) + ((12 - y2) * 1)) + 0).toNat ≤ n → iv a → jfr jW_X5_linkSeats a0 a → 0 ≤ y1 → y1 ≤ 11 → 0 ≤ y2 → y2 ≤ 11 → 1 ≤ a 90 3 → jt (jxX E d 84 70 [some (.inr (.inr (.inl 90))), some (.inl y1), some (.inl y2)] [] (jxSH, a, b0)) (jQ_X5_linkSeats a0 b0)) ∧ (∀ (y1 y2 : Int) (a : Nat → Nat → Int), (((((12 - y1) * 15) + 0) + ((12 - y2) * 1)) + 0).toNat ≤ n → iv a → jfr jW_X5_linkSeats a0 a → 0 ≤ y1 → y1 ≤ 11 → 0 ≤ y2 → y2 ≤ 11 → 1 ≤ a 90 3 → jt (jxX E d 84 118 [some (.inr (.inr (.inl 90))), some (.inl y1), some (.inl y2)] [] (jxSH, a, b0)) (jQ_X5_linkSeats a0 b0)) ∧ (∀ (y1 y2 : Int) (a : Nat → Nat → Int), (((((12 - y1) * 15) + 0) + ((12 - y2) * 1)) + 0).toNat ≤ n → iv a → jfr jW_X5_linkSeats a0 a → 0 ≤ y1 → y1 ≤ 11 → 0 ≤ y2 → y2 ≤ 11 → 1 ≤ a 90 3 → jt (jxX E d 84 85 [some (.inr (.inr (.inl 90))), some (.inl y1), some (.inl y2)] [] (jxSH, a, b0)) (jQ_X5_linkSeats a0 b0)) ∧ (∀ (y1 y2 : Int) (a : Nat → Nat → Int), (((((12 - y1) * 15) + 0) + ((12 - y2) * 1)) + 0).toNat ≤ n → iv a → jfr jW_X5_linkSeats a0 a → 0 ≤ y1 → y1 ≤ 11 → 0 ≤ y2 → y2 ≤ 12 → 1 ≤ a 90 3 → jt (jxX E d 84 26 [some (.inr (.inr (.inl 90))), some (.inl y1), some (.inl y2)] [] (jxSH, a, b0)) (jQ_X5_linkSeats a0 b0)) ∧ (∀ (y1 : Int) (a : Nat → Nat → Int), (((12 - y1) * 15) + 14).toNat ≤ n → iv a → jfr jW_X5_linkSeats a0 a → 0 ≤ y1 → y1 ≤ 11 → 1 ≤ a 90 3 → jt (jxX E d 84 24 [some (.inr (.inr (.inl 90))), some (.inl y1), none] [] (jxSH, a, b0)) (jQ_X5_linkSeats a0 b0)) ∧ (∀ (y1 : Int) (a : Nat → Nat → Int), (((12 - y1) * 15) + 14).toNat ≤ n → iv a → jfr jW_X5_linkSeats a0 a → 0 ≤ y1 → y1 ≤ 12 → jt (jxX E d 84 2 [some (.inr (.inr (.inl 90))), some (.inl y1), none] [] (jxSH, a, b0)) (jQ_X5_linkSeats a0 b0)) := by
  refine jx_ind fun n ih => ?_
  have ih130 : ∀ (y1 y2 : Int) (a : Nat → Nat → Int), (((((12 - y1) * 15) + 0) + ((12 - y2) * 1)) + 0).toNat < n → iv a → jfr jW_X5_linkSeats a0 a → 0 ≤ y1 → y1 ≤ 11 → 0 ≤ y2 → y2 ≤ 11 → 1 ≤ a 90 3 → jt (jxX E d 84 130 [some (.inr (.inr (.inl 90))), some (.inl y1), some (.inl y2)] [] (jxSH, a, b0)) (jQ_X5_linkSeats a0 b0) := fun y1 y2 a hlt i0 i1 i2 i3 i4 i5 i6 => (ih _ hlt).1 y1 y2 a (Nat.le_refl _) i0 i1 i2 i3 i4 i5 i6
  have ih70 : ∀ (y1 y2 : Int) (a : Nat → Nat → Int), (((((12 - y1) * 15) + 0) + ((12 - y2) * 1)) + 0).toNat < n → iv a → jfr jW_X5_linkSeats a0 a → 0 ≤ y1 → y1 ≤ 11 → 0 ≤ y2 → y2 ≤ 11 → 1 ≤ a 90 3 → jt (jxX E d 84 70 [some (.inr (.inr (.inl 90))), some (.inl y1), some (.inl y2)] [] (jxSH, a, b0)) (jQ_X5_linkSeats a0 b0) := fun y1 y2 a hlt i0 i1 i2 i3 i4 i5 i6 => (ih _ hlt).2.1 y1 y2 a (Nat.le_refl _) i0 i1 i2 i3 i4 i5 i6
  have ih118 : ∀ (y1 y2 : Int) (a : Nat → Nat → Int), (((((12 - y1) * 15) + 0) + ((12 - y2) * 1)) + 0).toNat < n → iv a → jfr jW_X5_linkSeats a0 a → 0 ≤ y1 → y1 ≤ 11 → 0 ≤ y2 → y2 ≤ 11 → 1 ≤ a 90 3 → jt (jxX E d 84 118 [some (.inr (.inr (.inl 90))), some (.inl y1), some (.inl y2)] [] (jxSH, a, b0)) (jQ_X5_linkSeats a0 b0) := fun y1 y2 a hlt i0 i1 i2 i3 i4 i5 i6 => (ih _ hlt).2.2.1 y1 y2 a (Nat.le_refl _) i0 i1 i2 i3 i4 i5 i6
  have ih85 : ∀ (y1 y2 : Int) (a : Nat → Nat → Int), (((((12 - y1) * 15) + 0) + ((12 - y2) * 1)) + 0).toNat < n → iv a → jfr jW_X5_linkSeats a0 a → 0 ≤ y1 → y1 ≤ 11 → 0 ≤ y2 → y2 ≤ 11 → 1 ≤ a 90 3 → jt (jxX E d 84 85 [some (.inr (.inr (.inl 90))), some (.inl y1), some (.inl y2)] [] (jxSH, a, b0)) (jQ_X5_linkSeats a0 b0) := fun y1 y2 a hlt i0 i1 i2 i3 i4 i5 i6 => (ih _ hlt).2.2.2.1 y1 y2 a (Nat.le_refl _) i0 i1 i2 i3 i4 i5 i6
  have ih26 : ∀ (y1 y2 : Int) (a : Nat → Nat → Int), (((((12 - y1) * 15) + 0) + ((12 - y2) * 1)) + 0).toNat < n → iv a → jfr jW_X5_linkSeats a0 a → 0 ≤ y1 → y1 ≤ 11 → 0 ≤ y2 → y2 ≤ 12 → 1 ≤ a 90 3 → jt (jxX E d 84 26 [some (.inr (.inr (.inl 90))), some (.inl y1), some (.inl y2)] [] (jxSH, a, b0)) (jQ_X5_linkSeats a0 b0) := fun y1 y2 a hlt i0 i1 i2 i3 i4 i5 i6 => (ih _ hlt).2.2.2.2.1 y1 y2 a (Nat.le_refl _) i0 i1 i2 i3 i4 i5 i6
  have ih24 : ∀ (y1 : Int) (a : Nat → Nat → Int), (((12 - y1) * 15) + 14).toNat < n → iv a → jfr jW_X5_linkSeats a0 a → 0 ≤ y1 → y1 ≤ 11 → 1 ≤ a 90 3 → jt (jxX E d 84 24 [some (.inr (.inr (.inl 90))), some (.inl y1), none] [] (jxSH, a, b0)) (jQ_X5_linkSeats a0 b0) := fun y1 a hlt i0 i1 i2 i3 i4 => (ih _ hlt).2.2.2.2.2.1 y1 a (Nat.le_refl _) i0 i1 i2 i3 i4
  have ih2 : ∀ (y1 : Int) (a : Nat → Nat → Int), (((12 - y1) * 15) + 14).toNat < n → iv a → jfr jW_X5_linkSeats a0 a → 0 ≤ y1 → y1 ≤ 12 → jt (jxX E d 84 2 [some (.inr (.inr (.inl 90))), some (.inl y1), none] [] (jxSH, a, b0)) (jQ_X5_linkSeats a0 b0) := fun y1 a hlt i0 i1 i2 i3 => (ih _ hlt).2.2.2.2.2.2 y1 a (Nat.le_refl _) i0 i1 i2 i3
  have hc130 : ∀ (y1 y2 : Int) (a : Nat → Nat → Int), (((((12 - y1) * 15) + 0) + ((12 - y2) * 1)) + 0).toNat ≤ n → iv a → jfr jW_X5_linkSeats a0 a → 0 ≤ y1 → y1 ≤ 11 → 0 ≤ y2 → y2 ≤ 11 → 1 ≤ a 90 3 → jt (jxX E d 84 130 [some (.inr (.inr (.inl 90))), some (.inl y1), some (.inl y2)] [] (jxSH, a, b0)) (jQ_X5_linkSeats a0 b0) := by
    intro y1 y2 a hm hv hf hi0 hi1 hi2 hi3 hi4
    refine jt_eq (bq_X5_linkSeats_130 E d y1 y2 a b0) ?_
    have h1777_ := iv_get hv (k := 90) (j := 3) (l := 0) (u := 12) rfl
    have h1778_ : a 90 3 = a0 90 3 := hf 90 3 rfl
    have h1779_ := iv_get hv0 (k := 90) (j := 3) (l := 0) (u := 12) rfl
    have h1780_ : jxw (y2 + 1) = y2 + 1 := jxw_id (by omega) (by omega)
    exact ih26 y1 (jxw (y2 + 1)) a (show (((((12 - y1) * 15) + 0) + ((12 - (jxw (y2 + 1))) * 1)) + 0).toNat < n from by omega) hv hf (show 0 ≤ y1 from by omega) (show y1 ≤ 11 from by omega) (show 0 ≤ jxw (y2 + 1) from by omega) (show jxw (y2 + 1) ≤ 12 from by omega) (show 1 ≤ a 90 3 from by omega)
  have hc70 : ∀ (y1 y2 : Int) (a : Nat → Nat → Int), (((((12 - y1) * 15) + 0) + ((12 - y2) * 1)) + 0).toNat ≤ n → iv a → jfr jW_X5_linkSeats a0 a → 0 ≤ y1 → y1 ≤ 11 → 0 ≤ y2 → y2 ≤ 11 → 1 ≤ a 90 3 → jt (jxX E d 84 70 [some (.inr (.inr (.inl 90))), some (.inl y1), some (.inl y2)] [] (jxSH, a, b0)) (jQ_X5_linkSeats a0 b0) := by
    intro y1 y2 a hm hv hf hi0 hi1 hi2 hi3 hi4
    refine jt_eq (bq_X5_linkSeats_70 E d y1 y2 a b0) ?_
    have h1781_ := iv_get hv (k := 90) (j := 3) (l := 0) (u := 12) rfl
    have h1782_ : a 90 3 = a0 90 3 := hf 90 3 rfl
    have h1783_ := iv_get hv0 (k := 90) (j := 3) (l := 0) (u := 12) rfl
    refine jt_grd (by omega) ?_
    refine jt_grd (by omega) ?_
    have hv1784_ : iv (jxu a 93 (y1.toNat) (jxor (a 93 (y1.toNat)) (jxshl 1 y2))) := iv_putf hv rfl
    have hf1785_ : jfr jW_X5_linkSeats a0 (jxu a 93 (y1.toNat) (jxor (a 93 (y1.toNat)) (jxshl 1 y2))) := jfr_put hf rfl
    exact hc130 y1 y2 (jxu a 93 (y1.toNat) (jxor (a 93 (y1.toNat)) (jxshl 1 y2))) (show (((((12 - y1) * 15) + 0) + ((12 - y2) * 1)) + 0).toNat ≤ n from by omega) hv1784_ hf1785_ (show 0 ≤ y1 from by omega) (show y1 ≤ 11 from by omega) (show 0 ≤ y2 from by omega) (show y2 ≤ 11 from by omega) (show 1 ≤ a 90 3 from by omega)
  have hc118 : ∀ (y1 y2 : Int) (a : Nat → Nat → Int), (((((12 - y1) * 15) + 0) + ((12 - y2) * 1)) + 0).toNat ≤ n → iv a → jfr jW_X5_linkSeats a0 a → 0 ≤ y1 → y1 ≤ 11 → 0 ≤ y2 → y2 ≤ 11 → 1 ≤ a 90 3 → jt (jxX E d 84 118 [some (.inr (.inr (.inl 90))), some (.inl y1), some (.inl y2)] [] (jxSH, a, b0)) (jQ_X5_linkSeats a0 b0) := by
    intro y1 y2 a hm hv hf hi0 hi1 hi2 hi3 hi4
    refine jt_eq (bq_X5_linkSeats_118 E d y1 y2 a b0) ?_
    have h1786_ := iv_get hv (k := 90) (j := 3) (l := 0) (u := 12) rfl
    have h1787_ : a 90 3 = a0 90 3 := hf 90 3 rfl
    have h1788_ := iv_get hv0 (k := 90) (j := 3) (l := 0) (u := 12) rfl
    refine jt_grd (by omega) ?_
    refine jt_grd (by omega) ?_
    have hv1789_ : iv (jxu a 92 (y1.toNat) (jxor (a 92 (y1.toNat)) (jxshl 1 y2))) := iv_putf hv rfl
    have hf1790_ : jfr jW_X5_linkSeats a0 (jxu a 92 (y1.toNat) (jxor (a 92 (y1.toNat)) (jxshl 1 y2))) := jfr_put hf rfl
    exact hc130 y1 y2 (jxu a 92 (y1.toNat) (jxor (a 92 (y1.toNat)) (jxshl 1 y2))) (show (((((12 - y1) * 15) + 0) + ((12 - y2) * 1)) + 0).toNat ≤ n from by omega) hv1789_ hf1790_ (show 0 ≤ y1 from by omega) (show y1 ≤ 11 from by omega) (show 0 ≤ y2 from by omega) (show y2 ≤ 11 from by omega) (show 1 ≤ a 90 3 from by omega)
  have hc85 : ∀ (y1 y2 : Int) (a : Nat → Nat → Int), (((((12 - y1) * 15) + 0) + ((12 - y2) * 1)) + 0).toNat ≤ n → iv a → jfr jW_X5_linkSeats a0 a → 0 ≤ y1 → y1 ≤ 11 → 0 ≤ y2 → y2 ≤ 11 → 1 ≤ a 90 3 → jt (jxX E d 84 85 [some (.inr (.inr (.inl 90))), some (.inl y1), some (.inl y2)] [] (jxSH, a, b0)) (jQ_X5_linkSeats a0 b0) := by
    intro y1 y2 a hm hv hf hi0 hi1 hi2 hi3 hi4
    refine jt_eq (bq_X5_linkSeats_85 E d y1 y2 a b0) ?_
    have h1791_ := iv_get hv (k := 90) (j := 3) (l := 0) (u := 12) rfl
    have h1792_ : a 90 3 = a0 90 3 := hf 90 3 rfl
    have h1793_ := iv_get hv0 (k := 90) (j := 3) (l := 0) (u := 12) rfl
    refine jt_grd (by omega) ?_
    refine jt_eI (eq_X4_wantsOf E d (jd_le hd rfl) (a 91 (y2.toNat)) a b0) ?_
    refine jt_grd (by omega) ?_
    refine jt_eI (eq_X4_kindOf E d (jd_le hd rfl) (a 91 (y1.toNat)) a b0) ?_
    have h1794_ : a 91 (y2.toNat) = a0 91 (y2.toNat) := hf 91 (y2.toNat) rfl
    have h1795_ := f_X4_wantsOf_eq a b0 (a 91 (y2.toNat))
    have h1796_ := f_X4_has_eq a b0 (a 91 (y2.toNat))
    have h1797_ := iv_get hv (k := 83) (j := 6) (l := 0) (u := 20) rfl
    have h1798_ : a 83 6 = a0 83 6 := hf 83 6 rfl
    have h1799_ := iv_get hv0 (k := 83) (j := 6) (l := 0) (u := 20) rfl
    have h1800_ : a 86 ((a 91 (y2.toNat)).toNat) = a0 86 ((a 91 (y2.toNat)).toNat) := hf 86 ((a 91 (y2.toNat)).toNat) rfl
    have h1801_ : a 91 (y1.toNat) = a0 91 (y1.toNat) := hf 91 (y1.toNat) rfl
    have h1802_ := f_X4_kindOf_eq a b0 (a 91 (y1.toNat))
    have h1803_ := f_X11_entry_r85_eq a b0 (a 83 6) (a 91 (y1.toNat))
    have h1804_ : a 85 ((a 91 (y1.toNat)).toNat) = a0 85 ((a 91 (y1.toNat)).toNat) := hf 85 ((a 91 (y1.toNat)).toNat) rfl
    have h1805_ := jxshr_b (f_X4_wantsOf a b0 (a 91 (y2.toNat))) (f_X4_kindOf a b0 (a 91 (y1.toNat)))
    have h1806_ := jxand_r (jxshr (f_X4_wantsOf a b0 (a 91 (y2.toNat))) (f_X4_kindOf a b0 (a 91 (y1.toNat)))) 1 (by decide) (by decide)
    refine jt_ite (fun c1807_ => ?_) (fun c1807_ => ?_)
    ·
      exact hc118 y1 y2 a (show (((((12 - y1) * 15) + 0) + ((12 - y2) * 1)) + 0).toNat ≤ n from by omega) hv hf (show 0 ≤ y1 from by omega) (show y1 ≤ 11 from by omega) (show 0 ≤ y2 from by omega) (show y2 ≤ 11 from by omega) (show 1 ≤ a 90 3 from by omega)
    ·
      exact hc130 y1 y2 a (show (((((12 - y1) * 15) + 0) + ((12 - y2) * 1)) + 0).toNat ≤ n from by omega) hv hf (show 0 ≤ y1 from by omega) (show y1 ≤ 11 from by omega) (show 0 ≤ y2 from by omega) (show y2 ≤ 11 from by omega) (show 1 ≤ a 90 3 from by omega)
  have hc26 : ∀ (y1 y2 : Int) (a : Nat → Nat → Int), (((((12 - y1) * 15) + 0) + ((12 - y2) * 1)) + 0).toNat ≤ n → iv a → jfr jW_X5_linkSeats a0 a → 0 ≤ y1 → y1 ≤ 11 → 0 ≤ y2 → y2 ≤ 12 → 1 ≤ a 90 3 → jt (jxX E d 84 26 [some (.inr (.inr (.inl 90))), some (.inl y1), some (.inl y2)] [] (jxSH, a, b0)) (jQ_X5_linkSeats a0 b0) := by
    intro y1 y2 a hm hv hf hi0 hi1 hi2 hi3 hi4
    refine jt_eq (bq_X5_linkSeats_26 E d y1 y2 a b0) ?_
    have h1808_ := iv_get hv (k := 90) (j := 3) (l := 0) (u := 12) rfl
    have h1809_ : a 90 3 = a0 90 3 := hf 90 3 rfl
    have h1810_ := iv_get hv0 (k := 90) (j := 3) (l := 0) (u := 12) rfl
    refine jt_ite (fun c1811_ => ?_) (fun c1811_ => ?_)
    ·
      refine jt_grd (by omega) ?_
      refine jt_eI (eq_X4_memberOf E d (jd_le hd rfl) (a 91 (y1.toNat)) a b0) ?_
      refine jt_grd (by omega) ?_
      refine jt_eI (eq_X4_memberOf E d (jd_le hd rfl) (a 91 (y2.toNat)) a b0) ?_
      refine jt_eI (eq_X3_areKin E d (jd_le hd rfl) (f_X4_memberOf a b0 (a 91 (y1.toNat))) (f_X4_memberOf a b0 (a 91 (y2.toNat))) a b0) ?_
      have h1812_ : a 91 (y1.toNat) = a0 91 (y1.toNat) := hf 91 (y1.toNat) rfl
      have h1813_ := f_X4_memberOf_eq a b0 (a 91 (y1.toNat))
      have h1814_ := iv_get hv (k := 83) (j := 6) (l := 0) (u := 20) rfl
      have h1815_ : a 83 6 = a0 83 6 := hf 83 6 rfl
      have h1816_ := iv_get hv0 (k := 83) (j := 6) (l := 0) (u := 20) rfl
      have h1817_ := f_X11_entry_r84_eq a b0 (a 83 6) (a 91 (y1.toNat))
      have h1818_ : a 84 ((a 91 (y1.toNat)).toNat) = a0 84 ((a 91 (y1.toNat)).toNat) := hf 84 ((a 91 (y1.toNat)).toNat) rfl
      have h1819_ : a 91 (y2.toNat) = a0 91 (y2.toNat) := hf 91 (y2.toNat) rfl
      have h1820_ := f_X4_memberOf_eq a b0 (a 91 (y2.toNat))
      have h1821_ := f_X11_entry_r84_eq a b0 (a 83 6) (a 91 (y2.toNat))
      have h1822_ : a 84 ((a 91 (y2.toNat)).toNat) = a0 84 ((a 91 (y2.toNat)).toNat) := hf 84 ((a 91 (y2.toNat)).toNat) rfl
      have h1823_ := f_X3_areKin_bool a b0 (f_X4_memberOf a b0 (a 91 (y1.toNat))) (f_X4_memberOf a b0 (a 91 (y2.toNat)))
      refine jt_ite (fun c1824_ => ?_) (fun c1824_ => ?_)
      ·
        exact hc85 y1 y2 a (show (((((12 - y1) * 15) + 0) + ((12 - y2) * 1)) + 0).toNat ≤ n from by omega) hv hf (show 0 ≤ y1 from by omega) (show y1 ≤ 11 from by omega) (show 0 ≤ y2 from by omega) (show y2 ≤ 11 from by omega) (show 1 ≤ a 90 3 from by omega)
      ·
        exact hc70 y1 y2 a (show (((((12 - y1) * 15) + 0) + ((12 - y2) * 1)) + 0).toNat ≤ n from by omega) hv hf (show 0 ≤ y1 from by omega) (show y1 ≤ 11 from by omega) (show 0 ≤ y2 from by omega) (show y2 ≤ 11 from by omega) (show 1 ≤ a 90 3 from by omega)
    ·
      have h1825_ : jxw (y1 + 1) = y1 + 1 := jxw_id (by omega) (by omega)
      exact ih2 (jxw (y1 + 1)) a (show (((12 - (jxw (y1 + 1))) * 15) + 14).toNat < n from by omega) hv hf (show 0 ≤ jxw (y1 + 1) from by omega) (show jxw (y1 + 1) ≤ 12 from by omega)
  have hc24 : ∀ (y1 : Int) (a : Nat → Nat → Int), (((12 - y1) * 15) + 14).toNat ≤ n → iv a → jfr jW_X5_linkSeats a0 a → 0 ≤ y1 → y1 ≤ 11 → 1 ≤ a 90 3 → jt (jxX E d 84 24 [some (.inr (.inr (.inl 90))), some (.inl y1), none] [] (jxSH, a, b0)) (jQ_X5_linkSeats a0 b0) := by
    intro y1 a hm hv hf hi0 hi1 hi2
    refine jt_eq (bq_X5_linkSeats_24 E d y1 a b0) ?_
    have h1826_ := iv_get hv (k := 90) (j := 3) (l := 0) (u := 12) rfl
    have h1827_ : a 90 3 = a0 90 3 := hf 90 3 rfl
    have h1828_ := iv_get hv0 (k := 90) (j := 3) (l := 0) (u := 12) rfl
    exact hc26 y1 0 a (show (((((12 - y1) * 15) + 0) + ((12 - 0) * 1)) + 0).toNat ≤ n from by omega) hv hf (show 0 ≤ y1 from by omega) (show y1 ≤ 11 from by omega) (show 0 ≤ 0 from by omega) (show 0 ≤ 12 from by omega) (show 1 ≤ a 90 3 from by omega)
  have hc2 : ∀ (y1 : Int) (a : Nat → Nat → Int), (((12 - y1) * 15) + 14).toNat ≤ n → iv a → jfr jW_X5_linkSeats a0 a → 0 ≤ y1 → y1 ≤ 12 → jt (jxX E d 84 2 [some (.inr (.inr (.inl 90))), some (.inl y1), none] [] (jxSH, a, b0)) (jQ_X5_linkSeats a0 b0) := by
    intro y1 a hm hv hf hi0 hi1
    refine jt_eq (bq_X5_linkSeats_2 E d y1 a b0) ?_
    have h1829_ := iv_get hv (k := 90) (j := 3) (l := 0) (u := 12) rfl
    have h1830_ : a 90 3 = a0 90 3 := hf 90 3 rfl
    have h1831_ := iv_get hv0 (k := 90) (j := 3) (l := 0) (u := 12) rfl
    refine jt_ite (fun c1832_ => ?_) (fun c1832_ => ?_)
    ·
      refine jt_grd (by omega) ?_
      refine jt_grd (by omega) ?_
      have hv1833_ : iv (jxu a 92 (y1.toNat) 0) := iv_putf hv rfl
      have hv1834_ : iv (jxu (jxu a 92 (y1.toNat) 0) 93 (y1.toNat) 0) := iv_putf hv1833_ rfl
      have hf1835_ : jfr jW_X5_linkSeats a0 (jxu a 92 (y1.toNat) 0) := jfr_put hf rfl
      have hf1836_ : jfr jW_X5_linkSeats a0 (jxu (jxu a 92 (y1.toNat) 0) 93 (y1.toNat) 0) := jfr_put hf1835_ rfl
      exact hc24 y1 (jxu (jxu a 92 (y1.toNat) 0) 93 (y1.toNat) 0) (show (((12 - y1) * 15) + 14).toNat ≤ n from by omega) hv1834_ hf1836_ (show 0 ≤ y1 from by omega) (show y1 ≤ 11 from by omega) (show 1 ≤ a 90 3 from by omega)
    ·
      exact jt_rV ⟨hv, hf, rfl⟩
  exact ⟨hc130, hc70, hc118, hc85, hc26, hc24, hc2⟩
theorem sp_X5_linkSeats (E : jxE) (d : Nat) (hd : Nat.ble 3 d = true) (a0 b0 : Nat → Nat → Int) (hv0 : iv a0) : jt (jxC E d 84 [.inr (.inr (.inl 90))] (jxSH, a0, b0)) (jQ_X5_linkSeats a0 b0) := by
  obtain ⟨d, rfl⟩ := jd_succ hd
  refine jt_eq (bq_X5_linkSeats E d a0 b0) ?_
  exact (cp_X5_linkSeats_2 E d hd a0 b0 hv0 _).2.2.2.2.2.2 0 a0 (Nat.le_refl _) hv0 (jfr_rf _ _) (show 0 ≤ 0 from by omega) (show 0 ≤ 12 from by omega)
def jW_X5_seatOpenOffers : List (Nat × Nat) := [(90, 3), (91, 9999)]
abbrev jQ_X5_seatOpenOffers (a0 b0 : Nat → Nat → Int) : List jxV → (Nat → Nat → Int) → (Nat → Nat → Int) → Prop := rV (fun a b => (iv a) ∧ (jfr jW_X5_seatOpenOffers a0 a) ∧ (b0 = b) ∧ ((a0 83 6 = 0 → a 90 3 = 0)))
theorem cp_X5_seatOpenOffers_7 (E : jxE) (d : Nat) (hd : Nat.ble 3 (d + 1) = true) (a0 b0 : Nat → Nat → Int) (hv0 : iv a0) : ∀ n : Nat, (∀ (y1 : Int) (a : Nat → Nat → Int), (((20 - y1) * 1) + 0).toNat ≤ n → iv a → jfr jW_X5_seatOpenOffers a0 a → 0 ≤ y1 → y1 ≤ 19 → 1 ≤ a0 83 6 → jt (jxX E d 83 55 [some (.inr (.inr (.inl 90))), some (.inl y1)] [] (jxSH, a, b0)) (jQ_X5_seatOpenOffers a0 b0)) ∧ (∀ (y1 : Int) (a : Nat → Nat → Int), (((20 - y1) * 1) + 0).toNat ≤ n → iv a → jfr jW_X5_seatOpenOffers a0 a → 0 ≤ y1 → y1 ≤ 19 → a 90 3 ≤ 11 → 1 ≤ a0 83 6 → jt (jxX E d 83 38 [some (.inr (.inr (.inl 90))), some (.inl y1)] [] (jxSH, a, b0)) (jQ_X5_seatOpenOffers a0 b0)) ∧ (∀ (y1 : Int) (a : Nat → Nat → Int), (((20 - y1) * 1) + 0).toNat ≤ n → iv a → jfr jW_X5_seatOpenOffers a0 a → 0 ≤ y1 → y1 ≤ 20 → (a0 83 6 = 0 → a 90 3 = 0) → jt (jxX E d 83 7 [some (.inr (.inr (.inl 90))), some (.inl y1)] [] (jxSH, a, b0)) (jQ_X5_seatOpenOffers a0 b0)) := by
  refine jx_ind fun n ih => ?_
  have ih55 : ∀ (y1 : Int) (a : Nat → Nat → Int), (((20 - y1) * 1) + 0).toNat < n → iv a → jfr jW_X5_seatOpenOffers a0 a → 0 ≤ y1 → y1 ≤ 19 → 1 ≤ a0 83 6 → jt (jxX E d 83 55 [some (.inr (.inr (.inl 90))), some (.inl y1)] [] (jxSH, a, b0)) (jQ_X5_seatOpenOffers a0 b0) := fun y1 a hlt i0 i1 i2 i3 i4 => (ih _ hlt).1 y1 a (Nat.le_refl _) i0 i1 i2 i3 i4
  have ih38 : ∀ (y1 : Int) (a : Nat → Nat → Int), (((20 - y1) * 1) + 0).toNat < n → iv a → jfr jW_X5_seatOpenOffers a0 a → 0 ≤ y1 → y1 ≤ 19 → a 90 3 ≤ 11 → 1 ≤ a0 83 6 → jt (jxX E d 83 38 [some (.inr (.inr (.inl 90))), some (.inl y1)] [] (jxSH, a, b0)) (jQ_X5_seatOpenOffers a0 b0) := fun y1 a hlt i0 i1 i2 i3 i4 i5 => (ih _ hlt).2.1 y1 a (Nat.le_refl _) i0 i1 i2 i3 i4 i5
  have ih7 : ∀ (y1 : Int) (a : Nat → Nat → Int), (((20 - y1) * 1) + 0).toNat < n → iv a → jfr jW_X5_seatOpenOffers a0 a → 0 ≤ y1 → y1 ≤ 20 → (a0 83 6 = 0 → a 90 3 = 0) → jt (jxX E d 83 7 [some (.inr (.inr (.inl 90))), some (.inl y1)] [] (jxSH, a, b0)) (jQ_X5_seatOpenOffers a0 b0) := fun y1 a hlt i0 i1 i2 i3 i4 => (ih _ hlt).2.2 y1 a (Nat.le_refl _) i0 i1 i2 i3 i4
  have hc55 : ∀ (y1 : Int) (a : Nat → Nat → Int), (((20 - y1) * 1) + 0).toNat ≤ n → iv a → jfr jW_X5_seatOpenOffers a0 a → 0 ≤ y1 → y1 ≤ 19 → 1 ≤ a0 83 6 → jt (jxX E d 83 55 [some (.inr (.inr (.inl 90))), some (.inl y1)] [] (jxSH, a, b0)) (jQ_X5_seatOpenOffers a0 b0) := by
    intro y1 a hm hv hf hi0 hi1 hi2
    refine jt_eq (bq_X5_seatOpenOffers_55 E d y1 a b0) ?_
    have h1837_ := iv_get hv0 (k := 83) (j := 6) (l := 0) (u := 20) rfl
    have h1838_ : jxw (y1 + 1) = y1 + 1 := jxw_id (by omega) (by omega)
    have h1839_ := iv_get hv (k := 90) (j := 3) (l := 0) (u := 12) rfl
    exact ih7 (jxw (y1 + 1)) a (show (((20 - (jxw (y1 + 1))) * 1) + 0).toNat < n from by omega) hv hf (show 0 ≤ jxw (y1 + 1) from by omega) (show jxw (y1 + 1) ≤ 20 from by omega) (show (a0 83 6 = 0 → a 90 3 = 0) from by omega)
  have hc38 : ∀ (y1 : Int) (a : Nat → Nat → Int), (((20 - y1) * 1) + 0).toNat ≤ n → iv a → jfr jW_X5_seatOpenOffers a0 a → 0 ≤ y1 → y1 ≤ 19 → a 90 3 ≤ 11 → 1 ≤ a0 83 6 → jt (jxX E d 83 38 [some (.inr (.inr (.inl 90))), some (.inl y1)] [] (jxSH, a, b0)) (jQ_X5_seatOpenOffers a0 b0) := by
    intro y1 a hm hv hf hi0 hi1 hi2 hi3
    refine jt_eq (bq_X5_seatOpenOffers_38 E d y1 a b0) ?_
    have h1840_ := iv_get hv (k := 90) (j := 3) (l := 0) (u := 12) rfl
    have h1841_ := iv_get hv0 (k := 83) (j := 6) (l := 0) (u := 20) rfl
    refine jt_grd (by omega) ?_
    have h1843_ : jxw ((a 90 3) + 1) = (a 90 3) + 1 := jxw_id (by omega) (by omega)
    have hv1842_ : iv (jxu a 90 3 (jxw ((a 90 3) + 1))) := iv_put hv (l := 0) (u := 12) rfl (by omega) (by omega)
    have hv1844_ : iv (jxu (jxu a 90 3 (jxw ((a 90 3) + 1))) 91 ((a 90 3).toNat) y1) := iv_putf hv1842_ rfl
    have hf1845_ : jfr jW_X5_seatOpenOffers a0 (jxu a 90 3 (jxw ((a 90 3) + 1))) := jfr_put hf rfl
    have hf1846_ : jfr jW_X5_seatOpenOffers a0 (jxu (jxu a 90 3 (jxw ((a 90 3) + 1))) 91 ((a 90 3).toNat) y1) := jfr_put hf1845_ rfl
    exact hc55 y1 (jxu (jxu a 90 3 (jxw ((a 90 3) + 1))) 91 ((a 90 3).toNat) y1) (show (((20 - y1) * 1) + 0).toNat ≤ n from by omega) hv1844_ hf1846_ (show 0 ≤ y1 from by omega) (show y1 ≤ 19 from by omega) (show 1 ≤ a0 83 6 from by omega)
  have hc7 : ∀ (y1 : Int) (a : Nat → Nat → Int), (((20 - y1) * 1) + 0).toNat ≤ n → iv a → jfr jW_X5_seatOpenOffers a0 a → 0 ≤ y1 → y1 ≤ 20 → (a0 83 6 = 0 → a 90 3 = 0) → jt (jxX E d 83 7 [some (.inr (.inr (.inl 90))), some (.inl y1)] [] (jxSH, a, b0)) (jQ_X5_seatOpenOffers a0 b0) := by
    intro y1 a hm hv hf hi0 hi1 hi2
    refine jt_eq (bq_X5_seatOpenOffers_7 E d y1 a b0) ?_
    have h1847_ := iv_get hv0 (k := 83) (j := 6) (l := 0) (u := 20) rfl
    have h1848_ := iv_get hv (k := 90) (j := 3) (l := 0) (u := 12) rfl
    refine jt_eI (eq_X4_size E d (jd_le hd rfl) a b0) ?_
    have h1849_ := f_X4_size_eq a b0
    have h1850_ := iv_get hv (k := 83) (j := 6) (l := 0) (u := 20) rfl
    have h1851_ : a 83 6 = a0 83 6 := hf 83 6 rfl
    refine jt_ite (fun c1852_ => ?_) (fun c1852_ => ?_)
    ·
      refine jt_ite (fun c1853_ => ?_) (fun c1853_ => ?_)
      ·
        refine jt_eI (eq_X4_isOpen E d (jd_le hd rfl) y1 a b0) ?_
        have h1854_ := f_X4_isOpen_eq a b0 y1
        have h1855_ := f_X4_has_eq a b0 y1
        have h1856_ : a 87 (y1.toNat) = a0 87 (y1.toNat) := hf 87 (y1.toNat) rfl
        refine jt_ite (fun c1857_ => ?_) (fun c1857_ => ?_)
        ·
          exact hc55 y1 a (show (((20 - y1) * 1) + 0).toNat ≤ n from by omega) hv hf (show 0 ≤ y1 from by omega) (show y1 ≤ 19 from by omega) (show 1 ≤ a0 83 6 from by omega)
        ·
          exact hc38 y1 a (show (((20 - y1) * 1) + 0).toNat ≤ n from by omega) hv hf (show 0 ≤ y1 from by omega) (show y1 ≤ 19 from by omega) (show a 90 3 ≤ 11 from by omega) (show 1 ≤ a0 83 6 from by omega)
      ·
        exact jt_rV ⟨hv, hf, rfl, (show (a0 83 6 = 0 → a 90 3 = 0) from by omega)⟩
    ·
      exact jt_rV ⟨hv, hf, rfl, (show (a0 83 6 = 0 → a 90 3 = 0) from by omega)⟩
  exact ⟨hc55, hc38, hc7⟩
theorem sp_X5_seatOpenOffers (E : jxE) (d : Nat) (hd : Nat.ble 3 d = true) (a0 b0 : Nat → Nat → Int) (hv0 : iv a0) : jt (jxC E d 83 [.inr (.inr (.inl 90))] (jxSH, a0, b0)) (jQ_X5_seatOpenOffers a0 b0) := by
  obtain ⟨d, rfl⟩ := jd_succ hd
  refine jt_eq (bq_X5_seatOpenOffers E d a0 b0) ?_
  have hv1858_ : iv (jxu a0 90 3 0) := iv_put hv0 (l := 0) (u := 12) rfl (by omega) (by omega)
  have hf1859_ : jfr jW_X5_seatOpenOffers a0 (jxu a0 90 3 0) := jfr_put (jfr_rf _ _) rfl
  have h1860_ := iv_get hv0 (k := 83) (j := 6) (l := 0) (u := 20) rfl
  exact (cp_X5_seatOpenOffers_7 E d hd a0 b0 hv0 _).2.2 0 (jxu a0 90 3 0) (Nat.le_refl _) hv1858_ hf1859_ (show 0 ≤ 0 from by omega) (show 0 ≤ 20 from by omega) (show (a0 83 6 = 0 → 0 = 0) from by omega)
def jW_X5_keepRing : List (Nat × Nat) := [(90, 12), (97, 9999), (104, 9999)]
abbrev jQ_X5_keepRing (x1 : Int) (a0 b0 : Nat → Nat → Int) : List jxV → (Nat → Nat → Int) → (Nat → Nat → Int) → Prop := rI (fun r a b => (iv a) ∧ (jfr jW_X5_keepRing a0 a) ∧ (b0 = b) ∧ (0 ≤ r) ∧ (r ≤ 4095))
theorem cp_X5_keepRing_88 (E : jxE) (d : Nat) (hd : Nat.ble 1 (d + 1) = true) (x1 : Int) (a0 b0 : Nat → Nat → Int) (hv0 : iv a0) (hp0 : 1 ≤ x1) (hp1 : x1 ≤ 5) : ∀ (y2 : Int) (a : Nat → Nat → Int), iv a → jfr jW_X5_keepRing a0 a → 0 ≤ y2 → y2 ≤ 4095 → 1 ≤ a 90 12 → jt (jxX E d 96 88 [none, none, some (.inl y2), none] [] (jxSH, a, b0)) (jQ_X5_keepRing x1 a0 b0) := by
  intro y2 a hv hf hi0 hi1 hi2
  refine jt_eq (bq_X5_keepRing_88 E d y2 a b0) ?_
  have h1861_ := iv_get hv (k := 90) (j := 12) (l := 0) (u := 6) rfl
  exact jt_rI ⟨hv, hf, rfl, (show 0 ≤ y2 from by omega), (show y2 ≤ 4095 from by omega)⟩
theorem cp_X5_keepRing_62 (E : jxE) (d : Nat) (hd : Nat.ble 1 (d + 1) = true) (x1 : Int) (a0 b0 : Nat → Nat → Int) (hv0 : iv a0) (hp0 : 1 ≤ x1) (hp1 : x1 ≤ 5) : ∀ (y1 y2 : Int) (a : Nat → Nat → Int), iv a → jfr jW_X5_keepRing a0 a → 1 ≤ y1 → y1 ≤ 5 → 0 ≤ y2 → y2 ≤ 4095 → jt (jxX E d 96 62 [some (.inr (.inr (.inl 90))), some (.inl y1), some (.inl y2), none] [] (jxSH, a, b0)) (jQ_X5_keepRing x1 a0 b0) := by
  intro y1 y2 a hv hf hi0 hi1 hi2 hi3
  refine jt_eq (bq_X5_keepRing_62 E d y1 y2 a b0) ?_
  have h1862_ := iv_get hv (k := 90) (j := 12) (l := 0) (u := 6) rfl
  refine jt_ite (fun c1863_ => ?_) (fun c1863_ => ?_)
  ·
    refine jt_grd (by omega) ?_
    have h1865_ : jxw ((a 90 12) + 1) = (a 90 12) + 1 := jxw_id (by omega) (by omega)
    have hv1864_ : iv (jxu a 90 12 (jxw ((a 90 12) + 1))) := iv_put hv (l := 0) (u := 6) rfl (by omega) (by omega)
    have hv1866_ : iv (jxu (jxu a 90 12 (jxw ((a 90 12) + 1))) 104 ((a 90 12).toNat) y1) := iv_put hv1864_ (l := 0) (u := 5) rfl (by omega) (by omega)
    have hf1867_ : jfr jW_X5_keepRing a0 (jxu a 90 12 (jxw ((a 90 12) + 1))) := jfr_put hf rfl
    have hf1868_ : jfr jW_X5_keepRing a0 (jxu (jxu a 90 12 (jxw ((a 90 12) + 1))) 104 ((a 90 12).toNat) y1) := jfr_put hf1867_ rfl
    exact cp_X5_keepRing_88 E d hd x1 a0 b0 hv0 hp0 hp1 y2 (jxu (jxu a 90 12 (jxw ((a 90 12) + 1))) 104 ((a 90 12).toNat) y1) hv1866_ hf1868_ (show 0 ≤ y2 from by omega) (show y2 ≤ 4095 from by omega) (show 1 ≤ jxw ((a 90 12) + 1) from by omega)
  ·
    exact cp_X5_keepRing_88 E d hd x1 a0 b0 hv0 hp0 hp1 y2 a hv hf (show 0 ≤ y2 from by omega) (show y2 ≤ 4095 from by omega) (show 1 ≤ a 90 12 from by omega)
theorem cp_X5_keepRing_4 (E : jxE) (d : Nat) (hd : Nat.ble 1 (d + 1) = true) (x1 : Int) (a0 b0 : Nat → Nat → Int) (hv0 : iv a0) (hp0 : 1 ≤ x1) (hp1 : x1 ≤ 5) : ∀ n : Nat, (∀ (y1 y2 y3 : Int) (a : Nat → Nat → Int), (((5 - y3) * 1) + 0).toNat ≤ n → iv a → jfr jW_X5_keepRing a0 a → 1 ≤ y1 → y1 ≤ 5 → 0 ≤ y2 → y2 ≤ 4095 → 0 ≤ y3 → y3 ≤ 4 → jt (jxX E d 96 56 [some (.inr (.inr (.inl 90))), some (.inl y1), some (.inl y2), some (.inl y3)] [] (jxSH, a, b0)) (jQ_X5_keepRing x1 a0 b0)) ∧ (∀ (y1 y2 y3 : Int) (a : Nat → Nat → Int), (((5 - y3) * 1) + 0).toNat ≤ n → iv a → jfr jW_X5_keepRing a0 a → 1 ≤ y1 → y1 ≤ 5 → 0 ≤ y2 → y2 ≤ 4095 → 0 ≤ y3 → y3 ≤ 4 → jt (jxX E d 96 25 [some (.inr (.inr (.inl 90))), some (.inl y1), some (.inl y2), some (.inl y3)] [] (jxSH, a, b0)) (jQ_X5_keepRing x1 a0 b0)) ∧ (∀ (y1 y2 y3 : Int) (a : Nat → Nat → Int), (((5 - y3) * 1) + 0).toNat ≤ n → iv a → jfr jW_X5_keepRing a0 a → 1 ≤ y1 → y1 ≤ 5 → 0 ≤ y2 → y2 ≤ 4095 → 0 ≤ y3 → y3 ≤ 5 → jt (jxX E d 96 4 [some (.inr (.inr (.inl 90))), some (.inl y1), some (.inl y2), some (.inl y3)] [] (jxSH, a, b0)) (jQ_X5_keepRing x1 a0 b0)) := by
  refine jx_ind fun n ih => ?_
  have ih56 : ∀ (y1 y2 y3 : Int) (a : Nat → Nat → Int), (((5 - y3) * 1) + 0).toNat < n → iv a → jfr jW_X5_keepRing a0 a → 1 ≤ y1 → y1 ≤ 5 → 0 ≤ y2 → y2 ≤ 4095 → 0 ≤ y3 → y3 ≤ 4 → jt (jxX E d 96 56 [some (.inr (.inr (.inl 90))), some (.inl y1), some (.inl y2), some (.inl y3)] [] (jxSH, a, b0)) (jQ_X5_keepRing x1 a0 b0) := fun y1 y2 y3 a hlt i0 i1 i2 i3 i4 i5 i6 i7 => (ih _ hlt).1 y1 y2 y3 a (Nat.le_refl _) i0 i1 i2 i3 i4 i5 i6 i7
  have ih25 : ∀ (y1 y2 y3 : Int) (a : Nat → Nat → Int), (((5 - y3) * 1) + 0).toNat < n → iv a → jfr jW_X5_keepRing a0 a → 1 ≤ y1 → y1 ≤ 5 → 0 ≤ y2 → y2 ≤ 4095 → 0 ≤ y3 → y3 ≤ 4 → jt (jxX E d 96 25 [some (.inr (.inr (.inl 90))), some (.inl y1), some (.inl y2), some (.inl y3)] [] (jxSH, a, b0)) (jQ_X5_keepRing x1 a0 b0) := fun y1 y2 y3 a hlt i0 i1 i2 i3 i4 i5 i6 i7 => (ih _ hlt).2.1 y1 y2 y3 a (Nat.le_refl _) i0 i1 i2 i3 i4 i5 i6 i7
  have ih4 : ∀ (y1 y2 y3 : Int) (a : Nat → Nat → Int), (((5 - y3) * 1) + 0).toNat < n → iv a → jfr jW_X5_keepRing a0 a → 1 ≤ y1 → y1 ≤ 5 → 0 ≤ y2 → y2 ≤ 4095 → 0 ≤ y3 → y3 ≤ 5 → jt (jxX E d 96 4 [some (.inr (.inr (.inl 90))), some (.inl y1), some (.inl y2), some (.inl y3)] [] (jxSH, a, b0)) (jQ_X5_keepRing x1 a0 b0) := fun y1 y2 y3 a hlt i0 i1 i2 i3 i4 i5 i6 i7 => (ih _ hlt).2.2 y1 y2 y3 a (Nat.le_refl _) i0 i1 i2 i3 i4 i5 i6 i7
  have hc56 : ∀ (y1 y2 y3 : Int) (a : Nat → Nat → Int), (((5 - y3) * 1) + 0).toNat ≤ n → iv a → jfr jW_X5_keepRing a0 a → 1 ≤ y1 → y1 ≤ 5 → 0 ≤ y2 → y2 ≤ 4095 → 0 ≤ y3 → y3 ≤ 4 → jt (jxX E d 96 56 [some (.inr (.inr (.inl 90))), some (.inl y1), some (.inl y2), some (.inl y3)] [] (jxSH, a, b0)) (jQ_X5_keepRing x1 a0 b0) := by
    intro y1 y2 y3 a hm hv hf hi0 hi1 hi2 hi3 hi4 hi5
    refine jt_eq (bq_X5_keepRing_56 E d y1 y2 y3 a b0) ?_
    have h1869_ : jxw (y3 + 1) = y3 + 1 := jxw_id (by omega) (by omega)
    exact ih4 y1 y2 (jxw (y3 + 1)) a (show (((5 - (jxw (y3 + 1))) * 1) + 0).toNat < n from by omega) hv hf (show 1 ≤ y1 from by omega) (show y1 ≤ 5 from by omega) (show 0 ≤ y2 from by omega) (show y2 ≤ 4095 from by omega) (show 0 ≤ jxw (y3 + 1) from by omega) (show jxw (y3 + 1) ≤ 5 from by omega)
  have hc25 : ∀ (y1 y2 y3 : Int) (a : Nat → Nat → Int), (((5 - y3) * 1) + 0).toNat ≤ n → iv a → jfr jW_X5_keepRing a0 a → 1 ≤ y1 → y1 ≤ 5 → 0 ≤ y2 → y2 ≤ 4095 → 0 ≤ y3 → y3 ≤ 4 → jt (jxX E d 96 25 [some (.inr (.inr (.inl 90))), some (.inl y1), some (.inl y2), some (.inl y3)] [] (jxSH, a, b0)) (jQ_X5_keepRing x1 a0 b0) := by
    intro y1 y2 y3 a hm hv hf hi0 hi1 hi2 hi3 hi4 hi5
    refine jt_eq (bq_X5_keepRing_25 E d y1 y2 y3 a b0) ?_
    have h1870_ := iv_get hv (k := 90) (j := 12) (l := 0) (u := 6) rfl
    refine jt_ite (fun c1871_ => ?_) (fun c1871_ => ?_)
    ·
      refine jt_grd (by omega) ?_
      refine jt_grd (by omega) ?_
      have h1872_ := iv_get hv (k := 96) (j := y3.toNat) (l := 0) (u := 11) rfl
      have h1873_ : a 96 (y3.toNat) = a0 96 (y3.toNat) := hf 96 (y3.toNat) rfl
      have h1874_ := iv_get hv0 (k := 96) (j := y3.toNat) (l := 0) (u := 11) rfl
      refine jt_grd (by omega) ?_
      refine jt_grd (by omega) ?_
      refine jt_grd (by omega) ?_
      have hv1875_ : iv (jxu a 97 (((a 90 12).toNat) * 5 + (y3.toNat)) (a 91 ((a 96 (y3.toNat)).toNat))) := iv_putf hv rfl
      have hf1876_ : jfr jW_X5_keepRing a0 (jxu a 97 (((a 90 12).toNat) * 5 + (y3.toNat)) (a 91 ((a 96 (y3.toNat)).toNat))) := jfr_put hf rfl
      exact hc56 y1 y2 y3 (jxu a 97 (((a 90 12).toNat) * 5 + (y3.toNat)) (a 91 ((a 96 (y3.toNat)).toNat))) (show (((5 - y3) * 1) + 0).toNat ≤ n from by omega) hv1875_ hf1876_ (show 1 ≤ y1 from by omega) (show y1 ≤ 5 from by omega) (show 0 ≤ y2 from by omega) (show y2 ≤ 4095 from by omega) (show 0 ≤ y3 from by omega) (show y3 ≤ 4 from by omega)
    ·
      exact hc56 y1 y2 y3 a (show (((5 - y3) * 1) + 0).toNat ≤ n from by omega) hv hf (show 1 ≤ y1 from by omega) (show y1 ≤ 5 from by omega) (show 0 ≤ y2 from by omega) (show y2 ≤ 4095 from by omega) (show 0 ≤ y3 from by omega) (show y3 ≤ 4 from by omega)
  have hc4 : ∀ (y1 y2 y3 : Int) (a : Nat → Nat → Int), (((5 - y3) * 1) + 0).toNat ≤ n → iv a → jfr jW_X5_keepRing a0 a → 1 ≤ y1 → y1 ≤ 5 → 0 ≤ y2 → y2 ≤ 4095 → 0 ≤ y3 → y3 ≤ 5 → jt (jxX E d 96 4 [some (.inr (.inr (.inl 90))), some (.inl y1), some (.inl y2), some (.inl y3)] [] (jxSH, a, b0)) (jQ_X5_keepRing x1 a0 b0) := by
    intro y1 y2 y3 a hm hv hf hi0 hi1 hi2 hi3 hi4 hi5
    refine jt_eq (bq_X5_keepRing_4 E d y1 y2 y3 a b0) ?_
    refine jt_ite (fun c1877_ => ?_) (fun c1877_ => ?_)
    ·
      refine jt_ite (fun c1878_ => ?_) (fun c1878_ => ?_)
      ·
        refine jt_grd (by omega) ?_
        have h1879_ := iv_get hv (k := 96) (j := y3.toNat) (l := 0) (u := 11) rfl
        have h1880_ : a 96 (y3.toNat) = a0 96 (y3.toNat) := hf 96 (y3.toNat) rfl
        have h1881_ := iv_get hv0 (k := 96) (j := y3.toNat) (l := 0) (u := 11) rfl
        have h1882_ := jxshl1_b (a 96 (y3.toNat))
        have h1883_ := jxor_b y2 (jxshl 1 (a 96 (y3.toNat)))
        exact hc25 y1 (jxor y2 (jxshl 1 (a 96 (y3.toNat)))) y3 a (show (((5 - y3) * 1) + 0).toNat ≤ n from by omega) hv hf (show 1 ≤ y1 from by omega) (show y1 ≤ 5 from by omega) (show 0 ≤ jxor y2 (jxshl 1 (a 96 (y3.toNat))) from by omega) (show jxor y2 (jxshl 1 (a 96 (y3.toNat))) ≤ 4095 from by omega) (show 0 ≤ y3 from by omega) (show y3 ≤ 4 from by omega)
      ·
        exact cp_X5_keepRing_62 E d hd x1 a0 b0 hv0 hp0 hp1 y1 y2 a hv hf (show 1 ≤ y1 from by omega) (show y1 ≤ 5 from by omega) (show 0 ≤ y2 from by omega) (show y2 ≤ 4095 from by omega)
    ·
      exact cp_X5_keepRing_62 E d hd x1 a0 b0 hv0 hp0 hp1 y1 y2 a hv hf (show 1 ≤ y1 from by omega) (show y1 ≤ 5 from by omega) (show 0 ≤ y2 from by omega) (show y2 ≤ 4095 from by omega)
  exact ⟨hc56, hc25, hc4⟩
theorem sp_X5_keepRing (E : jxE) (d : Nat) (hd : Nat.ble 1 d = true) (x1 : Int) (a0 b0 : Nat → Nat → Int) (hv0 : iv a0) (hp0 : 1 ≤ x1) (hp1 : x1 ≤ 5) : jt (jxC E d 96 [.inr (.inr (.inl 90)), .inl x1] (jxSH, a0, b0)) (jQ_X5_keepRing x1 a0 b0) := by
  obtain ⟨d, rfl⟩ := jd_succ hd
  refine jt_eq (bq_X5_keepRing E d x1 a0 b0) ?_
  exact (cp_X5_keepRing_4 E d hd x1 a0 b0 hv0 hp0 hp1 _).2.2 x1 0 0 a0 (Nat.le_refl _) hv0 (jfr_rf _ _) (show 1 ≤ x1 from by omega) (show x1 ≤ 5 from by omega) (show 0 ≤ 0 from by omega) (show 0 ≤ 4095 from by omega) (show 0 ≤ 0 from by omega) (show 0 ≤ 5 from by omega)
abbrev jQ_X5_weigh (x1 : Int) (a0 b0 : Nat → Nat → Int) : List jxV → (Nat → Nat → Int) → (Nat → Nat → Int) → Prop := rI (fun r a b => (a0 = a) ∧ (b0 = b))
theorem cp_X5_weigh_29 (E : jxE) (d : Nat) (hd : Nat.ble 3 (d + 1) = true) (x1 : Int) (a0 b0 : Nat → Nat → Int) (hv0 : iv a0) (hp0 : 0 ≤ x1) (hp1 : x1 ≤ 4095) : ∀ n : Nat, (∀ (y2 y3 y4 y5 y6 : Int), ((y6 * 1) + 0).toNat ≤ n → 0 ≤ y2 → y2 ≤ 4095 → 0 ≤ y3 → y3 ≤ 4095 → 1 ≤ y6 → y6 ≤ 4095 → jt (jxX E d 91 79 [some (.inr (.inr (.inl 90))), none, some (.inl y2), some (.inl y3), some (.inl y4), some (.inl y5), some (.inl y6)] [] (jxSH, a0, b0)) (jQ_X5_weigh x1 a0 b0)) ∧ (∀ (y2 y3 y4 y5 y6 : Int), ((y6 * 1) + 0).toNat ≤ n → 0 ≤ y2 → y2 ≤ 4095 → 0 ≤ y3 → y3 ≤ 4095 → 0 ≤ y6 → y6 ≤ 4095 → jt (jxX E d 91 29 [some (.inr (.inr (.inl 90))), none, some (.inl y2), some (.inl y3), some (.inl y4), some (.inl y5), some (.inl y6)] [] (jxSH, a0, b0)) (jQ_X5_weigh x1 a0 b0)) := by
  refine jx_ind fun n ih => ?_
  have ih79 : ∀ (y2 y3 y4 y5 y6 : Int), ((y6 * 1) + 0).toNat < n → 0 ≤ y2 → y2 ≤ 4095 → 0 ≤ y3 → y3 ≤ 4095 → 1 ≤ y6 → y6 ≤ 4095 → jt (jxX E d 91 79 [some (.inr (.inr (.inl 90))), none, some (.inl y2), some (.inl y3), some (.inl y4), some (.inl y5), some (.inl y6)] [] (jxSH, a0, b0)) (jQ_X5_weigh x1 a0 b0) := fun y2 y3 y4 y5 y6 hlt i0 i1 i2 i3 i4 i5 => (ih _ hlt).1 y2 y3 y4 y5 y6 (Nat.le_refl _) i0 i1 i2 i3 i4 i5
  have ih29 : ∀ (y2 y3 y4 y5 y6 : Int), ((y6 * 1) + 0).toNat < n → 0 ≤ y2 → y2 ≤ 4095 → 0 ≤ y3 → y3 ≤ 4095 → 0 ≤ y6 → y6 ≤ 4095 → jt (jxX E d 91 29 [some (.inr (.inr (.inl 90))), none, some (.inl y2), some (.inl y3), some (.inl y4), some (.inl y5), some (.inl y6)] [] (jxSH, a0, b0)) (jQ_X5_weigh x1 a0 b0) := fun y2 y3 y4 y5 y6 hlt i0 i1 i2 i3 i4 i5 => (ih _ hlt).2 y2 y3 y4 y5 y6 (Nat.le_refl _) i0 i1 i2 i3 i4 i5
  have hc79 : ∀ (y2 y3 y4 y5 y6 : Int), ((y6 * 1) + 0).toNat ≤ n → 0 ≤ y2 → y2 ≤ 4095 → 0 ≤ y3 → y3 ≤ 4095 → 1 ≤ y6 → y6 ≤ 4095 → jt (jxX E d 91 79 [some (.inr (.inr (.inl 90))), none, some (.inl y2), some (.inl y3), some (.inl y4), some (.inl y5), some (.inl y6)] [] (jxSH, a0, b0)) (jQ_X5_weigh x1 a0 b0) := by
    intro y2 y3 y4 y5 y6 hm hi0 hi1 hi2 hi3 hi4 hi5
    refine jt_eq (bq_X5_weigh_79 E d y2 y3 y4 y5 y6 a0 b0) ?_
    have h1884_ : jxw (y6 - 1) = y6 - 1 := jxw_id (by omega) (by omega)
    have h1885_ := jxand_b (jxw (y6 - 1)) y3
    exact ih29 y2 y3 y4 y5 (jxand (jxw (y6 - 1)) y3) (show (((jxand (jxw (y6 - 1)) y3) * 1) + 0).toNat < n from by omega) (show 0 ≤ y2 from by omega) (show y2 ≤ 4095 from by omega) (show 0 ≤ y3 from by omega) (show y3 ≤ 4095 from by omega) (show 0 ≤ jxand (jxw (y6 - 1)) y3 from by omega) (show jxand (jxw (y6 - 1)) y3 ≤ 4095 from by omega)
  have hc29 : ∀ (y2 y3 y4 y5 y6 : Int), ((y6 * 1) + 0).toNat ≤ n → 0 ≤ y2 → y2 ≤ 4095 → 0 ≤ y3 → y3 ≤ 4095 → 0 ≤ y6 → y6 ≤ 4095 → jt (jxX E d 91 29 [some (.inr (.inr (.inl 90))), none, some (.inl y2), some (.inl y3), some (.inl y4), some (.inl y5), some (.inl y6)] [] (jxSH, a0, b0)) (jQ_X5_weigh x1 a0 b0) := by
    intro y2 y3 y4 y5 y6 hm hi0 hi1 hi2 hi3 hi4 hi5
    refine jt_eq (bq_X5_weigh_29 E d y2 y3 y4 y5 y6 a0 b0) ?_
    refine jt_ite (fun c1886_ => ?_) (fun c1886_ => ?_)
    ·
      refine jt_ite (fun c1887_ => ?_) (fun c1887_ => ?_)
      ·
        refine jt_eI (eq_X5_isRingSet E d (jd_le hd rfl) (jxor y2 y6) a0 b0) ?_
        have h1888_ := jxor_b y2 y6
        have h1889_ := f_X5_isRingSet_bool a0 b0 (jxor y2 y6)
        refine jt_ite (fun c1890_ => ?_) (fun c1890_ => ?_)
        ·
          exact hc79 y2 y3 y4 y5 y6 (show ((y6 * 1) + 0).toNat ≤ n from by omega) (show 0 ≤ y2 from by omega) (show y2 ≤ 4095 from by omega) (show 0 ≤ y3 from by omega) (show y3 ≤ 4095 from by omega) (show 1 ≤ y6 from by omega) (show y6 ≤ 4095 from by omega)
        ·
          have h1891_ := jxxor_b y3 y6
          refine jt_grd (by omega) ?_
          refine jt_eI (eq_J6_bitCount_0f7a4 E d (jd_le hd rfl) y6 a0 b0) ?_
          refine jt_eI (eq_X5_worth E d (jd_le hd rfl) (jxw (1 + (f_J6_bitCount_0f7a4 a0 b0 y6))) a0 b0) ?_
          refine jt_eI (eq_J9_max_7cf53 E d (jd_le hd rfl) y5 (jxw ((a0 95 ((jxxor y3 y6).toNat)) + (f_X5_worth a0 b0 (jxw (1 + (f_J6_bitCount_0f7a4 a0 b0 y6)))))) a0 b0) ?_
          exact hc79 y2 y3 y4 (f_J9_max_7cf53 a0 b0 y5 (jxw ((a0 95 ((jxxor y3 y6).toNat)) + (f_X5_worth a0 b0 (jxw (1 + (f_J6_bitCount_0f7a4 a0 b0 y6))))))) y6 (show ((y6 * 1) + 0).toNat ≤ n from by omega) (show 0 ≤ y2 from by omega) (show y2 ≤ 4095 from by omega) (show 0 ≤ y3 from by omega) (show y3 ≤ 4095 from by omega) (show 1 ≤ y6 from by omega) (show y6 ≤ 4095 from by omega)
      ·
        exact jt_rI ⟨rfl, rfl⟩
    ·
      exact jt_rI ⟨rfl, rfl⟩
  exact ⟨hc79, hc29⟩
theorem cp_X5_weigh_26 (E : jxE) (d : Nat) (hd : Nat.ble 3 (d + 1) = true) (x1 : Int) (a0 b0 : Nat → Nat → Int) (hv0 : iv a0) (hp0 : 0 ≤ x1) (hp1 : x1 ≤ 4095) : ∀ (y2 y3 y4 y5 : Int), 0 ≤ y2 → y2 ≤ 4095 → 0 ≤ y3 → y3 ≤ 4095 → jt (jxX E d 91 26 [some (.inr (.inr (.inl 90))), none, some (.inl y2), some (.inl y3), some (.inl y4), some (.inl y5), none] [] (jxSH, a0, b0)) (jQ_X5_weigh x1 a0 b0) := by
  intro y2 y3 y4 y5 hi0 hi1 hi2 hi3
  refine jt_eq (bq_X5_weigh_26 E d y2 y3 y4 y5 a0 b0) ?_
  exact (cp_X5_weigh_29 E d hd x1 a0 b0 hv0 hp0 hp1 _).2 y2 y3 y4 y5 y3 (Nat.le_refl _) (show 0 ≤ y2 from by omega) (show y2 ≤ 4095 from by omega) (show 0 ≤ y3 from by omega) (show y3 ≤ 4095 from by omega) (show 0 ≤ y3 from by omega) (show y3 ≤ 4095 from by omega)
theorem sp_X5_weigh (E : jxE) (d : Nat) (hd : Nat.ble 3 d = true) (x1 : Int) (a0 b0 : Nat → Nat → Int) (hv0 : iv a0) (hp0 : 0 ≤ x1) (hp1 : x1 ≤ 4095) : jt (jxC E d 91 [.inr (.inr (.inl 90)), .inl x1] (jxSH, a0, b0)) (jQ_X5_weigh x1 a0 b0) := by
  obtain ⟨d, rfl⟩ := jd_succ hd
  refine jt_eq (bq_X5_weigh E d x1 a0 b0) ?_
  refine jt_eI (eq_J6_bitCount_0f7a4 E d (jd_le hd rfl) x1 a0 b0) ?_
  refine jt_eI (eq_X5_mostWorth E d (jd_le hd rfl) (f_J6_bitCount_0f7a4 a0 b0 x1) a0 b0) ?_
  have h1892_ : jxw (-x1) = -x1 := jxw_id (by omega) (by omega)
  have h1893_ := jxand_b x1 (jxw (-x1))
  have h1894_ := jxxor_b x1 (jxand x1 (jxw (-x1)))
  refine jt_grd (by omega) ?_
  exact cp_X5_weigh_26 E d hd x1 a0 b0 hv0 hp0 hp1 (jxand x1 (jxw (-x1))) (jxxor x1 (jxand x1 (jxw (-x1)))) (f_X5_mostWorth a0 b0 (f_J6_bitCount_0f7a4 a0 b0 x1)) (a0 95 ((jxxor x1 (jxand x1 (jxw (-x1)))).toNat)) (show 0 ≤ jxand x1 (jxw (-x1)) from by omega) (show jxand x1 (jxw (-x1)) ≤ 4095 from by omega) (show 0 ≤ jxxor x1 (jxand x1 (jxw (-x1))) from by omega) (show jxxor x1 (jxand x1 (jxw (-x1))) ≤ 4095 from by omega)
def jW_X5_weighSets : List (Nat × Nat) := [(95, 9999)]
abbrev jQ_X5_weighSets (a0 b0 : Nat → Nat → Int) : List jxV → (Nat → Nat → Int) → (Nat → Nat → Int) → Prop := rV (fun a b => (iv a) ∧ (jfr jW_X5_weighSets a0 a) ∧ (b0 = b))
theorem cp_X5_weighSets_11 (E : jxE) (d : Nat) (hd : Nat.ble 4 (d + 1) = true) (a0 b0 : Nat → Nat → Int) (hv0 : iv a0) : ∀ n : Nat, (∀ (y1 y2 : Int) (a : Nat → Nat → Int), (((4096 - y2) * 1) + 0).toNat ≤ n → iv a → jfr jW_X5_weighSets a0 a → 1 ≤ y1 → y1 ≤ 4095 → 1 ≤ y2 → y2 ≤ 4095 → jt (jxX E d 90 46 [some (.inr (.inr (.inl 90))), some (.inl y1), some (.inl y2)] [] (jxSH, a, b0)) (jQ_X5_weighSets a0 b0)) ∧ (∀ (y1 y2 : Int) (a : Nat → Nat → Int), (((4096 - y2) * 1) + 0).toNat ≤ n → iv a → jfr jW_X5_weighSets a0 a → 0 ≤ y1 → y1 ≤ 4095 → 1 ≤ y2 → y2 ≤ 4096 → jt (jxX E d 90 11 [some (.inr (.inr (.inl 90))), some (.inl y1), some (.inl y2)] [] (jxSH, a, b0)) (jQ_X5_weighSets a0 b0)) := by
  refine jx_ind fun n ih => ?_
  have ih46 : ∀ (y1 y2 : Int) (a : Nat → Nat → Int), (((4096 - y2) * 1) + 0).toNat < n → iv a → jfr jW_X5_weighSets a0 a → 1 ≤ y1 → y1 ≤ 4095 → 1 ≤ y2 → y2 ≤ 4095 → jt (jxX E d 90 46 [some (.inr (.inr (.inl 90))), some (.inl y1), some (.inl y2)] [] (jxSH, a, b0)) (jQ_X5_weighSets a0 b0) := fun y1 y2 a hlt i0 i1 i2 i3 i4 i5 => (ih _ hlt).1 y1 y2 a (Nat.le_refl _) i0 i1 i2 i3 i4 i5
  have ih11 : ∀ (y1 y2 : Int) (a : Nat → Nat → Int), (((4096 - y2) * 1) + 0).toNat < n → iv a → jfr jW_X5_weighSets a0 a → 0 ≤ y1 → y1 ≤ 4095 → 1 ≤ y2 → y2 ≤ 4096 → jt (jxX E d 90 11 [some (.inr (.inr (.inl 90))), some (.inl y1), some (.inl y2)] [] (jxSH, a, b0)) (jQ_X5_weighSets a0 b0) := fun y1 y2 a hlt i0 i1 i2 i3 i4 i5 => (ih _ hlt).2 y1 y2 a (Nat.le_refl _) i0 i1 i2 i3 i4 i5
  have hc46 : ∀ (y1 y2 : Int) (a : Nat → Nat → Int), (((4096 - y2) * 1) + 0).toNat ≤ n → iv a → jfr jW_X5_weighSets a0 a → 1 ≤ y1 → y1 ≤ 4095 → 1 ≤ y2 → y2 ≤ 4095 → jt (jxX E d 90 46 [some (.inr (.inr (.inl 90))), some (.inl y1), some (.inl y2)] [] (jxSH, a, b0)) (jQ_X5_weighSets a0 b0) := by
    intro y1 y2 a hm hv hf hi0 hi1 hi2 hi3
    refine jt_eq (bq_X5_weighSets_46 E d y1 y2 a b0) ?_
    have h1895_ : jxw (y2 + 1) = y2 + 1 := jxw_id (by omega) (by omega)
    exact ih11 y1 (jxw (y2 + 1)) a (show (((4096 - (jxw (y2 + 1))) * 1) + 0).toNat < n from by omega) hv hf (show 0 ≤ y1 from by omega) (show y1 ≤ 4095 from by omega) (show 1 ≤ jxw (y2 + 1) from by omega) (show jxw (y2 + 1) ≤ 4096 from by omega)
  have hc11 : ∀ (y1 y2 : Int) (a : Nat → Nat → Int), (((4096 - y2) * 1) + 0).toNat ≤ n → iv a → jfr jW_X5_weighSets a0 a → 0 ≤ y1 → y1 ≤ 4095 → 1 ≤ y2 → y2 ≤ 4096 → jt (jxX E d 90 11 [some (.inr (.inr (.inl 90))), some (.inl y1), some (.inl y2)] [] (jxSH, a, b0)) (jQ_X5_weighSets a0 b0) := by
    intro y1 y2 a hm hv hf hi0 hi1 hi2 hi3
    refine jt_eq (bq_X5_weighSets_11 E d y1 y2 a b0) ?_
    refine jt_ite (fun c1896_ => ?_) (fun c1896_ => ?_)
    ·
      have h1897_ := iv_get hv (k := 90) (j := 8) (l := 0) (u := 4095) rfl
      have h1898_ : a 90 8 = a0 90 8 := hf 90 8 rfl
      have h1899_ := iv_get hv0 (k := 90) (j := 8) (l := 0) (u := 4095) rfl
      have h1900_ : jxw (y1 - (a 90 8)) = y1 - (a 90 8) := jxw_id (by omega) (by omega)
      have h1901_ := jxand_b (jxw (y1 - (a 90 8))) (a 90 8)
      refine jt_ite (fun c1902_ => ?_) (fun c1902_ => ?_)
      ·
        exact jt_rV ⟨hv, hf, rfl⟩
      ·
        refine jt_bI (sp_X5_weigh E d (jd_le hd rfl) (jxand (jxw (y1 - (a 90 8))) (a 90 8)) a b0 hv (show 0 ≤ jxand (jxw (y1 - (a 90 8))) (a 90 8) from by omega) (show jxand (jxw (y1 - (a 90 8))) (a 90 8) ≤ 4095 from by omega)) (fun r1903_ a1903_ b1903_ h1903_ => ?_)
        obtain ⟨rfl, rfl⟩ := h1903_
        refine jt_grd (by omega) ?_
        have hv1904_ : iv (jxu a 95 ((jxand (jxw (y1 - (a 90 8))) (a 90 8)).toNat) r1903_) := iv_putf hv rfl
        have hf1905_ : jfr jW_X5_weighSets a0 (jxu a 95 ((jxand (jxw (y1 - (a 90 8))) (a 90 8)).toNat) r1903_) := jfr_put hf rfl
        exact hc46 (jxand (jxw (y1 - (a 90 8))) (a 90 8)) y2 (jxu a 95 ((jxand (jxw (y1 - (a 90 8))) (a 90 8)).toNat) r1903_) (show (((4096 - y2) * 1) + 0).toNat ≤ n from by omega) hv1904_ hf1905_ (show 1 ≤ jxand (jxw (y1 - (a 90 8))) (a 90 8) from by omega) (show jxand (jxw (y1 - (a 90 8))) (a 90 8) ≤ 4095 from by omega) (show 1 ≤ y2 from by omega) (show y2 ≤ 4095 from by omega)
    ·
      exact jt_rV ⟨hv, hf, rfl⟩
  exact ⟨hc46, hc11⟩
theorem sp_X5_weighSets (E : jxE) (d : Nat) (hd : Nat.ble 4 d = true) (a0 b0 : Nat → Nat → Int) (hv0 : iv a0) : jt (jxC E d 90 [.inr (.inr (.inl 90))] (jxSH, a0, b0)) (jQ_X5_weighSets a0 b0) := by
  obtain ⟨d, rfl⟩ := jd_succ hd
  refine jt_eq (bq_X5_weighSets E d a0 b0) ?_
  have hv1906_ : iv (jxu a0 95 0 0) := iv_putf hv0 rfl
  have hf1907_ : jfr jW_X5_weighSets a0 (jxu a0 95 0 0) := jfr_put (jfr_rf _ _) rfl
  exact (cp_X5_weighSets_11 E d hd a0 b0 hv0 _).2 0 1 (jxu a0 95 0 0) (Nat.le_refl _) hv1906_ hf1907_ (show 0 ≤ 0 from by omega) (show 0 ≤ 4095 from by omega) (show 1 ≤ 1 from by omega) (show 1 ≤ 4096 from by omega)
def jW_X6_takeRuleWord_r2 : List (Nat × Nat) := [(2, 2)]
abbrev jQ_X6_takeRuleWord_r2 (a0 b0 : Nat → Nat → Int) : List jxV → (Nat → Nat → Int) → (Nat → Nat → Int) → Prop := rI (fun r a b => (iv a) ∧ (jfr jW_X6_takeRuleWord_r2 a0 a) ∧ (b0 = b) ∧ (r = WI (a0 3) (a0 2 1).toNat (a0 2 2).toNat) ∧ (0 ≤ r → a 2 2 = (SK (a0 3) (a0 2 1).toNat ((a0 2 2).toNat + wdn (10 + r.toNat)) : Int)) ∧ (r < 0 → a 2 2 = a0 2 2))
theorem cp_X6_takeRuleWord_r2_42 (E : jxE) (d : Nat) (hd : Nat.ble 6 (d + 1) = true) (a0 b0 : Nat → Nat → Int) (hv0 : iv a0) (hp0 : a0 2 3 = 0) : ∀ (a : Nat → Nat → Int), iv a → jfr jW_X6_takeRuleWord_r2 a0 a → (TW (a0 3) (a0 2 1).toNat (a0 2 2).toNat 13) → (a 2 2 = (SK (a0 3) (a0 2 1).toNat ((a0 2 2).toNat + wdn 13) : Int)) → jt (jxX E d 106 42 [none] [] (jxSH, a, b0)) (jQ_X6_takeRuleWord_r2 a0 b0) := by
  intro a hv hf htw hat
  refine jt_eq (bq_X6_takeRuleWord_r2_42 E d a b0) ?_
  have h3 : a 3 = a0 3 := funext fun j => hf 3 j rfl
  have h21 := hf 2 1 rfl
  exact jt_rI ⟨hv, hf, rfl, (WI_3 htw).symm, (fun _ => hat), (fun h => absurd h (by decide))⟩
theorem cp_X6_takeRuleWord_r2_44 (E : jxE) (d : Nat) (hd : Nat.ble 6 (d + 1) = true) (a0 b0 : Nat → Nat → Int) (hv0 : iv a0) (hp0 : a0 2 3 = 0) : ∀ (a : Nat → Nat → Int), iv a → jfr jW_X6_takeRuleWord_r2 a0 a → (¬ TW (a0 3) (a0 2 1).toNat (a0 2 2).toNat 10 ∧ ¬ TW (a0 3) (a0 2 1).toNat (a0 2 2).toNat 11 ∧ ¬ TW (a0 3) (a0 2 1).toNat (a0 2 2).toNat 12 ∧ ¬ TW (a0 3) (a0 2 1).toNat (a0 2 2).toNat 13) → a 2 2 = a0 2 2 → a 2 3 = 0 → jt (jxX E d 106 44 [some (.inr (.inr (.inl 2)))] [] (jxSH, a, b0)) (jQ_X6_takeRuleWord_r2 a0 b0) := by
  intro a hv hf hn hi1 hi2
  refine jt_eq (bq_X6_takeRuleWord_r2_44 E d a b0) ?_
  have h1908_ := iv_get hv (k := 2) (j := 2) (l := 0) (u := 200) rfl
  have h1909_ := iv_get hv0 (k := 2) (j := 2) (l := 0) (u := 200) rfl
  have h1910_ : a 2 3 = a0 2 3 := hf 2 3 rfl
  have h3 : a 3 = a0 3 := funext fun j => hf 3 j rfl
  have h21 := hf 2 1 rfl
  refine jt_bI (sp_X8_takesWord_r1014 E d (jd_le hd rfl) a b0 hv) (fun r1911_ a1911_ b1911_ h1911_ => ?_)
  obtain ⟨hv1911_, hf1911_, rfl, hq1911_0, hq1911_1, hq1911_2, hq1911_3, hq1911_4⟩ := h1911_
  have h1912_ := iv_get hv (k := 2) (j := 1) (l := 0) (u := 200) rfl
  have h1913_ : a 2 1 = a0 2 1 := hf 2 1 rfl
  have h1914_ := iv_get hv0 (k := 2) (j := 1) (l := 0) (u := 200) rfl
  have h1915_ := iv_get hv1911_ (k := 2) (j := 2) (l := 0) (u := 200) rfl
  have hz1911 := hf1911_ 2 3 rfl
  refine jt_ite (fun c1916_ => ?_) (fun c1916_ => ?_)
  ·
    have hf1917_ : jfr jW_X6_takeRuleWord_r2 a0 a1911_ := jfr_tr hf hf1911_ rfl
    exact jt_rI ⟨hv1911_, hf1917_, rfl, (WI_no hn.1 hn.2.1 hn.2.2.1 hn.2.2.2 (by have q := (hq1911_4 (by omega)).resolve_left (fun h => h (by omega)); rw [show a 3 = a0 3 from funext (fun j => hf 3 j rfl), show a 2 1 = a0 2 1 from hf 2 1 rfl, show a 2 2 = a0 2 2 from by omega] at q; exact q)).symm, (fun h => absurd h (by decide)), (fun _ => by omega)⟩
  ·
    have hf1918_ : jfr jW_X6_takeRuleWord_r2 a0 a1911_ := jfr_tr hf hf1911_ rfl
    exact jt_rI ⟨hv1911_, hf1918_, rfl, (by have q := (hq1911_3 (by omega)).2.1; rw [show a 3 = a0 3 from funext (fun j => hf 3 j rfl), show a 2 1 = a0 2 1 from hf 2 1 rfl, show a 2 2 = a0 2 2 from by omega] at q; exact (WI_4 q).symm), (fun _ => by have q := (hq1911_3 (by omega)).2.2; rw [show a 3 = a0 3 from funext (fun j => hf 3 j rfl), show a 2 1 = a0 2 1 from hf 2 1 rfl, show a 2 2 = a0 2 2 from by omega] at q; exact q), (fun h => absurd h (by decide))⟩
theorem sp_X6_takeRuleWord_r2 (E : jxE) (d : Nat) (hd : Nat.ble 6 d = true) (a0 b0 : Nat → Nat → Int) (hv0 : iv a0) (hp0 : a0 2 3 = 0) : jt (jxC E d 106 [.inr (.inr (.inl 2))] (jxSH, a0, b0)) (jQ_X6_takeRuleWord_r2 a0 b0) := by
  obtain ⟨d, rfl⟩ := jd_succ hd
  refine jt_eq (bq_X6_takeRuleWord_r2 E d a0 b0) ?_
  refine jt_bI (sp_X8_takesWord_r1010 E d (jd_le hd rfl) a0 b0 hv0) (fun r1919_ a1919_ b1919_ h1919_ => ?_)
  obtain ⟨hv1919_, hf1919_, rfl, hq1919_0, hq1919_1, hq1919_2, hq1919_3, hq1919_4⟩ := h1919_
  have h1920_ := iv_get hv0 (k := 2) (j := 1) (l := 0) (u := 200) rfl
  have h1921_ := iv_get hv0 (k := 2) (j := 2) (l := 0) (u := 200) rfl
  have h1922_ := iv_get hv1919_ (k := 2) (j := 2) (l := 0) (u := 200) rfl
  have hz1919 := hf1919_ 2 3 rfl
  refine jt_ite (fun c1923_ => ?_) (fun c1923_ => ?_)
  ·
    refine jt_bI (sp_X8_takesWord_r1011 E d (jd_le hd rfl) a1919_ b0 hv1919_) (fun r1924_ a1924_ b1924_ h1924_ => ?_)
    obtain ⟨hv1924_, hf1924_, rfl, hq1924_0, hq1924_1, hq1924_2, hq1924_3, hq1924_4⟩ := h1924_
    have h1925_ : a1919_ 2 3 = a0 2 3 := hf1919_ 2 3 rfl
    have h1926_ := iv_get hv1919_ (k := 2) (j := 1) (l := 0) (u := 200) rfl
    have h1927_ : a1919_ 2 1 = a0 2 1 := hf1919_ 2 1 rfl
    have h1928_ := iv_get hv1924_ (k := 2) (j := 2) (l := 0) (u := 200) rfl
    have hz1924 := hf1924_ 2 3 rfl
    refine jt_ite (fun c1929_ => ?_) (fun c1929_ => ?_)
    ·
      refine jt_bI (sp_X8_takesWord_r1012 E d (jd_le hd rfl) a1924_ b0 hv1924_) (fun r1930_ a1930_ b1930_ h1930_ => ?_)
      obtain ⟨hv1930_, hf1930_, rfl, hq1930_0, hq1930_1, hq1930_2, hq1930_3, hq1930_4⟩ := h1930_
      have h1931_ : a1924_ 2 3 = a1919_ 2 3 := hf1924_ 2 3 rfl
      have h1932_ := iv_get hv1924_ (k := 2) (j := 1) (l := 0) (u := 200) rfl
      have h1933_ : a1924_ 2 1 = a1919_ 2 1 := hf1924_ 2 1 rfl
      have h1934_ := iv_get hv1930_ (k := 2) (j := 2) (l := 0) (u := 200) rfl
      have hz1930 := hf1930_ 2 3 rfl
      refine jt_ite (fun c1935_ => ?_) (fun c1935_ => ?_)
      ·
        refine jt_bI (sp_X8_takesWord_r1013 E d (jd_le hd rfl) a1930_ b0 hv1930_) (fun r1936_ a1936_ b1936_ h1936_ => ?_)
        obtain ⟨hv1936_, hf1936_, rfl, hq1936_0, hq1936_1, hq1936_2, hq1936_3, hq1936_4⟩ := h1936_
        have h1937_ : a1930_ 2 3 = a1924_ 2 3 := hf1930_ 2 3 rfl
        have h1938_ := iv_get hv1930_ (k := 2) (j := 1) (l := 0) (u := 200) rfl
        have h1939_ : a1930_ 2 1 = a1924_ 2 1 := hf1930_ 2 1 rfl
        have h1940_ := iv_get hv1936_ (k := 2) (j := 2) (l := 0) (u := 200) rfl
        have hz1936 := hf1936_ 2 3 rfl
        refine jt_ite (fun c1941_ => ?_) (fun c1941_ => ?_)
        ·
          have hf1942_ : jfr jW_X6_takeRuleWord_r2 a0 a1919_ := jfr_tr (jfr_rf _ _) hf1919_ rfl
          have hf1943_ : jfr jW_X6_takeRuleWord_r2 a0 a1924_ := jfr_tr hf1942_ hf1924_ rfl
          have hf1944_ : jfr jW_X6_takeRuleWord_r2 a0 a1930_ := jfr_tr hf1943_ hf1930_ rfl
          have hf1945_ : jfr jW_X6_takeRuleWord_r2 a0 a1936_ := jfr_tr hf1944_ hf1936_ rfl
          have h1946_ : a1936_ 2 3 = a1930_ 2 3 := hf1936_ 2 3 rfl
          exact cp_X6_takeRuleWord_r2_44 E d hd a0 b0 hv0 hp0 a1936_ hv1936_ hf1945_ ⟨(by have q := (hq1919_4 (by omega)).resolve_left (fun h => h (by omega)); exact q), (by have q := (hq1924_4 (by omega)).resolve_left (fun h => h (by omega)); rw [show a1919_ 3 = a0 3 from funext (fun j => hf1942_ 3 j rfl), show a1919_ 2 1 = a0 2 1 from hf1942_ 2 1 rfl, show a1919_ 2 2 = a0 2 2 from by omega] at q; exact q), (by have q := (hq1930_4 (by omega)).resolve_left (fun h => h (by omega)); rw [show a1924_ 3 = a0 3 from funext (fun j => hf1943_ 3 j rfl), show a1924_ 2 1 = a0 2 1 from hf1943_ 2 1 rfl, show a1924_ 2 2 = a0 2 2 from by omega] at q; exact q), (by have q := (hq1936_4 (by omega)).resolve_left (fun h => h (by omega)); rw [show a1930_ 3 = a0 3 from funext (fun j => hf1944_ 3 j rfl), show a1930_ 2 1 = a0 2 1 from hf1944_ 2 1 rfl, show a1930_ 2 2 = a0 2 2 from by omega] at q; exact q)⟩ (show a1936_ 2 2 = a0 2 2 from by omega) (show a1936_ 2 3 = 0 from by omega)
        ·
          have hf1947_ : jfr jW_X6_takeRuleWord_r2 a0 a1919_ := jfr_tr (jfr_rf _ _) hf1919_ rfl
          have hf1948_ : jfr jW_X6_takeRuleWord_r2 a0 a1924_ := jfr_tr hf1947_ hf1924_ rfl
          have hf1949_ : jfr jW_X6_takeRuleWord_r2 a0 a1930_ := jfr_tr hf1948_ hf1930_ rfl
          have hf1950_ : jfr jW_X6_takeRuleWord_r2 a0 a1936_ := jfr_tr hf1949_ hf1936_ rfl
          exact cp_X6_takeRuleWord_r2_42 E d hd a0 b0 hv0 hp0 a1936_ hv1936_ hf1950_ (by have q := (hq1936_3 (by omega)).2.1; rw [show a1930_ 3 = a0 3 from funext (fun j => hf1949_ 3 j rfl), show a1930_ 2 1 = a0 2 1 from hf1949_ 2 1 rfl, show a1930_ 2 2 = a0 2 2 from by omega] at q; exact q) (by have q := (hq1936_3 (by omega)).2.2; rw [show a1930_ 3 = a0 3 from funext (fun j => hf1949_ 3 j rfl), show a1930_ 2 1 = a0 2 1 from hf1949_ 2 1 rfl, show a1930_ 2 2 = a0 2 2 from by omega] at q; exact q)
      ·
        have hf1951_ : jfr jW_X6_takeRuleWord_r2 a0 a1919_ := jfr_tr (jfr_rf _ _) hf1919_ rfl
        have hf1952_ : jfr jW_X6_takeRuleWord_r2 a0 a1924_ := jfr_tr hf1951_ hf1924_ rfl
        have hf1953_ : jfr jW_X6_takeRuleWord_r2 a0 a1930_ := jfr_tr hf1952_ hf1930_ rfl
        exact jt_rI ⟨hv1930_, hf1953_, rfl, (by have q := (hq1930_3 (by omega)).2.1; rw [show a1924_ 3 = a0 3 from funext (fun j => hf1952_ 3 j rfl), show a1924_ 2 1 = a0 2 1 from hf1952_ 2 1 rfl, show a1924_ 2 2 = a0 2 2 from by omega] at q; exact (WI_2 q).symm), (fun _ => by have q := (hq1930_3 (by omega)).2.2; rw [show a1924_ 3 = a0 3 from funext (fun j => hf1952_ 3 j rfl), show a1924_ 2 1 = a0 2 1 from hf1952_ 2 1 rfl, show a1924_ 2 2 = a0 2 2 from by omega] at q; exact q), (fun h => absurd h (by decide))⟩
    ·
      have hf1954_ : jfr jW_X6_takeRuleWord_r2 a0 a1919_ := jfr_tr (jfr_rf _ _) hf1919_ rfl
      have hf1955_ : jfr jW_X6_takeRuleWord_r2 a0 a1924_ := jfr_tr hf1954_ hf1924_ rfl
      exact jt_rI ⟨hv1924_, hf1955_, rfl, (by have q := (hq1924_3 (by omega)).2.1; rw [show a1919_ 3 = a0 3 from funext (fun j => hf1954_ 3 j rfl), show a1919_ 2 1 = a0 2 1 from hf1954_ 2 1 rfl, show a1919_ 2 2 = a0 2 2 from by omega] at q; exact (WI_1 q).symm), (fun _ => by have q := (hq1924_3 (by omega)).2.2; rw [show a1919_ 3 = a0 3 from funext (fun j => hf1954_ 3 j rfl), show a1919_ 2 1 = a0 2 1 from hf1954_ 2 1 rfl, show a1919_ 2 2 = a0 2 2 from by omega] at q; exact q), (fun h => absurd h (by decide))⟩
  ·
    have hf1956_ : jfr jW_X6_takeRuleWord_r2 a0 a1919_ := jfr_tr (jfr_rf _ _) hf1919_ rfl
    exact jt_rI ⟨hv1919_, hf1956_, rfl, (by have q := (hq1919_3 (by omega)).2.1; exact (WI_0 q).symm), (fun _ => by have q := (hq1919_3 (by omega)).2.2; exact q), (fun h => absurd h (by decide))⟩
def jW_X6_readWord_r2 : List (Nat × Nat) := [(2, 2), (2, 3), (55, 2), (57, 9999)]
abbrev jQ_X6_readWord_r2 (a0 b0 : Nat → Nat → Int) : List jxV → (Nat → Nat → Int) → (Nat → Nat → Int) → Prop := rV (fun a b => (iv a) ∧ (jfr jW_X6_readWord_r2 a0 a) ∧ (b0 = b) ∧ (a 2 3 = RWF (a0 3) (a0 2 1).toNat (a0 2 2).toNat (a0 55 2)) ∧ (RWF (a0 3) (a0 2 1).toNat (a0 2 2).toNat (a0 55 2) = 0 → a 2 2 = (RE (a0 3) (a0 2 1).toNat (a0 2 2).toNat : Int) ∧ a 55 2 = jxor (a0 55 2) (jxshl 1 (WI (a0 3) (a0 2 1).toNat (a0 2 2).toNat)) ∧ UP (a0 57) (a 57) (WI (a0 3) (a0 2 1).toNat (a0 2 2).toNat).toNat (NV (a0 3) (a0 2 1).toNat (RQ (a0 3) (a0 2 1).toNat (a0 2 2).toNat))))
theorem cp_X6_readWord_r2_36 (E : jxE) (d : Nat) (hd : Nat.ble 7 (d + 1) = true) (a0 b0 : Nat → Nat → Int) (hv0 : iv a0) (hp0 : a0 2 3 = 0) : ∀ (y2 : Int) (a : Nat → Nat → Int), iv a → jfr jW_X6_readWord_r2 a0 a → 0 ≤ y2 → y2 ≤ 200 → (RWF (a0 3) (a0 2 1).toNat (a0 2 2).toNat (a0 55 2) = 3 + 8 * ((a0 2 2).toNat : Int)) → (y2 = a0 2 2) → a 2 3 = 0 → jt (jxX E d 105 36 [none, some (.inr (.inr (.inl 2))), some (.inl y2), none] [] (jxSH, a, b0)) (jQ_X6_readWord_r2 a0 b0) := by
  intro y2 a hv hf hi0 hi1 hrw hy2 hi4
  refine jt_eq (bq_X6_readWord_r2_36 E d y2 a b0) ?_
  have h3 : a 3 = a0 3 := funext fun j => hf 3 j rfl
  have h21 := hf 2 1 rfl
  refine jt_bV (sp_X8_noteFault E d (jd_le hd rfl) y2 2 a b0 hv) (fun a1957_ b1957_ h1957_ => ?_)
  obtain ⟨hv1957_, hf1957_, rfl, hq1957_0, hq1957_1⟩ := h1957_
  have hf1958_ : jfr jW_X6_readWord_r2 a0 a1957_ := jfr_tr hf hf1957_ rfl
  exact jt_rV ⟨hv1957_, hf1958_, rfl, (by rw [hrw]; omega), (fun h => absurd h (by rw [hrw]; omega))⟩
theorem cp_X6_readWord_r2_75 (E : jxE) (d : Nat) (hd : Nat.ble 7 (d + 1) = true) (a0 b0 : Nat → Nat → Int) (hv0 : iv a0) (hp0 : a0 2 3 = 0) : ∀ (a : Nat → Nat → Int), iv a → jfr jW_X6_readWord_r2 a0 a → (a 2 3 = RWF (a0 3) (a0 2 1).toNat (a0 2 2).toNat (a0 55 2)) → (a 2 2 = (RE (a0 3) (a0 2 1).toNat (a0 2 2).toNat : Int)) → (a 55 2 = jxor (a0 55 2) (jxshl 1 (WI (a0 3) (a0 2 1).toNat (a0 2 2).toNat))) → (UP (a0 57) (a 57) (WI (a0 3) (a0 2 1).toNat (a0 2 2).toNat).toNat (NV (a0 3) (a0 2 1).toNat (RQ (a0 3) (a0 2 1).toNat (a0 2 2).toNat))) → jt (jxX E d 105 75 [none, none, none, none] [] (jxSH, a, b0)) (jQ_X6_readWord_r2 a0 b0) := by
  intro a hv hf hcf hat hmk hu
  refine jt_eq (bq_X6_readWord_r2_75 E d a b0) ?_
  have h3 : a 3 = a0 3 := funext fun j => hf 3 j rfl
  have h21 := hf 2 1 rfl
  exact jt_rV ⟨hv, hf, rfl, hcf, (fun _ => ⟨hat, hmk, hu⟩)⟩
theorem cp_X6_readWord_r2_43 (E : jxE) (d : Nat) (hd : Nat.ble 7 (d + 1) = true) (a0 b0 : Nat → Nat → Int) (hv0 : iv a0) (hp0 : a0 2 3 = 0) : ∀ (y3 : Int) (a : Nat → Nat → Int), iv a → jfr jW_X6_readWord_r2 a0 a → 0 ≤ y3 → y3 ≤ 4 → (y3 = WI (a0 3) (a0 2 1).toNat (a0 2 2).toNat) → 0 ≤ y3 → y3 ≤ 4 → (a 2 2 = (RQ (a0 3) (a0 2 1).toNat (a0 2 2).toNat : Int)) → (¬ jxand (jxshr (a0 55 2) y3) 1 = 1) → a 2 3 = 0 → a 55 2 = a0 55 2 → (∀ j, a 57 j = a0 57 j) → jt (jxX E d 105 43 [some (.inr (.inr (.inl 55))), some (.inr (.inr (.inl 2))), none, some (.inl y3)] [] (jxSH, a, b0)) (jQ_X6_readWord_r2 a0 b0) := by
  intro y3 a hv hf hi0 hi1 hy3 hi3 hi4 hat hnb hi7 hi8 hs57
  refine jt_eq (bq_X6_readWord_r2_43 E d y3 a b0) ?_
  have h3 : a 3 = a0 3 := funext fun j => hf 3 j rfl
  have h21 := hf 2 1 rfl
  have hP : (a 2 2).toNat = RQ (a0 3) (a0 2 1).toNat (a0 2 2).toNat := by rw [hat]; exact Int.toNat_natCast _
  have hlo := RLO_g (w := y3) (by omega) (by omega)
  have hhi := RHI_g (w := y3) (by omega) (by omega)
  refine jt_grd (by omega) ?_
  refine jt_grd (by omega) ?_
  have hv1959_ : iv (jxu a 55 2 (jxor (a 55 2) (jxshl 1 y3))) := iv_putf hv rfl
  refine jt_bI (sp_X8_takeNumber E d (jd_le hd rfl) (([1, 0, 0, 1, 0] : List Int).getD (y3.toNat) 0) (([20, 99, 20, 400, 2] : List Int).getD (y3.toNat) 0) (jxu a 55 2 (jxor (a 55 2) (jxshl 1 y3))) b0 hv1959_) (fun r1960_ a1960_ b1960_ h1960_ => ?_)
  obtain ⟨hv1960_, hf1960_, rfl, hq1960_0, hq1960_1, hq1960_2, hq1960_3⟩ := h1960_
  have h1961_ : (0 ≤ r1960_ ∧ r1960_ ≤ 999) := hq1960_3
  refine jt_grd (by omega) ?_
  have hv1962_ : iv (jxu a1960_ 57 (y3.toNat) r1960_) := iv_putf hv1960_ rfl
  have hf1963_ : jfr jW_X6_readWord_r2 a0 (jxu a 55 2 (jxor (a 55 2) (jxshl 1 y3))) := jfr_put hf rfl
  have hf1964_ : jfr jW_X6_readWord_r2 a0 a1960_ := jfr_tr hf1963_ hf1960_ rfl
  have hf1965_ : jfr jW_X6_readWord_r2 a0 (jxu a1960_ 57 (y3.toNat) r1960_) := jfr_put hf1964_ rfl
  exact cp_X6_readWord_r2_75 E d hd a0 b0 hv0 hp0 (jxu a1960_ 57 (y3.toNat) r1960_) hv1962_ hf1965_ (by have e0 := hq1960_0; have e1 := hq1960_1; have e2 := hq1960_2; have hj : jxu a 55 2 (jxor (a 55 2) (jxshl 1 y3)) 3 = a 3 := rfl; have hj1 : jxu a 55 2 (jxor (a 55 2) (jxshl 1 y3)) 2 1 = a 2 1 := rfl; have hj2 : jxu a 55 2 (jxor (a 55 2) (jxshl 1 y3)) 2 2 = a 2 2 := rfl; have hj3 : jxu a 55 2 (jxor (a 55 2) (jxshl 1 y3)) 2 3 = a 2 3 := rfl; rw [hj, hj1, hj2, h3, h21, hP] at e0 e1 e2; rw [hj3] at e2; rw [if_pos (by omega), hlo, hhi] at e2; rw [RWF_go (by omega) (by rw [← hy3]; exact hnb), ← hy3]; exact e2) (by have e0 := hq1960_0; have e1 := hq1960_1; have e2 := hq1960_2; have hj : jxu a 55 2 (jxor (a 55 2) (jxshl 1 y3)) 3 = a 3 := rfl; have hj1 : jxu a 55 2 (jxor (a 55 2) (jxshl 1 y3)) 2 1 = a 2 1 := rfl; have hj2 : jxu a 55 2 (jxor (a 55 2) (jxshl 1 y3)) 2 2 = a 2 2 := rfl; have hj3 : jxu a 55 2 (jxor (a 55 2) (jxshl 1 y3)) 2 3 = a 2 3 := rfl; rw [hj, hj1, hj2, h3, h21, hP] at e0 e1 e2; rw [hj3] at e2; exact e1) (by show a1960_ 55 2 = _; rw [hf1960_ 55 2 rfl, ← hy3, ← (by omega : a 55 2 = a0 55 2)]; simp [jxu]) (by have e0 := hq1960_0; have e1 := hq1960_1; have e2 := hq1960_2; have hj : jxu a 55 2 (jxor (a 55 2) (jxshl 1 y3)) 3 = a 3 := rfl; have hj1 : jxu a 55 2 (jxor (a 55 2) (jxshl 1 y3)) 2 1 = a 2 1 := rfl; have hj2 : jxu a 55 2 (jxor (a 55 2) (jxshl 1 y3)) 2 2 = a 2 2 := rfl; have hj3 : jxu a 55 2 (jxor (a 55 2) (jxshl 1 y3)) 2 3 = a 2 3 := rfl; rw [hj, hj1, hj2, h3, h21, hP] at e0 e1 e2; rw [hj3] at e2; rw [← hy3, ← e0]; exact UP_put (fun j => (hf1960_ 57 j rfl).trans (hs57 j)))
theorem sp_X6_readWord_r2 (E : jxE) (d : Nat) (hd : Nat.ble 7 d = true) (a0 b0 : Nat → Nat → Int) (hv0 : iv a0) (hp0 : a0 2 3 = 0) : jt (jxC E d 105 [.inr (.inr (.inl 55)), .inr (.inr (.inl 2))] (jxSH, a0, b0)) (jQ_X6_readWord_r2 a0 b0) := by
  obtain ⟨d, rfl⟩ := jd_succ hd
  refine jt_eq (bq_X6_readWord_r2 E d a0 b0) ?_
  refine jt_eI (eq_X8_place E d (jd_le hd rfl) a0 b0) ?_
  refine jt_bI (sp_X6_takeRuleWord_r2 E d (jd_le hd rfl) a0 b0 hv0 (show a0 2 3 = 0 from by omega)) (fun r1966_ a1966_ b1966_ h1966_ => ?_)
  obtain ⟨hv1966_, hf1966_, rfl, hq1966_0, hq1966_1, hq1966_2⟩ := h1966_
  have hws1966 := WI_sp (a0 3) (a0 2 1).toNat (a0 2 2).toNat
  have hwi1966 : r1966_ = WI (a0 3) (a0 2 1).toNat (a0 2 2).toNat := hq1966_0
  have hz1966 := hf1966_ 2 3 rfl
  have h5521966 := hf1966_ 55 2 rfl
  refine jt_ite (fun c1967_ => ?_) (fun c1967_ => ?_)
  ·
    refine jt_bV (sp_X8_noteCannotStand E d (jd_le hd rfl) a1966_ b0 hv1966_) (fun a1968_ b1968_ h1968_ => ?_)
    obtain ⟨hv1968_, hf1968_, rfl, hq1968_0, hq1968_1⟩ := h1968_
    have h1969_ : a1966_ 2 3 = a0 2 3 := hf1966_ 2 3 rfl
    have h1970_ := iv_get hv1966_ (k := 2) (j := 2) (l := 0) (u := 200) rfl
    have hf1971_ : jfr jW_X6_readWord_r2 a0 a1966_ := jfr_tr (jfr_rf _ _) hf1966_ rfl
    have hf1972_ : jfr jW_X6_readWord_r2 a0 a1968_ := jfr_tr hf1971_ hf1968_ rfl
    exact jt_rV ⟨hv1968_, hf1972_, rfl, (by first | (rw [RWF_no (by omega)]; omega) | exact absurd (by omega : False) id), (fun h => absurd h (by first | (rw [RWF_no (by omega)]; omega) | exact absurd (by omega : False) id))⟩
  ·
    refine jt_ite (fun c1973_ => ?_) (fun c1973_ => ?_)
    ·
      have h1974_ : a1966_ 55 2 = a0 55 2 := hf1966_ 55 2 rfl
      have h1975_ := jxshr_b (a1966_ 55 2) r1966_
      have h1976_ := jxand_r (jxshr (a1966_ 55 2) r1966_) 1 (by decide) (by decide)
      refine jt_ite (fun c1977_ => ?_) (fun c1977_ => ?_)
      ·
        have hf1978_ : jfr jW_X6_readWord_r2 a0 a1966_ := jfr_tr (jfr_rf _ _) hf1966_ rfl
        have h1979_ := f_X8_place_eq a0 b0
        have h1980_ := iv_get hv0 (k := 2) (j := 2) (l := 0) (u := 200) rfl
        have h1981_ : a1966_ 2 3 = a0 2 3 := hf1966_ 2 3 rfl
        exact cp_X6_readWord_r2_36 E d hd a0 b0 hv0 hp0 (f_X8_place a0 b0) a1966_ hv1966_ hf1978_ (show 0 ≤ f_X8_place a0 b0 from by omega) (show f_X8_place a0 b0 ≤ 200 from by omega) (RWF_two (by omega) (by rw [← hwi1966, ← h5521966]; assumption)) rfl (show a1966_ 2 3 = 0 from by omega)
      ·
        have hf1982_ : jfr jW_X6_readWord_r2 a0 a1966_ := jfr_tr (jfr_rf _ _) hf1966_ rfl
        have h1983_ : a1966_ 2 3 = a0 2 3 := hf1966_ 2 3 rfl
        exact cp_X6_readWord_r2_43 E d hd a0 b0 hv0 hp0 r1966_ a1966_ hv1966_ hf1982_ (show 0 ≤ r1966_ from by omega) (show r1966_ ≤ 4 from by omega) hwi1966 (show 0 ≤ r1966_ from by omega) (show r1966_ ≤ 4 from by omega) (by have q := hq1966_1 (by omega); rw [hwi1966] at q; exact q) (by rw [← h5521966]; assumption) (show a1966_ 2 3 = 0 from by omega) (show a1966_ 55 2 = a0 55 2 from by omega) (fun j => (hf1966_ 57 j rfl))
    ·
      refine jt_bV (sp_X8_noteCannotStand E d (jd_le hd rfl) a1966_ b0 hv1966_) (fun a1984_ b1984_ h1984_ => ?_)
      obtain ⟨hv1984_, hf1984_, rfl, hq1984_0, hq1984_1⟩ := h1984_
      have h1985_ : a1966_ 2 3 = a0 2 3 := hf1966_ 2 3 rfl
      have h1986_ := iv_get hv1966_ (k := 2) (j := 2) (l := 0) (u := 200) rfl
      have hf1987_ : jfr jW_X6_readWord_r2 a0 a1966_ := jfr_tr (jfr_rf _ _) hf1966_ rfl
      have hf1988_ : jfr jW_X6_readWord_r2 a0 a1984_ := jfr_tr hf1987_ hf1984_ rfl
      exact jt_rV ⟨hv1984_, hf1988_, rfl, (by first | (rw [RWF_no (by omega)]; omega) | exact absurd (by omega : False) id), (fun h => absurd h (by first | (rw [RWF_no (by omega)]; omega) | exact absurd (by omega : False) id))⟩
def jW_X6_readWords_r2 : List (Nat × Nat) := [(2, 2), (2, 3), (55, 2), (57, 9999)]
abbrev jQ_X6_readWords_r2 (a0 b0 : Nat → Nat → Int) : List jxV → (Nat → Nat → Int) → (Nat → Nat → Int) → Prop := rI (fun r a b => (iv a) ∧ (jfr jW_X6_readWords_r2 a0 a) ∧ (b0 = b) ∧ (RUR a0 a r))
theorem cp_X6_readWords_r2_32 (E : jxE) (d : Nat) (hd : Nat.ble 8 (d + 1) = true) (a0 b0 : Nat → Nat → Int) (hv0 : iv a0) (hp0 : a0 2 3 = 0) (hp1 : a0 2 2 < a0 2 1) (hp2 : RUL a0 a0 0) : ∀ (y2 : Int) (a : Nat → Nat → Int), iv a → jfr jW_X6_readWords_r2 a0 a → 0 ≤ y2 → y2 ≤ 100 → (RUE a0 a y2) → jt (jxX E d 104 32 [none, some (.inr (.inr (.inl 2))), some (.inl y2), none] [] (jxSH, a, b0)) (jQ_X6_readWords_r2 a0 b0) := by
  intro y2 a hv hf hi0 hi1 hre
  refine jt_eq (bq_X6_readWords_r2_32 E d y2 a b0) ?_
  have h3 : a 3 = a0 3 := funext fun j => hf 3 j rfl
  have h21 := hf 2 1 rfl
  refine jt_eI (eq_X8_isAtEnd E d (jd_le hd rfl) a b0) ?_
  have h1989_ := f_X8_isAtEnd_eq a b0
  have h1990_ := iv_get hv (k := 2) (j := 2) (l := 0) (u := 200) rfl
  have h1991_ := iv_get hv (k := 2) (j := 1) (l := 0) (u := 200) rfl
  have h1992_ : a 2 1 = a0 2 1 := hf 2 1 rfl
  have h1993_ := iv_get hv0 (k := 2) (j := 1) (l := 0) (u := 200) rfl
  refine jt_ite (fun c1994_ => ?_) (fun c1994_ => ?_)
  ·
    refine jt_bV (sp_X8_noteCannotStand E d (jd_le hd rfl) a b0 hv) (fun a1995_ b1995_ h1995_ => ?_)
    obtain ⟨hv1995_, hf1995_, rfl, hq1995_0, hq1995_1⟩ := h1995_
    have hf1996_ : jfr jW_X6_readWords_r2 a0 a1995_ := jfr_tr hf hf1995_ rfl
    exact jt_rI ⟨hv1995_, hf1996_, rfl, (RU_end2 hre (by have q := hp2.2.1; have q2 : SK (a0 3) (a0 2 1).toNat 0 = RP (a0 3) (a0 2 1).toNat 0 := rfl; omega) (hf 2 1 rfl) (by omega) (by omega) hq1995_0 hq1995_1)⟩
  ·
    exact jt_rI ⟨hv, hf, rfl, (RU_end1 hre (by have q := hp2.2.1; have q2 : SK (a0 3) (a0 2 1).toNat 0 = RP (a0 3) (a0 2 1).toNat 0 := rfl; omega) (hf 2 1 rfl) (by omega))⟩
theorem cp_X6_readWords_r2_4 (E : jxE) (d : Nat) (hd : Nat.ble 8 (d + 1) = true) (a0 b0 : Nat → Nat → Int) (hv0 : iv a0) (hp0 : a0 2 3 = 0) (hp1 : a0 2 2 < a0 2 1) (hp2 : RUL a0 a0 0) : ∀ n : Nat, (∀ (y2 y3 : Int) (a : Nat → Nat → Int), (((100 - y2) * 1) + 0).toNat ≤ n → iv a → jfr jW_X6_readWords_r2 a0 a → 0 ≤ y2 → y2 ≤ 100 → 0 ≤ y3 → y3 ≤ 1 → (¬ y3 = 0 → RUL a0 a y2.toNat) → (y3 = 0 → RUE a0 a y2) → jt (jxX E d 104 4 [some (.inr (.inr (.inl 55))), some (.inr (.inr (.inl 2))), some (.inl y2), some (.inl y3)] [] (jxSH, a, b0)) (jQ_X6_readWords_r2 a0 b0)) := by
  refine jx_ind fun n ih => ?_
  have ih4 : ∀ (y2 y3 : Int) (a : Nat → Nat → Int), (((100 - y2) * 1) + 0).toNat < n → iv a → jfr jW_X6_readWords_r2 a0 a → 0 ≤ y2 → y2 ≤ 100 → 0 ≤ y3 → y3 ≤ 1 → (¬ y3 = 0 → RUL a0 a y2.toNat) → (y3 = 0 → RUE a0 a y2) → jt (jxX E d 104 4 [some (.inr (.inr (.inl 55))), some (.inr (.inr (.inl 2))), some (.inl y2), some (.inl y3)] [] (jxSH, a, b0)) (jQ_X6_readWords_r2 a0 b0) := fun y2 y3 a hlt i0 i1 i2 i3 i4 i5 i6 i7 => (ih _ hlt) y2 y3 a (Nat.le_refl _) i0 i1 i2 i3 i4 i5 i6 i7
  have hc4 : ∀ (y2 y3 : Int) (a : Nat → Nat → Int), (((100 - y2) * 1) + 0).toNat ≤ n → iv a → jfr jW_X6_readWords_r2 a0 a → 0 ≤ y2 → y2 ≤ 100 → 0 ≤ y3 → y3 ≤ 1 → (¬ y3 = 0 → RUL a0 a y2.toNat) → (y3 = 0 → RUE a0 a y2) → jt (jxX E d 104 4 [some (.inr (.inr (.inl 55))), some (.inr (.inr (.inl 2))), some (.inl y2), some (.inl y3)] [] (jxSH, a, b0)) (jQ_X6_readWords_r2 a0 b0) := by
    intro y2 y3 a hm hv hf hi0 hi1 hi2 hi3 hrl hre
    refine jt_eq (bq_X6_readWords_r2_4 E d y2 y3 a b0) ?_
    have h3 : a 3 = a0 3 := funext fun j => hf 3 j rfl
    have h21 := hf 2 1 rfl
    have hf0 : ¬ y3 = 0 → a 2 3 = 0 := fun h => (hrl h).1
    have hbig : ¬ y3 = 0 → y2.toNat ≤ 5 := fun h => RUL_big (hrl h)
    refine jt_ite (fun c1997_ => ?_) (fun c1997_ => ?_)
    ·
      exact cp_X6_readWords_r2_32 E d hd a0 b0 hv0 hp0 hp1 hp2 y2 a hv hf (show 0 ≤ y2 from by omega) (show y2 ≤ 100 from by omega) (by first | exact hre (by omega) | exact absurd (by omega : False) id)
    ·
      refine jt_ite (fun c1998_ => ?_) (fun c1998_ => ?_)
      ·
        refine jt_bV (sp_X6_readWord_r2 E d (jd_le hd rfl) a b0 hv (show a 2 3 = 0 from by omega)) (fun a1999_ b1999_ h1999_ => ?_)
        obtain ⟨hv1999_, hf1999_, rfl, hq1999_0, hq1999_1⟩ := h1999_
        refine jt_bI (sp_X8_takesSign E d (jd_le hd rfl) 59 a1999_ b0 hv1999_) (fun r2000_ a2000_ b2000_ h2000_ => ?_)
        obtain ⟨hv2000_, hf2000_, rfl, hq2000_0, hq2000_1, hq2000_2, hq2000_3, hq2000_4⟩ := h2000_
        have h2001_ := iv_get hv1999_ (k := 2) (j := 1) (l := 0) (u := 200) rfl
        have h2002_ : a1999_ 2 1 = a 2 1 := hf1999_ 2 1 rfl
        have h2003_ := iv_get hv (k := 2) (j := 1) (l := 0) (u := 200) rfl
        have h2004_ : a 2 1 = a0 2 1 := hf 2 1 rfl
        have h2005_ := iv_get hv0 (k := 2) (j := 1) (l := 0) (u := 200) rfl
        have h2006_ := iv_get hv1999_ (k := 2) (j := 2) (l := 0) (u := 200) rfl
        have h2007_ := iv_get hv2000_ (k := 2) (j := 2) (l := 0) (u := 200) rfl
        have hstep := RU_step (i := y2) (r := r2000_) (by omega) (hrl (by omega)) h3 (hf 2 1 rfl) hq1999_0 hq1999_1 (funext fun j => hf1999_ 3 j rfl) (hf1999_ 2 1 rfl) hq2000_2 hq2000_3 hq2000_4 (hf2000_ 2 3 rfl) (hf2000_ 55 2 rfl) (fun j => hf2000_ 57 j rfl) (by omega)
        have hf2008_ : jfr jW_X6_readWords_r2 a0 a1999_ := jfr_tr hf hf1999_ rfl
        have hf2009_ : jfr jW_X6_readWords_r2 a0 a2000_ := jfr_tr hf2008_ hf2000_ rfl
        have h2010_ : jxw (y2 + 1) = y2 + 1 := jxw_id (by omega) (by omega)
        exact ih4 (jxw (y2 + 1)) r2000_ a2000_ (show (((100 - (jxw (y2 + 1))) * 1) + 0).toNat < n from by omega) hv2000_ hf2009_ (show 0 ≤ jxw (y2 + 1) from by omega) (show jxw (y2 + 1) ≤ 100 from by omega) (show 0 ≤ r2000_ from by omega) (show r2000_ ≤ 1 from by omega) (by first | exact (fun _ => hp2) | (rw [show (jxw (y2 + 1)).toNat = y2.toNat + 1 from by omega]; exact hstep.1)) (by first | exact (fun h => absurd h (by decide)) | (rw [show jxw (y2 + 1) = y2 + 1 from by omega]; exact hstep.2))
      ·
        exact cp_X6_readWords_r2_32 E d hd a0 b0 hv0 hp0 hp1 hp2 y2 a hv hf (show 0 ≤ y2 from by omega) (show y2 ≤ 100 from by omega) (by first | exact hre (by omega) | exact absurd (by omega : False) id)
  exact hc4
theorem sp_X6_readWords_r2 (E : jxE) (d : Nat) (hd : Nat.ble 8 d = true) (a0 b0 : Nat → Nat → Int) (hv0 : iv a0) (hp0 : a0 2 3 = 0) (hp1 : a0 2 2 < a0 2 1) (hp2 : RUL a0 a0 0) : jt (jxC E d 104 [.inr (.inr (.inl 55)), .inr (.inr (.inl 2))] (jxSH, a0, b0)) (jQ_X6_readWords_r2 a0 b0) := by
  obtain ⟨d, rfl⟩ := jd_succ hd
  refine jt_eq (bq_X6_readWords_r2 E d a0 b0) ?_
  have h2011_ := iv_get hv0 (k := 2) (j := 2) (l := 0) (u := 200) rfl
  have h2012_ := iv_get hv0 (k := 2) (j := 1) (l := 0) (u := 200) rfl
  exact (cp_X6_readWords_r2_4 E d hd a0 b0 hv0 hp0 hp1 hp2 _) 0 1 a0 (Nat.le_refl _) hv0 (jfr_rf _ _) (show 0 ≤ 0 from by omega) (show 0 ≤ 100 from by omega) (show 0 ≤ 1 from by omega) (show 1 ≤ 1 from by omega) (by first | exact (fun _ => hp2) | (rw [show (jxw (y2 + 1)).toNat = y2.toNat + 1 from by omega]; exact hstep.1)) (by first | exact (fun h => absurd h (by decide)) | (rw [show jxw (y2 + 1) = y2 + 1 from by omega]; exact hstep.2))
def jW_X6_read_r2 : List (Nat × Nat) := [(2, 2), (2, 3), (55, 2), (56, 9999), (57, 9999)]
abbrev jQ_X6_read_r2 (a0 b0 : Nat → Nat → Int) : List jxV → (Nat → Nat → Int) → (Nat → Nat → Int) → Prop := rI (fun r a b => (iv a) ∧ (jfr jW_X6_read_r2 a0 a) ∧ (b0 = b) ∧ ((a0 2 1 = 0 → r = 0)) ∧ (RRS (a0 3) (a0 2 1).toNat r) ∧ (0 ≤ r → ∀ w : Nat, w < 5 → a 56 w = DRF (a0 3) (a0 2 1).toNat r.toNat w) ∧ (r < 0 → ∀ j, a 56 j = a0 56 j))
theorem cp_X6_read_r2_64 (E : jxE) (d : Nat) (hd : Nat.ble 9 (d + 1) = true) (a0 b0 : Nat → Nat → Int) (hv0 : iv a0) : ∀ n : Nat, (∀ (y2 y3 : Int) (a : Nat → Nat → Int), (((5 - y3) * 1) + 0).toNat ≤ n → iv a → jfr jW_X6_read_r2 a0 a → 0 ≤ y3 → y3 ≤ 5 → (a0 2 1 = 0 → y2 = 0) → (RRS (a0 3) (a0 2 1).toNat y2 ∧ 0 ≤ y2 ∧ ∀ w : Nat, w < 5 → a 57 w = DRF (a0 3) (a0 2 1).toNat y2.toNat w) → (∀ w : Nat, (w : Int) < y3 → a 56 w = DRF (a0 3) (a0 2 1).toNat y2.toNat w) → jt (jxX E d 103 64 [some (.inr (.inr (.inl 55))), none, some (.inl y2), some (.inl y3)] [] (jxSH, a, b0)) (jQ_X6_read_r2 a0 b0)) := by
  refine jx_ind fun n ih => ?_
  have ih64 : ∀ (y2 y3 : Int) (a : Nat → Nat → Int), (((5 - y3) * 1) + 0).toNat < n → iv a → jfr jW_X6_read_r2 a0 a → 0 ≤ y3 → y3 ≤ 5 → (a0 2 1 = 0 → y2 = 0) → (RRS (a0 3) (a0 2 1).toNat y2 ∧ 0 ≤ y2 ∧ ∀ w : Nat, w < 5 → a 57 w = DRF (a0 3) (a0 2 1).toNat y2.toNat w) → (∀ w : Nat, (w : Int) < y3 → a 56 w = DRF (a0 3) (a0 2 1).toNat y2.toNat w) → jt (jxX E d 103 64 [some (.inr (.inr (.inl 55))), none, some (.inl y2), some (.inl y3)] [] (jxSH, a, b0)) (jQ_X6_read_r2 a0 b0) := fun y2 y3 a hlt i0 i1 i2 i3 i4 i5 i6 => (ih _ hlt) y2 y3 a (Nat.le_refl _) i0 i1 i2 i3 i4 i5 i6
  have hc64 : ∀ (y2 y3 : Int) (a : Nat → Nat → Int), (((5 - y3) * 1) + 0).toNat ≤ n → iv a → jfr jW_X6_read_r2 a0 a → 0 ≤ y3 → y3 ≤ 5 → (a0 2 1 = 0 → y2 = 0) → (RRS (a0 3) (a0 2 1).toNat y2 ∧ 0 ≤ y2 ∧ ∀ w : Nat, w < 5 → a 57 w = DRF (a0 3) (a0 2 1).toNat y2.toNat w) → (∀ w : Nat, (w : Int) < y3 → a 56 w = DRF (a0 3) (a0 2 1).toNat y2.toNat w) → jt (jxX E d 103 64 [some (.inr (.inr (.inl 55))), none, some (.inl y2), some (.inl y3)] [] (jxSH, a, b0)) (jQ_X6_read_r2 a0 b0) := by
    intro y2 y3 a hm hv hf hi0 hi1 hi2 hrs hh
    refine jt_eq (bq_X6_read_r2_64 E d y2 y3 a b0) ?_
    have h2013_ := iv_get hv0 (k := 2) (j := 1) (l := 0) (u := 200) rfl
    have h3 : a 3 = a0 3 := funext fun j => hf 3 j rfl
    have h21 := hf 2 1 rfl
    refine jt_ite (fun c2014_ => ?_) (fun c2014_ => ?_)
    ·
      refine jt_grd (by omega) ?_
      refine jt_grd (by omega) ?_
      have hv2015_ : iv (jxu a 56 (y3.toNat) (a 57 (y3.toNat))) := iv_putf hv rfl
      have hf2016_ : jfr jW_X6_read_r2 a0 (jxu a 56 (y3.toNat) (a 57 (y3.toNat))) := jfr_put hf rfl
      have h2017_ : jxw (y3 + 1) = y3 + 1 := jxw_id (by omega) (by omega)
      exact ih64 y2 (jxw (y3 + 1)) (jxu a 56 (y3.toNat) (a 57 (y3.toNat))) (show (((5 - (jxw (y3 + 1))) * 1) + 0).toNat < n from by omega) hv2015_ hf2016_ (show 0 ≤ jxw (y3 + 1) from by omega) (show jxw (y3 + 1) ≤ 5 from by omega) (show (a0 2 1 = 0 → y2 = 0) from by omega) (by first | exact hrs | exact hru.1 (by omega)) (by first | exact (fun w h => absurd h (by omega)) | (intro w hw; show (if w = y3.toNat then a 57 (y3.toNat) else a 56 w) = _; by_cases e : w = y3.toNat <;> first | (rw [if_pos e, ← e]; exact hrs.2.2 w (by omega)) | (rw [if_neg e]; exact hh w (by omega))))
    ·
      exact jt_rI ⟨hv, hf, rfl, (show (a0 2 1 = 0 → y2 = 0) from by omega), hrs.1, (fun _ w hw => hh w (by omega)), (fun h => absurd h (by have q := hrs.2.1; omega))⟩
  exact hc64
theorem cp_X6_read_r2_49 (E : jxE) (d : Nat) (hd : Nat.ble 9 (d + 1) = true) (a0 b0 : Nat → Nat → Int) (hv0 : iv a0) : ∀ (s0 : Int) (a : Nat → Nat → Int), iv a → jfr jW_X6_read_r2 a0 a → (a0 2 1 = 0 → (s0 = 0 ∧ a 2 3 = 0)) → (RUR a0 a s0) → (∀ j, a 56 j = a0 56 j) → jt (jxX E d 103 49 [some (.inr (.inr (.inl 55))), some (.inr (.inr (.inl 2))), none, none] [.inl s0] (jxSH, a, b0)) (jQ_X6_read_r2 a0 b0) := by
  intro s0 a hv hf hi0 hru hs56
  refine jt_eq (bq_X6_read_r2_49 E d s0 a b0) ?_
  have h2018_ := iv_get hv0 (k := 2) (j := 1) (l := 0) (u := 200) rfl
  have h3 : a 3 = a0 3 := funext fun j => hf 3 j rfl
  have h21 := hf 2 1 rfl
  refine jt_eI (eq_X8_isFaulty E d (jd_le hd rfl) a b0) ?_
  have h2019_ := f_X8_isFaulty_eq a b0
  refine jt_ite (fun c2020_ => ?_) (fun c2020_ => ?_)
  ·
    exact (cp_X6_read_r2_64 E d hd a0 b0 hv0 _) s0 0 a (Nat.le_refl _) hv hf (show 0 ≤ 0 from by omega) (show 0 ≤ 5 from by omega) (show (a0 2 1 = 0 → s0 = 0) from by omega) (by first | exact hrs | exact hru.1 (by omega)) (by first | exact (fun w h => absurd h (by omega)) | (intro w hw; show (if w = y3.toNat then a 57 (y3.toNat) else a 56 w) = _; by_cases e : w = y3.toNat <;> first | (rw [if_pos e, ← e]; exact hrs.2.2 w (by omega)) | (rw [if_neg e]; exact hh w (by omega))))
  ·
    refine jt_eI (eq_X8_answerOfFault E d (jd_le hd rfl) a b0) ?_
    have h2021_ := f_X8_answerOfFault_eq a b0
    have h2022_ := jxw_im ((-2) - (a 2 3))
    have h2023_ := jxw_rg ((-2) - (a 2 3))
    exact jt_rI ⟨hv, hf, rfl, (show (a0 2 1 = 0 → f_X8_answerOfFault a b0 = 0) from by omega), (by have q := hru.2 (by omega); have q2 := RRS_bd q.1 (tn200 hv0); rw [show f_X8_answerOfFault a b0 = -2 - a 2 3 from by omega]; exact q.1), (fun h => absurd h (by have q := hru.2 (by omega); have q2 := RRS_bd q.1 (tn200 hv0); omega)), (fun _ => hs56)⟩
theorem cp_X6_read_r2_2 (E : jxE) (d : Nat) (hd : Nat.ble 9 (d + 1) = true) (a0 b0 : Nat → Nat → Int) (hv0 : iv a0) : ∀ n : Nat, (∀ (y2 : Int) (a : Nat → Nat → Int), (((5 - y2) * 1) + 0).toNat ≤ n → iv a → jfr jW_X6_read_r2 a0 a → 0 ≤ y2 → y2 ≤ 5 → (∀ w : Nat, (w : Int) < y2 → a 57 w = RDF w) → (∀ j, a 56 j = a0 56 j) → jt (jxX E d 103 2 [some (.inr (.inr (.inl 55))), some (.inr (.inr (.inl 2))), some (.inl y2), none] [] (jxSH, a, b0)) (jQ_X6_read_r2 a0 b0)) := by
  refine jx_ind fun n ih => ?_
  have ih2 : ∀ (y2 : Int) (a : Nat → Nat → Int), (((5 - y2) * 1) + 0).toNat < n → iv a → jfr jW_X6_read_r2 a0 a → 0 ≤ y2 → y2 ≤ 5 → (∀ w : Nat, (w : Int) < y2 → a 57 w = RDF w) → (∀ j, a 56 j = a0 56 j) → jt (jxX E d 103 2 [some (.inr (.inr (.inl 55))), some (.inr (.inr (.inl 2))), some (.inl y2), none] [] (jxSH, a, b0)) (jQ_X6_read_r2 a0 b0) := fun y2 a hlt i0 i1 i2 i3 i4 i5 => (ih _ hlt) y2 a (Nat.le_refl _) i0 i1 i2 i3 i4 i5
  have hc2 : ∀ (y2 : Int) (a : Nat → Nat → Int), (((5 - y2) * 1) + 0).toNat ≤ n → iv a → jfr jW_X6_read_r2 a0 a → 0 ≤ y2 → y2 ≤ 5 → (∀ w : Nat, (w : Int) < y2 → a 57 w = RDF w) → (∀ j, a 56 j = a0 56 j) → jt (jxX E d 103 2 [some (.inr (.inr (.inl 55))), some (.inr (.inr (.inl 2))), some (.inl y2), none] [] (jxSH, a, b0)) (jQ_X6_read_r2 a0 b0) := by
    intro y2 a hm hv hf hi0 hi1 hdr hs56
    refine jt_eq (bq_X6_read_r2_2 E d y2 a b0) ?_
    have h3 : a 3 = a0 3 := funext fun j => hf 3 j rfl
    have h21 := hf 2 1 rfl
    refine jt_ite (fun c2024_ => ?_) (fun c2024_ => ?_)
    ·
      refine jt_grd (by omega) ?_
      refine jt_grd (by omega) ?_
      have hv2025_ : iv (jxu a 57 (y2.toNat) (([5, 10, 3, 60, 2] : List Int).getD (y2.toNat) 0)) := iv_putf hv rfl
      have hf2026_ : jfr jW_X6_read_r2 a0 (jxu a 57 (y2.toNat) (([5, 10, 3, 60, 2] : List Int).getD (y2.toNat) 0)) := jfr_put hf rfl
      have h2027_ : jxw (y2 + 1) = y2 + 1 := jxw_id (by omega) (by omega)
      exact ih2 (jxw (y2 + 1)) (jxu a 57 (y2.toNat) (([5, 10, 3, 60, 2] : List Int).getD (y2.toNat) 0)) (show (((5 - (jxw (y2 + 1))) * 1) + 0).toNat < n from by omega) hv2025_ hf2026_ (show 0 ≤ jxw (y2 + 1) from by omega) (show jxw (y2 + 1) ≤ 5 from by omega) (by first | exact (fun w h => absurd h (by omega)) | (intro w hw; show (if w = y2.toNat then _ else a 57 w) = RDF w; by_cases e : w = y2.toNat <;> first | (rw [if_pos e, RDF_g (by omega) (by omega), e, Int.toNat_of_nonneg (by omega)]) | (rw [if_neg e]; exact hdr (w) (by omega)))) (fun j => (rfl).trans (hs56 j))
    ·
      have hv2028_ : iv (jxu a 55 2 0) := iv_putf hv rfl
      refine jt_bV (sp_X8_startReading E d (jd_le hd rfl) (jxu a 55 2 0) b0 hv2028_) (fun a2029_ b2029_ h2029_ => ?_)
      obtain ⟨hv2029_, hf2029_, rfl, hq2029_0, hq2029_1, hq2029_2⟩ := h2029_
      have h2030_ : a2029_ 2 3 = 0 := hq2029_0
      have h2031_ := iv_get hv (k := 2) (j := 1) (l := 0) (u := 200) rfl
      have h2032_ : a 2 1 = a0 2 1 := hf 2 1 rfl
      have h2033_ := iv_get hv0 (k := 2) (j := 1) (l := 0) (u := 200) rfl
      have h2034_ := iv_get hv2029_ (k := 2) (j := 2) (l := 0) (u := 200) rfl
      have h2035_ : (a 2 1 = 0 → a2029_ 2 2 = 0) := hq2029_1
      have h57_2029 : ∀ j, a2029_ 57 j = a 57 j := fun j => hf2029_ 57 j rfl
      have e3_2029 : a2029_ 3 = a0 3 := funext fun j => (hf2029_ 3 j rfl).trans (hf 3 j rfl)
      have e21_2029 : a2029_ 2 1 = a0 2 1 := (hf2029_ 2 1 rfl).trans (hf 2 1 rfl)
      have hat2029 : a2029_ 2 2 = (SK (a0 3) (a0 2 1).toNat 0 : Int) := by have q := hq2029_2; rw [show jxu a 55 2 0 3 = a 3 from rfl, show jxu a 55 2 0 2 1 = a 2 1 from rfl, h3, h21] at q; exact q
      have hrul2029 : RUL a2029_ a2029_ 0 := ⟨by omega, by rw [e3_2029, e21_2029]; exact hat2029, (hf2029_ 55 2 rfl).trans (by simp [jxu]; rfl), fun k hk => absurd hk (Nat.not_lt_zero _), fun w hw => by rw [h57_2029, hdr w (by omega)]; rfl⟩
      refine jt_eI (eq_X8_isAtEnd E d (jd_le hd rfl) a2029_ b0) ?_
      have h2036_ := f_X8_isAtEnd_eq a2029_ b0
      have h2037_ := iv_get hv2029_ (k := 2) (j := 1) (l := 0) (u := 200) rfl
      have h2038_ : a2029_ 2 1 = a 2 1 := hf2029_ 2 1 rfl
      refine jt_ite (fun c2039_ => ?_) (fun c2039_ => ?_)
      ·
        refine jt_bI (sp_X6_readWords_r2 E d (jd_le hd rfl) a2029_ b0 hv2029_ (show a2029_ 2 3 = 0 from by omega) (show a2029_ 2 2 < a2029_ 2 1 from by omega) (by assumption)) (fun r2040_ a2040_ b2040_ h2040_ => ?_)
        obtain ⟨hv2040_, hf2040_, rfl, hq2040_0⟩ := h2040_
        have hf2041_ : jfr jW_X6_read_r2 a0 (jxu a 55 2 0) := jfr_put hf rfl
        have hf2042_ : jfr jW_X6_read_r2 a0 a2029_ := jfr_tr hf2041_ hf2029_ rfl
        have hf2043_ : jfr jW_X6_read_r2 a0 a2040_ := jfr_tr hf2042_ hf2040_ rfl
        exact cp_X6_read_r2_49 E d hd a0 b0 hv0 r2040_ a2040_ hv2040_ hf2043_ (show (a0 2 1 = 0 → (r2040_ = 0 ∧ a2040_ 2 3 = 0)) from by omega) (by have q := hq2040_0; unfold RUR at q; rw [e3_2029, e21_2029] at q; exact q) (fun j => (((hf2040_ 56 j rfl).trans (hf2029_ 56 j rfl))).trans (hs56 j))
      ·
        have hf2044_ : jfr jW_X6_read_r2 a0 (jxu a 55 2 0) := jfr_put hf rfl
        have hf2045_ : jfr jW_X6_read_r2 a0 a2029_ := jfr_tr hf2044_ hf2029_ rfl
        exact cp_X6_read_r2_49 E d hd a0 b0 hv0 0 a2029_ hv2029_ hf2045_ (show (a0 2 1 = 0 → (0 = 0 ∧ a2029_ 2 3 = 0)) from by omega) ⟨fun _ => ⟨Or.inl ⟨by omega, rfl⟩, by decide, fun w hw => by rw [h57_2029, hdr w (by omega)]; rfl⟩, fun h => absurd (by omega) h⟩ (fun j => ((hf2029_ 56 j rfl)).trans (hs56 j))
  exact hc2
theorem sp_X6_read_r2 (E : jxE) (d : Nat) (hd : Nat.ble 9 d = true) (a0 b0 : Nat → Nat → Int) (hv0 : iv a0) : jt (jxC E d 103 [.inr (.inr (.inl 55)), .inr (.inr (.inl 2))] (jxSH, a0, b0)) (jQ_X6_read_r2 a0 b0) := by
  obtain ⟨d, rfl⟩ := jd_succ hd
  refine jt_eq (bq_X6_read_r2 E d a0 b0) ?_
  exact (cp_X6_read_r2_2 E d hd a0 b0 hv0 _) 0 a0 (Nat.le_refl _) hv0 (jfr_rf _ _) (show 0 ≤ 0 from by omega) (show 0 ≤ 5 from by omega) (by first | exact (fun w h => absurd h (by omega)) | (intro w hw; show (if w = y2.toNat then _ else a 57 w) = RDF w; by_cases e : w = y2.toNat <;> first | (rw [if_pos e, RDF_g (by omega) (by omega), e, Int.toNat_of_nonneg (by omega)]) | (rw [if_neg e]; exact hdr (w) (by omega)))) (fun j => rfl)
def jW_X11_rules : List (Nat × Nat) := [(2, 1), (2, 2), (2, 3), (55, 2), (56, 9999), (57, 9999)]
abbrev jQ_X11_rules (a0 b0 : Nat → Nat → Int) : List jxV → (Nat → Nat → Int) → (Nat → Nat → Int) → Prop := rI (fun r a b => (iv a) ∧ (jfr jW_X11_rules a0 a) ∧ (b0 = b) ∧ ((a0 2 1 = 0 → r = 0)) ∧ ((a0 2 1 ≤ 100 → a 2 1 = 0)) ∧ ((100 < a0 2 1 → a 2 1 = a0 2 1)) ∧ (a0 2 1 ≤ 100 → RRS (a0 3) (a0 2 1).toNat r) ∧ (0 ≤ r → ∀ w : Nat, w < 5 → a 56 w = DRF (a0 3) (a0 2 1).toNat r.toNat w) ∧ (r < 0 → ∀ j, a 56 j = a0 56 j) ∧ ((100 < a0 2 1 → r = 0 - 1)))
theorem cp_X11_rules_34 (E : jxE) (d : Nat) (hd : Nat.ble 10 (d + 1) = true) (a0 b0 : Nat → Nat → Int) (hv0 : iv a0) : ∀ (y1 : Int) (a : Nat → Nat → Int), iv a → jfr jW_X11_rules a0 a → (a0 2 1 = 0 → y1 = 0) → a 2 1 = 0 → a0 2 1 ≤ 100 → (RRS (a0 3) (a0 2 1).toNat y1 ∧ (0 ≤ y1 → ∀ w : Nat, w < 5 → a 56 w = DRF (a0 3) (a0 2 1).toNat y1.toNat w) ∧ (y1 < 0 → ∀ j, a 56 j = a0 56 j)) → jt (jxX E d 164 34 [none, some (.inl y1)] [] (jxSH, a, b0)) (jQ_X11_rules a0 b0) := by
  intro y1 a hv hf hi0 hi1 hi2 hru
  refine jt_eq (bq_X11_rules_34 E d y1 a b0) ?_
  have h2046_ := iv_get hv0 (k := 2) (j := 1) (l := 0) (u := 200) rfl
  have h2047_ := iv_get hv (k := 2) (j := 1) (l := 0) (u := 200) rfl
  exact jt_rI ⟨hv, hf, rfl, (show (a0 2 1 = 0 → y1 = 0) from by omega), (show (a0 2 1 ≤ 100 → a 2 1 = 0) from by omega), (show (100 < a0 2 1 → a 2 1 = a0 2 1) from by omega), (fun _ => hru.1), hru.2.1, hru.2.2, (show (100 < a0 2 1 → y1 = 0 - 1) from by omega)⟩
theorem sp_X11_rules (E : jxE) (d : Nat) (hd : Nat.ble 10 d = true) (a0 b0 : Nat → Nat → Int) (hv0 : iv a0) : jt (jxC E d 164 [.inr (.inr (.inl 0))] (jxSH, a0, b0)) (jQ_X11_rules a0 b0) := by
  obtain ⟨d, rfl⟩ := jd_succ hd
  refine jt_eq (bq_X11_rules E d a0 b0) ?_
  refine jt_eI (eq_X8_length E d (jd_le hd rfl) a0 b0) ?_
  have h2048_ := f_X8_length_eq a0 b0
  have h2049_ := iv_get hv0 (k := 2) (j := 1) (l := 0) (u := 200) rfl
  refine jt_ite (fun c2050_ => ?_) (fun c2050_ => ?_)
  ·
    exact jt_rI ⟨hv0, (jfr_rf _ _), rfl, (show (a0 2 1 = 0 → (-1) = 0) from by omega), (show (a0 2 1 ≤ 100 → a0 2 1 = 0) from by omega), (show (100 < a0 2 1 → a0 2 1 = a0 2 1) from by omega), (fun h => absurd h (by omega)), (fun h => absurd h (by decide)), (fun _ _ => rfl), (show (100 < a0 2 1 → (-1) = 0 - 1) from by omega)⟩
  ·
    refine jt_bI (sp_X6_read_r2 E d (jd_le hd rfl) a0 b0 hv0) (fun r2051_ a2051_ b2051_ h2051_ => ?_)
    obtain ⟨hv2051_, hf2051_, rfl, hq2051_0, hq2051_1, hq2051_2, hq2051_3⟩ := h2051_
    refine jt_bV (sp_X8_cut E d (jd_le hd rfl) 0 a2051_ b0 hv2051_) (fun a2052_ b2052_ h2052_ => ?_)
    obtain ⟨hv2052_, hf2052_, rfl, hq2052_0⟩ := h2052_
    have h2053_ := iv_get hv2051_ (k := 2) (j := 1) (l := 0) (u := 200) rfl
    have h2054_ : a2051_ 2 1 = a0 2 1 := hf2051_ 2 1 rfl
    have h2055_ := iv_get hv2052_ (k := 2) (j := 1) (l := 0) (u := 200) rfl
    have hf2056_ : jfr jW_X11_rules a0 a2051_ := jfr_tr (jfr_rf _ _) hf2051_ rfl
    have hf2057_ : jfr jW_X11_rules a0 a2052_ := jfr_tr hf2056_ hf2052_ rfl
    exact cp_X11_rules_34 E d hd a0 b0 hv0 r2051_ a2052_ hv2052_ hf2057_ (show (a0 2 1 = 0 → r2051_ = 0) from by omega) (show a2052_ 2 1 = 0 from by omega) (show a0 2 1 ≤ 100 from by omega) ⟨hq2051_1, fun q w hw => (hf2052_ 56 w rfl).trans (hq2051_2 q w hw), fun q j => (hf2052_ 56 j rfl).trans (hq2051_3 q j)⟩
def jW_X11_span : List (Nat × Nat) := [(58, 13), (58, 14), (58, 15)]
abbrev jQ_X11_span (x1 x2 x3 : Int) (a0 b0 : Nat → Nat → Int) : List jxV → (Nat → Nat → Int) → (Nat → Nat → Int) → Prop := rI (fun r a b => (iv a) ∧ (jfr jW_X11_span a0 a) ∧ (b0 = b) ∧ ((a0 58 12 = 0 → ((((((0 ≤ x1 ∧ x1 ≤ 15) ∧ 0 ≤ x2) ∧ x2 ≤ 15) ∧ x3 = 2) ∧ r = 0) ∨ (((((x1 < 0 ∨ 15 < x1) ∨ x2 < 0) ∨ 15 < x2) ∨ ¬ x3 = 2) ∧ r = 0 - 1)))) ∧ (0 ≤ x1 ∧ x1 ≤ 15 ∧ 0 ≤ x2 ∧ x2 ≤ 15 ∧ 0 ≤ x3 ∧ x3 ≤ 2 → r = if x3 = 2 then (SPC a0 b0 x1 x2).1 else if x3 = 0 then (SPC a0 b0 x1 x2).2.1 else (SPC a0 b0 x1 x2).2.2) ∧ (¬ (0 ≤ x1 ∧ x1 ≤ 15 ∧ 0 ≤ x2 ∧ x2 ≤ 15 ∧ 0 ≤ x3 ∧ x3 ≤ 2) → r = -1) ∧ (cvC a = cvC a0))
theorem cp_X11_span_34 (E : jxE) (d : Nat) (hd : Nat.ble 4 (d + 1) = true) (x1 x2 x3 : Int) (a0 b0 : Nat → Nat → Int) (hv0 : iv a0) : ∀ (y3 : Int) (a : Nat → Nat → Int), iv a → jfr jW_X11_span a0 a → 0 ≤ y3 → y3 ≤ 2 → (((0 ≤ x1 ∧ x1 ≤ 15) ∧ 0 ≤ x2) ∧ x2 ≤ 15) → y3 = x3 → (a0 58 12 = 0 → ((a 58 13 = 0 ∧ a 58 14 = 0 - 1) ∧ a 58 15 = 0 - 1)) → (y3 = x3) → (((((0 ≤ x1 ∧ x1 ≤ 15) ∧ 0 ≤ x2) ∧ x2 ≤ 15) ∧ 0 ≤ x3) ∧ x3 ≤ 2) → ((a 58 13, a 58 14, a 58 15) = SPC a0 b0 x1 x2) → jt (jxX E d 183 34 [some (.inr (.inr (.inl 0))), none, none, some (.inl y3)] [] (jxSH, a, b0)) (jQ_X11_span x1 x2 x3 a0 b0) := by
  intro y3 a hv hf hi0 hi1 hi2 hi3 hi4 hy3 hi6 hsp
  refine jt_eq (bq_X11_span_34 E d y3 a b0) ?_
  have h2058_ := iv_get hv0 (k := 58) (j := 12) (l := 0) (u := 600) rfl
  have h2059_ := iv_get hv (k := 58) (j := 13) (l := 0) (u := 10) rfl
  refine jt_ite (fun c2060_ => ?_) (fun c2060_ => ?_)
  ·
    refine jt_eI (eq_X0_measuredArrivals E d (jd_le hd rfl) a b0) ?_
    have h2061_ := f_X0_measuredArrivals_eq a b0
    exact jt_rI ⟨hv, hf, rfl, (show (a0 58 12 = 0 → ((((((0 ≤ x1 ∧ x1 ≤ 15) ∧ 0 ≤ x2) ∧ x2 ≤ 15) ∧ x3 = 2) ∧ f_X0_measuredArrivals a b0 = 0) ∨ (((((x1 < 0 ∨ 15 < x1) ∨ x2 < 0) ∨ 15 < x2) ∨ ¬ x3 = 2) ∧ f_X0_measuredArrivals a b0 = 0 - 1))) from by omega), (fun _ => by rw [← hsp, ← hy3]; first | (rw [if_pos (by assumption)]; rfl) | (rw [if_neg (by assumption), if_pos (by assumption)]; rfl) | (rw [if_neg (by assumption), if_neg (by assumption)]; rfl)), (fun h => absurd (by omega) h), (cvC_fr (by first | exact jfr_rf jW_X11_span _ | assumption) rfl)⟩
  ·
    refine jt_ite (fun c2062_ => ?_) (fun c2062_ => ?_)
    ·
      refine jt_eI (eq_X0_measuredLeast E d (jd_le hd rfl) a b0) ?_
      have h2063_ := f_X0_measuredLeast_eq a b0
      exact jt_rI ⟨hv, hf, rfl, (show (a0 58 12 = 0 → ((((((0 ≤ x1 ∧ x1 ≤ 15) ∧ 0 ≤ x2) ∧ x2 ≤ 15) ∧ x3 = 2) ∧ f_X0_measuredLeast a b0 = 0) ∨ (((((x1 < 0 ∨ 15 < x1) ∨ x2 < 0) ∨ 15 < x2) ∨ ¬ x3 = 2) ∧ f_X0_measuredLeast a b0 = 0 - 1))) from by omega), (fun _ => by rw [← hsp, ← hy3]; first | (rw [if_pos (by assumption)]; rfl) | (rw [if_neg (by assumption), if_pos (by assumption)]; rfl) | (rw [if_neg (by assumption), if_neg (by assumption)]; rfl)), (fun h => absurd (by omega) h), (cvC_fr (by first | exact jfr_rf jW_X11_span _ | assumption) rfl)⟩
    ·
      refine jt_eI (eq_X0_measuredGreatest E d (jd_le hd rfl) a b0) ?_
      have h2064_ := f_X0_measuredGreatest_eq a b0
      exact jt_rI ⟨hv, hf, rfl, (show (a0 58 12 = 0 → ((((((0 ≤ x1 ∧ x1 ≤ 15) ∧ 0 ≤ x2) ∧ x2 ≤ 15) ∧ x3 = 2) ∧ f_X0_measuredGreatest a b0 = 0) ∨ (((((x1 < 0 ∨ 15 < x1) ∨ x2 < 0) ∨ 15 < x2) ∨ ¬ x3 = 2) ∧ f_X0_measuredGreatest a b0 = 0 - 1))) from by omega), (fun _ => by rw [← hsp, ← hy3]; first | (rw [if_pos (by assumption)]; rfl) | (rw [if_neg (by assumption), if_pos (by assumption)]; rfl) | (rw [if_neg (by assumption), if_neg (by assumption)]; rfl)), (fun h => absurd (by omega) h), (cvC_fr (by first | exact jfr_rf jW_X11_span _ | assumption) rfl)⟩
theorem sp_X11_span (E : jxE) (d : Nat) (hd : Nat.ble 4 d = true) (x1 x2 x3 : Int) (a0 b0 : Nat → Nat → Int) (hv0 : iv a0) : jt (jxC E d 183 [.inr (.inr (.inl 0)), .inl x1, .inl x2, .inl x3] (jxSH, a0, b0)) (jQ_X11_span x1 x2 x3 a0 b0) := by
  obtain ⟨d, rfl⟩ := jd_succ hd
  refine jt_eq (bq_X11_span E d x1 x2 x3 a0 b0) ?_
  refine jt_eI (eq_X11_isLand E d (jd_le hd rfl) x1 a0 b0) ?_
  have h2065_ := f_X11_isLand_eq a0 b0 x1
  have h2066_ := f_X11_within_eq a0 b0 x1 0 15
  refine jt_ite (fun c2067_ => ?_) (fun c2067_ => ?_)
  ·
    have h2068_ := iv_get hv0 (k := 58) (j := 12) (l := 0) (u := 600) rfl
    exact jt_rI ⟨hv0, (jfr_rf _ _), rfl, (show (a0 58 12 = 0 → ((((((0 ≤ x1 ∧ x1 ≤ 15) ∧ 0 ≤ x2) ∧ x2 ≤ 15) ∧ x3 = 2) ∧ (-1) = 0) ∨ (((((x1 < 0 ∨ 15 < x1) ∨ x2 < 0) ∨ 15 < x2) ∨ ¬ x3 = 2) ∧ (-1) = 0 - 1))) from by omega), (fun h => absurd h (by omega)), (fun _ => rfl), (cvC_fr (by first | exact jfr_rf jW_X11_span _ | assumption) rfl)⟩
  ·
    refine jt_eI (eq_X11_isLand E d (jd_le hd rfl) x2 a0 b0) ?_
    have h2069_ := f_X11_isLand_eq a0 b0 x2
    have h2070_ := f_X11_within_eq a0 b0 x2 0 15
    refine jt_ite (fun c2071_ => ?_) (fun c2071_ => ?_)
    ·
      have h2072_ := iv_get hv0 (k := 58) (j := 12) (l := 0) (u := 600) rfl
      exact jt_rI ⟨hv0, (jfr_rf _ _), rfl, (show (a0 58 12 = 0 → ((((((0 ≤ x1 ∧ x1 ≤ 15) ∧ 0 ≤ x2) ∧ x2 ≤ 15) ∧ x3 = 2) ∧ (-1) = 0) ∨ (((((x1 < 0 ∨ 15 < x1) ∨ x2 < 0) ∨ 15 < x2) ∨ ¬ x3 = 2) ∧ (-1) = 0 - 1))) from by omega), (fun h => absurd h (by omega)), (fun _ => rfl), (cvC_fr (by first | exact jfr_rf jW_X11_span _ | assumption) rfl)⟩
    ·
      refine jt_eI (eq_X11_within E d (jd_le hd rfl) x3 0 2 a0 b0) ?_
      have h2073_ := f_X11_within_eq a0 b0 x3 0 2
      refine jt_ite (fun c2074_ => ?_) (fun c2074_ => ?_)
      ·
        have h2075_ := iv_get hv0 (k := 58) (j := 12) (l := 0) (u := 600) rfl
        exact jt_rI ⟨hv0, (jfr_rf _ _), rfl, (show (a0 58 12 = 0 → ((((((0 ≤ x1 ∧ x1 ≤ 15) ∧ 0 ≤ x2) ∧ x2 ≤ 15) ∧ x3 = 2) ∧ (-1) = 0) ∨ (((((x1 < 0 ∨ 15 < x1) ∨ x2 < 0) ∨ 15 < x2) ∨ ¬ x3 = 2) ∧ (-1) = 0 - 1))) from by omega), (fun h => absurd h (by omega)), (fun _ => rfl), (cvC_fr (by first | exact jfr_rf jW_X11_span _ | assumption) rfl)⟩
      ·
        refine jt_bV (sp_X0_measure E d (jd_le hd rfl) x1 x2 a0 b0 hv0) (fun a2076_ b2076_ h2076_ => ?_)
        obtain ⟨hv2076_, hf2076_, rfl, hq2076_0, hq2076_1⟩ := h2076_
        have h2077_ := iv_get hv0 (k := 58) (j := 12) (l := 0) (u := 600) rfl
        have h2078_ := iv_get hv2076_ (k := 58) (j := 13) (l := 0) (u := 10) rfl
        have hf2079_ : jfr jW_X11_span a0 a2076_ := jfr_tr (jfr_rf _ _) hf2076_ rfl
        exact cp_X11_span_34 E d hd x1 x2 x3 a0 b0 hv0 x3 a2076_ hv2076_ hf2079_ (show 0 ≤ x3 from by omega) (show x3 ≤ 2 from by omega) (show (((0 ≤ x1 ∧ x1 ≤ 15) ∧ 0 ≤ x2) ∧ x2 ≤ 15) from by omega) (show x3 = x3 from by omega) (show (a0 58 12 = 0 → ((a2076_ 58 13 = 0 ∧ a2076_ 58 14 = 0 - 1) ∧ a2076_ 58 15 = 0 - 1)) from by omega) (by first | rfl | assumption) (show (((((0 ≤ x1 ∧ x1 ≤ 15) ∧ 0 ≤ x2) ∧ x2 ≤ 15) ∧ 0 ≤ x3) ∧ x3 ≤ 2) from by omega) hq2076_1
def jW_X1_put : List (Nat × Nat) := [(142, 9999), (143, 9999)]
abbrev jQ_X1_put (x1 x2 x3 : Int) (a0 b0 : Nat → Nat → Int) : List jxV → (Nat → Nat → Int) → (Nat → Nat → Int) → Prop := rI (fun r a b => (iv a) ∧ (jfr jW_X1_put a0 a) ∧ (b0 = b) ∧ ((0 ≤ r ∧ r ≤ 1)) ∧ ((((((((r = 1 ∧ 0 ≤ x1) ∧ x1 ≤ 7) ∧ 1 ≤ x2) ∧ x2 ≤ 500) ∧ 0 ≤ x3) ∧ x3 ≤ 50) ∨ (r = 0 ∧ (((((x1 < 0 ∨ 7 < x1) ∨ x2 < 1) ∨ 500 < x2) ∨ x3 < 0) ∨ 50 < x3)))))
theorem cp_X1_put_36 (E : jxE) (d : Nat) (hd : Nat.ble 2 (d + 1) = true) (x1 x2 x3 : Int) (a0 b0 : Nat → Nat → Int) (hv0 : iv a0) : ∀ (y1 y2 y3 s0 : Int) (a : Nat → Nat → Int), iv a → jfr jW_X1_put a0 a → 0 ≤ s0 → s0 ≤ 1 → y1 = x1 → y2 = x2 → y3 = x3 → (((((((s0 = 1 ∧ 0 ≤ x1) ∧ x1 ≤ 7) ∧ 1 ≤ x2) ∧ x2 ≤ 500) ∧ 0 ≤ x3) ∧ x3 ≤ 50) ∨ (s0 = 0 ∧ (((((x1 < 0 ∨ 7 < x1) ∨ x2 < 1) ∨ 500 < x2) ∨ x3 < 0) ∨ 50 < x3))) → (s0 = 1 → (((((0 ≤ y1 ∧ y1 ≤ 7) ∧ 1 ≤ y2) ∧ y2 ≤ 500) ∧ 0 ≤ y3) ∧ y3 ≤ 50)) → jt (jxX E d 29 36 [some (.inr (.inr (.inl 141))), some (.inl y1), some (.inl y2), some (.inl y3), none] [.inl s0] (jxSH, a, b0)) (jQ_X1_put x1 x2 x3 a0 b0) := by
  intro y1 y2 y3 s0 a hv hf hi0 hi1 hi2 hi3 hi4 hi5 hi6
  refine jt_eq (bq_X1_put_36 E d y1 y2 y3 s0 a b0) ?_
  refine jt_ite (fun c2080_ => ?_) (fun c2080_ => ?_)
  ·
    refine jt_grd (by omega) ?_
    exact jt_rI ⟨hv, hf, rfl, (show (0 ≤ s0 ∧ s0 ≤ 1) from by omega), (show (((((((s0 = 1 ∧ 0 ≤ x1) ∧ x1 ≤ 7) ∧ 1 ≤ x2) ∧ x2 ≤ 500) ∧ 0 ≤ x3) ∧ x3 ≤ 50) ∨ (s0 = 0 ∧ (((((x1 < 0 ∨ 7 < x1) ∨ x2 < 1) ∨ 500 < x2) ∨ x3 < 0) ∨ 50 < x3))) from by omega)⟩
  ·
    refine jt_grd (by omega) ?_
    refine jt_grd (by omega) ?_
    refine jt_grd (by omega) ?_
    have hv2081_ : iv (jxu a 142 (y1.toNat) y2) := iv_putf hv rfl
    have hv2082_ : iv (jxu (jxu a 142 (y1.toNat) y2) 143 (y1.toNat) y3) := iv_putf hv2081_ rfl
    have hf2083_ : jfr jW_X1_put a0 (jxu a 142 (y1.toNat) y2) := jfr_put hf rfl
    have hf2084_ : jfr jW_X1_put a0 (jxu (jxu a 142 (y1.toNat) y2) 143 (y1.toNat) y3) := jfr_put hf2083_ rfl
    exact jt_rI ⟨hv2082_, hf2084_, rfl, (show (0 ≤ s0 ∧ s0 ≤ 1) from by omega), (show (((((((s0 = 1 ∧ 0 ≤ x1) ∧ x1 ≤ 7) ∧ 1 ≤ x2) ∧ x2 ≤ 500) ∧ 0 ≤ x3) ∧ x3 ≤ 50) ∨ (s0 = 0 ∧ (((((x1 < 0 ∨ 7 < x1) ∨ x2 < 1) ∨ 500 < x2) ∨ x3 < 0) ∨ 50 < x3))) from by omega)⟩
theorem cp_X1_put_31 (E : jxE) (d : Nat) (hd : Nat.ble 2 (d + 1) = true) (x1 x2 x3 : Int) (a0 b0 : Nat → Nat → Int) (hv0 : iv a0) : ∀ (y1 y2 y3 : Int) (a : Nat → Nat → Int), iv a → jfr jW_X1_put a0 a → 0 ≤ y1 → y1 ≤ 7 → 1 ≤ y2 → y2 ≤ 500 → 0 ≤ y3 → y3 ≤ 50 → y1 = x1 → y2 = x2 → y3 = x3 → (((((0 ≤ x1 ∧ x1 ≤ 7) ∧ 1 ≤ x2) ∧ x2 ≤ 500) ∧ 0 ≤ x3) ∧ x3 ≤ 50) → jt (jxX E d 29 31 [some (.inr (.inr (.inl 141))), some (.inl y1), some (.inl y2), some (.inl y3), none] [] (jxSH, a, b0)) (jQ_X1_put x1 x2 x3 a0 b0) := by
  intro y1 y2 y3 a hv hf hi0 hi1 hi2 hi3 hi4 hi5 hi6 hi7 hi8 hi9
  refine jt_eq (bq_X1_put_31 E d y1 y2 y3 a b0) ?_
  exact cp_X1_put_36 E d hd x1 x2 x3 a0 b0 hv0 y1 y2 y3 1 a hv hf (show 0 ≤ 1 from by omega) (show 1 ≤ 1 from by omega) (show y1 = x1 from by omega) (show y2 = x2 from by omega) (show y3 = x3 from by omega) (show (((((((1 = 1 ∧ 0 ≤ x1) ∧ x1 ≤ 7) ∧ 1 ≤ x2) ∧ x2 ≤ 500) ∧ 0 ≤ x3) ∧ x3 ≤ 50) ∨ (1 = 0 ∧ (((((x1 < 0 ∨ 7 < x1) ∨ x2 < 1) ∨ 500 < x2) ∨ x3 < 0) ∨ 50 < x3))) from by omega) (show (1 = 1 → (((((0 ≤ y1 ∧ y1 ≤ 7) ∧ 1 ≤ y2) ∧ y2 ≤ 500) ∧ 0 ≤ y3) ∧ y3 ≤ 50)) from by omega)
theorem cp_X1_put_35 (E : jxE) (d : Nat) (hd : Nat.ble 2 (d + 1) = true) (x1 x2 x3 : Int) (a0 b0 : Nat → Nat → Int) (hv0 : iv a0) : ∀ (y1 y2 y3 : Int) (a : Nat → Nat → Int), iv a → jfr jW_X1_put a0 a → y1 = x1 → y2 = x2 → y3 = x3 → (((((x1 < 0 ∨ 7 < x1) ∨ x2 < 1) ∨ 500 < x2) ∨ x3 < 0) ∨ 50 < x3) → jt (jxX E d 29 35 [some (.inr (.inr (.inl 141))), some (.inl y1), some (.inl y2), some (.inl y3), none] [] (jxSH, a, b0)) (jQ_X1_put x1 x2 x3 a0 b0) := by
  intro y1 y2 y3 a hv hf hi0 hi1 hi2 hi3
  refine jt_eq (bq_X1_put_35 E d y1 y2 y3 a b0) ?_
  exact cp_X1_put_36 E d hd x1 x2 x3 a0 b0 hv0 y1 y2 y3 0 a hv hf (show 0 ≤ 0 from by omega) (show 0 ≤ 1 from by omega) (show y1 = x1 from by omega) (show y2 = x2 from by omega) (show y3 = x3 from by omega) (show (((((((0 = 1 ∧ 0 ≤ x1) ∧ x1 ≤ 7) ∧ 1 ≤ x2) ∧ x2 ≤ 500) ∧ 0 ≤ x3) ∧ x3 ≤ 50) ∨ (0 = 0 ∧ (((((x1 < 0 ∨ 7 < x1) ∨ x2 < 1) ∨ 500 < x2) ∨ x3 < 0) ∨ 50 < x3))) from by omega) (show (0 = 1 → (((((0 ≤ y1 ∧ y1 ≤ 7) ∧ 1 ≤ y2) ∧ y2 ≤ 500) ∧ 0 ≤ y3) ∧ y3 ≤ 50)) from by omega)
theorem sp_X1_put (E : jxE) (d : Nat) (hd : Nat.ble 2 d = true) (x1 x2 x3 : Int) (a0 b0 : Nat → Nat → Int) (hv0 : iv a0) : jt (jxC E d 29 [.inr (.inr (.inl 141)), .inl x1, .inl x2, .inl x3] (jxSH, a0, b0)) (jQ_X1_put x1 x2 x3 a0 b0) := by
  obtain ⟨d, rfl⟩ := jd_succ hd
  refine jt_eq (bq_X1_put E d x1 x2 x3 a0 b0) ?_
  refine jt_eI (eq_X11_within E d (jd_le hd rfl) x1 0 7 a0 b0) ?_
  have h2085_ := f_X11_within_eq a0 b0 x1 0 7
  refine jt_ite (fun c2086_ => ?_) (fun c2086_ => ?_)
  ·
    exact cp_X1_put_35 E d hd x1 x2 x3 a0 b0 hv0 x1 x2 x3 a0 hv0 (jfr_rf _ _) (show x1 = x1 from by omega) (show x2 = x2 from by omega) (show x3 = x3 from by omega) (show (((((x1 < 0 ∨ 7 < x1) ∨ x2 < 1) ∨ 500 < x2) ∨ x3 < 0) ∨ 50 < x3) from by omega)
  ·
    refine jt_eI (eq_X11_within E d (jd_le hd rfl) x2 1 500 a0 b0) ?_
    have h2087_ := f_X11_within_eq a0 b0 x2 1 500
    refine jt_ite (fun c2088_ => ?_) (fun c2088_ => ?_)
    ·
      exact cp_X1_put_35 E d hd x1 x2 x3 a0 b0 hv0 x1 x2 x3 a0 hv0 (jfr_rf _ _) (show x1 = x1 from by omega) (show x2 = x2 from by omega) (show x3 = x3 from by omega) (show (((((x1 < 0 ∨ 7 < x1) ∨ x2 < 1) ∨ 500 < x2) ∨ x3 < 0) ∨ 50 < x3) from by omega)
    ·
      refine jt_eI (eq_X11_within E d (jd_le hd rfl) x3 0 50 a0 b0) ?_
      have h2089_ := f_X11_within_eq a0 b0 x3 0 50
      refine jt_ite (fun c2090_ => ?_) (fun c2090_ => ?_)
      ·
        exact cp_X1_put_35 E d hd x1 x2 x3 a0 b0 hv0 x1 x2 x3 a0 hv0 (jfr_rf _ _) (show x1 = x1 from by omega) (show x2 = x2 from by omega) (show x3 = x3 from by omega) (show (((((x1 < 0 ∨ 7 < x1) ∨ x2 < 1) ∨ 500 < x2) ∨ x3 < 0) ∨ 50 < x3) from by omega)
      ·
        exact cp_X1_put_31 E d hd x1 x2 x3 a0 b0 hv0 x1 x2 x3 a0 hv0 (jfr_rf _ _) (show 0 ≤ x1 from by omega) (show x1 ≤ 7 from by omega) (show 1 ≤ x2 from by omega) (show x2 ≤ 500 from by omega) (show 0 ≤ x3 from by omega) (show x3 ≤ 50 from by omega) (show x1 = x1 from by omega) (show x2 = x2 from by omega) (show x3 = x3 from by omega) (show (((((0 ≤ x1 ∧ x1 ≤ 7) ∧ 1 ≤ x2) ∧ x2 ≤ 500) ∧ 0 ≤ x3) ∧ x3 ≤ 50) from by omega)
def jW_X11_stamps : List (Nat × Nat) := [(142, 9999), (143, 9999)]
abbrev jQ_X11_stamps (x1 x2 x3 : Int) (a0 b0 : Nat → Nat → Int) : List jxV → (Nat → Nat → Int) → (Nat → Nat → Int) → Prop := rI (fun r a b => (iv a) ∧ (jfr jW_X11_stamps a0 a) ∧ (b0 = b) ∧ ((0 ≤ r ∧ r ≤ 1)) ∧ ((((((((r = 1 ∧ 0 ≤ x1) ∧ x1 ≤ 7) ∧ 1 ≤ x2) ∧ x2 ≤ 500) ∧ 0 ≤ x3) ∧ x3 ≤ 50) ∨ (r = 0 ∧ (((((x1 < 0 ∨ 7 < x1) ∨ x2 < 1) ∨ 500 < x2) ∨ x3 < 0) ∨ 50 < x3)))))
theorem sp_X11_stamps (E : jxE) (d : Nat) (hd : Nat.ble 3 d = true) (x1 x2 x3 : Int) (a0 b0 : Nat → Nat → Int) (hv0 : iv a0) : jt (jxC E d 193 [.inr (.inr (.inl 0)), .inl x1, .inl x2, .inl x3] (jxSH, a0, b0)) (jQ_X11_stamps x1 x2 x3 a0 b0) := by
  obtain ⟨d, rfl⟩ := jd_succ hd
  refine jt_eq (bq_X11_stamps E d x1 x2 x3 a0 b0) ?_
  refine jt_bI (sp_X1_put E d (jd_le hd rfl) x1 x2 x3 a0 b0 hv0) (fun r2091_ a2091_ b2091_ h2091_ => ?_)
  obtain ⟨hv2091_, hf2091_, rfl, hq2091_0, hq2091_1⟩ := h2091_
  refine jt_grd (by omega) ?_
  have hf2092_ : jfr jW_X11_stamps a0 a2091_ := jfr_tr (jfr_rf _ _) hf2091_ rfl
  exact jt_rI ⟨hv2091_, hf2092_, rfl, (show (0 ≤ r2091_ ∧ r2091_ ≤ 1) from by omega), (show (((((((r2091_ = 1 ∧ 0 ≤ x1) ∧ x1 ≤ 7) ∧ 1 ≤ x2) ∧ x2 ≤ 500) ∧ 0 ≤ x3) ∧ x3 ≤ 50) ∨ (r2091_ = 0 ∧ (((((x1 < 0 ∨ 7 < x1) ∨ x2 < 1) ∨ 500 < x2) ∨ x3 < 0) ∨ 50 < x3))) from by omega)⟩
abbrev jQ_X11_state (x1 x2 x3 : Int) (a0 b0 : Nat → Nat → Int) : List jxV → (Nat → Nat → Int) → (Nat → Nat → Int) → Prop := rI (fun r a b => (a0 = a) ∧ (b0 = b) ∧ ((a0 58 8 = 0 → r = 0 - 1)) ∧ (0 ≤ x1 ∧ x1 < a0 58 8 ∧ 0 ≤ x2 ∧ x2 ≤ 1999 ∧ 0 ≤ x3 ∧ x3 ≤ 1999 → r = f_X0_stateOn a0 b0 x1 x2 x3 (lastd (a0 66) (a0 67) (a0 68) x1 x3 (a0 58 12).toNat)) ∧ (¬ (0 ≤ x1 ∧ x1 < a0 58 8 ∧ 0 ≤ x2 ∧ x2 ≤ 1999 ∧ 0 ≤ x3 ∧ x3 ≤ 1999) → r = -1))
theorem sp_X11_state (E : jxE) (d : Nat) (hd : Nat.ble 4 d = true) (x1 x2 x3 : Int) (a0 b0 : Nat → Nat → Int) (hv0 : iv a0) : jt (jxC E d 180 [.inr (.inr (.inl 0)), .inl x1, .inl x2, .inl x3] (jxSH, a0, b0)) (jQ_X11_state x1 x2 x3 a0 b0) := by
  obtain ⟨d, rfl⟩ := jd_succ hd
  refine jt_eq (bq_X11_state E d x1 x2 x3 a0 b0) ?_
  refine jt_eI (eq_X0_has E d (jd_le hd rfl) x1 a0 b0) ?_
  have h2093_ := f_X0_has_eq a0 b0 x1
  have h2094_ := iv_get hv0 (k := 58) (j := 8) (l := 0) (u := 300) rfl
  refine jt_ite (fun c2095_ => ?_) (fun c2095_ => ?_)
  ·
    exact jt_rI ⟨rfl, rfl, (show (a0 58 8 = 0 → (-1) = 0 - 1) from by omega), (fun h => absurd h (by omega)), (fun _ => rfl)⟩
  ·
    refine jt_eI (eq_X11_isDay E d (jd_le hd rfl) x2 a0 b0) ?_
    have h2096_ := f_X11_isDay_eq a0 b0 x2
    have h2097_ := f_X11_within_eq a0 b0 x2 0 1999
    refine jt_ite (fun c2098_ => ?_) (fun c2098_ => ?_)
    ·
      exact jt_rI ⟨rfl, rfl, (show (a0 58 8 = 0 → (-1) = 0 - 1) from by omega), (fun h => absurd h (by omega)), (fun _ => rfl)⟩
    ·
      refine jt_eI (eq_X11_isDay E d (jd_le hd rfl) x3 a0 b0) ?_
      have h2099_ := f_X11_isDay_eq a0 b0 x3
      have h2100_ := f_X11_within_eq a0 b0 x3 0 1999
      refine jt_ite (fun c2101_ => ?_) (fun c2101_ => ?_)
      ·
        exact jt_rI ⟨rfl, rfl, (show (a0 58 8 = 0 → (-1) = 0 - 1) from by omega), (fun h => absurd h (by omega)), (fun _ => rfl)⟩
      ·
        refine jt_bI (sp_X0_stateAsKnown E d (jd_le hd rfl) x1 x2 x3 a0 b0 hv0) (fun r2102_ a2102_ b2102_ h2102_ => ?_)
        obtain ⟨rfl, rfl, hq2102_0⟩ := h2102_
        exact jt_rI ⟨rfl, rfl, (show (a0 58 8 = 0 → r2102_ = 0 - 1) from by omega), (fun _ => hq2102_0), (fun h => absurd (by omega) h)⟩
