def jWad1 : List (Nat × Nat) := [(59, 9999), (60, 9999)]
def jWad2 : List (Nat × Nat) := [(59, 9999), (60, 9999), (61, 9999), (62, 9999), (63, 9999)]
def jW_X0_add : List (Nat × Nat) := [(58, 8), (59, 9999), (60, 9999), (61, 9999), (62, 9999), (63, 9999), (64, 9999), (65, 9999)]
abbrev jQ_X0_add (x1 x2 x3 x4 x5 : Int) (a0 b0 : Nat → Nat → Int) : List jxV → (Nat → Nat → Int) → (Nat → Nat → Int) → Prop := rI (fun r a b => (iv a) ∧ (jfr jW_X0_add a0 a) ∧ (b0 = b) ∧ (a0 58 8 < 300 → cvC a = vAdd (cvC a0) x1 x2 x3 x4 x5) ∧ (((a0 58 8 < 300 ∧ r = a0 58 8) ∨ (300 ≤ a0 58 8 ∧ r = 0 - 1))) ∧ (300 ≤ a0 58 8 → cvC a = cvC a0))
theorem cp_X0_add_64 (E : jxE) (d : Nat) (hd : Nat.ble 1 (d + 1) = true) (x1 x2 x3 x4 x5 : Int) (a0 b0 : Nat → Nat → Int) (hv0 : iv a0) : ∀ (a : Nat → Nat → Int), iv a → jfr jW_X0_add a0 a → a 58 8 ≤ 299 → (jfr jWad2 a0 a) → (a 59 = rup (a0 59) (a0 58 8).toNat x1 ∧ a 60 = rup (a0 60) (a0 58 8).toNat x2 ∧ a 61 = rup (a0 61) (a0 58 8).toNat x3 ∧ a 62 = rup (a0 62) (a0 58 8).toNat x4 ∧ a 63 = rup (a0 63) (a0 58 8).toNat x5) → a 58 8 = a0 58 8 → a0 58 8 < 300 → jt (jxX E d 5 64 [some (.inr (.inr (.inl 58))), none, none, none, none, none] [] (jxSH, a, b0)) (jQ_X0_add x1 x2 x3 x4 x5 a0 b0) := by
  intro a hv hf hi0 hfa hr1 hi3 hi4
  refine jt_eq (bq_X0_add_64 E d a b0) ?_
  have h1_ := iv_get hv (k := 58) (j := 8) (l := 0) (u := 300) rfl
  have h2_ := iv_get hv0 (k := 58) (j := 8) (l := 0) (u := 300) rfl
  refine jt_grd (by omega) ?_
  refine jt_grd (by omega) ?_
  have hv3_ : iv (jxu a 64 ((a 58 8).toNat) (-1)) := iv_putf hv rfl
  have hv4_ : iv (jxu (jxu a 64 ((a 58 8).toNat) (-1)) 65 ((a 58 8).toNat) (-1)) := iv_putf hv3_ rfl
  have h6_ : jxw ((a 58 8) + 1) = (a 58 8) + 1 := jxw_id (by omega) (by omega)
  have hv5_ : iv (jxu (jxu (jxu a 64 ((a 58 8).toNat) (-1)) 65 ((a 58 8).toNat) (-1)) 58 8 (jxw ((a 58 8) + 1))) := iv_put hv4_ (l := 0) (u := 300) rfl (by omega) (by omega)
  have hf7_ : jfr jW_X0_add a0 (jxu a 64 ((a 58 8).toNat) (-1)) := jfr_put hf rfl
  have hf8_ : jfr jW_X0_add a0 (jxu (jxu a 64 ((a 58 8).toNat) (-1)) 65 ((a 58 8).toNat) (-1)) := jfr_put hf7_ rfl
  have hf9_ : jfr jW_X0_add a0 (jxu (jxu (jxu a 64 ((a 58 8).toNat) (-1)) 65 ((a 58 8).toNat) (-1)) 58 8 (jxw ((a 58 8) + 1))) := jfr_put hf8_ rfl
  exact jt_rI ⟨hv5_, hf9_, rfl, (fun _ => mkCV_eq (show jxw ((a 58 8) + 1) = a0 58 8 + 1 from by omega) (hfa 58 12 rfl) hr1.1 hr1.2.1 hr1.2.2.1 hr1.2.2.2.1 hr1.2.2.2.2 (funext fun j => by show (if j = (a 58 8).toNat then _ else a 64 j) = (if j = (a0 58 8).toNat then _ else a0 64 j); rw [show (a 58 8).toNat = (a0 58 8).toNat from by omega, hfa 64 j rfl]) (funext fun j => by show (if j = (a 58 8).toNat then _ else a 65 j) = (if j = (a0 58 8).toNat then _ else a0 65 j); rw [show (a 58 8).toNat = (a0 58 8).toNat from by omega, hfa 65 j rfl]) (funext fun j => hfa 66 j rfl) (funext fun j => hfa 67 j rfl) (funext fun j => hfa 68 j rfl)), (show ((a0 58 8 < 300 ∧ a 58 8 = a0 58 8) ∨ (300 ≤ a0 58 8 ∧ a 58 8 = 0 - 1)) from by omega), (fun h => absurd h (by omega))⟩
theorem cp_X0_add_32 (E : jxE) (d : Nat) (hd : Nat.ble 1 (d + 1) = true) (x1 x2 x3 x4 x5 : Int) (a0 b0 : Nat → Nat → Int) (hv0 : iv a0) : ∀ (y3 y4 y5 : Int) (a : Nat → Nat → Int), iv a → jfr jW_X0_add a0 a → a 58 8 ≤ 299 → (jfr jWad1 a0 a) → (a 59 = rup (a0 59) (a0 58 8).toNat x1 ∧ a 60 = rup (a0 60) (a0 58 8).toNat x2) → (y3 = x3) → (y4 = x4) → (y5 = x5) → a 58 8 = a0 58 8 → a0 58 8 < 300 → jt (jxX E d 5 32 [some (.inr (.inr (.inl 58))), none, none, some (.inl y3), some (.inl y4), some (.inl y5)] [] (jxSH, a, b0)) (jQ_X0_add x1 x2 x3 x4 x5 a0 b0) := by
  intro y3 y4 y5 a hv hf hi0 hfa hr1 hy3 hy4 hy5 hi6 hi7
  refine jt_eq (bq_X0_add_32 E d y3 y4 y5 a b0) ?_
  have h10_ := iv_get hv (k := 58) (j := 8) (l := 0) (u := 300) rfl
  have h11_ := iv_get hv0 (k := 58) (j := 8) (l := 0) (u := 300) rfl
  refine jt_grd (by omega) ?_
  refine jt_grd (by omega) ?_
  refine jt_grd (by omega) ?_
  have hv12_ : iv (jxu a 61 ((a 58 8).toNat) y3) := iv_putf hv rfl
  have hv13_ : iv (jxu (jxu a 61 ((a 58 8).toNat) y3) 62 ((a 58 8).toNat) y4) := iv_putf hv12_ rfl
  have hv14_ : iv (jxu (jxu (jxu a 61 ((a 58 8).toNat) y3) 62 ((a 58 8).toNat) y4) 63 ((a 58 8).toNat) y5) := iv_putf hv13_ rfl
  have hf15_ : jfr jW_X0_add a0 (jxu a 61 ((a 58 8).toNat) y3) := jfr_put hf rfl
  have hf16_ : jfr jW_X0_add a0 (jxu (jxu a 61 ((a 58 8).toNat) y3) 62 ((a 58 8).toNat) y4) := jfr_put hf15_ rfl
  have hf17_ : jfr jW_X0_add a0 (jxu (jxu (jxu a 61 ((a 58 8).toNat) y3) 62 ((a 58 8).toNat) y4) 63 ((a 58 8).toNat) y5) := jfr_put hf16_ rfl
  have hf18_ : jfr jWad2 a0 (jxu a 61 ((a 58 8).toNat) y3) := jfr_put (jfr_tr (jfr_rf _ _) hfa rfl) rfl
  have hf19_ : jfr jWad2 a0 (jxu (jxu a 61 ((a 58 8).toNat) y3) 62 ((a 58 8).toNat) y4) := jfr_put hf18_ rfl
  have hf20_ : jfr jWad2 a0 (jxu (jxu (jxu a 61 ((a 58 8).toNat) y3) 62 ((a 58 8).toNat) y4) 63 ((a 58 8).toNat) y5) := jfr_put hf19_ rfl
  exact cp_X0_add_64 E d hd x1 x2 x3 x4 x5 a0 b0 hv0 (jxu (jxu (jxu a 61 ((a 58 8).toNat) y3) 62 ((a 58 8).toNat) y4) 63 ((a 58 8).toNat) y5) hv14_ hf17_ (show a 58 8 ≤ 299 from by omega) hf20_ (by subst hy3; subst hy4; subst hy5; exact ⟨hr1.1, hr1.2, (funext fun j => by show (if j = (a 58 8).toNat then _ else a 61 j) = (if j = (a0 58 8).toNat then _ else a0 61 j); rw [show (a 58 8).toNat = (a0 58 8).toNat from by omega, hfa 61 j rfl]), (funext fun j => by show (if j = (a 58 8).toNat then _ else a 62 j) = (if j = (a0 58 8).toNat then _ else a0 62 j); rw [show (a 58 8).toNat = (a0 58 8).toNat from by omega, hfa 62 j rfl]), (funext fun j => by show (if j = (a 58 8).toNat then _ else a 63 j) = (if j = (a0 58 8).toNat then _ else a0 63 j); rw [show (a 58 8).toNat = (a0 58 8).toNat from by omega, hfa 63 j rfl])⟩) (show a 58 8 = a0 58 8 from by omega) (show a0 58 8 < 300 from by omega)
theorem sp_X0_add (E : jxE) (d : Nat) (hd : Nat.ble 1 d = true) (x1 x2 x3 x4 x5 : Int) (a0 b0 : Nat → Nat → Int) (hv0 : iv a0) : jt (jxC E d 5 [.inr (.inr (.inl 58)), .inl x1, .inl x2, .inl x3, .inl x4, .inl x5] (jxSH, a0, b0)) (jQ_X0_add x1 x2 x3 x4 x5 a0 b0) := by
  obtain ⟨d, rfl⟩ := jd_succ hd
  refine jt_eq (bq_X0_add E d x1 x2 x3 x4 x5 a0 b0) ?_
  have h21_ := iv_get hv0 (k := 58) (j := 8) (l := 0) (u := 300) rfl
  refine jt_ite (fun c22_ => ?_) (fun c22_ => ?_)
  ·
    refine jt_grd (by omega) ?_
    refine jt_grd (by omega) ?_
    have hv23_ : iv (jxu a0 59 ((a0 58 8).toNat) x1) := iv_putf hv0 rfl
    have hv24_ : iv (jxu (jxu a0 59 ((a0 58 8).toNat) x1) 60 ((a0 58 8).toNat) x2) := iv_putf hv23_ rfl
    have hf25_ : jfr jW_X0_add a0 (jxu a0 59 ((a0 58 8).toNat) x1) := jfr_put (jfr_rf _ _) rfl
    have hf26_ : jfr jW_X0_add a0 (jxu (jxu a0 59 ((a0 58 8).toNat) x1) 60 ((a0 58 8).toNat) x2) := jfr_put hf25_ rfl
    have hf27_ : jfr jWad1 a0 (jxu a0 59 ((a0 58 8).toNat) x1) := jfr_put (jfr_rf _ _) rfl
    have hf28_ : jfr jWad1 a0 (jxu (jxu a0 59 ((a0 58 8).toNat) x1) 60 ((a0 58 8).toNat) x2) := jfr_put hf27_ rfl
    exact cp_X0_add_32 E d hd x1 x2 x3 x4 x5 a0 b0 hv0 x3 x4 x5 (jxu (jxu a0 59 ((a0 58 8).toNat) x1) 60 ((a0 58 8).toNat) x2) hv24_ hf26_ (show a0 58 8 ≤ 299 from by omega) hf28_ ⟨rfl, rfl⟩ (by first | rfl | assumption) (by first | rfl | assumption) (by first | rfl | assumption) (show a0 58 8 = a0 58 8 from by omega) (show a0 58 8 < 300 from by omega)
  ·
    exact jt_rI ⟨hv0, (jfr_rf _ _), rfl, (fun h => absurd h (by omega)), (show ((a0 58 8 < 300 ∧ (-1) = a0 58 8) ∨ (300 ≤ a0 58 8 ∧ (-1) = 0 - 1)) from by omega), (fun _ => rfl)⟩
def jWam : List (Nat × Nat) := []
def jW_X0_addMeasured : List (Nat × Nat) := [(58, 13), (58, 14), (58, 15)]
abbrev jQ_X0_addMeasured (x1 : Int) (a0 b0 : Nat → Nat → Int) : List jxV → (Nat → Nat → Int) → (Nat → Nat → Int) → Prop := rV (fun a b => (iv a) ∧ (jfr jW_X0_addMeasured a0 a) ∧ (b0 = b) ∧ (a 58 13 = (a0 58 13) + 1) ∧ (a 58 14 = (if a0 58 13 = 0 then x1 else if x1 < a0 58 14 then x1 else a0 58 14)) ∧ (a 58 15 = (if a0 58 15 < x1 then x1 else a0 58 15)))
theorem cp_X0_addMeasured_20 (E : jxE) (d : Nat) (hd : Nat.ble 2 (d + 1) = true) (x1 : Int) (a0 b0 : Nat → Nat → Int) (hv0 : iv a0) (hp0 : a0 58 13 < 10) : ∀ (y1 s1 : Int) (a : Nat → Nat → Int), iv a → jfr jW_X0_addMeasured a0 a → a 58 13 ≤ 9 → (s1 = (if a0 58 13 = 0 then x1 else if x1 < a0 58 14 then x1 else a0 58 14)) → (y1 = x1) → a 58 13 = a0 58 13 → (jfr jWam a0 a) → jt (jxX E d 24 20 [some (.inr (.inr (.inl 58))), some (.inl y1)] [.inl s1, .inr (.inr (.inl 58))] (jxSH, a, b0)) (jQ_X0_addMeasured x1 a0 b0) := by
  intro y1 s1 a hv hf hi0 hs1 hy1 hi3 hfe
  refine jt_eq (bq_X0_addMeasured_20 E d y1 s1 a b0) ?_
  have h29_ := iv_get hv (k := 58) (j := 13) (l := 0) (u := 10) rfl
  have h30_ := iv_get hv0 (k := 58) (j := 13) (l := 0) (u := 10) rfl
  refine jt_eI (eq_J9_max_7cf53 E d (jd_le hd rfl) (a 58 15) y1 (jxu a 58 14 s1) b0) ?_
  have hv31_ : iv (jxu a 58 14 s1) := iv_putf hv rfl
  have hv32_ : iv (jxu (jxu a 58 14 s1) 58 15 (f_J9_max_7cf53 (jxu a 58 14 s1) b0 (a 58 15) y1)) := iv_putf hv31_ rfl
  have h34_ : jxw ((a 58 13) + 1) = (a 58 13) + 1 := jxw_id (by omega) (by omega)
  have hv33_ : iv (jxu (jxu (jxu a 58 14 s1) 58 15 (f_J9_max_7cf53 (jxu a 58 14 s1) b0 (a 58 15) y1)) 58 13 (jxw ((a 58 13) + 1))) := iv_put hv32_ (l := 0) (u := 10) rfl (by omega) (by omega)
  have hf35_ : jfr jW_X0_addMeasured a0 (jxu a 58 14 s1) := jfr_put hf rfl
  have hf36_ : jfr jW_X0_addMeasured a0 (jxu (jxu a 58 14 s1) 58 15 (f_J9_max_7cf53 (jxu a 58 14 s1) b0 (a 58 15) y1)) := jfr_put hf35_ rfl
  have hf37_ : jfr jW_X0_addMeasured a0 (jxu (jxu (jxu a 58 14 s1) 58 15 (f_J9_max_7cf53 (jxu a 58 14 s1) b0 (a 58 15) y1)) 58 13 (jxw ((a 58 13) + 1))) := jfr_put hf36_ rfl
  exact jt_rV ⟨hv33_, hf37_, rfl, (show jxw ((a 58 13) + 1) = (a0 58 13) + 1 from by omega), (by show s1 = _; exact hs1), (by show f_J9_max_7cf53 (jxu a 58 14 s1) b0 (a 58 15) y1 = _; rw [hy1, hfe 58 15 rfl]; rfl)⟩
theorem sp_X0_addMeasured (E : jxE) (d : Nat) (hd : Nat.ble 2 d = true) (x1 : Int) (a0 b0 : Nat → Nat → Int) (hv0 : iv a0) (hp0 : a0 58 13 < 10) : jt (jxC E d 24 [.inr (.inr (.inl 58)), .inl x1] (jxSH, a0, b0)) (jQ_X0_addMeasured x1 a0 b0) := by
  obtain ⟨d, rfl⟩ := jd_succ hd
  refine jt_eq (bq_X0_addMeasured E d x1 a0 b0) ?_
  have h38_ := iv_get hv0 (k := 58) (j := 13) (l := 0) (u := 10) rfl
  refine jt_ite (fun c39_ => ?_) (fun c39_ => ?_)
  ·
    exact cp_X0_addMeasured_20 E d hd x1 a0 b0 hv0 hp0 x1 x1 a0 hv0 (jfr_rf _ _) (show a0 58 13 ≤ 9 from by omega) (by first | (rw [if_pos (by assumption)]) | (rw [if_neg (by assumption)]; rfl)) (by first | rfl | assumption) (show a0 58 13 = a0 58 13 from by omega) (jfr_rf _ _)
  ·
    refine jt_eI (eq_J9_min_7cf53 E d (jd_le hd rfl) (a0 58 14) x1 a0 b0) ?_
    have h40_ := f_J9_min_7cf53_eq a0 b0 (a0 58 14) x1
    exact cp_X0_addMeasured_20 E d hd x1 a0 b0 hv0 hp0 x1 (f_J9_min_7cf53 a0 b0 (a0 58 14) x1) a0 hv0 (jfr_rf _ _) (show a0 58 13 ≤ 9 from by omega) (by first | (rw [if_pos (by assumption)]) | (rw [if_neg (by assumption)]; rfl)) (by first | rfl | assumption) (show a0 58 13 = a0 58 13 from by omega) (jfr_rf _ _)
def jW_X0_measure : List (Nat × Nat) := [(58, 13), (58, 14), (58, 15)]
abbrev jQ_X0_measure (x1 x2 : Int) (a0 b0 : Nat → Nat → Int) : List jxV → (Nat → Nat → Int) → (Nat → Nat → Int) → Prop := rV (fun a b => (iv a) ∧ (jfr jW_X0_measure a0 a) ∧ (b0 = b) ∧ ((a0 58 12 = 0 → ((a 58 13 = 0 ∧ a 58 14 = 0 - 1) ∧ a 58 15 = 0 - 1))) ∧ ((a 58 13, a 58 14, a 58 15) = SPC a0 b0 x1 x2))
theorem cp_X0_measure_22 (E : jxE) (d : Nat) (hd : Nat.ble 3 (d + 1) = true) (x1 x2 : Int) (a0 b0 : Nat → Nat → Int) (hv0 : iv a0) : ∀ n : Nat, (∀ (y1 y2 y3 : Int) (a : Nat → Nat → Int), (((y3 + 1) * 1) + 0).toNat ≤ n → iv a → jfr jW_X0_measure a0 a → 0 ≤ y3 → y3 ≤ 599 → 1 ≤ a0 58 12 → y1 = x1 → y2 = x2 → 0 ≤ a 58 13 → 0 ≤ y3 → y3 < a0 58 12 → y3 ≤ 599 → (SPN (pC a0 b0 x1 x2) (dC a0) 0 y3.toNat (a 58 13, a 58 14, a 58 15) = SPC a0 b0 x1 x2) → jt (jxX E d 23 139 [some (.inr (.inr (.inl 58))), some (.inl y1), some (.inl y2), some (.inl y3), none, none] [] (jxSH, a, b0)) (jQ_X0_measure x1 x2 a0 b0)) ∧ (∀ (y1 y2 y3 y4 : Int) (a : Nat → Nat → Int), (((y3 + 1) * 1) + 0).toNat ≤ n → iv a → jfr jW_X0_measure a0 a → 0 ≤ y3 → y3 ≤ 599 → 0 ≤ y4 → y4 ≤ 299 → a 58 13 ≤ 9 → 1 ≤ a0 58 12 → y1 = x1 → y2 = x2 → 0 ≤ a 58 13 → 0 ≤ y3 → y3 < a0 58 12 → y3 ≤ 599 → (SPN (pC a0 b0 x1 x2) (dC a0) 0 (y3.toNat + 1) (a 58 13, a 58 14, a 58 15) = SPC a0 b0 x1 x2) → (y4 = a0 66 y3.toNat) → a 58 13 < 10 → (pC a0 b0 x1 x2 y3.toNat = 1) → jt (jxX E d 23 121 [some (.inr (.inr (.inl 58))), some (.inl y1), some (.inl y2), some (.inl y3), some (.inl y4), none] [] (jxSH, a, b0)) (jQ_X0_measure x1 x2 a0 b0)) ∧ (∀ (y1 y2 y3 y4 s0 : Int) (a : Nat → Nat → Int), (((y3 + 1) * 1) + 0).toNat ≤ n → iv a → jfr jW_X0_measure a0 a → 0 ≤ y3 → y3 ≤ 599 → 0 ≤ s0 → s0 ≤ 1 → a 58 13 ≤ 9 → 1 ≤ a0 58 12 → y1 = x1 → y2 = x2 → 0 ≤ a 58 13 → 0 ≤ y3 → y3 < a0 58 12 → y3 ≤ 599 → (SPN (pC a0 b0 x1 x2) (dC a0) 0 (y3.toNat + 1) (a 58 13, a 58 14, a 58 15) = SPC a0 b0 x1 x2) → (y4 = a0 66 y3.toNat) → a 58 13 < 10 → (s0 = 0 → ¬ pC a0 b0 x1 x2 y3.toNat = 1) → (s0 = 1 → ¬ f_X0_has a0 b0 y4 = 0 ∧ a0 65 y4.toNat = y3 ∧ ¬ a0 67 y3.toNat = -1) → (s0 = 0 ∨ s0 = 1) → (s0 = 1 → (0 ≤ y4 ∧ y4 ≤ 299)) → jt (jxX E d 23 78 [some (.inr (.inr (.inl 58))), some (.inl y1), some (.inl y2), some (.inl y3), some (.inl y4), none] [.inl s0] (jxSH, a, b0)) (jQ_X0_measure x1 x2 a0 b0)) ∧ (∀ (y1 y2 y3 y4 : Int) (a : Nat → Nat → Int), (((y3 + 1) * 1) + 0).toNat ≤ n → iv a → jfr jW_X0_measure a0 a → 0 ≤ y3 → y3 ≤ 599 → a 58 13 ≤ 9 → 1 ≤ a0 58 12 → y1 = x1 → y2 = x2 → 0 ≤ a 58 13 → 0 ≤ y3 → y3 < a0 58 12 → y3 ≤ 599 → (SPN (pC a0 b0 x1 x2) (dC a0) 0 (y3.toNat + 1) (a 58 13, a 58 14, a 58 15) = SPC a0 b0 x1 x2) → (y4 = a0 66 y3.toNat) → a 58 13 < 10 → (¬ pC a0 b0 x1 x2 y3.toNat = 1) → jt (jxX E d 23 77 [some (.inr (.inr (.inl 58))), some (.inl y1), some (.inl y2), some (.inl y3), some (.inl y4), none] [] (jxSH, a, b0)) (jQ_X0_measure x1 x2 a0 b0)) ∧ (∀ (y1 y2 y3 y4 : Int) (a : Nat → Nat → Int), (((y3 + 1) * 1) + 0).toNat ≤ n → iv a → jfr jW_X0_measure a0 a → 0 ≤ y3 → y3 ≤ 599 → 0 ≤ y4 → y4 ≤ 299 → a 58 13 ≤ 9 → 1 ≤ a0 58 12 → y1 = x1 → y2 = x2 → 0 ≤ a 58 13 → 0 ≤ y3 → y3 < a0 58 12 → y3 ≤ 599 → (SPN (pC a0 b0 x1 x2) (dC a0) 0 (y3.toNat + 1) (a 58 13, a 58 14, a 58 15) = SPC a0 b0 x1 x2) → (y4 = a0 66 y3.toNat) → a 58 13 < 10 → (¬ f_X0_has a0 b0 y4 = 0) → jt (jxX E d 23 52 [some (.inr (.inr (.inl 58))), some (.inl y1), some (.inl y2), some (.inl y3), some (.inl y4), none] [] (jxSH, a, b0)) (jQ_X0_measure x1 x2 a0 b0)) ∧ (∀ (y1 y2 y3 : Int) (a : Nat → Nat → Int), (((y3 + 1) * 1) + 0).toNat ≤ n → iv a → jfr jW_X0_measure a0 a → 0 - 1 ≤ y3 → y3 ≤ 599 → (a0 58 12 = 0 → (((y3 < 0 ∧ a 58 13 = 0) ∧ a 58 14 = 0 - 1) ∧ a 58 15 = 0 - 1)) → y1 = x1 → y2 = x2 → 0 ≤ a 58 13 → 0 - 1 ≤ y3 → y3 < a0 58 12 → (SPN (pC a0 b0 x1 x2) (dC a0) 0 (y3 + 1).toNat (a 58 13, a 58 14, a 58 15) = SPC a0 b0 x1 x2) → jt (jxX E d 23 22 [some (.inr (.inr (.inl 58))), some (.inl y1), some (.inl y2), some (.inl y3), none, none] [] (jxSH, a, b0)) (jQ_X0_measure x1 x2 a0 b0)) := by
  refine jx_ind fun n ih => ?_
  have ih139 : ∀ (y1 y2 y3 : Int) (a : Nat → Nat → Int), (((y3 + 1) * 1) + 0).toNat < n → iv a → jfr jW_X0_measure a0 a → 0 ≤ y3 → y3 ≤ 599 → 1 ≤ a0 58 12 → y1 = x1 → y2 = x2 → 0 ≤ a 58 13 → 0 ≤ y3 → y3 < a0 58 12 → y3 ≤ 599 → (SPN (pC a0 b0 x1 x2) (dC a0) 0 y3.toNat (a 58 13, a 58 14, a 58 15) = SPC a0 b0 x1 x2) → jt (jxX E d 23 139 [some (.inr (.inr (.inl 58))), some (.inl y1), some (.inl y2), some (.inl y3), none, none] [] (jxSH, a, b0)) (jQ_X0_measure x1 x2 a0 b0) := fun y1 y2 y3 a hlt i0 i1 i2 i3 i4 i5 i6 i7 i8 i9 i10 i11 => (ih _ hlt).1 y1 y2 y3 a (Nat.le_refl _) i0 i1 i2 i3 i4 i5 i6 i7 i8 i9 i10 i11
  have ih121 : ∀ (y1 y2 y3 y4 : Int) (a : Nat → Nat → Int), (((y3 + 1) * 1) + 0).toNat < n → iv a → jfr jW_X0_measure a0 a → 0 ≤ y3 → y3 ≤ 599 → 0 ≤ y4 → y4 ≤ 299 → a 58 13 ≤ 9 → 1 ≤ a0 58 12 → y1 = x1 → y2 = x2 → 0 ≤ a 58 13 → 0 ≤ y3 → y3 < a0 58 12 → y3 ≤ 599 → (SPN (pC a0 b0 x1 x2) (dC a0) 0 (y3.toNat + 1) (a 58 13, a 58 14, a 58 15) = SPC a0 b0 x1 x2) → (y4 = a0 66 y3.toNat) → a 58 13 < 10 → (pC a0 b0 x1 x2 y3.toNat = 1) → jt (jxX E d 23 121 [some (.inr (.inr (.inl 58))), some (.inl y1), some (.inl y2), some (.inl y3), some (.inl y4), none] [] (jxSH, a, b0)) (jQ_X0_measure x1 x2 a0 b0) := fun y1 y2 y3 y4 a hlt i0 i1 i2 i3 i4 i5 i6 i7 i8 i9 i10 i11 i12 i13 i14 i15 i16 i17 => (ih _ hlt).2.1 y1 y2 y3 y4 a (Nat.le_refl _) i0 i1 i2 i3 i4 i5 i6 i7 i8 i9 i10 i11 i12 i13 i14 i15 i16 i17
  have ih78 : ∀ (y1 y2 y3 y4 s0 : Int) (a : Nat → Nat → Int), (((y3 + 1) * 1) + 0).toNat < n → iv a → jfr jW_X0_measure a0 a → 0 ≤ y3 → y3 ≤ 599 → 0 ≤ s0 → s0 ≤ 1 → a 58 13 ≤ 9 → 1 ≤ a0 58 12 → y1 = x1 → y2 = x2 → 0 ≤ a 58 13 → 0 ≤ y3 → y3 < a0 58 12 → y3 ≤ 599 → (SPN (pC a0 b0 x1 x2) (dC a0) 0 (y3.toNat + 1) (a 58 13, a 58 14, a 58 15) = SPC a0 b0 x1 x2) → (y4 = a0 66 y3.toNat) → a 58 13 < 10 → (s0 = 0 → ¬ pC a0 b0 x1 x2 y3.toNat = 1) → (s0 = 1 → ¬ f_X0_has a0 b0 y4 = 0 ∧ a0 65 y4.toNat = y3 ∧ ¬ a0 67 y3.toNat = -1) → (s0 = 0 ∨ s0 = 1) → (s0 = 1 → (0 ≤ y4 ∧ y4 ≤ 299)) → jt (jxX E d 23 78 [some (.inr (.inr (.inl 58))), some (.inl y1), some (.inl y2), some (.inl y3), some (.inl y4), none] [.inl s0] (jxSH, a, b0)) (jQ_X0_measure x1 x2 a0 b0) := fun y1 y2 y3 y4 s0 a hlt i0 i1 i2 i3 i4 i5 i6 i7 i8 i9 i10 i11 i12 i13 i14 i15 i16 i17 i18 i19 i20 => (ih _ hlt).2.2.1 y1 y2 y3 y4 s0 a (Nat.le_refl _) i0 i1 i2 i3 i4 i5 i6 i7 i8 i9 i10 i11 i12 i13 i14 i15 i16 i17 i18 i19 i20
  have ih77 : ∀ (y1 y2 y3 y4 : Int) (a : Nat → Nat → Int), (((y3 + 1) * 1) + 0).toNat < n → iv a → jfr jW_X0_measure a0 a → 0 ≤ y3 → y3 ≤ 599 → a 58 13 ≤ 9 → 1 ≤ a0 58 12 → y1 = x1 → y2 = x2 → 0 ≤ a 58 13 → 0 ≤ y3 → y3 < a0 58 12 → y3 ≤ 599 → (SPN (pC a0 b0 x1 x2) (dC a0) 0 (y3.toNat + 1) (a 58 13, a 58 14, a 58 15) = SPC a0 b0 x1 x2) → (y4 = a0 66 y3.toNat) → a 58 13 < 10 → (¬ pC a0 b0 x1 x2 y3.toNat = 1) → jt (jxX E d 23 77 [some (.inr (.inr (.inl 58))), some (.inl y1), some (.inl y2), some (.inl y3), some (.inl y4), none] [] (jxSH, a, b0)) (jQ_X0_measure x1 x2 a0 b0) := fun y1 y2 y3 y4 a hlt i0 i1 i2 i3 i4 i5 i6 i7 i8 i9 i10 i11 i12 i13 i14 i15 => (ih _ hlt).2.2.2.1 y1 y2 y3 y4 a (Nat.le_refl _) i0 i1 i2 i3 i4 i5 i6 i7 i8 i9 i10 i11 i12 i13 i14 i15
  have ih52 : ∀ (y1 y2 y3 y4 : Int) (a : Nat → Nat → Int), (((y3 + 1) * 1) + 0).toNat < n → iv a → jfr jW_X0_measure a0 a → 0 ≤ y3 → y3 ≤ 599 → 0 ≤ y4 → y4 ≤ 299 → a 58 13 ≤ 9 → 1 ≤ a0 58 12 → y1 = x1 → y2 = x2 → 0 ≤ a 58 13 → 0 ≤ y3 → y3 < a0 58 12 → y3 ≤ 599 → (SPN (pC a0 b0 x1 x2) (dC a0) 0 (y3.toNat + 1) (a 58 13, a 58 14, a 58 15) = SPC a0 b0 x1 x2) → (y4 = a0 66 y3.toNat) → a 58 13 < 10 → (¬ f_X0_has a0 b0 y4 = 0) → jt (jxX E d 23 52 [some (.inr (.inr (.inl 58))), some (.inl y1), some (.inl y2), some (.inl y3), some (.inl y4), none] [] (jxSH, a, b0)) (jQ_X0_measure x1 x2 a0 b0) := fun y1 y2 y3 y4 a hlt i0 i1 i2 i3 i4 i5 i6 i7 i8 i9 i10 i11 i12 i13 i14 i15 i16 i17 => (ih _ hlt).2.2.2.2.1 y1 y2 y3 y4 a (Nat.le_refl _) i0 i1 i2 i3 i4 i5 i6 i7 i8 i9 i10 i11 i12 i13 i14 i15 i16 i17
  have ih22 : ∀ (y1 y2 y3 : Int) (a : Nat → Nat → Int), (((y3 + 1) * 1) + 0).toNat < n → iv a → jfr jW_X0_measure a0 a → 0 - 1 ≤ y3 → y3 ≤ 599 → (a0 58 12 = 0 → (((y3 < 0 ∧ a 58 13 = 0) ∧ a 58 14 = 0 - 1) ∧ a 58 15 = 0 - 1)) → y1 = x1 → y2 = x2 → 0 ≤ a 58 13 → 0 - 1 ≤ y3 → y3 < a0 58 12 → (SPN (pC a0 b0 x1 x2) (dC a0) 0 (y3 + 1).toNat (a 58 13, a 58 14, a 58 15) = SPC a0 b0 x1 x2) → jt (jxX E d 23 22 [some (.inr (.inr (.inl 58))), some (.inl y1), some (.inl y2), some (.inl y3), none, none] [] (jxSH, a, b0)) (jQ_X0_measure x1 x2 a0 b0) := fun y1 y2 y3 a hlt i0 i1 i2 i3 i4 i5 i6 i7 i8 i9 i10 => (ih _ hlt).2.2.2.2.2 y1 y2 y3 a (Nat.le_refl _) i0 i1 i2 i3 i4 i5 i6 i7 i8 i9 i10
  have hc139 : ∀ (y1 y2 y3 : Int) (a : Nat → Nat → Int), (((y3 + 1) * 1) + 0).toNat ≤ n → iv a → jfr jW_X0_measure a0 a → 0 ≤ y3 → y3 ≤ 599 → 1 ≤ a0 58 12 → y1 = x1 → y2 = x2 → 0 ≤ a 58 13 → 0 ≤ y3 → y3 < a0 58 12 → y3 ≤ 599 → (SPN (pC a0 b0 x1 x2) (dC a0) 0 y3.toNat (a 58 13, a 58 14, a 58 15) = SPC a0 b0 x1 x2) → jt (jxX E d 23 139 [some (.inr (.inr (.inl 58))), some (.inl y1), some (.inl y2), some (.inl y3), none, none] [] (jxSH, a, b0)) (jQ_X0_measure x1 x2 a0 b0) := by
    intro y1 y2 y3 a hm hv hf hi0 hi1 hi2 hi3 hi4 hi5 hi6 hi7 hi8 hm
    refine jt_eq (bq_X0_measure_139 E d y1 y2 y3 a b0) ?_
    have h41_ := iv_get hv0 (k := 58) (j := 12) (l := 0) (u := 600) rfl
    have h42_ := iv_get hv (k := 58) (j := 13) (l := 0) (u := 10) rfl
    have h43_ : jxw (y3 + (-1)) = y3 + (-1) := jxw_id (by omega) (by omega)
    exact ih22 y1 y2 (jxw (y3 + (-1))) a (show ((((jxw (y3 + (-1))) + 1) * 1) + 0).toNat < n from by omega) hv hf (show 0 - 1 ≤ jxw (y3 + (-1)) from by omega) (show jxw (y3 + (-1)) ≤ 599 from by omega) (show (a0 58 12 = 0 → (((jxw (y3 + (-1)) < 0 ∧ a 58 13 = 0) ∧ a 58 14 = 0 - 1) ∧ a 58 15 = 0 - 1)) from by omega) (show y1 = x1 from by omega) (show y2 = x2 from by omega) (show 0 ≤ a 58 13 from by omega) (show 0 - 1 ≤ jxw (y3 + (-1)) from by omega) (show jxw (y3 + (-1)) < a0 58 12 from by omega) (by rw [show (jxw (y3 + (-1)) + 1).toNat = y3.toNat from by omega]; exact hm)
  have hc121 : ∀ (y1 y2 y3 y4 : Int) (a : Nat → Nat → Int), (((y3 + 1) * 1) + 0).toNat ≤ n → iv a → jfr jW_X0_measure a0 a → 0 ≤ y3 → y3 ≤ 599 → 0 ≤ y4 → y4 ≤ 299 → a 58 13 ≤ 9 → 1 ≤ a0 58 12 → y1 = x1 → y2 = x2 → 0 ≤ a 58 13 → 0 ≤ y3 → y3 < a0 58 12 → y3 ≤ 599 → (SPN (pC a0 b0 x1 x2) (dC a0) 0 (y3.toNat + 1) (a 58 13, a 58 14, a 58 15) = SPC a0 b0 x1 x2) → (y4 = a0 66 y3.toNat) → a 58 13 < 10 → (pC a0 b0 x1 x2 y3.toNat = 1) → jt (jxX E d 23 121 [some (.inr (.inr (.inl 58))), some (.inl y1), some (.inl y2), some (.inl y3), some (.inl y4), none] [] (jxSH, a, b0)) (jQ_X0_measure x1 x2 a0 b0) := by
    intro y1 y2 y3 y4 a hm hv hf hi0 hi1 hi2 hi3 hi4 hi5 hi6 hi7 hi8 hi9 hi10 hi11 hm hy4 hi14 hp
    refine jt_eq (bq_X0_measure_121 E d y1 y2 y3 y4 a b0) ?_
    have h44_ := iv_get hv (k := 58) (j := 13) (l := 0) (u := 10) rfl
    have h45_ := iv_get hv0 (k := 58) (j := 12) (l := 0) (u := 600) rfl
    refine jt_grd (by omega) ?_
    refine jt_grd (by omega) ?_
    refine jt_bV (sp_X0_addMeasured E d (jd_le hd rfl) (jxw ((a 67 (y3.toNat)) - (a 61 (y4.toNat)))) a b0 hv (show a 58 13 < 10 from by omega)) (fun a46_ b46_ h46_ => ?_)
    obtain ⟨hv46_, hf46_, rfl, hq46_0, hq46_1, hq46_2⟩ := h46_
    have h47_ := iv_get hv46_ (k := 58) (j := 13) (l := 0) (u := 10) rfl
    have hf48_ : jfr jW_X0_measure a0 a46_ := jfr_tr hf hf46_ rfl
    exact hc139 y1 y2 y3 a46_ (show (((y3 + 1) * 1) + 0).toNat ≤ n from by omega) hv46_ hf48_ (show 0 ≤ y3 from by omega) (show y3 ≤ 599 from by omega) (show 1 ≤ a0 58 12 from by omega) (show y1 = x1 from by omega) (show y2 = x2 from by omega) (show 0 ≤ a46_ 58 13 from by omega) (show 0 ≤ y3 from by omega) (show y3 < a0 58 12 from by omega) (show y3 ≤ 599 from by omega) (by have q := hm; rw [SPN_yes (by omega) hp] at q; have ed : dC a0 y3.toNat = jxw ((a 67 (y3.toNat)) - (a 61 (y4.toNat))) := (by show jxw (a0 67 y3.toNat - a0 61 (a0 66 y3.toNat).toNat) = _; rw [← hy4, hf 67 _ rfl, hf 61 _ rfl]); rw [show a46_ 58 13 = a 58 13 + 1 from by omega, hq46_1, hq46_2, ← ed]; have eif : (if a 58 13 = 0 then dC a0 y3.toNat else if dC a0 y3.toNat < a 58 14 then dC a0 y3.toNat else a 58 14) = (if a 58 13 = 0 ∧ (0 : Int) = 0 then dC a0 y3.toNat else if dC a0 y3.toNat < a 58 14 then dC a0 y3.toNat else a 58 14) := (by split <;> split <;> first | rfl | omega); rw [eif]; exact q)
  have hc78 : ∀ (y1 y2 y3 y4 s0 : Int) (a : Nat → Nat → Int), (((y3 + 1) * 1) + 0).toNat ≤ n → iv a → jfr jW_X0_measure a0 a → 0 ≤ y3 → y3 ≤ 599 → 0 ≤ s0 → s0 ≤ 1 → a 58 13 ≤ 9 → 1 ≤ a0 58 12 → y1 = x1 → y2 = x2 → 0 ≤ a 58 13 → 0 ≤ y3 → y3 < a0 58 12 → y3 ≤ 599 → (SPN (pC a0 b0 x1 x2) (dC a0) 0 (y3.toNat + 1) (a 58 13, a 58 14, a 58 15) = SPC a0 b0 x1 x2) → (y4 = a0 66 y3.toNat) → a 58 13 < 10 → (s0 = 0 → ¬ pC a0 b0 x1 x2 y3.toNat = 1) → (s0 = 1 → ¬ f_X0_has a0 b0 y4 = 0 ∧ a0 65 y4.toNat = y3 ∧ ¬ a0 67 y3.toNat = -1) → (s0 = 0 ∨ s0 = 1) → (s0 = 1 → (0 ≤ y4 ∧ y4 ≤ 299)) → jt (jxX E d 23 78 [some (.inr (.inr (.inl 58))), some (.inl y1), some (.inl y2), some (.inl y3), some (.inl y4), none] [.inl s0] (jxSH, a, b0)) (jQ_X0_measure x1 x2 a0 b0) := by
    intro y1 y2 y3 y4 s0 a hm hv hf hi0 hi1 hi2 hi3 hi4 hi5 hi6 hi7 hi8 hi9 hi10 hi11 hm hy4 hi14 hnp hyp hi17 hi18
    refine jt_eq (bq_X0_measure_78 E d y1 y2 y3 y4 s0 a b0) ?_
    have h49_ := iv_get hv (k := 58) (j := 13) (l := 0) (u := 10) rfl
    have h50_ := iv_get hv0 (k := 58) (j := 12) (l := 0) (u := 600) rfl
    have hl1 := (show f_X3_landOf a b0 (a 59 (y4.toNat)) = f_X3_landOf a0 b0 (a0 59 (y4.toNat)) from by rw [hf 59 _ rfl]; show (if _ < 0 then _ else (if _ < a 4 6 then (if _ < 40 then a 5 _ else _) else _)) = (if _ < 0 then _ else (if _ < a0 4 6 then (if _ < 40 then a0 5 _ else _) else _)); rw [hf 4 6 rfl, hf 5 _ rfl])
    have hl2 := (show f_X3_landOf a b0 (a 60 (y4.toNat)) = f_X3_landOf a0 b0 (a0 60 (y4.toNat)) from by rw [hf 60 _ rfl]; show (if _ < 0 then _ else (if _ < a 4 6 then (if _ < 40 then a 5 _ else _) else _)) = (if _ < 0 then _ else (if _ < a0 4 6 then (if _ < 40 then a0 5 _ else _) else _)); rw [hf 4 6 rfl, hf 5 _ rfl])
    refine jt_ite (fun c51_ => ?_) (fun c51_ => ?_)
    ·
      exact hc139 y1 y2 y3 a (show (((y3 + 1) * 1) + 0).toNat ≤ n from by omega) hv hf (show 0 ≤ y3 from by omega) (show y3 ≤ 599 from by omega) (show 1 ≤ a0 58 12 from by omega) (show y1 = x1 from by omega) (show y2 = x2 from by omega) (show 0 ≤ a 58 13 from by omega) (show 0 ≤ y3 from by omega) (show y3 < a0 58 12 from by omega) (show y3 ≤ 599 from by omega) (by have q := hm; rw [SPN_no (by omega) (by first | exact hnp (by omega) | exact (fun h => by have q := pC_iff.1 h; rw [← hy4, ← hl1, ← hl2] at q; omega))] at q; exact q)
    ·
      refine jt_grd (by omega) ?_
      refine jt_eI (eq_X3_landOf E d (jd_le hd rfl) (a 59 (y4.toNat)) a b0) ?_
      have h52_ : a 59 (y4.toNat) = a0 59 (y4.toNat) := hf 59 (y4.toNat) rfl
      have h53_ := f_X3_landOf_eq a b0 (a 59 (y4.toNat))
      have h54_ := iv_get hv (k := 4) (j := 6) (l := 0) (u := 40) rfl
      have h55_ : a 4 6 = a0 4 6 := hf 4 6 rfl
      have h56_ := iv_get hv0 (k := 4) (j := 6) (l := 0) (u := 40) rfl
      have h57_ := f_X11_entry_r5_eq a b0 (a 4 6) (a 59 (y4.toNat))
      have h58_ : a 5 ((a 59 (y4.toNat)).toNat) = a0 5 ((a 59 (y4.toNat)).toNat) := hf 5 ((a 59 (y4.toNat)).toNat) rfl
      refine jt_ite (fun c59_ => ?_) (fun c59_ => ?_)
      ·
        refine jt_grd (by omega) ?_
        refine jt_eI (eq_X3_landOf E d (jd_le hd rfl) (a 60 (y4.toNat)) a b0) ?_
        have h60_ : a 60 (y4.toNat) = a0 60 (y4.toNat) := hf 60 (y4.toNat) rfl
        have h61_ := f_X3_landOf_eq a b0 (a 60 (y4.toNat))
        have h62_ := f_X11_entry_r5_eq a b0 (a 4 6) (a 60 (y4.toNat))
        have h63_ : a 5 ((a 60 (y4.toNat)).toNat) = a0 5 ((a 60 (y4.toNat)).toNat) := hf 5 ((a 60 (y4.toNat)).toNat) rfl
        refine jt_ite (fun c64_ => ?_) (fun c64_ => ?_)
        ·
          exact hc121 y1 y2 y3 y4 a (show (((y3 + 1) * 1) + 0).toNat ≤ n from by omega) hv hf (show 0 ≤ y3 from by omega) (show y3 ≤ 599 from by omega) (show 0 ≤ y4 from by omega) (show y4 ≤ 299 from by omega) (show a 58 13 ≤ 9 from by omega) (show 1 ≤ a0 58 12 from by omega) (show y1 = x1 from by omega) (show y2 = x2 from by omega) (show 0 ≤ a 58 13 from by omega) (show 0 ≤ y3 from by omega) (show y3 < a0 58 12 from by omega) (show y3 ≤ 599 from by omega) hm (by first | assumption | exact hf 66 _ rfl) (show a 58 13 < 10 from by omega) (pC_iff.2 (by rw [← hy4]; have q := hyp (by omega); exact ⟨q.1, by rw [q.2.1]; omega, q.2.2, by rw [← hl1]; omega, by rw [← hl2]; omega⟩))
        ·
          exact hc139 y1 y2 y3 a (show (((y3 + 1) * 1) + 0).toNat ≤ n from by omega) hv hf (show 0 ≤ y3 from by omega) (show y3 ≤ 599 from by omega) (show 1 ≤ a0 58 12 from by omega) (show y1 = x1 from by omega) (show y2 = x2 from by omega) (show 0 ≤ a 58 13 from by omega) (show 0 ≤ y3 from by omega) (show y3 < a0 58 12 from by omega) (show y3 ≤ 599 from by omega) (by have q := hm; rw [SPN_no (by omega) (by first | exact hnp (by omega) | exact (fun h => by have q := pC_iff.1 h; rw [← hy4, ← hl1, ← hl2] at q; omega))] at q; exact q)
      ·
        exact hc139 y1 y2 y3 a (show (((y3 + 1) * 1) + 0).toNat ≤ n from by omega) hv hf (show 0 ≤ y3 from by omega) (show y3 ≤ 599 from by omega) (show 1 ≤ a0 58 12 from by omega) (show y1 = x1 from by omega) (show y2 = x2 from by omega) (show 0 ≤ a 58 13 from by omega) (show 0 ≤ y3 from by omega) (show y3 < a0 58 12 from by omega) (show y3 ≤ 599 from by omega) (by have q := hm; rw [SPN_no (by omega) (by first | exact hnp (by omega) | exact (fun h => by have q := pC_iff.1 h; rw [← hy4, ← hl1, ← hl2] at q; omega))] at q; exact q)
  have hc77 : ∀ (y1 y2 y3 y4 : Int) (a : Nat → Nat → Int), (((y3 + 1) * 1) + 0).toNat ≤ n → iv a → jfr jW_X0_measure a0 a → 0 ≤ y3 → y3 ≤ 599 → a 58 13 ≤ 9 → 1 ≤ a0 58 12 → y1 = x1 → y2 = x2 → 0 ≤ a 58 13 → 0 ≤ y3 → y3 < a0 58 12 → y3 ≤ 599 → (SPN (pC a0 b0 x1 x2) (dC a0) 0 (y3.toNat + 1) (a 58 13, a 58 14, a 58 15) = SPC a0 b0 x1 x2) → (y4 = a0 66 y3.toNat) → a 58 13 < 10 → (¬ pC a0 b0 x1 x2 y3.toNat = 1) → jt (jxX E d 23 77 [some (.inr (.inr (.inl 58))), some (.inl y1), some (.inl y2), some (.inl y3), some (.inl y4), none] [] (jxSH, a, b0)) (jQ_X0_measure x1 x2 a0 b0) := by
    intro y1 y2 y3 y4 a hm hv hf hi0 hi1 hi2 hi3 hi4 hi5 hi6 hi7 hi8 hi9 hm hy4 hi12 hnp
    refine jt_eq (bq_X0_measure_77 E d y1 y2 y3 y4 a b0) ?_
    have h65_ := iv_get hv (k := 58) (j := 13) (l := 0) (u := 10) rfl
    have h66_ := iv_get hv0 (k := 58) (j := 12) (l := 0) (u := 600) rfl
    exact hc78 y1 y2 y3 y4 0 a (show (((y3 + 1) * 1) + 0).toNat ≤ n from by omega) hv hf (show 0 ≤ y3 from by omega) (show y3 ≤ 599 from by omega) (show 0 ≤ 0 from by omega) (show 0 ≤ 1 from by omega) (show a 58 13 ≤ 9 from by omega) (show 1 ≤ a0 58 12 from by omega) (show y1 = x1 from by omega) (show y2 = x2 from by omega) (show 0 ≤ a 58 13 from by omega) (show 0 ≤ y3 from by omega) (show y3 < a0 58 12 from by omega) (show y3 ≤ 599 from by omega) hm (by first | assumption | exact hf 66 _ rfl) (show a 58 13 < 10 from by omega) (by first | exact (fun _ => hnp) | exact (fun h => absurd h (by decide))) (by first | exact (fun h => absurd h (by decide)) | exact (fun _ => ⟨hhas, by have e1 := hf 65 (y4.toNat) rfl; omega, by have e2 := hf 67 (y3.toNat) rfl; omega⟩)) (show (0 = 0 ∨ 0 = 1) from by omega) (show (0 = 1 → (0 ≤ y4 ∧ y4 ≤ 299)) from by omega)
  have hc52 : ∀ (y1 y2 y3 y4 : Int) (a : Nat → Nat → Int), (((y3 + 1) * 1) + 0).toNat ≤ n → iv a → jfr jW_X0_measure a0 a → 0 ≤ y3 → y3 ≤ 599 → 0 ≤ y4 → y4 ≤ 299 → a 58 13 ≤ 9 → 1 ≤ a0 58 12 → y1 = x1 → y2 = x2 → 0 ≤ a 58 13 → 0 ≤ y3 → y3 < a0 58 12 → y3 ≤ 599 → (SPN (pC a0 b0 x1 x2) (dC a0) 0 (y3.toNat + 1) (a 58 13, a 58 14, a 58 15) = SPC a0 b0 x1 x2) → (y4 = a0 66 y3.toNat) → a 58 13 < 10 → (¬ f_X0_has a0 b0 y4 = 0) → jt (jxX E d 23 52 [some (.inr (.inr (.inl 58))), some (.inl y1), some (.inl y2), some (.inl y3), some (.inl y4), none] [] (jxSH, a, b0)) (jQ_X0_measure x1 x2 a0 b0) := by
    intro y1 y2 y3 y4 a hm hv hf hi0 hi1 hi2 hi3 hi4 hi5 hi6 hi7 hi8 hi9 hi10 hi11 hm hy4 hi14 hhas
    refine jt_eq (bq_X0_measure_52 E d y1 y2 y3 y4 a b0) ?_
    have h67_ := iv_get hv (k := 58) (j := 13) (l := 0) (u := 10) rfl
    have h68_ := iv_get hv0 (k := 58) (j := 12) (l := 0) (u := 600) rfl
    refine jt_grd (by omega) ?_
    have h69_ : a 65 (y4.toNat) = a0 65 (y4.toNat) := hf 65 (y4.toNat) rfl
    refine jt_ite (fun c70_ => ?_) (fun c70_ => ?_)
    ·
      refine jt_grd (by omega) ?_
      have h71_ : a 67 (y3.toNat) = a0 67 (y3.toNat) := hf 67 (y3.toNat) rfl
      refine jt_ite (fun c72_ => ?_) (fun c72_ => ?_)
      ·
        exact hc77 y1 y2 y3 y4 a (show (((y3 + 1) * 1) + 0).toNat ≤ n from by omega) hv hf (show 0 ≤ y3 from by omega) (show y3 ≤ 599 from by omega) (show a 58 13 ≤ 9 from by omega) (show 1 ≤ a0 58 12 from by omega) (show y1 = x1 from by omega) (show y2 = x2 from by omega) (show 0 ≤ a 58 13 from by omega) (show 0 ≤ y3 from by omega) (show y3 < a0 58 12 from by omega) (show y3 ≤ 599 from by omega) hm (by first | assumption | exact hf 66 _ rfl) (show a 58 13 < 10 from by omega) (fun h => by have q := pC_iff.1 h; rw [← hy4] at q; have q2 := q.2.1; have q3 := q.2.2.1; have e1 := hf 65 (y4.toNat) rfl; have e2 := hf 67 (y3.toNat) rfl; omega)
      ·
        exact hc78 y1 y2 y3 y4 1 a (show (((y3 + 1) * 1) + 0).toNat ≤ n from by omega) hv hf (show 0 ≤ y3 from by omega) (show y3 ≤ 599 from by omega) (show 0 ≤ 1 from by omega) (show 1 ≤ 1 from by omega) (show a 58 13 ≤ 9 from by omega) (show 1 ≤ a0 58 12 from by omega) (show y1 = x1 from by omega) (show y2 = x2 from by omega) (show 0 ≤ a 58 13 from by omega) (show 0 ≤ y3 from by omega) (show y3 < a0 58 12 from by omega) (show y3 ≤ 599 from by omega) hm (by first | assumption | exact hf 66 _ rfl) (show a 58 13 < 10 from by omega) (by first | exact (fun _ => hnp) | exact (fun h => absurd h (by decide))) (by first | exact (fun h => absurd h (by decide)) | exact (fun _ => ⟨hhas, by have e1 := hf 65 (y4.toNat) rfl; omega, by have e2 := hf 67 (y3.toNat) rfl; omega⟩)) (show (1 = 0 ∨ 1 = 1) from by omega) (show (1 = 1 → (0 ≤ y4 ∧ y4 ≤ 299)) from by omega)
    ·
      exact hc77 y1 y2 y3 y4 a (show (((y3 + 1) * 1) + 0).toNat ≤ n from by omega) hv hf (show 0 ≤ y3 from by omega) (show y3 ≤ 599 from by omega) (show a 58 13 ≤ 9 from by omega) (show 1 ≤ a0 58 12 from by omega) (show y1 = x1 from by omega) (show y2 = x2 from by omega) (show 0 ≤ a 58 13 from by omega) (show 0 ≤ y3 from by omega) (show y3 < a0 58 12 from by omega) (show y3 ≤ 599 from by omega) hm (by first | assumption | exact hf 66 _ rfl) (show a 58 13 < 10 from by omega) (fun h => by have q := pC_iff.1 h; rw [← hy4] at q; have q2 := q.2.1; have q3 := q.2.2.1; have e1 := hf 65 (y4.toNat) rfl; have e2 := hf 67 (y3.toNat) rfl; omega)
  have hc22 : ∀ (y1 y2 y3 : Int) (a : Nat → Nat → Int), (((y3 + 1) * 1) + 0).toNat ≤ n → iv a → jfr jW_X0_measure a0 a → 0 - 1 ≤ y3 → y3 ≤ 599 → (a0 58 12 = 0 → (((y3 < 0 ∧ a 58 13 = 0) ∧ a 58 14 = 0 - 1) ∧ a 58 15 = 0 - 1)) → y1 = x1 → y2 = x2 → 0 ≤ a 58 13 → 0 - 1 ≤ y3 → y3 < a0 58 12 → (SPN (pC a0 b0 x1 x2) (dC a0) 0 (y3 + 1).toNat (a 58 13, a 58 14, a 58 15) = SPC a0 b0 x1 x2) → jt (jxX E d 23 22 [some (.inr (.inr (.inl 58))), some (.inl y1), some (.inl y2), some (.inl y3), none, none] [] (jxSH, a, b0)) (jQ_X0_measure x1 x2 a0 b0) := by
    intro y1 y2 y3 a hm hv hf hi0 hi1 hi2 hi3 hi4 hi5 hi6 hi7 hm
    refine jt_eq (bq_X0_measure_22 E d y1 y2 y3 a b0) ?_
    have h73_ := iv_get hv0 (k := 58) (j := 12) (l := 0) (u := 600) rfl
    have h74_ := iv_get hv (k := 58) (j := 13) (l := 0) (u := 10) rfl
    refine jt_ite (fun c75_ => ?_) (fun c75_ => ?_)
    ·
      exact jt_rV ⟨hv, hf, rfl, (show (a0 58 12 = 0 → ((a 58 13 = 0 ∧ a 58 14 = 0 - 1) ∧ a 58 15 = 0 - 1)) from by omega), (by first | (have q := hm; rw [show (y3 + 1).toNat = 0 from by omega] at q; exact q) | (have q := hm; rw [SPN_stop (by omega)] at q; exact q))⟩
    ·
      refine jt_ite (fun c76_ => ?_) (fun c76_ => ?_)
      ·
        refine jt_grd (by omega) ?_
        refine jt_eI (eq_X0_has E d (jd_le hd rfl) (a 66 (y3.toNat)) a b0) ?_
        have h77_ : a 66 (y3.toNat) = a0 66 (y3.toNat) := hf 66 (y3.toNat) rfl
        have h78_ := f_X0_has_eq a b0 (a 66 (y3.toNat))
        have h79_ := iv_get hv (k := 58) (j := 8) (l := 0) (u := 300) rfl
        have h80_ : a 58 8 = a0 58 8 := hf 58 8 rfl
        have h81_ := iv_get hv0 (k := 58) (j := 8) (l := 0) (u := 300) rfl
        refine jt_ite (fun c82_ => ?_) (fun c82_ => ?_)
        ·
          exact hc77 y1 y2 y3 (a 66 (y3.toNat)) a (show (((y3 + 1) * 1) + 0).toNat ≤ n from by omega) hv hf (show 0 ≤ y3 from by omega) (show y3 ≤ 599 from by omega) (show a 58 13 ≤ 9 from by omega) (show 1 ≤ a0 58 12 from by omega) (show y1 = x1 from by omega) (show y2 = x2 from by omega) (show 0 ≤ a 58 13 from by omega) (show 0 ≤ y3 from by omega) (show y3 < a0 58 12 from by omega) (show y3 ≤ 599 from by omega) (by have q := hm; rw [show (y3 + 1).toNat = y3.toNat + 1 from by omega] at q; exact q) (by first | assumption | exact hf 66 _ rfl) (show a 58 13 < 10 from by omega) (fun h => by have q := (pC_iff.1 h).1; apply q; rw [show a0 66 (y3.toNat) = a 66 (y3.toNat) from (hf 66 _ rfl).symm]; rw [← (show f_X0_has a b0 (a 66 (y3.toNat)) = f_X0_has a0 b0 (a 66 (y3.toNat)) from (by show (if _ < 0 then 0 else (if _ < a 58 8 then _ else 0)) = (if _ < 0 then 0 else (if _ < a0 58 8 then _ else 0)); rw [hf 58 8 rfl]))]; assumption)
        ·
          exact hc52 y1 y2 y3 (a 66 (y3.toNat)) a (show (((y3 + 1) * 1) + 0).toNat ≤ n from by omega) hv hf (show 0 ≤ y3 from by omega) (show y3 ≤ 599 from by omega) (show 0 ≤ a 66 (y3.toNat) from by omega) (show a 66 (y3.toNat) ≤ 299 from by omega) (show a 58 13 ≤ 9 from by omega) (show 1 ≤ a0 58 12 from by omega) (show y1 = x1 from by omega) (show y2 = x2 from by omega) (show 0 ≤ a 58 13 from by omega) (show 0 ≤ y3 from by omega) (show y3 < a0 58 12 from by omega) (show y3 ≤ 599 from by omega) (by have q := hm; rw [show (y3 + 1).toNat = y3.toNat + 1 from by omega] at q; exact q) (by first | assumption | exact hf 66 _ rfl) (show a 58 13 < 10 from by omega) (by have e : f_X0_has a b0 (a 66 (y3.toNat)) = f_X0_has a0 b0 (a 66 (y3.toNat)) := (by show (if _ < 0 then 0 else (if _ < a 58 8 then _ else 0)) = (if _ < 0 then 0 else (if _ < a0 58 8 then _ else 0)); rw [hf 58 8 rfl]); rw [← e]; assumption)
      ·
        exact jt_rV ⟨hv, hf, rfl, (show (a0 58 12 = 0 → ((a 58 13 = 0 ∧ a 58 14 = 0 - 1) ∧ a 58 15 = 0 - 1)) from by omega), (by first | (have q := hm; rw [show (y3 + 1).toNat = 0 from by omega] at q; exact q) | (have q := hm; rw [SPN_stop (by omega)] at q; exact q))⟩
  exact ⟨hc139, hc121, hc78, hc77, hc52, hc22⟩
theorem sp_X0_measure (E : jxE) (d : Nat) (hd : Nat.ble 3 d = true) (x1 x2 : Int) (a0 b0 : Nat → Nat → Int) (hv0 : iv a0) : jt (jxC E d 23 [.inr (.inr (.inl 58)), .inl x1, .inl x2] (jxSH, a0, b0)) (jQ_X0_measure x1 x2 a0 b0) := by
  obtain ⟨d, rfl⟩ := jd_succ hd
  refine jt_eq (bq_X0_measure E d x1 x2 a0 b0) ?_
  have hv83_ : iv (jxu a0 58 13 0) := iv_put hv0 (l := 0) (u := 10) rfl (by omega) (by omega)
  have hv84_ : iv (jxu (jxu a0 58 13 0) 58 14 (-1)) := iv_putf hv83_ rfl
  have hv85_ : iv (jxu (jxu (jxu a0 58 13 0) 58 14 (-1)) 58 15 (-1)) := iv_putf hv84_ rfl
  have hf86_ : jfr jW_X0_measure a0 (jxu a0 58 13 0) := jfr_put (jfr_rf _ _) rfl
  have hf87_ : jfr jW_X0_measure a0 (jxu (jxu a0 58 13 0) 58 14 (-1)) := jfr_put hf86_ rfl
  have hf88_ : jfr jW_X0_measure a0 (jxu (jxu (jxu a0 58 13 0) 58 14 (-1)) 58 15 (-1)) := jfr_put hf87_ rfl
  have h89_ := iv_get hv0 (k := 58) (j := 12) (l := 0) (u := 600) rfl
  have h90_ : jxw ((a0 58 12) - 1) = (a0 58 12) - 1 := jxw_id (by omega) (by omega)
  exact (cp_X0_measure_22 E d hd x1 x2 a0 b0 hv0 _).2.2.2.2.2 x1 x2 (jxw ((a0 58 12) - 1)) (jxu (jxu (jxu a0 58 13 0) 58 14 (-1)) 58 15 (-1)) (Nat.le_refl _) hv85_ hf88_ (show 0 - 1 ≤ jxw ((a0 58 12) - 1) from by omega) (show jxw ((a0 58 12) - 1) ≤ 599 from by omega) (show (a0 58 12 = 0 → (((jxw ((a0 58 12) - 1) < 0 ∧ 0 = 0) ∧ (-1) = 0 - 1) ∧ (-1) = 0 - 1)) from by omega) (show x1 = x1 from by omega) (show x2 = x2 from by omega) (show 0 ≤ 0 from by omega) (show 0 - 1 ≤ jxw ((a0 58 12) - 1) from by omega) (show jxw ((a0 58 12) - 1) < a0 58 12 from by omega) (by show SPN _ _ 0 (jxw ((a0 58 12) - 1) + 1).toNat (0, -1, -1) = _; rw [show (jxw ((a0 58 12) - 1) + 1).toNat = (a0 58 12).toNat from by omega]; rfl)
def jW_X0_boundBetween : List (Nat × Nat) := [(58, 13), (58, 14), (58, 15)]
abbrev jQ_X0_boundBetween (x1 x2 x3 : Int) (a0 b0 : Nat → Nat → Int) : List jxV → (Nat → Nat → Int) → (Nat → Nat → Int) → Prop := rI (fun r a b => (iv a) ∧ (jfr jW_X0_boundBetween a0 a) ∧ (b0 = b) ∧ (r = BNC a0 b0 x1 x2 x3))
theorem sp_X0_boundBetween (E : jxE) (d : Nat) (hd : Nat.ble 4 d = true) (x1 x2 x3 : Int) (a0 b0 : Nat → Nat → Int) (hv0 : iv a0) : jt (jxC E d 22 [.inr (.inr (.inl 58)), .inl x1, .inl x2, .inl x3] (jxSH, a0, b0)) (jQ_X0_boundBetween x1 x2 x3 a0 b0) := by
  obtain ⟨d, rfl⟩ := jd_succ hd
  refine jt_eq (bq_X0_boundBetween E d x1 x2 x3 a0 b0) ?_
  refine jt_bV (sp_X0_measure E d (jd_le hd rfl) x1 x2 a0 b0 hv0) (fun a91_ b91_ h91_ => ?_)
  obtain ⟨hv91_, hf91_, rfl, hq91_0, hq91_1⟩ := h91_
  have h92_ := iv_get hv0 (k := 58) (j := 12) (l := 0) (u := 600) rfl
  have h93_ := iv_get hv91_ (k := 58) (j := 13) (l := 0) (u := 10) rfl
  refine jt_ite (fun c94_ => ?_) (fun c94_ => ?_)
  ·
    have hf95_ : jfr jW_X0_boundBetween a0 a91_ := jfr_tr (jfr_rf _ _) hf91_ rfl
    exact jt_rI ⟨hv91_, hf95_, rfl, (by unfold BNC; rw [← hq91_1]; first | (rw [if_pos (by assumption)]) | (rw [if_neg (by assumption)]; rfl))⟩
  ·
    refine jt_eI (eq_J9_min_7cf53 E d (jd_le hd rfl) x3 (jxw ((jxw (2 * (a91_ 58 15))) + 7)) a91_ b0) ?_
    have hf96_ : jfr jW_X0_boundBetween a0 a91_ := jfr_tr (jfr_rf _ _) hf91_ rfl
    have h97_ := jxw_im (2 * (a91_ 58 15))
    have h98_ := jxw_rg (2 * (a91_ 58 15))
    have h99_ := jxw_im ((jxw (2 * (a91_ 58 15))) + 7)
    have h100_ := jxw_rg ((jxw (2 * (a91_ 58 15))) + 7)
    have h101_ := f_J9_min_7cf53_eq a91_ b0 x3 (jxw ((jxw (2 * (a91_ 58 15))) + 7))
    exact jt_rI ⟨hv91_, hf96_, rfl, (by unfold BNC; rw [← hq91_1]; first | (rw [if_pos (by assumption)]) | (rw [if_neg (by assumption)]; rfl))⟩
def jW_X0_cancel : List (Nat × Nat) := [(64, 9999)]
abbrev jQ_X0_cancel (x1 x2 : Int) (a0 b0 : Nat → Nat → Int) : List jxV → (Nat → Nat → Int) → (Nat → Nat → Int) → Prop := rV (fun a b => (iv a) ∧ (jfr jW_X0_cancel a0 a) ∧ (b0 = b) ∧ (0 ≤ x1 → x1 < a0 58 8 → x1 < 300 → cvC a = vOff (cvC a0) x1 x2))
theorem sp_X0_cancel (E : jxE) (d : Nat) (hd : Nat.ble 2 d = true) (x1 x2 : Int) (a0 b0 : Nat → Nat → Int) (hv0 : iv a0) : jt (jxC E d 13 [.inr (.inr (.inl 58)), .inl x1, .inl x2] (jxSH, a0, b0)) (jQ_X0_cancel x1 x2 a0 b0) := by
  obtain ⟨d, rfl⟩ := jd_succ hd
  refine jt_eq (bq_X0_cancel E d x1 x2 a0 b0) ?_
  refine jt_eI (eq_X0_has E d (jd_le hd rfl) x1 a0 b0) ?_
  have h102_ := f_X0_has_eq a0 b0 x1
  have h103_ := iv_get hv0 (k := 58) (j := 8) (l := 0) (u := 300) rfl
  refine jt_ite (fun c104_ => ?_) (fun c104_ => ?_)
  ·
    exact jt_rV ⟨hv0, (jfr_rf _ _), rfl, (fun h1 h2 h3 => by omega)⟩
  ·
    refine jt_grd (by omega) ?_
    have hv105_ : iv (jxu a0 64 (x1.toNat) x2) := iv_putf hv0 rfl
    have hf106_ : jfr jW_X0_cancel a0 (jxu a0 64 (x1.toNat) x2) := jfr_put (jfr_rf _ _) rfl
    exact jt_rV ⟨hv105_, hf106_, rfl, (fun _ _ _ => mkCV_eq rfl rfl rfl rfl rfl rfl rfl (jxu_rup _ _ _ _) rfl rfl rfl rfl)⟩
abbrev jQ_X0_landsArrivedTo (x1 x2 : Int) (a0 b0 : Nat → Nat → Int) : List jxV → (Nat → Nat → Int) → (Nat → Nat → Int) → Prop := rI (fun r a b => (a0 = a) ∧ (b0 = b) ∧ (r = ALC a0 b0 x1 x2 (a0 58 8).toNat))
theorem cp_X0_landsArrivedTo_5 (E : jxE) (d : Nat) (hd : Nat.ble 4 (d + 1) = true) (x1 x2 : Int) (a0 b0 : Nat → Nat → Int) (hv0 : iv a0) : ∀ n : Nat, (∀ (y1 y2 y3 y4 : Int), (((300 - y4) * 1) + 0).toNat ≤ n → 0 ≤ y4 → y4 ≤ 299 → y1 = x1 → y2 = x2 → 0 ≤ y4 → y4 < a0 58 8 → (y3 = ALC a0 b0 x1 x2 (y4.toNat + 1)) → jt (jxX E d 21 65 [some (.inr (.inr (.inl 58))), some (.inl y1), some (.inl y2), some (.inl y3), some (.inl y4), none] [] (jxSH, a0, b0)) (jQ_X0_landsArrivedTo x1 x2 a0 b0)) ∧ (∀ (y1 y2 y3 y4 : Int), (((300 - y4) * 1) + 0).toNat ≤ n → 0 ≤ y4 → y4 ≤ 299 → y1 = x1 → y2 = x2 → 0 ≤ y4 → y4 < a0 58 8 → (y3 = ALC a0 b0 x1 x2 y4.toNat) → (a0 60 y4.toNat = x1) → (f_X0_stateNow a0 b0 y4 x2 = 1 ∨ f_X0_stateNow a0 b0 y4 x2 = 3) → jt (jxX E d 21 46 [some (.inr (.inr (.inl 58))), some (.inl y1), some (.inl y2), some (.inl y3), some (.inl y4), none] [] (jxSH, a0, b0)) (jQ_X0_landsArrivedTo x1 x2 a0 b0)) ∧ (∀ (y1 y2 y3 y4 y5 : Int), (((300 - y4) * 1) + 0).toNat ≤ n → 0 ≤ y4 → y4 ≤ 299 → y1 = x1 → y2 = x2 → 0 ≤ y4 → y4 < a0 58 8 → (y3 = ALC a0 b0 x1 x2 y4.toNat) → (a0 60 y4.toNat = x1) → (y5 = f_X0_stateNow a0 b0 y4 x2) → jt (jxX E d 21 34 [some (.inr (.inr (.inl 58))), some (.inl y1), some (.inl y2), some (.inl y3), some (.inl y4), some (.inl y5)] [] (jxSH, a0, b0)) (jQ_X0_landsArrivedTo x1 x2 a0 b0)) ∧ (∀ (y1 y2 y3 y4 : Int), (((300 - y4) * 1) + 0).toNat ≤ n → 0 ≤ y4 → y4 ≤ 300 → y1 = x1 → y2 = x2 → 0 ≤ y4 → y4 ≤ a0 58 8 → (y3 = ALC a0 b0 x1 x2 y4.toNat) → jt (jxX E d 21 5 [some (.inr (.inr (.inl 58))), some (.inl y1), some (.inl y2), some (.inl y3), some (.inl y4), none] [] (jxSH, a0, b0)) (jQ_X0_landsArrivedTo x1 x2 a0 b0)) := by
  refine jx_ind fun n ih => ?_
  have ih65 : ∀ (y1 y2 y3 y4 : Int), (((300 - y4) * 1) + 0).toNat < n → 0 ≤ y4 → y4 ≤ 299 → y1 = x1 → y2 = x2 → 0 ≤ y4 → y4 < a0 58 8 → (y3 = ALC a0 b0 x1 x2 (y4.toNat + 1)) → jt (jxX E d 21 65 [some (.inr (.inr (.inl 58))), some (.inl y1), some (.inl y2), some (.inl y3), some (.inl y4), none] [] (jxSH, a0, b0)) (jQ_X0_landsArrivedTo x1 x2 a0 b0) := fun y1 y2 y3 y4 hlt i0 i1 i2 i3 i4 i5 i6 => (ih _ hlt).1 y1 y2 y3 y4 (Nat.le_refl _) i0 i1 i2 i3 i4 i5 i6
  have ih46 : ∀ (y1 y2 y3 y4 : Int), (((300 - y4) * 1) + 0).toNat < n → 0 ≤ y4 → y4 ≤ 299 → y1 = x1 → y2 = x2 → 0 ≤ y4 → y4 < a0 58 8 → (y3 = ALC a0 b0 x1 x2 y4.toNat) → (a0 60 y4.toNat = x1) → (f_X0_stateNow a0 b0 y4 x2 = 1 ∨ f_X0_stateNow a0 b0 y4 x2 = 3) → jt (jxX E d 21 46 [some (.inr (.inr (.inl 58))), some (.inl y1), some (.inl y2), some (.inl y3), some (.inl y4), none] [] (jxSH, a0, b0)) (jQ_X0_landsArrivedTo x1 x2 a0 b0) := fun y1 y2 y3 y4 hlt i0 i1 i2 i3 i4 i5 i6 i7 i8 => (ih _ hlt).2.1 y1 y2 y3 y4 (Nat.le_refl _) i0 i1 i2 i3 i4 i5 i6 i7 i8
  have ih34 : ∀ (y1 y2 y3 y4 y5 : Int), (((300 - y4) * 1) + 0).toNat < n → 0 ≤ y4 → y4 ≤ 299 → y1 = x1 → y2 = x2 → 0 ≤ y4 → y4 < a0 58 8 → (y3 = ALC a0 b0 x1 x2 y4.toNat) → (a0 60 y4.toNat = x1) → (y5 = f_X0_stateNow a0 b0 y4 x2) → jt (jxX E d 21 34 [some (.inr (.inr (.inl 58))), some (.inl y1), some (.inl y2), some (.inl y3), some (.inl y4), some (.inl y5)] [] (jxSH, a0, b0)) (jQ_X0_landsArrivedTo x1 x2 a0 b0) := fun y1 y2 y3 y4 y5 hlt i0 i1 i2 i3 i4 i5 i6 i7 i8 => (ih _ hlt).2.2.1 y1 y2 y3 y4 y5 (Nat.le_refl _) i0 i1 i2 i3 i4 i5 i6 i7 i8
  have ih5 : ∀ (y1 y2 y3 y4 : Int), (((300 - y4) * 1) + 0).toNat < n → 0 ≤ y4 → y4 ≤ 300 → y1 = x1 → y2 = x2 → 0 ≤ y4 → y4 ≤ a0 58 8 → (y3 = ALC a0 b0 x1 x2 y4.toNat) → jt (jxX E d 21 5 [some (.inr (.inr (.inl 58))), some (.inl y1), some (.inl y2), some (.inl y3), some (.inl y4), none] [] (jxSH, a0, b0)) (jQ_X0_landsArrivedTo x1 x2 a0 b0) := fun y1 y2 y3 y4 hlt i0 i1 i2 i3 i4 i5 i6 => (ih _ hlt).2.2.2 y1 y2 y3 y4 (Nat.le_refl _) i0 i1 i2 i3 i4 i5 i6
  have hc65 : ∀ (y1 y2 y3 y4 : Int), (((300 - y4) * 1) + 0).toNat ≤ n → 0 ≤ y4 → y4 ≤ 299 → y1 = x1 → y2 = x2 → 0 ≤ y4 → y4 < a0 58 8 → (y3 = ALC a0 b0 x1 x2 (y4.toNat + 1)) → jt (jxX E d 21 65 [some (.inr (.inr (.inl 58))), some (.inl y1), some (.inl y2), some (.inl y3), some (.inl y4), none] [] (jxSH, a0, b0)) (jQ_X0_landsArrivedTo x1 x2 a0 b0) := by
    intro y1 y2 y3 y4 hm hi0 hi1 hi2 hi3 hi4 hi5 hr
    refine jt_eq (bq_X0_landsArrivedTo_65 E d y1 y2 y3 y4 a0 b0) ?_
    have h107_ := iv_get hv0 (k := 58) (j := 8) (l := 0) (u := 300) rfl
    have h108_ : jxw (y4 + 1) = y4 + 1 := jxw_id (by omega) (by omega)
    exact ih5 y1 y2 y3 (jxw (y4 + 1)) (show (((300 - (jxw (y4 + 1))) * 1) + 0).toNat < n from by omega) (show 0 ≤ jxw (y4 + 1) from by omega) (show jxw (y4 + 1) ≤ 300 from by omega) (show y1 = x1 from by omega) (show y2 = x2 from by omega) (show 0 ≤ jxw (y4 + 1) from by omega) (show jxw (y4 + 1) ≤ a0 58 8 from by omega) (by first | rfl | (rw [show (jxw (y4 + 1)).toNat = y4.toNat + 1 from by omega]; exact hr))
  have hc46 : ∀ (y1 y2 y3 y4 : Int), (((300 - y4) * 1) + 0).toNat ≤ n → 0 ≤ y4 → y4 ≤ 299 → y1 = x1 → y2 = x2 → 0 ≤ y4 → y4 < a0 58 8 → (y3 = ALC a0 b0 x1 x2 y4.toNat) → (a0 60 y4.toNat = x1) → (f_X0_stateNow a0 b0 y4 x2 = 1 ∨ f_X0_stateNow a0 b0 y4 x2 = 3) → jt (jxX E d 21 46 [some (.inr (.inr (.inl 58))), some (.inl y1), some (.inl y2), some (.inl y3), some (.inl y4), none] [] (jxSH, a0, b0)) (jQ_X0_landsArrivedTo x1 x2 a0 b0) := by
    intro y1 y2 y3 y4 hm hi0 hi1 hi2 hi3 hi4 hi5 hr h60 hs
    refine jt_eq (bq_X0_landsArrivedTo_46 E d y1 y2 y3 y4 a0 b0) ?_
    have h109_ := iv_get hv0 (k := 58) (j := 8) (l := 0) (u := 300) rfl
    have hst : ALC a0 b0 x1 x2 (y4.toNat + 1) = if a0 60 y4.toNat = x1 ∧ (f_X0_stateNow a0 b0 ((y4.toNat : Nat) : Int) x2 = 1 ∨ f_X0_stateNow a0 b0 ((y4.toNat : Nat) : Int) x2 = 3) then jxor (ALC a0 b0 x1 x2 y4.toNat) (jxshl 1 (f_X3_landOf a0 b0 (a0 59 y4.toNat))) else ALC a0 b0 x1 x2 y4.toNat := rfl
    rw [show ((y4.toNat : Nat) : Int) = y4 from by omega] at hst
    refine jt_grd (by omega) ?_
    refine jt_eI (eq_X3_landOf E d (jd_le hd rfl) (a0 59 (y4.toNat)) a0 b0) ?_
    have h110_ := f_X3_landOf_eq a0 b0 (a0 59 (y4.toNat))
    have h111_ := iv_get hv0 (k := 4) (j := 6) (l := 0) (u := 40) rfl
    have h112_ := f_X11_entry_r5_eq a0 b0 (a0 4 6) (a0 59 (y4.toNat))
    have h113_ := jxshl1_b (f_X3_landOf a0 b0 (a0 59 (y4.toNat)))
    have h114_ := jxor_b y3 (jxshl 1 (f_X3_landOf a0 b0 (a0 59 (y4.toNat))))
    exact hc65 y1 y2 (jxor y3 (jxshl 1 (f_X3_landOf a0 b0 (a0 59 (y4.toNat))))) y4 (show (((300 - y4) * 1) + 0).toNat ≤ n from by omega) (show 0 ≤ y4 from by omega) (show y4 ≤ 299 from by omega) (show y1 = x1 from by omega) (show y2 = x2 from by omega) (show 0 ≤ y4 from by omega) (show y4 < a0 58 8 from by omega) (by rw [hst, if_pos ⟨h60, hs⟩, ← hr])
  have hc34 : ∀ (y1 y2 y3 y4 y5 : Int), (((300 - y4) * 1) + 0).toNat ≤ n → 0 ≤ y4 → y4 ≤ 299 → y1 = x1 → y2 = x2 → 0 ≤ y4 → y4 < a0 58 8 → (y3 = ALC a0 b0 x1 x2 y4.toNat) → (a0 60 y4.toNat = x1) → (y5 = f_X0_stateNow a0 b0 y4 x2) → jt (jxX E d 21 34 [some (.inr (.inr (.inl 58))), some (.inl y1), some (.inl y2), some (.inl y3), some (.inl y4), some (.inl y5)] [] (jxSH, a0, b0)) (jQ_X0_landsArrivedTo x1 x2 a0 b0) := by
    intro y1 y2 y3 y4 y5 hm hi0 hi1 hi2 hi3 hi4 hi5 hr h60 hy5
    refine jt_eq (bq_X0_landsArrivedTo_34 E d y1 y2 y3 y4 y5 a0 b0) ?_
    have h115_ := iv_get hv0 (k := 58) (j := 8) (l := 0) (u := 300) rfl
    have hst : ALC a0 b0 x1 x2 (y4.toNat + 1) = if a0 60 y4.toNat = x1 ∧ (f_X0_stateNow a0 b0 ((y4.toNat : Nat) : Int) x2 = 1 ∨ f_X0_stateNow a0 b0 ((y4.toNat : Nat) : Int) x2 = 3) then jxor (ALC a0 b0 x1 x2 y4.toNat) (jxshl 1 (f_X3_landOf a0 b0 (a0 59 y4.toNat))) else ALC a0 b0 x1 x2 y4.toNat := rfl
    rw [show ((y4.toNat : Nat) : Int) = y4 from by omega] at hst
    refine jt_ite (fun c116_ => ?_) (fun c116_ => ?_)
    ·
      exact hc46 y1 y2 y3 y4 (show (((300 - y4) * 1) + 0).toNat ≤ n from by omega) (show 0 ≤ y4 from by omega) (show y4 ≤ 299 from by omega) (show y1 = x1 from by omega) (show y2 = x2 from by omega) (show 0 ≤ y4 from by omega) (show y4 < a0 58 8 from by omega) hr (by first | assumption | omega) (by rw [← hy5]; omega)
    ·
      refine jt_ite (fun c117_ => ?_) (fun c117_ => ?_)
      ·
        exact hc46 y1 y2 y3 y4 (show (((300 - y4) * 1) + 0).toNat ≤ n from by omega) (show 0 ≤ y4 from by omega) (show y4 ≤ 299 from by omega) (show y1 = x1 from by omega) (show y2 = x2 from by omega) (show 0 ≤ y4 from by omega) (show y4 < a0 58 8 from by omega) hr (by first | assumption | omega) (by rw [← hy5]; omega)
      ·
        exact hc65 y1 y2 y3 y4 (show (((300 - y4) * 1) + 0).toNat ≤ n from by omega) (show 0 ≤ y4 from by omega) (show y4 ≤ 299 from by omega) (show y1 = x1 from by omega) (show y2 = x2 from by omega) (show 0 ≤ y4 from by omega) (show y4 < a0 58 8 from by omega) (by rw [hst, if_neg (fun q => by rw [← hy5] at q; omega)]; exact hr)
  have hc5 : ∀ (y1 y2 y3 y4 : Int), (((300 - y4) * 1) + 0).toNat ≤ n → 0 ≤ y4 → y4 ≤ 300 → y1 = x1 → y2 = x2 → 0 ≤ y4 → y4 ≤ a0 58 8 → (y3 = ALC a0 b0 x1 x2 y4.toNat) → jt (jxX E d 21 5 [some (.inr (.inr (.inl 58))), some (.inl y1), some (.inl y2), some (.inl y3), some (.inl y4), none] [] (jxSH, a0, b0)) (jQ_X0_landsArrivedTo x1 x2 a0 b0) := by
    intro y1 y2 y3 y4 hm hi0 hi1 hi2 hi3 hi4 hi5 hr
    refine jt_eq (bq_X0_landsArrivedTo_5 E d y1 y2 y3 y4 a0 b0) ?_
    have h118_ := iv_get hv0 (k := 58) (j := 8) (l := 0) (u := 300) rfl
    have hst : ALC a0 b0 x1 x2 (y4.toNat + 1) = if a0 60 y4.toNat = x1 ∧ (f_X0_stateNow a0 b0 ((y4.toNat : Nat) : Int) x2 = 1 ∨ f_X0_stateNow a0 b0 ((y4.toNat : Nat) : Int) x2 = 3) then jxor (ALC a0 b0 x1 x2 y4.toNat) (jxshl 1 (f_X3_landOf a0 b0 (a0 59 y4.toNat))) else ALC a0 b0 x1 x2 y4.toNat := rfl
    rw [show ((y4.toNat : Nat) : Int) = y4 from by omega] at hst
    refine jt_ite (fun c119_ => ?_) (fun c119_ => ?_)
    ·
      refine jt_eI (eq_X0_stateNow E d (jd_le hd rfl) y4 y2 a0 b0) ?_
      refine jt_grd (by omega) ?_
      refine jt_ite (fun c120_ => ?_) (fun c120_ => ?_)
      ·
        have h121_ := f_X0_stateNow_eq a0 b0 y4 y2
        have h122_ := f_X0_arrivedOnOf_eq a0 b0 y4
        have h123_ := iv_get hv0 (k := 58) (j := 12) (l := 0) (u := 600) rfl
        have h124_ := f_X11_entry_r65_eq a0 b0 (a0 58 8) y4
        have h125_ := f_X11_entry_r67_eq a0 b0 (a0 58 12) (f_X11_entry_r65 a0 b0 (a0 58 8) y4)
        exact hc34 y1 y2 y3 y4 (f_X0_stateNow a0 b0 y4 y2) (show (((300 - y4) * 1) + 0).toNat ≤ n from by omega) (show 0 ≤ y4 from by omega) (show y4 ≤ 299 from by omega) (show y1 = x1 from by omega) (show y2 = x2 from by omega) (show 0 ≤ y4 from by omega) (show y4 < a0 58 8 from by omega) hr (by first | assumption | omega) (by rw [show y2 = x2 from by omega])
      ·
        exact hc65 y1 y2 y3 y4 (show (((300 - y4) * 1) + 0).toNat ≤ n from by omega) (show 0 ≤ y4 from by omega) (show y4 ≤ 299 from by omega) (show y1 = x1 from by omega) (show y2 = x2 from by omega) (show 0 ≤ y4 from by omega) (show y4 < a0 58 8 from by omega) (by rw [hst, if_neg (fun q => by omega)]; exact hr)
    ·
      exact jt_rI ⟨rfl, rfl, (by rw [show (a0 58 8).toNat = y4.toNat from by omega]; exact hr)⟩
  exact ⟨hc65, hc46, hc34, hc5⟩
theorem sp_X0_landsArrivedTo (E : jxE) (d : Nat) (hd : Nat.ble 4 d = true) (x1 x2 : Int) (a0 b0 : Nat → Nat → Int) (hv0 : iv a0) : jt (jxC E d 21 [.inr (.inr (.inl 58)), .inl x1, .inl x2] (jxSH, a0, b0)) (jQ_X0_landsArrivedTo x1 x2 a0 b0) := by
  obtain ⟨d, rfl⟩ := jd_succ hd
  refine jt_eq (bq_X0_landsArrivedTo E d x1 x2 a0 b0) ?_
  have h126_ := iv_get hv0 (k := 58) (j := 8) (l := 0) (u := 300) rfl
  exact (cp_X0_landsArrivedTo_5 E d hd x1 x2 a0 b0 hv0 _).2.2.2 x1 x2 0 0 (Nat.le_refl _) (show 0 ≤ 0 from by omega) (show 0 ≤ 300 from by omega) (show x1 = x1 from by omega) (show x2 = x2 from by omega) (show 0 ≤ 0 from by omega) (show 0 ≤ a0 58 8 from by omega) (by first | rfl | (rw [show (jxw (y4 + 1)).toNat = y4.toNat + 1 from by omega]; exact hr))
abbrev jQ_X0_reachedBy (x1 : Int) (a0 b0 : Nat → Nat → Int) : List jxV → (Nat → Nat → Int) → (Nat → Nat → Int) → Prop := rJ (fun r a b => (a0 = a) ∧ (b0 = b) ∧ (r = RBC a0 b0 x1 (a0 58 8).toNat))
theorem cp_X0_reachedBy_5 (E : jxE) (d : Nat) (hd : Nat.ble 3 (d + 1) = true) (x1 : Int) (a0 b0 : Nat → Nat → Int) (hv0 : iv a0) : ∀ n : Nat, (∀ (y1 y2 y4 : Int), (((300 - y4) * 1) + 0).toNat ≤ n → 0 ≤ y4 → y4 ≤ 299 → y1 = x1 → 0 ≤ y4 → y4 < a0 58 8 → (y2 = RBC a0 b0 x1 (y4.toNat + 1)) → jt (jxX E d 20 44 [some (.inr (.inr (.inl 58))), some (.inl y1), some (.inr (.inl y2)), none, some (.inl y4)] [] (jxSH, a0, b0)) (jQ_X0_reachedBy x1 a0 b0)) ∧ (∀ (y1 y2 y4 : Int), (((300 - y4) * 1) + 0).toNat ≤ n → 0 ≤ y4 → y4 ≤ 300 → y1 = x1 → 0 ≤ y4 → y4 ≤ a0 58 8 → (y2 = RBC a0 b0 x1 y4.toNat) → jt (jxX E d 20 5 [some (.inr (.inr (.inl 58))), some (.inl y1), some (.inr (.inl y2)), none, some (.inl y4)] [] (jxSH, a0, b0)) (jQ_X0_reachedBy x1 a0 b0)) := by
  refine jx_ind fun n ih => ?_
  have ih44 : ∀ (y1 y2 y4 : Int), (((300 - y4) * 1) + 0).toNat < n → 0 ≤ y4 → y4 ≤ 299 → y1 = x1 → 0 ≤ y4 → y4 < a0 58 8 → (y2 = RBC a0 b0 x1 (y4.toNat + 1)) → jt (jxX E d 20 44 [some (.inr (.inr (.inl 58))), some (.inl y1), some (.inr (.inl y2)), none, some (.inl y4)] [] (jxSH, a0, b0)) (jQ_X0_reachedBy x1 a0 b0) := fun y1 y2 y4 hlt i0 i1 i2 i3 i4 i5 => (ih _ hlt).1 y1 y2 y4 (Nat.le_refl _) i0 i1 i2 i3 i4 i5
  have ih5 : ∀ (y1 y2 y4 : Int), (((300 - y4) * 1) + 0).toNat < n → 0 ≤ y4 → y4 ≤ 300 → y1 = x1 → 0 ≤ y4 → y4 ≤ a0 58 8 → (y2 = RBC a0 b0 x1 y4.toNat) → jt (jxX E d 20 5 [some (.inr (.inr (.inl 58))), some (.inl y1), some (.inr (.inl y2)), none, some (.inl y4)] [] (jxSH, a0, b0)) (jQ_X0_reachedBy x1 a0 b0) := fun y1 y2 y4 hlt i0 i1 i2 i3 i4 i5 => (ih _ hlt).2 y1 y2 y4 (Nat.le_refl _) i0 i1 i2 i3 i4 i5
  have hc44 : ∀ (y1 y2 y4 : Int), (((300 - y4) * 1) + 0).toNat ≤ n → 0 ≤ y4 → y4 ≤ 299 → y1 = x1 → 0 ≤ y4 → y4 < a0 58 8 → (y2 = RBC a0 b0 x1 (y4.toNat + 1)) → jt (jxX E d 20 44 [some (.inr (.inr (.inl 58))), some (.inl y1), some (.inr (.inl y2)), none, some (.inl y4)] [] (jxSH, a0, b0)) (jQ_X0_reachedBy x1 a0 b0) := by
    intro y1 y2 y4 hm hi0 hi1 hi2 hi3 hi4 hr
    refine jt_eq (bq_X0_reachedBy_44 E d y1 y2 y4 a0 b0) ?_
    have h127_ := iv_get hv0 (k := 58) (j := 8) (l := 0) (u := 300) rfl
    have h128_ : jxw (y4 + 1) = y4 + 1 := jxw_id (by omega) (by omega)
    exact ih5 y1 y2 (jxw (y4 + 1)) (show (((300 - (jxw (y4 + 1))) * 1) + 0).toNat < n from by omega) (show 0 ≤ jxw (y4 + 1) from by omega) (show jxw (y4 + 1) ≤ 300 from by omega) (show y1 = x1 from by omega) (show 0 ≤ jxw (y4 + 1) from by omega) (show jxw (y4 + 1) ≤ a0 58 8 from by omega) (by first | rfl | (rw [show (jxw (y4 + 1)).toNat = y4.toNat + 1 from by omega]; exact hr))
  have hc5 : ∀ (y1 y2 y4 : Int), (((300 - y4) * 1) + 0).toNat ≤ n → 0 ≤ y4 → y4 ≤ 300 → y1 = x1 → 0 ≤ y4 → y4 ≤ a0 58 8 → (y2 = RBC a0 b0 x1 y4.toNat) → jt (jxX E d 20 5 [some (.inr (.inr (.inl 58))), some (.inl y1), some (.inr (.inl y2)), none, some (.inl y4)] [] (jxSH, a0, b0)) (jQ_X0_reachedBy x1 a0 b0) := by
    intro y1 y2 y4 hm hi0 hi1 hi2 hi3 hi4 hr
    refine jt_eq (bq_X0_reachedBy_5 E d y1 y2 y4 a0 b0) ?_
    have h129_ := iv_get hv0 (k := 58) (j := 8) (l := 0) (u := 300) rfl
    have hst : RBC a0 b0 x1 (y4.toNat + 1) = if f_X3_areKin a0 b0 x1 (a0 59 y4.toNat) = 0 then RBC a0 b0 x1 y4.toNat else jxorl (RBC a0 b0 x1 y4.toNat) (jxshll 1 (a0 60 y4.toNat)) := rfl
    refine jt_ite (fun c130_ => ?_) (fun c130_ => ?_)
    ·
      refine jt_grd (by omega) ?_
      refine jt_eI (eq_X3_areKin E d (jd_le hd rfl) y1 (a0 59 (y4.toNat)) a0 b0) ?_
      have h131_ := f_X3_areKin_bool a0 b0 y1 (a0 59 (y4.toNat))
      refine jt_ite (fun c132_ => ?_) (fun c132_ => ?_)
      ·
        exact hc44 y1 y2 y4 (show (((300 - y4) * 1) + 0).toNat ≤ n from by omega) (show 0 ≤ y4 from by omega) (show y4 ≤ 299 from by omega) (show y1 = x1 from by omega) (show 0 ≤ y4 from by omega) (show y4 < a0 58 8 from by omega) (by rw [hst, show x1 = y1 from by omega]; first | (rw [if_pos (by assumption), show y1 = x1 from by omega]; exact hr) | (rw [if_neg (by assumption), show y1 = x1 from by omega, ← hr]))
      ·
        refine jt_grd (by omega) ?_
        exact hc44 y1 (jxorl y2 (jxshll 1 (a0 60 (y4.toNat)))) y4 (show (((300 - y4) * 1) + 0).toNat ≤ n from by omega) (show 0 ≤ y4 from by omega) (show y4 ≤ 299 from by omega) (show y1 = x1 from by omega) (show 0 ≤ y4 from by omega) (show y4 < a0 58 8 from by omega) (by rw [hst, show x1 = y1 from by omega]; first | (rw [if_pos (by assumption), show y1 = x1 from by omega]; exact hr) | (rw [if_neg (by assumption), show y1 = x1 from by omega, ← hr]))
    ·
      exact jt_rJ ⟨rfl, rfl, (by rw [show (a0 58 8).toNat = y4.toNat from by omega]; exact hr)⟩
  exact ⟨hc44, hc5⟩
theorem sp_X0_reachedBy (E : jxE) (d : Nat) (hd : Nat.ble 3 d = true) (x1 : Int) (a0 b0 : Nat → Nat → Int) (hv0 : iv a0) : jt (jxC E d 20 [.inr (.inr (.inl 58)), .inl x1] (jxSH, a0, b0)) (jQ_X0_reachedBy x1 a0 b0) := by
  obtain ⟨d, rfl⟩ := jd_succ hd
  refine jt_eq (bq_X0_reachedBy E d x1 a0 b0) ?_
  have h133_ := iv_get hv0 (k := 58) (j := 8) (l := 0) (u := 300) rfl
  exact (cp_X0_reachedBy_5 E d hd x1 a0 b0 hv0 _).2 x1 0 0 (Nat.le_refl _) (show 0 ≤ 0 from by omega) (show 0 ≤ 300 from by omega) (show x1 = x1 from by omega) (show 0 ≤ 0 from by omega) (show 0 ≤ a0 58 8 from by omega) (by first | rfl | (rw [show (jxw (y4 + 1)).toNat = y4.toNat + 1 from by omega]; exact hr))
abbrev jQ_X0_stateAsKnown (x1 x2 x3 : Int) (a0 b0 : Nat → Nat → Int) : List jxV → (Nat → Nat → Int) → (Nat → Nat → Int) → Prop := rI (fun r a b => (a0 = a) ∧ (b0 = b) ∧ (r = f_X0_stateOn a0 b0 x1 x2 x3 (lastd (a0 66) (a0 67) (a0 68) x1 x3 (a0 58 12).toNat)))
theorem cp_X0_stateAsKnown_6 (E : jxE) (d : Nat) (hd : Nat.ble 3 (d + 1) = true) (x1 x2 x3 : Int) (a0 b0 : Nat → Nat → Int) (hv0 : iv a0) : ∀ n : Nat, (∀ (y1 y2 y3 y4 y5 : Int), (((600 - y5) * 1) + 0).toNat ≤ n → 0 ≤ y5 → y5 ≤ 599 → y1 = x1 → y2 = x2 → y3 = x3 → 0 ≤ y5 → y5 < a0 58 12 → (y4 = lastd (a0 66) (a0 67) (a0 68) x1 x3 (y5.toNat + 1)) → jt (jxX E d 18 46 [some (.inr (.inr (.inl 58))), some (.inl y1), some (.inl y2), some (.inl y3), some (.inl y4), some (.inl y5)] [] (jxSH, a0, b0)) (jQ_X0_stateAsKnown x1 x2 x3 a0 b0)) ∧ (∀ (y1 y2 y3 y5 : Int), (((600 - y5) * 1) + 0).toNat ≤ n → 0 ≤ y5 → y5 ≤ 599 → y1 = x1 → y2 = x2 → y3 = x3 → 0 ≤ y5 → y5 < a0 58 12 → (a0 67 y5.toNat = lastd (a0 66) (a0 67) (a0 68) x1 x3 (y5.toNat + 1)) → jt (jxX E d 18 37 [some (.inr (.inr (.inl 58))), some (.inl y1), some (.inl y2), some (.inl y3), none, some (.inl y5)] [] (jxSH, a0, b0)) (jQ_X0_stateAsKnown x1 x2 x3 a0 b0)) ∧ (∀ (y1 y2 y3 y4 y5 : Int), (((600 - y5) * 1) + 0).toNat ≤ n → 0 ≤ y5 → y5 ≤ 600 → y1 = x1 → y2 = x2 → y3 = x3 → 0 ≤ y5 → y5 ≤ a0 58 12 → (y4 = lastd (a0 66) (a0 67) (a0 68) x1 x3 y5.toNat) → jt (jxX E d 18 6 [some (.inr (.inr (.inl 58))), some (.inl y1), some (.inl y2), some (.inl y3), some (.inl y4), some (.inl y5)] [] (jxSH, a0, b0)) (jQ_X0_stateAsKnown x1 x2 x3 a0 b0)) := by
  refine jx_ind fun n ih => ?_
  have ih46 : ∀ (y1 y2 y3 y4 y5 : Int), (((600 - y5) * 1) + 0).toNat < n → 0 ≤ y5 → y5 ≤ 599 → y1 = x1 → y2 = x2 → y3 = x3 → 0 ≤ y5 → y5 < a0 58 12 → (y4 = lastd (a0 66) (a0 67) (a0 68) x1 x3 (y5.toNat + 1)) → jt (jxX E d 18 46 [some (.inr (.inr (.inl 58))), some (.inl y1), some (.inl y2), some (.inl y3), some (.inl y4), some (.inl y5)] [] (jxSH, a0, b0)) (jQ_X0_stateAsKnown x1 x2 x3 a0 b0) := fun y1 y2 y3 y4 y5 hlt i0 i1 i2 i3 i4 i5 i6 i7 => (ih _ hlt).1 y1 y2 y3 y4 y5 (Nat.le_refl _) i0 i1 i2 i3 i4 i5 i6 i7
  have ih37 : ∀ (y1 y2 y3 y5 : Int), (((600 - y5) * 1) + 0).toNat < n → 0 ≤ y5 → y5 ≤ 599 → y1 = x1 → y2 = x2 → y3 = x3 → 0 ≤ y5 → y5 < a0 58 12 → (a0 67 y5.toNat = lastd (a0 66) (a0 67) (a0 68) x1 x3 (y5.toNat + 1)) → jt (jxX E d 18 37 [some (.inr (.inr (.inl 58))), some (.inl y1), some (.inl y2), some (.inl y3), none, some (.inl y5)] [] (jxSH, a0, b0)) (jQ_X0_stateAsKnown x1 x2 x3 a0 b0) := fun y1 y2 y3 y5 hlt i0 i1 i2 i3 i4 i5 i6 i7 => (ih _ hlt).2.1 y1 y2 y3 y5 (Nat.le_refl _) i0 i1 i2 i3 i4 i5 i6 i7
  have ih6 : ∀ (y1 y2 y3 y4 y5 : Int), (((600 - y5) * 1) + 0).toNat < n → 0 ≤ y5 → y5 ≤ 600 → y1 = x1 → y2 = x2 → y3 = x3 → 0 ≤ y5 → y5 ≤ a0 58 12 → (y4 = lastd (a0 66) (a0 67) (a0 68) x1 x3 y5.toNat) → jt (jxX E d 18 6 [some (.inr (.inr (.inl 58))), some (.inl y1), some (.inl y2), some (.inl y3), some (.inl y4), some (.inl y5)] [] (jxSH, a0, b0)) (jQ_X0_stateAsKnown x1 x2 x3 a0 b0) := fun y1 y2 y3 y4 y5 hlt i0 i1 i2 i3 i4 i5 i6 i7 => (ih _ hlt).2.2 y1 y2 y3 y4 y5 (Nat.le_refl _) i0 i1 i2 i3 i4 i5 i6 i7
  have hc46 : ∀ (y1 y2 y3 y4 y5 : Int), (((600 - y5) * 1) + 0).toNat ≤ n → 0 ≤ y5 → y5 ≤ 599 → y1 = x1 → y2 = x2 → y3 = x3 → 0 ≤ y5 → y5 < a0 58 12 → (y4 = lastd (a0 66) (a0 67) (a0 68) x1 x3 (y5.toNat + 1)) → jt (jxX E d 18 46 [some (.inr (.inr (.inl 58))), some (.inl y1), some (.inl y2), some (.inl y3), some (.inl y4), some (.inl y5)] [] (jxSH, a0, b0)) (jQ_X0_stateAsKnown x1 x2 x3 a0 b0) := by
    intro y1 y2 y3 y4 y5 hm hi0 hi1 hi2 hi3 hi4 hi5 hi6 hl
    refine jt_eq (bq_X0_stateAsKnown_46 E d y1 y2 y3 y4 y5 a0 b0) ?_
    have h134_ := iv_get hv0 (k := 58) (j := 12) (l := 0) (u := 600) rfl
    have h135_ : jxw (y5 + 1) = y5 + 1 := jxw_id (by omega) (by omega)
    exact ih6 y1 y2 y3 y4 (jxw (y5 + 1)) (show (((600 - (jxw (y5 + 1))) * 1) + 0).toNat < n from by omega) (show 0 ≤ jxw (y5 + 1) from by omega) (show jxw (y5 + 1) ≤ 600 from by omega) (show y1 = x1 from by omega) (show y2 = x2 from by omega) (show y3 = x3 from by omega) (show 0 ≤ jxw (y5 + 1) from by omega) (show jxw (y5 + 1) ≤ a0 58 12 from by omega) (by first | rfl | (rw [show (jxw (y5 + 1)).toNat = y5.toNat + 1 from by omega]; exact hl))
  have hc37 : ∀ (y1 y2 y3 y5 : Int), (((600 - y5) * 1) + 0).toNat ≤ n → 0 ≤ y5 → y5 ≤ 599 → y1 = x1 → y2 = x2 → y3 = x3 → 0 ≤ y5 → y5 < a0 58 12 → (a0 67 y5.toNat = lastd (a0 66) (a0 67) (a0 68) x1 x3 (y5.toNat + 1)) → jt (jxX E d 18 37 [some (.inr (.inr (.inl 58))), some (.inl y1), some (.inl y2), some (.inl y3), none, some (.inl y5)] [] (jxSH, a0, b0)) (jQ_X0_stateAsKnown x1 x2 x3 a0 b0) := by
    intro y1 y2 y3 y5 hm hi0 hi1 hi2 hi3 hi4 hi5 hi6 hl
    refine jt_eq (bq_X0_stateAsKnown_37 E d y1 y2 y3 y5 a0 b0) ?_
    have h136_ := iv_get hv0 (k := 58) (j := 12) (l := 0) (u := 600) rfl
    refine jt_grd (by omega) ?_
    exact hc46 y1 y2 y3 (a0 67 (y5.toNat)) y5 (show (((600 - y5) * 1) + 0).toNat ≤ n from by omega) (show 0 ≤ y5 from by omega) (show y5 ≤ 599 from by omega) (show y1 = x1 from by omega) (show y2 = x2 from by omega) (show y3 = x3 from by omega) (show 0 ≤ y5 from by omega) (show y5 < a0 58 12 from by omega) (by first | exact hl | (rw [hls, if_neg (fun q => by omega)]; exact hl))
  have hc6 : ∀ (y1 y2 y3 y4 y5 : Int), (((600 - y5) * 1) + 0).toNat ≤ n → 0 ≤ y5 → y5 ≤ 600 → y1 = x1 → y2 = x2 → y3 = x3 → 0 ≤ y5 → y5 ≤ a0 58 12 → (y4 = lastd (a0 66) (a0 67) (a0 68) x1 x3 y5.toNat) → jt (jxX E d 18 6 [some (.inr (.inr (.inl 58))), some (.inl y1), some (.inl y2), some (.inl y3), some (.inl y4), some (.inl y5)] [] (jxSH, a0, b0)) (jQ_X0_stateAsKnown x1 x2 x3 a0 b0) := by
    intro y1 y2 y3 y4 y5 hm hi0 hi1 hi2 hi3 hi4 hi5 hi6 hl
    refine jt_eq (bq_X0_stateAsKnown_6 E d y1 y2 y3 y4 y5 a0 b0) ?_
    have h137_ := iv_get hv0 (k := 58) (j := 12) (l := 0) (u := 600) rfl
    have hls : lastd (a0 66) (a0 67) (a0 68) x1 x3 (y5.toNat + 1) = if a0 66 y5.toNat = x1 ∧ a0 68 y5.toNat ≤ x3 then a0 67 y5.toNat else lastd (a0 66) (a0 67) (a0 68) x1 x3 y5.toNat := rfl
    refine jt_ite (fun c138_ => ?_) (fun c138_ => ?_)
    ·
      refine jt_grd (by omega) ?_
      refine jt_ite (fun c139_ => ?_) (fun c139_ => ?_)
      ·
        refine jt_grd (by omega) ?_
        refine jt_ite (fun c140_ => ?_) (fun c140_ => ?_)
        ·
          exact hc46 y1 y2 y3 y4 y5 (show (((600 - y5) * 1) + 0).toNat ≤ n from by omega) (show 0 ≤ y5 from by omega) (show y5 ≤ 599 from by omega) (show y1 = x1 from by omega) (show y2 = x2 from by omega) (show y3 = x3 from by omega) (show 0 ≤ y5 from by omega) (show y5 < a0 58 12 from by omega) (by first | exact hl | (rw [hls, if_neg (fun q => by omega)]; exact hl))
        ·
          exact hc37 y1 y2 y3 y5 (show (((600 - y5) * 1) + 0).toNat ≤ n from by omega) (show 0 ≤ y5 from by omega) (show y5 ≤ 599 from by omega) (show y1 = x1 from by omega) (show y2 = x2 from by omega) (show y3 = x3 from by omega) (show 0 ≤ y5 from by omega) (show y5 < a0 58 12 from by omega) (by rw [hls, if_pos ⟨by omega, by omega⟩])
      ·
        exact hc46 y1 y2 y3 y4 y5 (show (((600 - y5) * 1) + 0).toNat ≤ n from by omega) (show 0 ≤ y5 from by omega) (show y5 ≤ 599 from by omega) (show y1 = x1 from by omega) (show y2 = x2 from by omega) (show y3 = x3 from by omega) (show 0 ≤ y5 from by omega) (show y5 < a0 58 12 from by omega) (by first | exact hl | (rw [hls, if_neg (fun q => by omega)]; exact hl))
    ·
      refine jt_eI (eq_X0_stateOn E d (jd_le hd rfl) y1 y2 y3 y4 a0 b0) ?_
      exact jt_rI ⟨rfl, rfl, (by rw [show (a0 58 12).toNat = y5.toNat from by omega, ← hl, show y1 = x1 from by omega, show y2 = x2 from by omega, show y3 = x3 from by omega])⟩
  exact ⟨hc46, hc37, hc6⟩
theorem sp_X0_stateAsKnown (E : jxE) (d : Nat) (hd : Nat.ble 3 d = true) (x1 x2 x3 : Int) (a0 b0 : Nat → Nat → Int) (hv0 : iv a0) : jt (jxC E d 18 [.inr (.inr (.inl 58)), .inl x1, .inl x2, .inl x3] (jxSH, a0, b0)) (jQ_X0_stateAsKnown x1 x2 x3 a0 b0) := by
  obtain ⟨d, rfl⟩ := jd_succ hd
  refine jt_eq (bq_X0_stateAsKnown E d x1 x2 x3 a0 b0) ?_
  have h141_ := iv_get hv0 (k := 58) (j := 12) (l := 0) (u := 600) rfl
  exact (cp_X0_stateAsKnown_6 E d hd x1 x2 x3 a0 b0 hv0 _).2.2 x1 x2 x3 (-1) 0 (Nat.le_refl _) (show 0 ≤ 0 from by omega) (show 0 ≤ 600 from by omega) (show x1 = x1 from by omega) (show x2 = x2 from by omega) (show x3 = x3 from by omega) (show 0 ≤ 0 from by omega) (show 0 ≤ a0 58 12 from by omega) (by first | rfl | (rw [show (jxw (y5 + 1)).toNat = y5.toNat + 1 from by omega]; exact hl))
def jWte : List (Nat × Nat) := []
def jWt1 : List (Nat × Nat) := [(66, 9999), (67, 9999), (68, 9999)]
def jW_X0_tell : List (Nat × Nat) := [(58, 12), (65, 9999), (66, 9999), (67, 9999), (68, 9999)]
abbrev jQ_X0_tell (x1 x2 x3 : Int) (a0 b0 : Nat → Nat → Int) : List jxV → (Nat → Nat → Int) → (Nat → Nat → Int) → Prop := rI (fun r a b => (iv a) ∧ (jfr jW_X0_tell a0 a) ∧ (b0 = b) ∧ ((0 ≤ r ∧ r ≤ 1)) ∧ (((((((r = 1 ∧ 0 ≤ x1) ∧ x1 < a0 58 8) ∧ x1 < 300) ∧ a0 64 (x1.toNat) = 0 - 1) ∧ a0 58 12 < 600) ∨ (r = 0 ∧ ((((x1 < 0 ∨ a0 58 8 ≤ x1) ∨ 300 ≤ x1) ∨ ¬ a0 64 (x1.toNat) = 0 - 1) ∨ 600 ≤ a0 58 12)))) ∧ (r = 1 → cvC a = vTell (cvC a0) x1 x2 x3) ∧ (r = 0 → cvC a = cvC a0))
theorem cp_X0_tell_28 (E : jxE) (d : Nat) (hd : Nat.ble 2 (d + 1) = true) (x1 x2 x3 : Int) (a0 b0 : Nat → Nat → Int) (hv0 : iv a0) : ∀ (a : Nat → Nat → Int), iv a → jfr jW_X0_tell a0 a → (jfr jWte a0 a) → ((((x1 < 0 ∨ a0 58 8 ≤ x1) ∨ 300 ≤ x1) ∨ ¬ a0 64 (x1.toNat) = 0 - 1) ∨ 600 ≤ a0 58 12) → jt (jxX E d 16 28 [none, none, none, none] [] (jxSH, a, b0)) (jQ_X0_tell x1 x2 x3 a0 b0) := by
  intro a hv hf hfe hi1
  refine jt_eq (bq_X0_tell_28 E d a b0) ?_
  have h142_ := iv_get hv0 (k := 58) (j := 8) (l := 0) (u := 300) rfl
  have h143_ := iv_get hv0 (k := 58) (j := 12) (l := 0) (u := 600) rfl
  exact jt_rI ⟨hv, hf, rfl, (show (0 ≤ 0 ∧ 0 ≤ 1) from by omega), (show ((((((0 = 1 ∧ 0 ≤ x1) ∧ x1 < a0 58 8) ∧ x1 < 300) ∧ a0 64 (x1.toNat) = 0 - 1) ∧ a0 58 12 < 600) ∨ (0 = 0 ∧ ((((x1 < 0 ∨ a0 58 8 ≤ x1) ∨ 300 ≤ x1) ∨ ¬ a0 64 (x1.toNat) = 0 - 1) ∨ 600 ≤ a0 58 12))) from by omega), (fun h => absurd h (by decide)), (fun _ => cvC_fr hfe rfl)⟩
theorem cp_X0_tell_60 (E : jxE) (d : Nat) (hd : Nat.ble 2 (d + 1) = true) (x1 x2 x3 : Int) (a0 b0 : Nat → Nat → Int) (hv0 : iv a0) : ∀ (y1 : Int) (a : Nat → Nat → Int), iv a → jfr jW_X0_tell a0 a → 0 ≤ y1 → y1 ≤ 299 → a 58 12 ≤ 599 → (jfr jWt1 a0 a) → ((((0 ≤ x1 ∧ x1 < a0 58 8) ∧ x1 < 300) ∧ a0 64 (x1.toNat) = 0 - 1) ∧ a0 58 12 < 600) → (y1 = x1) → (a 66 = rup (a0 66) (a0 58 12).toNat x1 ∧ a 67 = rup (a0 67) (a0 58 12).toNat x2 ∧ a 68 = rup (a0 68) (a0 58 12).toNat x3) → a 58 12 = a0 58 12 → jt (jxX E d 16 60 [some (.inr (.inr (.inl 58))), some (.inl y1), none, none] [] (jxSH, a, b0)) (jQ_X0_tell x1 x2 x3 a0 b0) := by
  intro y1 a hv hf hi0 hi1 hi2 hfa hi4 hy1 hr1 hi7
  refine jt_eq (bq_X0_tell_60 E d y1 a b0) ?_
  have h144_ := iv_get hv (k := 58) (j := 12) (l := 0) (u := 600) rfl
  have h145_ := iv_get hv0 (k := 58) (j := 8) (l := 0) (u := 300) rfl
  have h146_ := iv_get hv0 (k := 58) (j := 12) (l := 0) (u := 600) rfl
  refine jt_grd (by omega) ?_
  have hv147_ : iv (jxu a 65 (y1.toNat) (a 58 12)) := iv_putf hv rfl
  have h149_ : jxw ((a 58 12) + 1) = (a 58 12) + 1 := jxw_id (by omega) (by omega)
  have hv148_ : iv (jxu (jxu a 65 (y1.toNat) (a 58 12)) 58 12 (jxw ((a 58 12) + 1))) := iv_put hv147_ (l := 0) (u := 600) rfl (by omega) (by omega)
  have hf150_ : jfr jW_X0_tell a0 (jxu a 65 (y1.toNat) (a 58 12)) := jfr_put hf rfl
  have hf151_ : jfr jW_X0_tell a0 (jxu (jxu a 65 (y1.toNat) (a 58 12)) 58 12 (jxw ((a 58 12) + 1))) := jfr_put hf150_ rfl
  exact jt_rI ⟨hv148_, hf151_, rfl, (show (0 ≤ 1 ∧ 1 ≤ 1) from by omega), (show ((((((1 = 1 ∧ 0 ≤ x1) ∧ x1 < a0 58 8) ∧ x1 < 300) ∧ a0 64 (x1.toNat) = 0 - 1) ∧ a0 58 12 < 600) ∨ (1 = 0 ∧ ((((x1 < 0 ∨ a0 58 8 ≤ x1) ∨ 300 ≤ x1) ∨ ¬ a0 64 (x1.toNat) = 0 - 1) ∨ 600 ≤ a0 58 12))) from by omega), (fun _ => mkCV_eq (hfa 58 8 rfl) (show jxw ((a 58 12) + 1) = a0 58 12 + 1 from by omega) (funext fun j => hfa 59 j rfl) (funext fun j => hfa 60 j rfl) (funext fun j => hfa 61 j rfl) (funext fun j => hfa 62 j rfl) (funext fun j => hfa 63 j rfl) (funext fun j => hfa 64 j rfl) (funext fun j => by show (if j = y1.toNat then a 58 12 else a 65 j) = (if j = x1.toNat then a0 58 12 else a0 65 j); rw [show y1.toNat = x1.toNat from by omega, hfa 65 j rfl, show a 58 12 = a0 58 12 from by omega]) hr1.1 hr1.2.1 hr1.2.2), (fun h => absurd h (by decide))⟩
theorem cp_X0_tell_30 (E : jxE) (d : Nat) (hd : Nat.ble 2 (d + 1) = true) (x1 x2 x3 : Int) (a0 b0 : Nat → Nat → Int) (hv0 : iv a0) : ∀ (y1 y2 y3 : Int) (a : Nat → Nat → Int), iv a → jfr jW_X0_tell a0 a → 0 ≤ y1 → y1 ≤ 299 → a 58 12 ≤ 599 → (jfr jWte a0 a) → ((((0 ≤ x1 ∧ x1 < a0 58 8) ∧ x1 < 300) ∧ a0 64 (x1.toNat) = 0 - 1) ∧ a0 58 12 < 600) → (y1 = x1) → (y2 = x2) → (y3 = x3) → jt (jxX E d 16 30 [some (.inr (.inr (.inl 58))), some (.inl y1), some (.inl y2), some (.inl y3)] [] (jxSH, a, b0)) (jQ_X0_tell x1 x2 x3 a0 b0) := by
  intro y1 y2 y3 a hv hf hi0 hi1 hi2 hfe hi4 hy1 hy2 hy3
  refine jt_eq (bq_X0_tell_30 E d y1 y2 y3 a b0) ?_
  have h152_ := iv_get hv (k := 58) (j := 12) (l := 0) (u := 600) rfl
  have h153_ := iv_get hv0 (k := 58) (j := 8) (l := 0) (u := 300) rfl
  have h154_ := iv_get hv0 (k := 58) (j := 12) (l := 0) (u := 600) rfl
  have e12 := hfe 58 12 rfl
  refine jt_grd (by omega) ?_
  refine jt_grd (by omega) ?_
  refine jt_grd (by omega) ?_
  have hv155_ : iv (jxu a 66 ((a 58 12).toNat) y1) := iv_putf hv rfl
  have hv156_ : iv (jxu (jxu a 66 ((a 58 12).toNat) y1) 67 ((a 58 12).toNat) y2) := iv_putf hv155_ rfl
  have hv157_ : iv (jxu (jxu (jxu a 66 ((a 58 12).toNat) y1) 67 ((a 58 12).toNat) y2) 68 ((a 58 12).toNat) y3) := iv_putf hv156_ rfl
  have hf158_ : jfr jW_X0_tell a0 (jxu a 66 ((a 58 12).toNat) y1) := jfr_put hf rfl
  have hf159_ : jfr jW_X0_tell a0 (jxu (jxu a 66 ((a 58 12).toNat) y1) 67 ((a 58 12).toNat) y2) := jfr_put hf158_ rfl
  have hf160_ : jfr jW_X0_tell a0 (jxu (jxu (jxu a 66 ((a 58 12).toNat) y1) 67 ((a 58 12).toNat) y2) 68 ((a 58 12).toNat) y3) := jfr_put hf159_ rfl
  have hf161_ : jfr jWt1 a0 (jxu a 66 ((a 58 12).toNat) y1) := jfr_put (jfr_tr (jfr_rf _ _) hfe rfl) rfl
  have hf162_ : jfr jWt1 a0 (jxu (jxu a 66 ((a 58 12).toNat) y1) 67 ((a 58 12).toNat) y2) := jfr_put hf161_ rfl
  have hf163_ : jfr jWt1 a0 (jxu (jxu (jxu a 66 ((a 58 12).toNat) y1) 67 ((a 58 12).toNat) y2) 68 ((a 58 12).toNat) y3) := jfr_put hf162_ rfl
  exact cp_X0_tell_60 E d hd x1 x2 x3 a0 b0 hv0 y1 (jxu (jxu (jxu a 66 ((a 58 12).toNat) y1) 67 ((a 58 12).toNat) y2) 68 ((a 58 12).toNat) y3) hv157_ hf160_ (show 0 ≤ y1 from by omega) (show y1 ≤ 299 from by omega) (show a 58 12 ≤ 599 from by omega) hf163_ (show ((((0 ≤ x1 ∧ x1 < a0 58 8) ∧ x1 < 300) ∧ a0 64 (x1.toNat) = 0 - 1) ∧ a0 58 12 < 600) from by omega) (by first | rfl | assumption) (by subst hy1; subst hy2; subst hy3; exact ⟨(funext fun j => by show (if j = (a 58 12).toNat then _ else a 66 j) = (if j = (a0 58 12).toNat then _ else a0 66 j); rw [show (a 58 12).toNat = (a0 58 12).toNat from by omega, hfe 66 j rfl]), (funext fun j => by show (if j = (a 58 12).toNat then _ else a 67 j) = (if j = (a0 58 12).toNat then _ else a0 67 j); rw [show (a 58 12).toNat = (a0 58 12).toNat from by omega, hfe 67 j rfl]), (funext fun j => by show (if j = (a 58 12).toNat then _ else a 68 j) = (if j = (a0 58 12).toNat then _ else a0 68 j); rw [show (a 58 12).toNat = (a0 58 12).toNat from by omega, hfe 68 j rfl])⟩) (show a 58 12 = a0 58 12 from by omega)
theorem sp_X0_tell (E : jxE) (d : Nat) (hd : Nat.ble 2 d = true) (x1 x2 x3 : Int) (a0 b0 : Nat → Nat → Int) (hv0 : iv a0) : jt (jxC E d 16 [.inr (.inr (.inl 58)), .inl x1, .inl x2, .inl x3] (jxSH, a0, b0)) (jQ_X0_tell x1 x2 x3 a0 b0) := by
  obtain ⟨d, rfl⟩ := jd_succ hd
  refine jt_eq (bq_X0_tell E d x1 x2 x3 a0 b0) ?_
  refine jt_eI (eq_X0_has E d (jd_le hd rfl) x1 a0 b0) ?_
  have h164_ := f_X0_has_eq a0 b0 x1
  have h165_ := iv_get hv0 (k := 58) (j := 8) (l := 0) (u := 300) rfl
  refine jt_ite (fun c166_ => ?_) (fun c166_ => ?_)
  ·
    have h167_ := iv_get hv0 (k := 58) (j := 12) (l := 0) (u := 600) rfl
    exact cp_X0_tell_28 E d hd x1 x2 x3 a0 b0 hv0 a0 hv0 (jfr_rf _ _) (jfr_rf _ _) (show ((((x1 < 0 ∨ a0 58 8 ≤ x1) ∨ 300 ≤ x1) ∨ ¬ a0 64 (x1.toNat) = 0 - 1) ∨ 600 ≤ a0 58 12) from by omega)
  ·
    refine jt_grd (by omega) ?_
    refine jt_ite (fun c168_ => ?_) (fun c168_ => ?_)
    ·
      have h169_ := iv_get hv0 (k := 58) (j := 12) (l := 0) (u := 600) rfl
      refine jt_ite (fun c170_ => ?_) (fun c170_ => ?_)
      ·
        exact cp_X0_tell_30 E d hd x1 x2 x3 a0 b0 hv0 x1 x2 x3 a0 hv0 (jfr_rf _ _) (show 0 ≤ x1 from by omega) (show x1 ≤ 299 from by omega) (show a0 58 12 ≤ 599 from by omega) (jfr_rf _ _) (show ((((0 ≤ x1 ∧ x1 < a0 58 8) ∧ x1 < 300) ∧ a0 64 (x1.toNat) = 0 - 1) ∧ a0 58 12 < 600) from by omega) (by first | rfl | assumption) (by first | rfl | assumption) (by first | rfl | assumption)
      ·
        exact cp_X0_tell_28 E d hd x1 x2 x3 a0 b0 hv0 a0 hv0 (jfr_rf _ _) (jfr_rf _ _) (show ((((x1 < 0 ∨ a0 58 8 ≤ x1) ∨ 300 ≤ x1) ∨ ¬ a0 64 (x1.toNat) = 0 - 1) ∨ 600 ≤ a0 58 12) from by omega)
    ·
      have h171_ := iv_get hv0 (k := 58) (j := 12) (l := 0) (u := 600) rfl
      exact cp_X0_tell_28 E d hd x1 x2 x3 a0 b0 hv0 a0 hv0 (jfr_rf _ _) (jfr_rf _ _) (show ((((x1 < 0 ∨ a0 58 8 ≤ x1) ∨ 300 ≤ x1) ∨ ¬ a0 64 (x1.toNat) = 0 - 1) ∨ 600 ≤ a0 58 12) from by omega)
def jW_X0_takeBack : List (Nat × Nat) := [(58, 12), (65, 9999), (66, 9999), (67, 9999), (68, 9999)]
abbrev jQ_X0_takeBack (x1 x2 : Int) (a0 b0 : Nat → Nat → Int) : List jxV → (Nat → Nat → Int) → (Nat → Nat → Int) → Prop := rI (fun r a b => (iv a) ∧ (jfr jW_X0_takeBack a0 a) ∧ (b0 = b) ∧ ((0 ≤ r ∧ r ≤ 1)) ∧ ((a0 58 8 = 0 → r = 0)) ∧ (r = 1 → 0 ≤ x1 ∧ x1 < a0 58 8 ∧ a0 64 x1.toNat = -1 ∧ a0 58 12 < 600 ∧ ¬ (f_X0_arrivedOnOf a0 b0 x1) = -1) ∧ (r = 0 → ¬ (0 ≤ x1 ∧ x1 < a0 58 8 ∧ a0 64 x1.toNat = -1 ∧ a0 58 12 < 600 ∧ ¬ (f_X0_arrivedOnOf a0 b0 x1) = -1)) ∧ (r = 1 → cvC a = vTell (cvC a0) x1 (-1) x2) ∧ (r = 0 → cvC a = cvC a0))
theorem sp_X0_takeBack (E : jxE) (d : Nat) (hd : Nat.ble 3 d = true) (x1 x2 : Int) (a0 b0 : Nat → Nat → Int) (hv0 : iv a0) : jt (jxC E d 15 [.inr (.inr (.inl 58)), .inl x1, .inl x2] (jxSH, a0, b0)) (jQ_X0_takeBack x1 x2 a0 b0) := by
  obtain ⟨d, rfl⟩ := jd_succ hd
  refine jt_eq (bq_X0_takeBack E d x1 x2 a0 b0) ?_
  refine jt_eI (eq_X0_arrivedOnOf E d (jd_le hd rfl) x1 a0 b0) ?_
  have h172_ := f_X0_arrivedOnOf_eq a0 b0 x1
  have h173_ := iv_get hv0 (k := 58) (j := 12) (l := 0) (u := 600) rfl
  have h174_ := iv_get hv0 (k := 58) (j := 8) (l := 0) (u := 300) rfl
  have h175_ := f_X11_entry_r65_eq a0 b0 (a0 58 8) x1
  have h176_ := f_X11_entry_r67_eq a0 b0 (a0 58 12) (f_X11_entry_r65 a0 b0 (a0 58 8) x1)
  refine jt_ite (fun c177_ => ?_) (fun c177_ => ?_)
  ·
    exact jt_rI ⟨hv0, (jfr_rf _ _), rfl, (show (0 ≤ 0 ∧ 0 ≤ 1) from by omega), (show (a0 58 8 = 0 → 0 = 0) from by omega), (fun h => absurd h (by omega)), (fun _ q => by omega), (fun h => absurd h (by decide)), (fun _ => rfl)⟩
  ·
    refine jt_bI (sp_X0_tell E d (jd_le hd rfl) x1 (-1) x2 a0 b0 hv0) (fun r178_ a178_ b178_ h178_ => ?_)
    obtain ⟨hv178_, hf178_, rfl, hq178_0, hq178_1, hq178_2, hq178_3⟩ := h178_
    refine jt_ite (fun c179_ => ?_) (fun c179_ => ?_)
    ·
      have hf180_ : jfr jW_X0_takeBack a0 a178_ := jfr_tr (jfr_rf _ _) hf178_ rfl
      exact jt_rI ⟨hv178_, hf180_, rfl, (show (0 ≤ 0 ∧ 0 ≤ 1) from by omega), (show (a0 58 8 = 0 → 0 = 0) from by omega), (fun h => absurd h (by omega)), (fun _ q => by omega), (fun h => hq178_2 (by omega)), (fun h => hq178_3 (by omega))⟩
    ·
      have hf181_ : jfr jW_X0_takeBack a0 a178_ := jfr_tr (jfr_rf _ _) hf178_ rfl
      exact jt_rI ⟨hv178_, hf181_, rfl, (show (0 ≤ 1 ∧ 1 ≤ 1) from by omega), (show (a0 58 8 = 0 → 1 = 0) from by omega), (fun _ => by omega), (fun _ q => by omega), (fun h => hq178_2 (by omega)), (fun h => hq178_3 (by omega))⟩
def jW_X0_tellArrival : List (Nat × Nat) := [(58, 12), (65, 9999), (66, 9999), (67, 9999), (68, 9999)]
abbrev jQ_X0_tellArrival (x1 x2 x3 : Int) (a0 b0 : Nat → Nat → Int) : List jxV → (Nat → Nat → Int) → (Nat → Nat → Int) → Prop := rI (fun r a b => (iv a) ∧ (jfr jW_X0_tellArrival a0 a) ∧ (b0 = b) ∧ ((0 ≤ r ∧ r ≤ 1)) ∧ ((a0 58 8 = 0 → r = 0)) ∧ ((((((((r = 1 ∧ 0 ≤ x1) ∧ x1 < a0 58 8) ∧ a0 64 (x1.toNat) = 0 - 1) ∧ a0 58 12 < 600) ∧ a0 61 (x1.toNat) ≤ x2) ∧ x2 ≤ x3) ∨ (r = 0 ∧ (((((x1 < 0 ∨ a0 58 8 ≤ x1) ∨ ¬ a0 64 (x1.toNat) = 0 - 1) ∨ 600 ≤ a0 58 12) ∨ x2 < a0 61 (x1.toNat)) ∨ x3 < x2)))) ∧ (r = 1 → cvC a = vTell (cvC a0) x1 x2 x3) ∧ (r = 0 → cvC a = cvC a0))
theorem sp_X0_tellArrival (E : jxE) (d : Nat) (hd : Nat.ble 3 d = true) (x1 x2 x3 : Int) (a0 b0 : Nat → Nat → Int) (hv0 : iv a0) : jt (jxC E d 14 [.inr (.inr (.inl 58)), .inl x1, .inl x2, .inl x3] (jxSH, a0, b0)) (jQ_X0_tellArrival x1 x2 x3 a0 b0) := by
  obtain ⟨d, rfl⟩ := jd_succ hd
  refine jt_eq (bq_X0_tellArrival E d x1 x2 x3 a0 b0) ?_
  refine jt_eI (eq_X0_has E d (jd_le hd rfl) x1 a0 b0) ?_
  have h182_ := f_X0_has_eq a0 b0 x1
  have h183_ := iv_get hv0 (k := 58) (j := 8) (l := 0) (u := 300) rfl
  refine jt_ite (fun c184_ => ?_) (fun c184_ => ?_)
  ·
    have h185_ := iv_get hv0 (k := 58) (j := 12) (l := 0) (u := 600) rfl
    exact jt_rI ⟨hv0, (jfr_rf _ _), rfl, (show (0 ≤ 0 ∧ 0 ≤ 1) from by omega), (show (a0 58 8 = 0 → 0 = 0) from by omega), (show (((((((0 = 1 ∧ 0 ≤ x1) ∧ x1 < a0 58 8) ∧ a0 64 (x1.toNat) = 0 - 1) ∧ a0 58 12 < 600) ∧ a0 61 (x1.toNat) ≤ x2) ∧ x2 ≤ x3) ∨ (0 = 0 ∧ (((((x1 < 0 ∨ a0 58 8 ≤ x1) ∨ ¬ a0 64 (x1.toNat) = 0 - 1) ∨ 600 ≤ a0 58 12) ∨ x2 < a0 61 (x1.toNat)) ∨ x3 < x2))) from by omega), (fun h => absurd h (by decide)), (fun _ => rfl)⟩
  ·
    refine jt_grd (by omega) ?_
    refine jt_eI (eq_X11_within E d (jd_le hd rfl) x2 (a0 61 (x1.toNat)) x3 a0 b0) ?_
    have h186_ := f_X11_within_eq a0 b0 x2 (a0 61 (x1.toNat)) x3
    refine jt_ite (fun c187_ => ?_) (fun c187_ => ?_)
    ·
      have h188_ := iv_get hv0 (k := 58) (j := 12) (l := 0) (u := 600) rfl
      exact jt_rI ⟨hv0, (jfr_rf _ _), rfl, (show (0 ≤ 0 ∧ 0 ≤ 1) from by omega), (show (a0 58 8 = 0 → 0 = 0) from by omega), (show (((((((0 = 1 ∧ 0 ≤ x1) ∧ x1 < a0 58 8) ∧ a0 64 (x1.toNat) = 0 - 1) ∧ a0 58 12 < 600) ∧ a0 61 (x1.toNat) ≤ x2) ∧ x2 ≤ x3) ∨ (0 = 0 ∧ (((((x1 < 0 ∨ a0 58 8 ≤ x1) ∨ ¬ a0 64 (x1.toNat) = 0 - 1) ∨ 600 ≤ a0 58 12) ∨ x2 < a0 61 (x1.toNat)) ∨ x3 < x2))) from by omega), (fun h => absurd h (by decide)), (fun _ => rfl)⟩
    ·
      refine jt_bI (sp_X0_tell E d (jd_le hd rfl) x1 x2 x3 a0 b0 hv0) (fun r189_ a189_ b189_ h189_ => ?_)
      obtain ⟨hv189_, hf189_, rfl, hq189_0, hq189_1, hq189_2, hq189_3⟩ := h189_
      have h190_ := iv_get hv0 (k := 58) (j := 12) (l := 0) (u := 600) rfl
      refine jt_grd (by omega) ?_
      have hf191_ : jfr jW_X0_tellArrival a0 a189_ := jfr_tr (jfr_rf _ _) hf189_ rfl
      exact jt_rI ⟨hv189_, hf191_, rfl, (show (0 ≤ r189_ ∧ r189_ ≤ 1) from by omega), (show (a0 58 8 = 0 → r189_ = 0) from by omega), (show (((((((r189_ = 1 ∧ 0 ≤ x1) ∧ x1 < a0 58 8) ∧ a0 64 (x1.toNat) = 0 - 1) ∧ a0 58 12 < 600) ∧ a0 61 (x1.toNat) ≤ x2) ∧ x2 ≤ x3) ∨ (r189_ = 0 ∧ (((((x1 < 0 ∨ a0 58 8 ≤ x1) ∨ ¬ a0 64 (x1.toNat) = 0 - 1) ∨ 600 ≤ a0 58 12) ∨ x2 < a0 61 (x1.toNat)) ∨ x3 < x2))) from by omega), (hq189_2), (hq189_3)⟩
def jW_X10_addStep : List (Nat × Nat) := [(11, 6), (54, 9999)]
abbrev jQ_X10_addStep (x1 x2 : Int) (a0 b0 : Nat → Nat → Int) : List jxV → (Nat → Nat → Int) → (Nat → Nat → Int) → Prop := rV (fun a b => (iv a) ∧ (jfr jW_X10_addStep a0 a) ∧ (b0 = b) ∧ (a0 11 6 ≤ a 11 6) ∧ ((a0 11 6 < 40 → a 11 6 = (a0 11 6) + 1)) ∧ (a0 11 6 < 40 → UP (a0 54) (a 54) (a0 11 6).toNat (jxw ((jxw (x1 * 1000)) + x2))))
theorem cp_X10_addStep_35 (E : jxE) (d : Nat) (hd : Nat.ble 1 (d + 1) = true) (x1 x2 : Int) (a0 b0 : Nat → Nat → Int) (hv0 : iv a0) : ∀ (a : Nat → Nat → Int), iv a → jfr jW_X10_addStep a0 a → 1 ≤ a 11 6 → a0 11 6 ≤ a 11 6 → (a0 11 6 < 40 → a 11 6 = (a0 11 6) + 1) → (a0 11 6 < 40 → UP (a0 54) (a 54) (a0 11 6).toNat (jxw ((jxw (x1 * 1000)) + x2))) → jt (jxX E d 149 35 [none, none, none] [] (jxSH, a, b0)) (jQ_X10_addStep x1 x2 a0 b0) := by
  intro a hv hf hi0 hi1 hi2 hu
  refine jt_eq (bq_X10_addStep_35 E d a b0) ?_
  have h192_ := iv_get hv (k := 11) (j := 6) (l := 0) (u := 40) rfl
  have h193_ := iv_get hv0 (k := 11) (j := 6) (l := 0) (u := 40) rfl
  exact jt_rV ⟨hv, hf, rfl, (show a0 11 6 ≤ a 11 6 from by omega), (show (a0 11 6 < 40 → a 11 6 = (a0 11 6) + 1) from by omega), hu⟩
theorem sp_X10_addStep (E : jxE) (d : Nat) (hd : Nat.ble 1 d = true) (x1 x2 : Int) (a0 b0 : Nat → Nat → Int) (hv0 : iv a0) : jt (jxC E d 149 [.inr (.inr (.inl 11)), .inl x1, .inl x2] (jxSH, a0, b0)) (jQ_X10_addStep x1 x2 a0 b0) := by
  obtain ⟨d, rfl⟩ := jd_succ hd
  refine jt_eq (bq_X10_addStep E d x1 x2 a0 b0) ?_
  have h194_ := iv_get hv0 (k := 11) (j := 6) (l := 0) (u := 40) rfl
  refine jt_ite (fun c195_ => ?_) (fun c195_ => ?_)
  ·
    refine jt_grd (by omega) ?_
    have h197_ : jxw ((a0 11 6) + 1) = (a0 11 6) + 1 := jxw_id (by omega) (by omega)
    have hv196_ : iv (jxu a0 11 6 (jxw ((a0 11 6) + 1))) := iv_put hv0 (l := 0) (u := 40) rfl (by omega) (by omega)
    have hv198_ : iv (jxu (jxu a0 11 6 (jxw ((a0 11 6) + 1))) 54 ((a0 11 6).toNat) (jxw ((jxw (x1 * 1000)) + x2))) := iv_putf hv196_ rfl
    have hf199_ : jfr jW_X10_addStep a0 (jxu a0 11 6 (jxw ((a0 11 6) + 1))) := jfr_put (jfr_rf _ _) rfl
    have hf200_ : jfr jW_X10_addStep a0 (jxu (jxu a0 11 6 (jxw ((a0 11 6) + 1))) 54 ((a0 11 6).toNat) (jxw ((jxw (x1 * 1000)) + x2))) := jfr_put hf199_ rfl
    exact cp_X10_addStep_35 E d hd x1 x2 a0 b0 hv0 (jxu (jxu a0 11 6 (jxw ((a0 11 6) + 1))) 54 ((a0 11 6).toNat) (jxw ((jxw (x1 * 1000)) + x2))) hv198_ hf200_ (show 1 ≤ jxw ((a0 11 6) + 1) from by omega) (show a0 11 6 ≤ jxw ((a0 11 6) + 1) from by omega) (show (a0 11 6 < 40 → jxw ((a0 11 6) + 1) = (a0 11 6) + 1) from by omega) (by first | exact (fun _ => UP_put (fun _ => rfl)) | exact (fun h => absurd h (by omega)))
  ·
    exact cp_X10_addStep_35 E d hd x1 x2 a0 b0 hv0 a0 hv0 (jfr_rf _ _) (show 1 ≤ a0 11 6 from by omega) (show a0 11 6 ≤ a0 11 6 from by omega) (show (a0 11 6 < 40 → a0 11 6 = (a0 11 6) + 1) from by omega) (by first | exact (fun _ => UP_put (fun _ => rfl)) | exact (fun h => absurd h (by omega)))
abbrev jQ_X10_isMet (x1 x2 x3 : Int) (a0 b0 : Nat → Nat → Int) : List jxV → (Nat → Nat → Int) → (Nat → Nat → Int) → Prop := rI (fun r a b => (a0 = a) ∧ (b0 = b) ∧ ((0 ≤ r ∧ r ≤ 1)) ∧ (0 ≤ x1 → x1 < a0 4 6 → 0 ≤ x2 → x2 < a0 4 6 → r = METX a0 b0 x1 x2 x3))
theorem cp_X10_isMet_31 (E : jxE) (d : Nat) (hd : Nat.ble 5 (d + 1) = true) (x1 x2 x3 : Int) (a0 b0 : Nat → Nat → Int) (hv0 : iv a0) (hp0 : WISHR a0) : (0 ≤ x1 → x1 < a0 4 6 → 0 ≤ x2 → x2 < a0 4 6 → a0 53 x1.toNat = 0) → jt (jxX E d 150 31 [none, none, none, none, none, none, none, none, none] [] (jxSH, a0, b0)) (jQ_X10_isMet x1 x2 x3 a0 b0) := by
  intro h53
  refine jt_eq (bq_X10_isMet_31 E d a0 b0) ?_
  exact jt_rI ⟨rfl, rfl, (show (0 ≤ 1 ∧ 1 ≤ 1) from by omega), (fun h1 h2 h3 h4 => by unfold METX; rw [if_pos (h53 h1 h2 h3 h4)])⟩
theorem cp_X10_isMet_182 (E : jxE) (d : Nat) (hd : Nat.ble 5 (d + 1) = true) (x1 x2 x3 : Int) (a0 b0 : Nat → Nat → Int) (hv0 : iv a0) (hp0 : WISHR a0) : ∀ (y4 : Int), (0 ≤ x1 ∧ x1 ≤ 39) → ¬ a0 53 (x1.toNat) = 0 → (y4 = BN (EST (TRC a0 b0 x1 x2 x3) (fun k => a0 12 (x1.toNat * 40 + k)) (a0 53 x1.toNat).toNat)) → jt (jxX E d 150 182 [none, none, none, none, some (.inl y4), none, none, none, none] [] (jxSH, a0, b0)) (jQ_X10_isMet x1 x2 x3 a0 b0) := by
  intro y4 hi0 hi1 hb
  refine jt_eq (bq_X10_isMet_182 E d y4 a0 b0) ?_
  have h201_ := iv_get hv0 (k := 53) (j := x1.toNat) (l := 0) (u := 40) rfl
  have hwf := (WISHR_at hp0 (x := x1) (by omega) (by omega)).1
  have hir := IM_ret (TRC_b a0 b0 x1 x2 x3) hwf hb
  have h202_ := jxand_r y4 1 (by decide) (by decide)
  refine jt_ite (fun c203_ => ?_) (fun c203_ => ?_)
  ·
    exact jt_rI ⟨rfl, rfl, (show (0 ≤ 1 ∧ 1 ≤ 1) from by omega), (fun _ _ _ _ => by unfold METX; rw [if_neg (by omega)]; exact (hir.1 (by assumption)).symm)⟩
  ·
    exact jt_rI ⟨rfl, rfl, (show (0 ≤ 0 ∧ 0 ≤ 1) from by omega), (fun _ _ _ _ => by unfold METX; rw [if_neg (by omega)]; exact (hir.2 (by assumption)).symm)⟩
theorem cp_X10_isMet_39 (E : jxE) (d : Nat) (hd : Nat.ble 5 (d + 1) = true) (x1 x2 x3 : Int) (a0 b0 : Nat → Nat → Int) (hv0 : iv a0) (hp0 : WISHR a0) : ∀ n : Nat, (∀ (y1 y2 y3 y4 y5 : Int), (((40 - y5) * 1) + 0).toNat ≤ n → 0 ≤ y1 → y1 ≤ 39 → 0 ≤ y2 → y2 ≤ 39 → 0 ≤ y5 → y5 ≤ 39 → y1 = x1 → y2 = x2 → y3 = x3 → (0 ≤ x1 ∧ x1 ≤ 39) → ¬ a0 53 (x1.toNat) = 0 → 0 ≤ y5 → y5 ≤ a0 53 (x1.toNat) → y5 < a0 53 (x1.toNat) → y5 ≤ 39 → (y4 = BN (EST (TRC a0 b0 x1 x2 x3) (fun k => a0 12 (x1.toNat * 40 + k)) (y5.toNat + 1))) → jt (jxX E d 150 113 [some (.inr (.inr (.inl 11))), some (.inl y1), some (.inl y2), some (.inl y3), some (.inl y4), some (.inl y5), none, none, none] [] (jxSH, a0, b0)) (jQ_X10_isMet x1 x2 x3 a0 b0)) ∧ (∀ (y1 y2 y3 y4 y5 : Int), (((40 - y5) * 1) + 0).toNat ≤ n → 0 ≤ y1 → y1 ≤ 39 → 0 ≤ y2 → y2 ≤ 39 → 0 ≤ y5 → y5 ≤ 39 → y1 = x1 → y2 = x2 → y3 = x3 → (0 ≤ x1 ∧ x1 ≤ 39) → ¬ a0 53 (x1.toNat) = 0 → 0 ≤ y5 → y5 ≤ a0 53 (x1.toNat) → y5 < a0 53 (x1.toNat) → y5 ≤ 39 → (y4 = BN (EST (TRC a0 b0 x1 x2 x3) (fun k => a0 12 (x1.toNat * 40 + k)) (y5.toNat + 1))) → jt (jxX E d 150 132 [some (.inr (.inr (.inl 11))), some (.inl y1), some (.inl y2), some (.inl y3), some (.inl y4), some (.inl y5), none, none, none] [] (jxSH, a0, b0)) (jQ_X10_isMet x1 x2 x3 a0 b0)) ∧ (∀ (y1 y2 y3 y4 y5 y8 : Int), (((40 - y5) * 1) + 0).toNat ≤ n → 0 ≤ y1 → y1 ≤ 39 → 0 ≤ y2 → y2 ≤ 39 → 0 ≤ y5 → y5 ≤ 39 → 0 ≤ y8 → y8 ≤ 1 → y1 = x1 → y2 = x2 → y3 = x3 → (0 ≤ x1 ∧ x1 ≤ 39) → ¬ a0 53 (x1.toNat) = 0 → 0 ≤ y5 → y5 ≤ a0 53 (x1.toNat) → y5 < a0 53 (x1.toNat) → y5 ≤ 39 → (jxor (jxshl y4 1) (if y8 = 0 then 0 else 1) = BN (EST (TRC a0 b0 x1 x2 x3) (fun k => a0 12 (x1.toNat * 40 + k)) (y5.toNat + 1))) → jt (jxX E d 150 159 [some (.inr (.inr (.inl 11))), some (.inl y1), some (.inl y2), some (.inl y3), some (.inl y4), some (.inl y5), none, none, some (.inl y8)] [] (jxSH, a0, b0)) (jQ_X10_isMet x1 x2 x3 a0 b0)) ∧ (∀ (y1 y2 y3 y4 y5 y6 : Int), (((40 - y5) * 1) + 0).toNat ≤ n → 0 ≤ y1 → y1 ≤ 39 → 0 ≤ y2 → y2 ≤ 39 → 0 ≤ y5 → y5 ≤ 39 → y1 = x1 → y2 = x2 → y3 = x3 → (0 ≤ x1 ∧ x1 ≤ 39) → ¬ a0 53 (x1.toNat) = 0 → 0 ≤ y5 → y5 ≤ a0 53 (x1.toNat) → y5 < a0 53 (x1.toNat) → y5 ≤ 39 → (y4 = BN (EST (TRC a0 b0 x1 x2 x3) (fun k => a0 12 (x1.toNat * 40 + k)) y5.toNat)) → (y6 = jxw (Int.tdiv (a0 12 (x1.toNat * 40 + y5.toNat)) 1000)) → jt (jxX E d 150 72 [some (.inr (.inr (.inl 11))), some (.inl y1), some (.inl y2), some (.inl y3), some (.inl y4), some (.inl y5), some (.inl y6), none, none] [] (jxSH, a0, b0)) (jQ_X10_isMet x1 x2 x3 a0 b0)) ∧ (∀ (y1 y2 y3 y4 y5 : Int), (((40 - y5) * 1) + 0).toNat ≤ n → 0 ≤ y1 → y1 ≤ 39 → 0 ≤ y2 → y2 ≤ 39 → 0 ≤ y5 → y5 ≤ 40 → y1 = x1 → y2 = x2 → y3 = x3 → (0 ≤ x1 ∧ x1 ≤ 39) → ¬ a0 53 (x1.toNat) = 0 → 0 ≤ y5 → y5 ≤ a0 53 (x1.toNat) → (y4 = BN (EST (TRC a0 b0 x1 x2 x3) (fun k => a0 12 (x1.toNat * 40 + k)) y5.toNat)) → jt (jxX E d 150 39 [some (.inr (.inr (.inl 11))), some (.inl y1), some (.inl y2), some (.inl y3), some (.inl y4), some (.inl y5), none, none, none] [] (jxSH, a0, b0)) (jQ_X10_isMet x1 x2 x3 a0 b0)) := by
  refine jx_ind fun n ih => ?_
  have ih113 : ∀ (y1 y2 y3 y4 y5 : Int), (((40 - y5) * 1) + 0).toNat < n → 0 ≤ y1 → y1 ≤ 39 → 0 ≤ y2 → y2 ≤ 39 → 0 ≤ y5 → y5 ≤ 39 → y1 = x1 → y2 = x2 → y3 = x3 → (0 ≤ x1 ∧ x1 ≤ 39) → ¬ a0 53 (x1.toNat) = 0 → 0 ≤ y5 → y5 ≤ a0 53 (x1.toNat) → y5 < a0 53 (x1.toNat) → y5 ≤ 39 → (y4 = BN (EST (TRC a0 b0 x1 x2 x3) (fun k => a0 12 (x1.toNat * 40 + k)) (y5.toNat + 1))) → jt (jxX E d 150 113 [some (.inr (.inr (.inl 11))), some (.inl y1), some (.inl y2), some (.inl y3), some (.inl y4), some (.inl y5), none, none, none] [] (jxSH, a0, b0)) (jQ_X10_isMet x1 x2 x3 a0 b0) := fun y1 y2 y3 y4 y5 hlt i0 i1 i2 i3 i4 i5 i6 i7 i8 i9 i10 i11 i12 i13 i14 i15 => (ih _ hlt).1 y1 y2 y3 y4 y5 (Nat.le_refl _) i0 i1 i2 i3 i4 i5 i6 i7 i8 i9 i10 i11 i12 i13 i14 i15
  have ih132 : ∀ (y1 y2 y3 y4 y5 : Int), (((40 - y5) * 1) + 0).toNat < n → 0 ≤ y1 → y1 ≤ 39 → 0 ≤ y2 → y2 ≤ 39 → 0 ≤ y5 → y5 ≤ 39 → y1 = x1 → y2 = x2 → y3 = x3 → (0 ≤ x1 ∧ x1 ≤ 39) → ¬ a0 53 (x1.toNat) = 0 → 0 ≤ y5 → y5 ≤ a0 53 (x1.toNat) → y5 < a0 53 (x1.toNat) → y5 ≤ 39 → (y4 = BN (EST (TRC a0 b0 x1 x2 x3) (fun k => a0 12 (x1.toNat * 40 + k)) (y5.toNat + 1))) → jt (jxX E d 150 132 [some (.inr (.inr (.inl 11))), some (.inl y1), some (.inl y2), some (.inl y3), some (.inl y4), some (.inl y5), none, none, none] [] (jxSH, a0, b0)) (jQ_X10_isMet x1 x2 x3 a0 b0) := fun y1 y2 y3 y4 y5 hlt i0 i1 i2 i3 i4 i5 i6 i7 i8 i9 i10 i11 i12 i13 i14 i15 => (ih _ hlt).2.1 y1 y2 y3 y4 y5 (Nat.le_refl _) i0 i1 i2 i3 i4 i5 i6 i7 i8 i9 i10 i11 i12 i13 i14 i15
  have ih159 : ∀ (y1 y2 y3 y4 y5 y8 : Int), (((40 - y5) * 1) + 0).toNat < n → 0 ≤ y1 → y1 ≤ 39 → 0 ≤ y2 → y2 ≤ 39 → 0 ≤ y5 → y5 ≤ 39 → 0 ≤ y8 → y8 ≤ 1 → y1 = x1 → y2 = x2 → y3 = x3 → (0 ≤ x1 ∧ x1 ≤ 39) → ¬ a0 53 (x1.toNat) = 0 → 0 ≤ y5 → y5 ≤ a0 53 (x1.toNat) → y5 < a0 53 (x1.toNat) → y5 ≤ 39 → (jxor (jxshl y4 1) (if y8 = 0 then 0 else 1) = BN (EST (TRC a0 b0 x1 x2 x3) (fun k => a0 12 (x1.toNat * 40 + k)) (y5.toNat + 1))) → jt (jxX E d 150 159 [some (.inr (.inr (.inl 11))), some (.inl y1), some (.inl y2), some (.inl y3), some (.inl y4), some (.inl y5), none, none, some (.inl y8)] [] (jxSH, a0, b0)) (jQ_X10_isMet x1 x2 x3 a0 b0) := fun y1 y2 y3 y4 y5 y8 hlt i0 i1 i2 i3 i4 i5 i6 i7 i8 i9 i10 i11 i12 i13 i14 i15 i16 i17 => (ih _ hlt).2.2.1 y1 y2 y3 y4 y5 y8 (Nat.le_refl _) i0 i1 i2 i3 i4 i5 i6 i7 i8 i9 i10 i11 i12 i13 i14 i15 i16 i17
  have ih72 : ∀ (y1 y2 y3 y4 y5 y6 : Int), (((40 - y5) * 1) + 0).toNat < n → 0 ≤ y1 → y1 ≤ 39 → 0 ≤ y2 → y2 ≤ 39 → 0 ≤ y5 → y5 ≤ 39 → y1 = x1 → y2 = x2 → y3 = x3 → (0 ≤ x1 ∧ x1 ≤ 39) → ¬ a0 53 (x1.toNat) = 0 → 0 ≤ y5 → y5 ≤ a0 53 (x1.toNat) → y5 < a0 53 (x1.toNat) → y5 ≤ 39 → (y4 = BN (EST (TRC a0 b0 x1 x2 x3) (fun k => a0 12 (x1.toNat * 40 + k)) y5.toNat)) → (y6 = jxw (Int.tdiv (a0 12 (x1.toNat * 40 + y5.toNat)) 1000)) → jt (jxX E d 150 72 [some (.inr (.inr (.inl 11))), some (.inl y1), some (.inl y2), some (.inl y3), some (.inl y4), some (.inl y5), some (.inl y6), none, none] [] (jxSH, a0, b0)) (jQ_X10_isMet x1 x2 x3 a0 b0) := fun y1 y2 y3 y4 y5 y6 hlt i0 i1 i2 i3 i4 i5 i6 i7 i8 i9 i10 i11 i12 i13 i14 i15 i16 => (ih _ hlt).2.2.2.1 y1 y2 y3 y4 y5 y6 (Nat.le_refl _) i0 i1 i2 i3 i4 i5 i6 i7 i8 i9 i10 i11 i12 i13 i14 i15 i16
  have ih39 : ∀ (y1 y2 y3 y4 y5 : Int), (((40 - y5) * 1) + 0).toNat < n → 0 ≤ y1 → y1 ≤ 39 → 0 ≤ y2 → y2 ≤ 39 → 0 ≤ y5 → y5 ≤ 40 → y1 = x1 → y2 = x2 → y3 = x3 → (0 ≤ x1 ∧ x1 ≤ 39) → ¬ a0 53 (x1.toNat) = 0 → 0 ≤ y5 → y5 ≤ a0 53 (x1.toNat) → (y4 = BN (EST (TRC a0 b0 x1 x2 x3) (fun k => a0 12 (x1.toNat * 40 + k)) y5.toNat)) → jt (jxX E d 150 39 [some (.inr (.inr (.inl 11))), some (.inl y1), some (.inl y2), some (.inl y3), some (.inl y4), some (.inl y5), none, none, none] [] (jxSH, a0, b0)) (jQ_X10_isMet x1 x2 x3 a0 b0) := fun y1 y2 y3 y4 y5 hlt i0 i1 i2 i3 i4 i5 i6 i7 i8 i9 i10 i11 i12 i13 => (ih _ hlt).2.2.2.2 y1 y2 y3 y4 y5 (Nat.le_refl _) i0 i1 i2 i3 i4 i5 i6 i7 i8 i9 i10 i11 i12 i13
  have hc113 : ∀ (y1 y2 y3 y4 y5 : Int), (((40 - y5) * 1) + 0).toNat ≤ n → 0 ≤ y1 → y1 ≤ 39 → 0 ≤ y2 → y2 ≤ 39 → 0 ≤ y5 → y5 ≤ 39 → y1 = x1 → y2 = x2 → y3 = x3 → (0 ≤ x1 ∧ x1 ≤ 39) → ¬ a0 53 (x1.toNat) = 0 → 0 ≤ y5 → y5 ≤ a0 53 (x1.toNat) → y5 < a0 53 (x1.toNat) → y5 ≤ 39 → (y4 = BN (EST (TRC a0 b0 x1 x2 x3) (fun k => a0 12 (x1.toNat * 40 + k)) (y5.toNat + 1))) → jt (jxX E d 150 113 [some (.inr (.inr (.inl 11))), some (.inl y1), some (.inl y2), some (.inl y3), some (.inl y4), some (.inl y5), none, none, none] [] (jxSH, a0, b0)) (jQ_X10_isMet x1 x2 x3 a0 b0) := by
    intro y1 y2 y3 y4 y5 hm hi0 hi1 hi2 hi3 hi4 hi5 hi6 hi7 hi8 hi9 hi10 hi11 hi12 hi13 hi14 hb
    refine jt_eq (bq_X10_isMet_113 E d y1 y2 y3 y4 y5 a0 b0) ?_
    have h204_ := iv_get hv0 (k := 53) (j := x1.toNat) (l := 0) (u := 40) rfl
    have h205_ : jxw (y5 + 1) = y5 + 1 := jxw_id (by omega) (by omega)
    exact ih39 y1 y2 y3 y4 (jxw (y5 + 1)) (show (((40 - (jxw (y5 + 1))) * 1) + 0).toNat < n from by omega) (show 0 ≤ y1 from by omega) (show y1 ≤ 39 from by omega) (show 0 ≤ y2 from by omega) (show y2 ≤ 39 from by omega) (show 0 ≤ jxw (y5 + 1) from by omega) (show jxw (y5 + 1) ≤ 40 from by omega) (show y1 = x1 from by omega) (show y2 = x2 from by omega) (show y3 = x3 from by omega) (show (0 ≤ x1 ∧ x1 ≤ 39) from by omega) (show ¬ a0 53 (x1.toNat) = 0 from by omega) (show 0 ≤ jxw (y5 + 1) from by omega) (show jxw (y5 + 1) ≤ a0 53 (x1.toNat) from by omega) (by rw [show (jxw (y5 + 1)).toNat = y5.toNat + 1 from by omega]; exact hb)
  have hc132 : ∀ (y1 y2 y3 y4 y5 : Int), (((40 - y5) * 1) + 0).toNat ≤ n → 0 ≤ y1 → y1 ≤ 39 → 0 ≤ y2 → y2 ≤ 39 → 0 ≤ y5 → y5 ≤ 39 → y1 = x1 → y2 = x2 → y3 = x3 → (0 ≤ x1 ∧ x1 ≤ 39) → ¬ a0 53 (x1.toNat) = 0 → 0 ≤ y5 → y5 ≤ a0 53 (x1.toNat) → y5 < a0 53 (x1.toNat) → y5 ≤ 39 → (y4 = BN (EST (TRC a0 b0 x1 x2 x3) (fun k => a0 12 (x1.toNat * 40 + k)) (y5.toNat + 1))) → jt (jxX E d 150 132 [some (.inr (.inr (.inl 11))), some (.inl y1), some (.inl y2), some (.inl y3), some (.inl y4), some (.inl y5), none, none, none] [] (jxSH, a0, b0)) (jQ_X10_isMet x1 x2 x3 a0 b0) := by
    intro y1 y2 y3 y4 y5 hm hi0 hi1 hi2 hi3 hi4 hi5 hi6 hi7 hi8 hi9 hi10 hi11 hi12 hi13 hi14 hb
    refine jt_eq (bq_X10_isMet_132 E d y1 y2 y3 y4 y5 a0 b0) ?_
    have h206_ := iv_get hv0 (k := 53) (j := x1.toNat) (l := 0) (u := 40) rfl
    have h207_ : jxw (y5 + 1) = y5 + 1 := jxw_id (by omega) (by omega)
    exact ih39 y1 y2 y3 y4 (jxw (y5 + 1)) (show (((40 - (jxw (y5 + 1))) * 1) + 0).toNat < n from by omega) (show 0 ≤ y1 from by omega) (show y1 ≤ 39 from by omega) (show 0 ≤ y2 from by omega) (show y2 ≤ 39 from by omega) (show 0 ≤ jxw (y5 + 1) from by omega) (show jxw (y5 + 1) ≤ 40 from by omega) (show y1 = x1 from by omega) (show y2 = x2 from by omega) (show y3 = x3 from by omega) (show (0 ≤ x1 ∧ x1 ≤ 39) from by omega) (show ¬ a0 53 (x1.toNat) = 0 from by omega) (show 0 ≤ jxw (y5 + 1) from by omega) (show jxw (y5 + 1) ≤ a0 53 (x1.toNat) from by omega) (by rw [show (jxw (y5 + 1)).toNat = y5.toNat + 1 from by omega]; exact hb)
  have hc159 : ∀ (y1 y2 y3 y4 y5 y8 : Int), (((40 - y5) * 1) + 0).toNat ≤ n → 0 ≤ y1 → y1 ≤ 39 → 0 ≤ y2 → y2 ≤ 39 → 0 ≤ y5 → y5 ≤ 39 → 0 ≤ y8 → y8 ≤ 1 → y1 = x1 → y2 = x2 → y3 = x3 → (0 ≤ x1 ∧ x1 ≤ 39) → ¬ a0 53 (x1.toNat) = 0 → 0 ≤ y5 → y5 ≤ a0 53 (x1.toNat) → y5 < a0 53 (x1.toNat) → y5 ≤ 39 → (jxor (jxshl y4 1) (if y8 = 0 then 0 else 1) = BN (EST (TRC a0 b0 x1 x2 x3) (fun k => a0 12 (x1.toNat * 40 + k)) (y5.toNat + 1))) → jt (jxX E d 150 159 [some (.inr (.inr (.inl 11))), some (.inl y1), some (.inl y2), some (.inl y3), some (.inl y4), some (.inl y5), none, none, some (.inl y8)] [] (jxSH, a0, b0)) (jQ_X10_isMet x1 x2 x3 a0 b0) := by
    intro y1 y2 y3 y4 y5 y8 hm hi0 hi1 hi2 hi3 hi4 hi5 hi6 hi7 hi8 hi9 hi10 hi11 hi12 hi13 hi14 hi15 hi16 hb2
    refine jt_eq (bq_X10_isMet_159 E d y1 y2 y3 y4 y5 y8 a0 b0) ?_
    have h208_ := iv_get hv0 (k := 53) (j := x1.toNat) (l := 0) (u := 40) rfl
    refine jt_ite (fun c209_ => ?_) (fun c209_ => ?_)
    ·
      have h210_ : jxw (y5 + 1) = y5 + 1 := jxw_id (by omega) (by omega)
      have h211_ := jxor_b (jxshl y4 1) 0
      exact ih39 y1 y2 y3 (jxor (jxshl y4 1) 0) (jxw (y5 + 1)) (show (((40 - (jxw (y5 + 1))) * 1) + 0).toNat < n from by omega) (show 0 ≤ y1 from by omega) (show y1 ≤ 39 from by omega) (show 0 ≤ y2 from by omega) (show y2 ≤ 39 from by omega) (show 0 ≤ jxw (y5 + 1) from by omega) (show jxw (y5 + 1) ≤ 40 from by omega) (show y1 = x1 from by omega) (show y2 = x2 from by omega) (show y3 = x3 from by omega) (show (0 ≤ x1 ∧ x1 ≤ 39) from by omega) (show ¬ a0 53 (x1.toNat) = 0 from by omega) (show 0 ≤ jxw (y5 + 1) from by omega) (show jxw (y5 + 1) ≤ a0 53 (x1.toNat) from by omega) (by rw [show (jxw (y5 + 1)).toNat = y5.toNat + 1 from by omega]; have q := hb2; first | (rw [if_pos (by omega)] at q; exact q) | (rw [if_neg (by omega)] at q; exact q))
    ·
      have h212_ : jxw (y5 + 1) = y5 + 1 := jxw_id (by omega) (by omega)
      have h213_ := jxor_b (jxshl y4 1) 1
      exact ih39 y1 y2 y3 (jxor (jxshl y4 1) 1) (jxw (y5 + 1)) (show (((40 - (jxw (y5 + 1))) * 1) + 0).toNat < n from by omega) (show 0 ≤ y1 from by omega) (show y1 ≤ 39 from by omega) (show 0 ≤ y2 from by omega) (show y2 ≤ 39 from by omega) (show 0 ≤ jxw (y5 + 1) from by omega) (show jxw (y5 + 1) ≤ 40 from by omega) (show y1 = x1 from by omega) (show y2 = x2 from by omega) (show y3 = x3 from by omega) (show (0 ≤ x1 ∧ x1 ≤ 39) from by omega) (show ¬ a0 53 (x1.toNat) = 0 from by omega) (show 0 ≤ jxw (y5 + 1) from by omega) (show jxw (y5 + 1) ≤ a0 53 (x1.toNat) from by omega) (by rw [show (jxw (y5 + 1)).toNat = y5.toNat + 1 from by omega]; have q := hb2; first | (rw [if_pos (by omega)] at q; exact q) | (rw [if_neg (by omega)] at q; exact q))
  have hc72 : ∀ (y1 y2 y3 y4 y5 y6 : Int), (((40 - y5) * 1) + 0).toNat ≤ n → 0 ≤ y1 → y1 ≤ 39 → 0 ≤ y2 → y2 ≤ 39 → 0 ≤ y5 → y5 ≤ 39 → y1 = x1 → y2 = x2 → y3 = x3 → (0 ≤ x1 ∧ x1 ≤ 39) → ¬ a0 53 (x1.toNat) = 0 → 0 ≤ y5 → y5 ≤ a0 53 (x1.toNat) → y5 < a0 53 (x1.toNat) → y5 ≤ 39 → (y4 = BN (EST (TRC a0 b0 x1 x2 x3) (fun k => a0 12 (x1.toNat * 40 + k)) y5.toNat)) → (y6 = jxw (Int.tdiv (a0 12 (x1.toNat * 40 + y5.toNat)) 1000)) → jt (jxX E d 150 72 [some (.inr (.inr (.inl 11))), some (.inl y1), some (.inl y2), some (.inl y3), some (.inl y4), some (.inl y5), some (.inl y6), none, none] [] (jxSH, a0, b0)) (jQ_X10_isMet x1 x2 x3 a0 b0) := by
    intro y1 y2 y3 y4 y5 y6 hm hi0 hi1 hi2 hi3 hi4 hi5 hi6 hi7 hi8 hi9 hi10 hi11 hi12 hi13 hi14 hb hy6
    refine jt_eq (bq_X10_isMet_72 E d y1 y2 y3 y4 y5 y6 a0 b0) ?_
    have h214_ := iv_get hv0 (k := 53) (j := x1.toNat) (l := 0) (u := 40) rfl
    have hwf := (WISHR_at hp0 (x := x1) (by omega) (by omega)).1
    have him := IMC (t := TRC a0 b0 x1 x2 x3) (f := fun k => a0 12 (x1.toNat * 40 + k)) (n := (a0 53 x1.toNat).toNat) (v := a0 12 (x1.toNat * 40 + y5.toNat)) (TRC_b a0 b0 x1 x2 x3) hwf (by omega) (by omega) rfl hy6 hb
    refine jt_ite (fun c215_ => ?_) (fun c215_ => ?_)
    ·
      have h216_ : jxw (y5 + 1) = y5 + 1 := jxw_id (by omega) (by omega)
      have h217_ := jxxor_b y4 1
      exact ih39 y1 y2 y3 (jxxor y4 1) (jxw (y5 + 1)) (show (((40 - (jxw (y5 + 1))) * 1) + 0).toNat < n from by omega) (show 0 ≤ y1 from by omega) (show y1 ≤ 39 from by omega) (show 0 ≤ y2 from by omega) (show y2 ≤ 39 from by omega) (show 0 ≤ jxw (y5 + 1) from by omega) (show jxw (y5 + 1) ≤ 40 from by omega) (show y1 = x1 from by omega) (show y2 = x2 from by omega) (show y3 = x3 from by omega) (show (0 ≤ x1 ∧ x1 ≤ 39) from by omega) (show ¬ a0 53 (x1.toNat) = 0 from by omega) (show 0 ≤ jxw (y5 + 1) from by omega) (show jxw (y5 + 1) ≤ a0 53 (x1.toNat) from by omega) (by rw [show (jxw (y5 + 1)).toNat = y5.toNat + 1 from by omega]; exact him.1 (by omega))
    ·
      refine jt_ite (fun c218_ => ?_) (fun c218_ => ?_)
      ·
        have h219_ := jxshr_b y4 1
        have h220_ := jxand_r y4 1 (by decide) (by decide)
        have h221_ := jxor_b (jxand y4 1) (-2)
        have h222_ := jxand_b (jxshr y4 1) (jxor (jxand y4 1) (-2))
        exact hc113 y1 y2 y3 (jxand (jxshr y4 1) (jxor (jxand y4 1) (-2))) y5 (show (((40 - y5) * 1) + 0).toNat ≤ n from by omega) (show 0 ≤ y1 from by omega) (show y1 ≤ 39 from by omega) (show 0 ≤ y2 from by omega) (show y2 ≤ 39 from by omega) (show 0 ≤ y5 from by omega) (show y5 ≤ 39 from by omega) (show y1 = x1 from by omega) (show y2 = x2 from by omega) (show y3 = x3 from by omega) (show (0 ≤ x1 ∧ x1 ≤ 39) from by omega) (show ¬ a0 53 (x1.toNat) = 0 from by omega) (show 0 ≤ y5 from by omega) (show y5 ≤ a0 53 (x1.toNat) from by omega) (show y5 < a0 53 (x1.toNat) from by omega) (show y5 ≤ 39 from by omega) (him.2.1 (by omega))
      ·
        refine jt_ite (fun c223_ => ?_) (fun c223_ => ?_)
        ·
          have h224_ := jxshr_b y4 1
          have h225_ := jxand_r y4 1 (by decide) (by decide)
          have h226_ := jxor_b (jxshr y4 1) (jxand y4 1)
          exact hc132 y1 y2 y3 (jxor (jxshr y4 1) (jxand y4 1)) y5 (show (((40 - y5) * 1) + 0).toNat ≤ n from by omega) (show 0 ≤ y1 from by omega) (show y1 ≤ 39 from by omega) (show 0 ≤ y2 from by omega) (show y2 ≤ 39 from by omega) (show 0 ≤ y5 from by omega) (show y5 ≤ 39 from by omega) (show y1 = x1 from by omega) (show y2 = x2 from by omega) (show y3 = x3 from by omega) (show (0 ≤ x1 ∧ x1 ≤ 39) from by omega) (show ¬ a0 53 (x1.toNat) = 0 from by omega) (show 0 ≤ y5 from by omega) (show y5 ≤ a0 53 (x1.toNat) from by omega) (show y5 < a0 53 (x1.toNat) from by omega) (show y5 ≤ 39 from by omega) (him.2.2.1 (by omega))
        ·
          refine jt_grd (by omega) ?_
          refine jt_grd (by omega) ?_
          refine jt_grd (by omega) ?_
          refine jt_eI (eq_X10_holdsAtom E d (jd_le hd rfl) y6 (jxw (Int.tmod (a0 12 ((y1.toNat) * 40 + (y5.toNat))) 1000)) y1 y2 y3 a0 b0) ?_
          have h227_ := jx_tm (a0 12 ((y1.toNat) * 40 + (y5.toNat))) 1000
          have h228_ := jx_tmr (a0 12 ((y1.toNat) * 40 + (y5.toNat))) 1000 (by decide)
          have h229_ : jxw (Int.tmod (a0 12 ((y1.toNat) * 40 + (y5.toNat))) 1000) = Int.tmod (a0 12 ((y1.toNat) * 40 + (y5.toNat))) 1000 := jxw_id (by omega) (by omega)
          have h230_ := f_X10_holdsAtom_bool a0 b0 y6 (jxw (Int.tmod (a0 12 ((y1.toNat) * 40 + (y5.toNat))) 1000)) y1 y2 y3
          exact hc159 y1 y2 y3 y4 y5 (f_X10_holdsAtom a0 b0 y6 (jxw (Int.tmod (a0 12 ((y1.toNat) * 40 + (y5.toNat))) 1000)) y1 y2 y3) (show (((40 - y5) * 1) + 0).toNat ≤ n from by omega) (show 0 ≤ y1 from by omega) (show y1 ≤ 39 from by omega) (show 0 ≤ y2 from by omega) (show y2 ≤ 39 from by omega) (show 0 ≤ y5 from by omega) (show y5 ≤ 39 from by omega) (show 0 ≤ f_X10_holdsAtom a0 b0 y6 (jxw (Int.tmod (a0 12 ((y1.toNat) * 40 + (y5.toNat))) 1000)) y1 y2 y3 from by omega) (show f_X10_holdsAtom a0 b0 y6 (jxw (Int.tmod (a0 12 ((y1.toNat) * 40 + (y5.toNat))) 1000)) y1 y2 y3 ≤ 1 from by omega) (show y1 = x1 from by omega) (show y2 = x2 from by omega) (show y3 = x3 from by omega) (show (0 ≤ x1 ∧ x1 ≤ 39) from by omega) (show ¬ a0 53 (x1.toNat) = 0 from by omega) (show 0 ≤ y5 from by omega) (show y5 ≤ a0 53 (x1.toNat) from by omega) (show y5 < a0 53 (x1.toNat) from by omega) (show y5 ≤ 39 from by omega) (by have q := him.2.2.2 (by omega) (by omega) (by omega); unfold TRC at q; rw [← hy6] at q; rw [show y1 = x1 from by omega, show y2 = x2 from by omega, show y3 = x3 from by omega]; exact q)
  have hc39 : ∀ (y1 y2 y3 y4 y5 : Int), (((40 - y5) * 1) + 0).toNat ≤ n → 0 ≤ y1 → y1 ≤ 39 → 0 ≤ y2 → y2 ≤ 39 → 0 ≤ y5 → y5 ≤ 40 → y1 = x1 → y2 = x2 → y3 = x3 → (0 ≤ x1 ∧ x1 ≤ 39) → ¬ a0 53 (x1.toNat) = 0 → 0 ≤ y5 → y5 ≤ a0 53 (x1.toNat) → (y4 = BN (EST (TRC a0 b0 x1 x2 x3) (fun k => a0 12 (x1.toNat * 40 + k)) y5.toNat)) → jt (jxX E d 150 39 [some (.inr (.inr (.inl 11))), some (.inl y1), some (.inl y2), some (.inl y3), some (.inl y4), some (.inl y5), none, none, none] [] (jxSH, a0, b0)) (jQ_X10_isMet x1 x2 x3 a0 b0) := by
    intro y1 y2 y3 y4 y5 hm hi0 hi1 hi2 hi3 hi4 hi5 hi6 hi7 hi8 hi9 hi10 hi11 hi12 hb
    refine jt_eq (bq_X10_isMet_39 E d y1 y2 y3 y4 y5 a0 b0) ?_
    have h231_ := iv_get hv0 (k := 53) (j := x1.toNat) (l := 0) (u := 40) rfl
    have e53 : a0 53 (y1.toNat) = a0 53 (x1.toNat) := by rw [show y1 = x1 from by omega]
    refine jt_grd (by omega) ?_
    have h232_ := iv_get hv0 (k := 53) (j := y1.toNat) (l := 0) (u := 40) rfl
    refine jt_ite (fun c233_ => ?_) (fun c233_ => ?_)
    ·
      refine jt_ite (fun c234_ => ?_) (fun c234_ => ?_)
      ·
        refine jt_grd (by omega) ?_
        refine jt_grd (by omega) ?_
        refine jt_grd (by omega) ?_
        have h235_ := jx_td (a0 12 ((y1.toNat) * 40 + (y5.toNat))) 1000
        have h236_ := jx_tdr (a0 12 ((y1.toNat) * 40 + (y5.toNat))) 1000 (by decide)
        have h237_ := jxw_im (Int.tdiv (a0 12 ((y1.toNat) * 40 + (y5.toNat))) 1000)
        have h238_ := jxw_rg (Int.tdiv (a0 12 ((y1.toNat) * 40 + (y5.toNat))) 1000)
        exact hc72 y1 y2 y3 y4 y5 (jxw (Int.tdiv (a0 12 ((y1.toNat) * 40 + (y5.toNat))) 1000)) (show (((40 - y5) * 1) + 0).toNat ≤ n from by omega) (show 0 ≤ y1 from by omega) (show y1 ≤ 39 from by omega) (show 0 ≤ y2 from by omega) (show y2 ≤ 39 from by omega) (show 0 ≤ y5 from by omega) (show y5 ≤ 39 from by omega) (show y1 = x1 from by omega) (show y2 = x2 from by omega) (show y3 = x3 from by omega) (show (0 ≤ x1 ∧ x1 ≤ 39) from by omega) (show ¬ a0 53 (x1.toNat) = 0 from by omega) (show 0 ≤ y5 from by omega) (show y5 ≤ a0 53 (x1.toNat) from by omega) (show y5 < a0 53 (x1.toNat) from by omega) (show y5 ≤ 39 from by omega) hb (by rw [show y1 = x1 from by omega])
      ·
        exact cp_X10_isMet_182 E d hd x1 x2 x3 a0 b0 hv0 hp0 y4 (show (0 ≤ x1 ∧ x1 ≤ 39) from by omega) (show ¬ a0 53 (x1.toNat) = 0 from by omega) (by have i53 := iv_get hv0 (k := 53) (j := x1.toNat) (l := 0) (u := 40) rfl; rw [show (a0 53 x1.toNat).toNat = y5.toNat from by omega]; exact hb)
    ·
      exact cp_X10_isMet_182 E d hd x1 x2 x3 a0 b0 hv0 hp0 y4 (show (0 ≤ x1 ∧ x1 ≤ 39) from by omega) (show ¬ a0 53 (x1.toNat) = 0 from by omega) (by have i53 := iv_get hv0 (k := 53) (j := x1.toNat) (l := 0) (u := 40) rfl; rw [show (a0 53 x1.toNat).toNat = y5.toNat from by omega]; exact hb)
  exact ⟨hc113, hc132, hc159, hc72, hc39⟩
theorem cp_X10_isMet_33 (E : jxE) (d : Nat) (hd : Nat.ble 5 (d + 1) = true) (x1 x2 x3 : Int) (a0 b0 : Nat → Nat → Int) (hv0 : iv a0) (hp0 : WISHR a0) : ∀ (y1 y2 y3 : Int), 0 ≤ y1 → y1 ≤ 39 → 0 ≤ y2 → y2 ≤ 39 → y1 = x1 → y2 = x2 → y3 = x3 → (0 ≤ x1 ∧ x1 ≤ 39) → ¬ a0 53 (x1.toNat) = 0 → jt (jxX E d 150 33 [some (.inr (.inr (.inl 11))), some (.inl y1), some (.inl y2), some (.inl y3), none, none, none, none, none] [] (jxSH, a0, b0)) (jQ_X10_isMet x1 x2 x3 a0 b0) := by
  intro y1 y2 y3 hi0 hi1 hi2 hi3 hi4 hi5 hi6 hi7 hi8
  refine jt_eq (bq_X10_isMet_33 E d y1 y2 y3 a0 b0) ?_
  have h239_ := iv_get hv0 (k := 53) (j := x1.toNat) (l := 0) (u := 40) rfl
  exact (cp_X10_isMet_39 E d hd x1 x2 x3 a0 b0 hv0 hp0 _).2.2.2.2 y1 y2 y3 0 0 (Nat.le_refl _) (show 0 ≤ y1 from by omega) (show y1 ≤ 39 from by omega) (show 0 ≤ y2 from by omega) (show y2 ≤ 39 from by omega) (show 0 ≤ 0 from by omega) (show 0 ≤ 40 from by omega) (show y1 = x1 from by omega) (show y2 = x2 from by omega) (show y3 = x3 from by omega) (show (0 ≤ x1 ∧ x1 ≤ 39) from by omega) (show ¬ a0 53 (x1.toNat) = 0 from by omega) (show 0 ≤ 0 from by omega) (show 0 ≤ a0 53 (x1.toNat) from by omega) rfl
theorem sp_X10_isMet (E : jxE) (d : Nat) (hd : Nat.ble 5 d = true) (x1 x2 x3 : Int) (a0 b0 : Nat → Nat → Int) (hv0 : iv a0) (hp0 : WISHR a0) : jt (jxC E d 150 [.inr (.inr (.inl 11)), .inl x1, .inl x2, .inl x3] (jxSH, a0, b0)) (jQ_X10_isMet x1 x2 x3 a0 b0) := by
  obtain ⟨d, rfl⟩ := jd_succ hd
  refine jt_eq (bq_X10_isMet E d x1 x2 x3 a0 b0) ?_
  refine jt_eI (eq_X3_has E d (jd_le hd rfl) x1 a0 b0) ?_
  have h240_ := f_X3_has_eq a0 b0 x1
  have h241_ := iv_get hv0 (k := 4) (j := 6) (l := 0) (u := 40) rfl
  refine jt_ite (fun c242_ => ?_) (fun c242_ => ?_)
  ·
    exact cp_X10_isMet_31 E d hd x1 x2 x3 a0 b0 hv0 hp0 (fun h1 h2 h3 h4 => by omega)
  ·
    refine jt_eI (eq_X3_has E d (jd_le hd rfl) x2 a0 b0) ?_
    have h243_ := f_X3_has_eq a0 b0 x2
    refine jt_ite (fun c244_ => ?_) (fun c244_ => ?_)
    ·
      exact cp_X10_isMet_31 E d hd x1 x2 x3 a0 b0 hv0 hp0 (fun h1 h2 h3 h4 => by omega)
    ·
      refine jt_grd (by omega) ?_
      have h245_ := iv_get hv0 (k := 53) (j := x1.toNat) (l := 0) (u := 40) rfl
      refine jt_ite (fun c246_ => ?_) (fun c246_ => ?_)
      ·
        exact cp_X10_isMet_31 E d hd x1 x2 x3 a0 b0 hv0 hp0 (fun h1 h2 h3 h4 => by omega)
      ·
        exact cp_X10_isMet_33 E d hd x1 x2 x3 a0 b0 hv0 hp0 x1 x2 x3 (show 0 ≤ x1 from by omega) (show x1 ≤ 39 from by omega) (show 0 ≤ x2 from by omega) (show x2 ≤ 39 from by omega) (show x1 = x1 from by omega) (show x2 = x2 from by omega) (show x3 = x3 from by omega) (show (0 ≤ x1 ∧ x1 ≤ 39) from by omega) (show ¬ a0 53 (x1.toNat) = 0 from by omega)
def jW_X10_keepDraft : List (Nat × Nat) := [(12, 9999), (53, 9999)]
abbrev jQ_X10_keepDraft (x1 : Int) (a0 b0 : Nat → Nat → Int) : List jxV → (Nat → Nat → Int) → (Nat → Nat → Int) → Prop := rV (fun a b => (iv a) ∧ (jfr jW_X10_keepDraft a0 a) ∧ (b0 = b) ∧ (0 ≤ x1 → x1 < a0 4 6 → x1 < 40 → UP (a0 53) (a 53) x1.toNat (a0 11 6) ∧ (∀ k : Nat, (k : Int) < a0 11 6 → a 12 (x1.toNat * 40 + k) = a0 54 k) ∧ ∀ j : Nat, (j < x1.toNat * 40 ∨ x1.toNat * 40 + 40 ≤ j) → a 12 j = a0 12 j))
theorem cp_X10_keepDraft_14 (E : jxE) (d : Nat) (hd : Nat.ble 2 (d + 1) = true) (x1 : Int) (a0 b0 : Nat → Nat → Int) (hv0 : iv a0) : ∀ n : Nat, (∀ (y1 y2 : Int) (a : Nat → Nat → Int), (((40 - y2) * 1) + 0).toNat ≤ n → iv a → jfr jW_X10_keepDraft a0 a → 0 ≤ y1 → y1 ≤ 39 → 0 ≤ y2 → y2 ≤ 39 → 1 ≤ a 11 6 → y1 = x1 → 0 ≤ y2 → (∀ j, a 53 j = a0 53 j) → (∀ k : Nat, (k : Int) < y2 + 1 → a 12 (x1.toNat * 40 + k) = a0 54 k) → (∀ j : Nat, (j < x1.toNat * 40 ∨ x1.toNat * 40 + 40 ≤ j) → a 12 j = a0 12 j) → jt (jxX E d 142 36 [some (.inr (.inr (.inl 11))), some (.inl y1), some (.inl y2)] [] (jxSH, a, b0)) (jQ_X10_keepDraft x1 a0 b0)) ∧ (∀ (y1 y2 : Int) (a : Nat → Nat → Int), (((40 - y2) * 1) + 0).toNat ≤ n → iv a → jfr jW_X10_keepDraft a0 a → 0 ≤ y1 → y1 ≤ 39 → 0 ≤ y2 → y2 ≤ 40 → y1 = x1 → 0 ≤ y2 → (∀ j, a 53 j = a0 53 j) → (∀ k : Nat, (k : Int) < y2 → a 12 (x1.toNat * 40 + k) = a0 54 k) → (∀ j : Nat, (j < x1.toNat * 40 ∨ x1.toNat * 40 + 40 ≤ j) → a 12 j = a0 12 j) → jt (jxX E d 142 14 [some (.inr (.inr (.inl 11))), some (.inl y1), some (.inl y2)] [] (jxSH, a, b0)) (jQ_X10_keepDraft x1 a0 b0)) := by
  refine jx_ind fun n ih => ?_
  have ih36 : ∀ (y1 y2 : Int) (a : Nat → Nat → Int), (((40 - y2) * 1) + 0).toNat < n → iv a → jfr jW_X10_keepDraft a0 a → 0 ≤ y1 → y1 ≤ 39 → 0 ≤ y2 → y2 ≤ 39 → 1 ≤ a 11 6 → y1 = x1 → 0 ≤ y2 → (∀ j, a 53 j = a0 53 j) → (∀ k : Nat, (k : Int) < y2 + 1 → a 12 (x1.toNat * 40 + k) = a0 54 k) → (∀ j : Nat, (j < x1.toNat * 40 ∨ x1.toNat * 40 + 40 ≤ j) → a 12 j = a0 12 j) → jt (jxX E d 142 36 [some (.inr (.inr (.inl 11))), some (.inl y1), some (.inl y2)] [] (jxSH, a, b0)) (jQ_X10_keepDraft x1 a0 b0) := fun y1 y2 a hlt i0 i1 i2 i3 i4 i5 i6 i7 i8 i9 i10 i11 => (ih _ hlt).1 y1 y2 a (Nat.le_refl _) i0 i1 i2 i3 i4 i5 i6 i7 i8 i9 i10 i11
  have ih14 : ∀ (y1 y2 : Int) (a : Nat → Nat → Int), (((40 - y2) * 1) + 0).toNat < n → iv a → jfr jW_X10_keepDraft a0 a → 0 ≤ y1 → y1 ≤ 39 → 0 ≤ y2 → y2 ≤ 40 → y1 = x1 → 0 ≤ y2 → (∀ j, a 53 j = a0 53 j) → (∀ k : Nat, (k : Int) < y2 → a 12 (x1.toNat * 40 + k) = a0 54 k) → (∀ j : Nat, (j < x1.toNat * 40 ∨ x1.toNat * 40 + 40 ≤ j) → a 12 j = a0 12 j) → jt (jxX E d 142 14 [some (.inr (.inr (.inl 11))), some (.inl y1), some (.inl y2)] [] (jxSH, a, b0)) (jQ_X10_keepDraft x1 a0 b0) := fun y1 y2 a hlt i0 i1 i2 i3 i4 i5 i6 i7 i8 i9 i10 => (ih _ hlt).2 y1 y2 a (Nat.le_refl _) i0 i1 i2 i3 i4 i5 i6 i7 i8 i9 i10
  have hc36 : ∀ (y1 y2 : Int) (a : Nat → Nat → Int), (((40 - y2) * 1) + 0).toNat ≤ n → iv a → jfr jW_X10_keepDraft a0 a → 0 ≤ y1 → y1 ≤ 39 → 0 ≤ y2 → y2 ≤ 39 → 1 ≤ a 11 6 → y1 = x1 → 0 ≤ y2 → (∀ j, a 53 j = a0 53 j) → (∀ k : Nat, (k : Int) < y2 + 1 → a 12 (x1.toNat * 40 + k) = a0 54 k) → (∀ j : Nat, (j < x1.toNat * 40 ∨ x1.toNat * 40 + 40 ≤ j) → a 12 j = a0 12 j) → jt (jxX E d 142 36 [some (.inr (.inr (.inl 11))), some (.inl y1), some (.inl y2)] [] (jxSH, a, b0)) (jQ_X10_keepDraft x1 a0 b0) := by
    intro y1 y2 a hm hv hf hi0 hi1 hi2 hi3 hi4 hi5 hi6 hs53 hk ho
    refine jt_eq (bq_X10_keepDraft_36 E d y1 y2 a b0) ?_
    have h247_ := iv_get hv (k := 11) (j := 6) (l := 0) (u := 40) rfl
    have h248_ : a 11 6 = a0 11 6 := hf 11 6 rfl
    have h249_ := iv_get hv0 (k := 11) (j := 6) (l := 0) (u := 40) rfl
    have h250_ : jxw (y2 + 1) = y2 + 1 := jxw_id (by omega) (by omega)
    exact ih14 y1 (jxw (y2 + 1)) a (show (((40 - (jxw (y2 + 1))) * 1) + 0).toNat < n from by omega) hv hf (show 0 ≤ y1 from by omega) (show y1 ≤ 39 from by omega) (show 0 ≤ jxw (y2 + 1) from by omega) (show jxw (y2 + 1) ≤ 40 from by omega) (show y1 = x1 from by omega) (show 0 ≤ jxw (y2 + 1) from by omega) (fun j => (rfl).trans (hs53 j)) (by first | exact (fun k h => absurd h (by omega)) | exact (fun k h => hk k (by omega))) (by first | exact ho | exact (fun _ _ => rfl))
  have hc14 : ∀ (y1 y2 : Int) (a : Nat → Nat → Int), (((40 - y2) * 1) + 0).toNat ≤ n → iv a → jfr jW_X10_keepDraft a0 a → 0 ≤ y1 → y1 ≤ 39 → 0 ≤ y2 → y2 ≤ 40 → y1 = x1 → 0 ≤ y2 → (∀ j, a 53 j = a0 53 j) → (∀ k : Nat, (k : Int) < y2 → a 12 (x1.toNat * 40 + k) = a0 54 k) → (∀ j : Nat, (j < x1.toNat * 40 ∨ x1.toNat * 40 + 40 ≤ j) → a 12 j = a0 12 j) → jt (jxX E d 142 14 [some (.inr (.inr (.inl 11))), some (.inl y1), some (.inl y2)] [] (jxSH, a, b0)) (jQ_X10_keepDraft x1 a0 b0) := by
    intro y1 y2 a hm hv hf hi0 hi1 hi2 hi3 hi4 hi5 hs53 hk ho
    refine jt_eq (bq_X10_keepDraft_14 E d y1 y2 a b0) ?_
    have h251_ := iv_get hv (k := 11) (j := 6) (l := 0) (u := 40) rfl
    have h252_ : a 11 6 = a0 11 6 := hf 11 6 rfl
    have h253_ := iv_get hv0 (k := 11) (j := 6) (l := 0) (u := 40) rfl
    refine jt_ite (fun c254_ => ?_) (fun c254_ => ?_)
    ·
      refine jt_grd (by omega) ?_
      refine jt_grd (by omega) ?_
      refine jt_grd (by omega) ?_
      refine jt_grd (by omega) ?_
      have hv255_ : iv (jxu a 12 ((y1.toNat) * 40 + (y2.toNat)) (a 54 (y2.toNat))) := iv_putf hv rfl
      have hf256_ : jfr jW_X10_keepDraft a0 (jxu a 12 ((y1.toNat) * 40 + (y2.toNat)) (a 54 (y2.toNat))) := jfr_put hf rfl
      exact hc36 y1 y2 (jxu a 12 ((y1.toNat) * 40 + (y2.toNat)) (a 54 (y2.toNat))) (show (((40 - y2) * 1) + 0).toNat ≤ n from by omega) hv255_ hf256_ (show 0 ≤ y1 from by omega) (show y1 ≤ 39 from by omega) (show 0 ≤ y2 from by omega) (show y2 ≤ 39 from by omega) (show 1 ≤ a 11 6 from by omega) (show y1 = x1 from by omega) (show 0 ≤ y2 from by omega) (fun j => (rfl).trans (hs53 j)) (by intro k h; show (if x1.toNat * 40 + k = (y1.toNat) * 40 + (y2.toNat) then a 54 (y2.toNat) else a 12 (x1.toNat * 40 + k)) = a0 54 k; by_cases e : k = y2.toNat <;> first | (rw [if_pos (by omega), e]; exact hf 54 _ rfl) | (rw [if_neg (by omega)]; exact hk k (by omega))) (by intro j h; show (if j = (y1.toNat) * 40 + (y2.toNat) then a 54 (y2.toNat) else a 12 j) = _; rw [if_neg (by omega)]; exact ho j h)
    ·
      refine jt_grd (by omega) ?_
      have hv257_ : iv (jxu a 53 (y1.toNat) (a 11 6)) := iv_put hv (l := 0) (u := 40) rfl (by omega) (by omega)
      have hf258_ : jfr jW_X10_keepDraft a0 (jxu a 53 (y1.toNat) (a 11 6)) := jfr_put hf rfl
      exact jt_rV ⟨hv257_, hf258_, rfl, (fun _ _ _ => ⟨by rw [show x1.toNat = y1.toNat from by omega, show a0 11 6 = a 11 6 from (hf 11 6 rfl).symm]; exact UP_put hs53, fun k h => hk k (by have e := hf 11 6 rfl; omega), ho⟩)⟩
  exact ⟨hc36, hc14⟩
theorem sp_X10_keepDraft (E : jxE) (d : Nat) (hd : Nat.ble 2 d = true) (x1 : Int) (a0 b0 : Nat → Nat → Int) (hv0 : iv a0) : jt (jxC E d 142 [.inr (.inr (.inl 11)), .inl x1] (jxSH, a0, b0)) (jQ_X10_keepDraft x1 a0 b0) := by
  obtain ⟨d, rfl⟩ := jd_succ hd
  refine jt_eq (bq_X10_keepDraft E d x1 a0 b0) ?_
  refine jt_eI (eq_X3_has E d (jd_le hd rfl) x1 a0 b0) ?_
  have h259_ := f_X3_has_eq a0 b0 x1
  have h260_ := iv_get hv0 (k := 4) (j := 6) (l := 0) (u := 40) rfl
  refine jt_ite (fun c261_ => ?_) (fun c261_ => ?_)
  ·
    exact jt_rV ⟨hv0, (jfr_rf _ _), rfl, (fun h1 h2 h3 => by omega)⟩
  ·
    exact (cp_X10_keepDraft_14 E d hd x1 a0 b0 hv0 _).2 x1 0 a0 (Nat.le_refl _) hv0 (jfr_rf _ _) (show 0 ≤ x1 from by omega) (show x1 ≤ 39 from by omega) (show 0 ≤ 0 from by omega) (show 0 ≤ 40 from by omega) (show x1 = x1 from by omega) (show 0 ≤ 0 from by omega) (fun j => rfl) (by first | exact (fun k h => absurd h (by omega)) | exact (fun k h => hk k (by omega))) (by first | exact ho | exact (fun _ _ => rfl))
