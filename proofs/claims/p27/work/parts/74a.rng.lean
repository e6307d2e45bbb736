abbrev jQ_X12_mayJoin (x1 x2 : Int) (a0 b0 : Nat → Nat → Int) : List jxV → (Nat → Nat → Int) → (Nat → Nat → Int) → Prop := rI (fun r a b => (a0 = a) ∧ (b0 = b) ∧ ((0 ≤ r ∧ r ≤ 1)) ∧ (r = 1 → ∀ i : Nat, (i : Int) < x1 → ¬ a0 187 i = x2) ∧ ((r = 1 → ∀ i : Nat, (i : Int) < x1 → kR a0 b0 (a0 183) (a0 187 i).toNat x2.toNat = false) ∧ (r = 0 → KEX a0 b0 x1 x2.toNat)))
theorem cp_X12_mayJoin_51 (E : jxE) (d : Nat) (hd : Nat.ble 2 (d + 1) = true) (x1 x2 : Int) (a0 b0 : Nat → Nat → Int) (hv0 : iv a0) (hp0 : 0 ≤ x1) (hp1 : x1 ≤ 4) (hp2 : 0 ≤ x2) (hp3 : x2 ≤ 11) (hp4 : ∀ i : Nat, (i : Int) < x1 → a0 187 i < 12) : (KEX a0 b0 x1 x2.toNat) → jt (jxX E d 265 51 [none, none, none, none] [] (jxSH, a0, b0)) (jQ_X12_mayJoin x1 x2 a0 b0) := by
  intro hex
  refine jt_eq (bq_X12_mayJoin_51 E d a0 b0) ?_
  exact jt_rI ⟨rfl, rfl, (show (0 ≤ 0 ∧ 0 ≤ 1) from by omega), (by first | (intro _ i hi; exact hnj i (by omega)) | (intro h; omega)), ⟨fun h => absurd h (by decide), fun _ => hex⟩⟩
theorem cp_X12_mayJoin_2 (E : jxE) (d : Nat) (hd : Nat.ble 2 (d + 1) = true) (x1 x2 : Int) (a0 b0 : Nat → Nat → Int) (hv0 : iv a0) (hp0 : 0 ≤ x1) (hp1 : x1 ≤ 4) (hp2 : 0 ≤ x2) (hp3 : x2 ≤ 11) (hp4 : ∀ i : Nat, (i : Int) < x1 → a0 187 i < 12) : ∀ n : Nat, (∀ (y1 y2 y3 : Int), (((4 - y3) * 1) + 0).toNat ≤ n → 1 ≤ y1 → y1 ≤ 4 → 0 ≤ y2 → y2 ≤ 11 → 0 ≤ y3 → y3 ≤ 3 → y1 = x1 → y2 = x2 → (∀ i : Nat, (i : Int) ≤ y3 → ¬ a0 187 i = x2) → 0 ≤ y3 → y3 < y1 → (∀ i : Nat, (i : Int) < y3 + 1 → kR a0 b0 (a0 183) (a0 187 i).toNat x2.toNat = false) → jt (jxX E d 265 53 [some (.inr (.inr (.inl 146))), some (.inl y1), some (.inl y2), some (.inl y3)] [] (jxSH, a0, b0)) (jQ_X12_mayJoin x1 x2 a0 b0)) ∧ (∀ (y1 y2 y3 : Int), (((4 - y3) * 1) + 0).toNat ≤ n → 0 ≤ y1 → y1 ≤ 4 → 0 ≤ y2 → y2 ≤ 11 → 0 ≤ y3 → y3 ≤ 4 → y1 = x1 → y2 = x2 → (∀ i : Nat, (i : Int) < y3 → ¬ a0 187 i = x2) → 0 ≤ y3 → y3 ≤ y1 → (∀ i : Nat, (i : Int) < y3 → kR a0 b0 (a0 183) (a0 187 i).toNat x2.toNat = false) → jt (jxX E d 265 2 [some (.inr (.inr (.inl 146))), some (.inl y1), some (.inl y2), some (.inl y3)] [] (jxSH, a0, b0)) (jQ_X12_mayJoin x1 x2 a0 b0)) := by
  refine jx_ind fun n ih => ?_
  have ih53 : ∀ (y1 y2 y3 : Int), (((4 - y3) * 1) + 0).toNat < n → 1 ≤ y1 → y1 ≤ 4 → 0 ≤ y2 → y2 ≤ 11 → 0 ≤ y3 → y3 ≤ 3 → y1 = x1 → y2 = x2 → (∀ i : Nat, (i : Int) ≤ y3 → ¬ a0 187 i = x2) → 0 ≤ y3 → y3 < y1 → (∀ i : Nat, (i : Int) < y3 + 1 → kR a0 b0 (a0 183) (a0 187 i).toNat x2.toNat = false) → jt (jxX E d 265 53 [some (.inr (.inr (.inl 146))), some (.inl y1), some (.inl y2), some (.inl y3)] [] (jxSH, a0, b0)) (jQ_X12_mayJoin x1 x2 a0 b0) := fun y1 y2 y3 hlt i0 i1 i2 i3 i4 i5 i6 i7 i8 i9 i10 i11 => (ih _ hlt).1 y1 y2 y3 (Nat.le_refl _) i0 i1 i2 i3 i4 i5 i6 i7 i8 i9 i10 i11
  have ih2 : ∀ (y1 y2 y3 : Int), (((4 - y3) * 1) + 0).toNat < n → 0 ≤ y1 → y1 ≤ 4 → 0 ≤ y2 → y2 ≤ 11 → 0 ≤ y3 → y3 ≤ 4 → y1 = x1 → y2 = x2 → (∀ i : Nat, (i : Int) < y3 → ¬ a0 187 i = x2) → 0 ≤ y3 → y3 ≤ y1 → (∀ i : Nat, (i : Int) < y3 → kR a0 b0 (a0 183) (a0 187 i).toNat x2.toNat = false) → jt (jxX E d 265 2 [some (.inr (.inr (.inl 146))), some (.inl y1), some (.inl y2), some (.inl y3)] [] (jxSH, a0, b0)) (jQ_X12_mayJoin x1 x2 a0 b0) := fun y1 y2 y3 hlt i0 i1 i2 i3 i4 i5 i6 i7 i8 i9 i10 i11 => (ih _ hlt).2 y1 y2 y3 (Nat.le_refl _) i0 i1 i2 i3 i4 i5 i6 i7 i8 i9 i10 i11
  have hc53 : ∀ (y1 y2 y3 : Int), (((4 - y3) * 1) + 0).toNat ≤ n → 1 ≤ y1 → y1 ≤ 4 → 0 ≤ y2 → y2 ≤ 11 → 0 ≤ y3 → y3 ≤ 3 → y1 = x1 → y2 = x2 → (∀ i : Nat, (i : Int) ≤ y3 → ¬ a0 187 i = x2) → 0 ≤ y3 → y3 < y1 → (∀ i : Nat, (i : Int) < y3 + 1 → kR a0 b0 (a0 183) (a0 187 i).toNat x2.toNat = false) → jt (jxX E d 265 53 [some (.inr (.inr (.inl 146))), some (.inl y1), some (.inl y2), some (.inl y3)] [] (jxSH, a0, b0)) (jQ_X12_mayJoin x1 x2 a0 b0) := by
    intro y1 y2 y3 hm hi0 hi1 hi2 hi3 hi4 hi5 hi6 hi7 hnj hi9 hi10 hnk
    refine jt_eq (bq_X12_mayJoin_53 E d y1 y2 y3 a0 b0) ?_
    have h1252_ : jxw (y3 + 1) = y3 + 1 := jxw_id (by omega) (by omega)
    exact ih2 y1 y2 (jxw (y3 + 1)) (show (((4 - (jxw (y3 + 1))) * 1) + 0).toNat < n from by omega) (show 0 ≤ y1 from by omega) (show y1 ≤ 4 from by omega) (show 0 ≤ y2 from by omega) (show y2 ≤ 11 from by omega) (show 0 ≤ jxw (y3 + 1) from by omega) (show jxw (y3 + 1) ≤ 4 from by omega) (show y1 = x1 from by omega) (show y2 = x2 from by omega) (by first | (intro i hi; exact hnj i (by omega)) | (intro i hi; omega)) (show 0 ≤ jxw (y3 + 1) from by omega) (show jxw (y3 + 1) ≤ y1 from by omega) (by first | exact (fun i h => absurd h (by omega)) | exact (fun i h => hnk i (by omega)))
  have hc2 : ∀ (y1 y2 y3 : Int), (((4 - y3) * 1) + 0).toNat ≤ n → 0 ≤ y1 → y1 ≤ 4 → 0 ≤ y2 → y2 ≤ 11 → 0 ≤ y3 → y3 ≤ 4 → y1 = x1 → y2 = x2 → (∀ i : Nat, (i : Int) < y3 → ¬ a0 187 i = x2) → 0 ≤ y3 → y3 ≤ y1 → (∀ i : Nat, (i : Int) < y3 → kR a0 b0 (a0 183) (a0 187 i).toNat x2.toNat = false) → jt (jxX E d 265 2 [some (.inr (.inr (.inl 146))), some (.inl y1), some (.inl y2), some (.inl y3)] [] (jxSH, a0, b0)) (jQ_X12_mayJoin x1 x2 a0 b0) := by
    intro y1 y2 y3 hm hi0 hi1 hi2 hi3 hi4 hi5 hi6 hi7 hnj hi9 hi10 hnk
    refine jt_eq (bq_X12_mayJoin_2 E d y1 y2 y3 a0 b0) ?_
    have h187 : y3 < y1 → a0 187 (y3.toNat) < 12 := fun h => hp4 y3.toNat (by omega)
    have hkk : ∀ i : Nat, kR a0 b0 (a0 183) (a0 187 i).toNat x2.toNat = decide (¬ f_X12_isKin a0 b0 (a0 178 (a0 183 (a0 187 i).toNat).toNat) (a0 178 (a0 183 x2.toNat).toNat) = 0) := fun i => rfl
    refine jt_ite (fun c1253_ => ?_) (fun c1253_ => ?_)
    ·
      refine jt_grd (by omega) ?_
      have h1254_ := iv_get hv0 (k := 187) (j := y3.toNat) (l := 0) (u := 12) rfl
      refine jt_ite (fun c1255_ => ?_) (fun c1255_ => ?_)
      ·
        exact cp_X12_mayJoin_51 E d hd x1 x2 a0 b0 hv0 hp0 hp1 hp2 hp3 hp4 ⟨y3.toNat, by omega, by first | (rw [hkk, show a0 187 y3.toNat = x2 from by omega]; exact kR_self a0 b0 (a0 183) x2.toNat) | (rw [hkk]; exact decide_eq_true (by rw [← show y2 = x2 from by omega]; assumption))⟩
      ·
        refine jt_grd (by omega) ?_
        refine jt_grd (by omega) ?_
        have h1256_ := iv_get hv0 (k := 183) (j := (a0 187 (y3.toNat)).toNat) (l := 0) (u := 19) rfl
        refine jt_grd (by omega) ?_
        refine jt_grd (by omega) ?_
        have h1257_ := iv_get hv0 (k := 183) (j := y2.toNat) (l := 0) (u := 19) rfl
        refine jt_grd (by omega) ?_
        have h1258_ := iv_get hv0 (k := 178) (j := (a0 183 ((a0 187 (y3.toNat)).toNat)).toNat) (l := 0) (u := 39) rfl
        have h1259_ := iv_get hv0 (k := 178) (j := (a0 183 (y2.toNat)).toNat) (l := 0) (u := 39) rfl
        refine jt_eI (eq_X12_isKin E d (jd_le hd rfl) (a0 178 ((a0 183 ((a0 187 (y3.toNat)).toNat)).toNat)) (a0 178 ((a0 183 (y2.toNat)).toNat)) a0 b0 (show (0 ≤ a0 178 ((a0 183 ((a0 187 (y3.toNat)).toNat)).toNat) ∧ a0 178 ((a0 183 ((a0 187 (y3.toNat)).toNat)).toNat) < 40) from by omega) (show (0 ≤ a0 178 ((a0 183 (y2.toNat)).toNat) ∧ a0 178 ((a0 183 (y2.toNat)).toNat) < 40) from by omega)) ?_
        have h1260_ := f_X12_isKin_bool a0 b0 (a0 178 ((a0 183 ((a0 187 (y3.toNat)).toNat)).toNat)) (a0 178 ((a0 183 (y2.toNat)).toNat))
        refine jt_ite (fun c1261_ => ?_) (fun c1261_ => ?_)
        ·
          exact hc53 y1 y2 y3 (show (((4 - y3) * 1) + 0).toNat ≤ n from by omega) (show 1 ≤ y1 from by omega) (show y1 ≤ 4 from by omega) (show 0 ≤ y2 from by omega) (show y2 ≤ 11 from by omega) (show 0 ≤ y3 from by omega) (show y3 ≤ 3 from by omega) (show y1 = x1 from by omega) (show y2 = x2 from by omega) (by intro i hi hh; rcases Int.lt_or_le (i : Int) y3 with h | h <;> first | exact hnj i h hh | (obtain rfl : i = y3.toNat := (by omega); omega)) (show 0 ≤ y3 from by omega) (show y3 < y1 from by omega) (fun i h => by by_cases e : i = y3.toNat <;> first | (rw [e, hkk]; exact decide_eq_false (fun z => z (by rw [← show y2 = x2 from by omega]; assumption))) | exact hnk i (by omega))
        ·
          exact cp_X12_mayJoin_51 E d hd x1 x2 a0 b0 hv0 hp0 hp1 hp2 hp3 hp4 ⟨y3.toNat, by omega, by first | (rw [hkk, show a0 187 y3.toNat = x2 from by omega]; exact kR_self a0 b0 (a0 183) x2.toNat) | (rw [hkk]; exact decide_eq_true (by rw [← show y2 = x2 from by omega]; assumption))⟩
    ·
      exact jt_rI ⟨rfl, rfl, (show (0 ≤ 1 ∧ 1 ≤ 1) from by omega), (by first | (intro _ i hi; exact hnj i (by omega)) | (intro h; omega)), ⟨fun _ i h => hnk i (by omega), fun h => absurd h (by decide)⟩⟩
  exact ⟨hc53, hc2⟩
theorem sp_X12_mayJoin (E : jxE) (d : Nat) (hd : Nat.ble 2 d = true) (x1 x2 : Int) (a0 b0 : Nat → Nat → Int) (hv0 : iv a0) (hp0 : 0 ≤ x1) (hp1 : x1 ≤ 4) (hp2 : 0 ≤ x2) (hp3 : x2 ≤ 11) (hp4 : ∀ i : Nat, (i : Int) < x1 → a0 187 i < 12) : jt (jxC E d 265 [.inr (.inr (.inl 146)), .inl x1, .inl x2] (jxSH, a0, b0)) (jQ_X12_mayJoin x1 x2 a0 b0) := by
  obtain ⟨d, rfl⟩ := jd_succ hd
  refine jt_eq (bq_X12_mayJoin E d x1 x2 a0 b0) ?_
  exact (cp_X12_mayJoin_2 E d hd x1 x2 a0 b0 hv0 hp0 hp1 hp2 hp3 hp4 _).2 x1 x2 0 (Nat.le_refl _) (show 0 ≤ x1 from by omega) (show x1 ≤ 4 from by omega) (show 0 ≤ x2 from by omega) (show x2 ≤ 11 from by omega) (show 0 ≤ 0 from by omega) (show 0 ≤ 4 from by omega) (show x1 = x1 from by omega) (show x2 = x2 from by omega) (by first | (intro i hi; exact hnj i (by omega)) | (intro i hi; omega)) (show 0 ≤ 0 from by omega) (show 0 ≤ x1 from by omega) (by first | exact (fun i h => absurd h (by omega)) | exact (fun i h => hnk i (by omega)))
def jWe : List (Nat × Nat) := []
def jW_X12_notes : List (Nat × Nat) := [(146, 58), (184, 9999), (185, 9999)]
abbrev jQ_X12_notes (x1 : Int) (a0 b0 : Nat → Nat → Int) : List jxV → (Nat → Nat → Int) → (Nat → Nat → Int) → Prop := rV (fun a b => (iv a) ∧ (jfr jW_X12_notes a0 a) ∧ (b0 = b) ∧ (a 146 58 = (a0 146 58) + 1) ∧ (RS a) ∧ (UP (a0 184) (a 184) (a0 146 58).toNat ((PM (PLR (a0 187) x1.toNat) : Nat) : Int)) ∧ (UP (a0 185) (a 185) (a0 146 58).toNat (nbv (a0 187) x1.toNat)))
theorem cp_X12_notes_66 (E : jxE) (d : Nat) (hd : Nat.ble 1 (d + 1) = true) (x1 : Int) (a0 b0 : Nat → Nat → Int) (hv0 : iv a0) (hp0 : (2 ≤ x1 ∧ x1 ≤ 5)) (hp1 : a0 146 58 ≤ 26999) (hp2 : ROWS a0 x1) (hp3 : RS a0) : ∀ (a : Nat → Nat → Int), iv a → jfr jW_X12_notes a0 a → a 146 58 = a0 146 58 → (RS1 a0 a) → (UP (a0 184) (a 184) (a0 146 58).toNat ((PM (PLR (a0 187) x1.toNat) : Nat) : Int)) → (UP (a0 185) (a 185) (a0 146 58).toNat (nbv (a0 187) x1.toNat)) → jt (jxX E d 266 66 [some (.inr (.inr (.inl 146))), none, none, none, none] [] (jxSH, a, b0)) (jQ_X12_notes x1 a0 b0) := by
  intro a hv hf hi0 hi1 hu4 hu5
  refine jt_eq (bq_X12_notes_66 E d a b0) ?_
  have h1262_ := iv_get hv (k := 146) (j := 58) (l := 0) (u := 27000) rfl
  have h1263_ := iv_get hv0 (k := 146) (j := 58) (l := 0) (u := 27000) rfl
  have h1265_ : jxw ((a 146 58) + 1) = (a 146 58) + 1 := jxw_id (by omega) (by omega)
  have hv1264_ : iv (jxu a 146 58 (jxw ((a 146 58) + 1))) := iv_put hv (l := 0) (u := 27000) rfl (by omega) (by omega)
  have hf1266_ : jfr jW_X12_notes a0 (jxu a 146 58 (jxw ((a 146 58) + 1))) := jfr_put hf rfl
  exact jt_rV ⟨hv1264_, hf1266_, rfl, (show jxw ((a 146 58) + 1) = (a0 146 58) + 1 from by omega), (RS_done hp3 (by assumption) (by omega) (by omega)), (by rw [jxu_off (show ¬ 184 = 146 by decide)]; exact hu4), (by rw [jxu_off (show ¬ 185 = 146 by decide)]; exact hu5)⟩
theorem cp_X12_notes_7 (E : jxE) (d : Nat) (hd : Nat.ble 1 (d + 1) = true) (x1 : Int) (a0 b0 : Nat → Nat → Int) (hv0 : iv a0) (hp0 : (2 ≤ x1 ∧ x1 ≤ 5)) (hp1 : a0 146 58 ≤ 26999) (hp2 : ROWS a0 x1) (hp3 : RS a0) : ∀ n : Nat, (∀ (y1 y2 y3 y4 : Int) (a : Nat → Nat → Int), (((5 - y4) * 1) + 0).toNat ≤ n → iv a → jfr jW_X12_notes a0 a → 2 ≤ y1 → y1 ≤ 5 → 0 ≤ y4 → y4 ≤ 4 → (y1 = x1) → 0 ≤ y2 → y2 ≤ 4095 → 0 ≤ y4 → y4 < y1 → pc y2 = y4 + 1 → a 146 58 = a0 146 58 → (∀ j : Nat, j < 12 → ¬ jxand (jxshr y2 j) 1 = 0 → ∃ i : Nat, (i : Int) ≤ y4 ∧ a0 187 i = j) → (y3 = nbv (a0 187) (y4.toNat + 1)) → (jfr jWe a0 a) → (y2 = ((PM (PLR (a0 187) (y4.toNat + 1)) : Nat) : Int)) → jt (jxX E d 266 40 [some (.inr (.inr (.inl 146))), some (.inl y1), some (.inl y2), some (.inl y3), some (.inl y4)] [] (jxSH, a, b0)) (jQ_X12_notes x1 a0 b0)) ∧ (∀ (y1 y2 y3 y4 : Int) (a : Nat → Nat → Int), (((5 - y4) * 1) + 0).toNat ≤ n → iv a → jfr jW_X12_notes a0 a → 2 ≤ y1 → y1 ≤ 5 → 0 ≤ y4 → y4 ≤ 5 → (y1 = x1) → 0 ≤ y2 → y2 ≤ 4095 → 0 ≤ y4 → y4 ≤ y1 → pc y2 = y4 → a 146 58 = a0 146 58 → (∀ j : Nat, j < 12 → ¬ jxand (jxshr y2 j) 1 = 0 → ∃ i : Nat, (i : Int) < y4 ∧ a0 187 i = j) → (y3 = nbv (a0 187) y4.toNat) → (jfr jWe a0 a) → (y2 = ((PM (PLR (a0 187) y4.toNat) : Nat) : Int)) → jt (jxX E d 266 7 [some (.inr (.inr (.inl 146))), some (.inl y1), some (.inl y2), some (.inl y3), some (.inl y4)] [] (jxSH, a, b0)) (jQ_X12_notes x1 a0 b0)) := by
  refine jx_ind fun n ih => ?_
  have ih40 : ∀ (y1 y2 y3 y4 : Int) (a : Nat → Nat → Int), (((5 - y4) * 1) + 0).toNat < n → iv a → jfr jW_X12_notes a0 a → 2 ≤ y1 → y1 ≤ 5 → 0 ≤ y4 → y4 ≤ 4 → (y1 = x1) → 0 ≤ y2 → y2 ≤ 4095 → 0 ≤ y4 → y4 < y1 → pc y2 = y4 + 1 → a 146 58 = a0 146 58 → (∀ j : Nat, j < 12 → ¬ jxand (jxshr y2 j) 1 = 0 → ∃ i : Nat, (i : Int) ≤ y4 ∧ a0 187 i = j) → (y3 = nbv (a0 187) (y4.toNat + 1)) → (jfr jWe a0 a) → (y2 = ((PM (PLR (a0 187) (y4.toNat + 1)) : Nat) : Int)) → jt (jxX E d 266 40 [some (.inr (.inr (.inl 146))), some (.inl y1), some (.inl y2), some (.inl y3), some (.inl y4)] [] (jxSH, a, b0)) (jQ_X12_notes x1 a0 b0) := fun y1 y2 y3 y4 a hlt i0 i1 i2 i3 i4 i5 i6 i7 i8 i9 i10 i11 i12 i13 i14 i15 i16 => (ih _ hlt).1 y1 y2 y3 y4 a (Nat.le_refl _) i0 i1 i2 i3 i4 i5 i6 i7 i8 i9 i10 i11 i12 i13 i14 i15 i16
  have ih7 : ∀ (y1 y2 y3 y4 : Int) (a : Nat → Nat → Int), (((5 - y4) * 1) + 0).toNat < n → iv a → jfr jW_X12_notes a0 a → 2 ≤ y1 → y1 ≤ 5 → 0 ≤ y4 → y4 ≤ 5 → (y1 = x1) → 0 ≤ y2 → y2 ≤ 4095 → 0 ≤ y4 → y4 ≤ y1 → pc y2 = y4 → a 146 58 = a0 146 58 → (∀ j : Nat, j < 12 → ¬ jxand (jxshr y2 j) 1 = 0 → ∃ i : Nat, (i : Int) < y4 ∧ a0 187 i = j) → (y3 = nbv (a0 187) y4.toNat) → (jfr jWe a0 a) → (y2 = ((PM (PLR (a0 187) y4.toNat) : Nat) : Int)) → jt (jxX E d 266 7 [some (.inr (.inr (.inl 146))), some (.inl y1), some (.inl y2), some (.inl y3), some (.inl y4)] [] (jxSH, a, b0)) (jQ_X12_notes x1 a0 b0) := fun y1 y2 y3 y4 a hlt i0 i1 i2 i3 i4 i5 i6 i7 i8 i9 i10 i11 i12 i13 i14 i15 i16 => (ih _ hlt).2 y1 y2 y3 y4 a (Nat.le_refl _) i0 i1 i2 i3 i4 i5 i6 i7 i8 i9 i10 i11 i12 i13 i14 i15 i16
  have hc40 : ∀ (y1 y2 y3 y4 : Int) (a : Nat → Nat → Int), (((5 - y4) * 1) + 0).toNat ≤ n → iv a → jfr jW_X12_notes a0 a → 2 ≤ y1 → y1 ≤ 5 → 0 ≤ y4 → y4 ≤ 4 → (y1 = x1) → 0 ≤ y2 → y2 ≤ 4095 → 0 ≤ y4 → y4 < y1 → pc y2 = y4 + 1 → a 146 58 = a0 146 58 → (∀ j : Nat, j < 12 → ¬ jxand (jxshr y2 j) 1 = 0 → ∃ i : Nat, (i : Int) ≤ y4 ∧ a0 187 i = j) → (y3 = nbv (a0 187) (y4.toNat + 1)) → (jfr jWe a0 a) → (y2 = ((PM (PLR (a0 187) (y4.toNat + 1)) : Nat) : Int)) → jt (jxX E d 266 40 [some (.inr (.inr (.inl 146))), some (.inl y1), some (.inl y2), some (.inl y3), some (.inl y4)] [] (jxSH, a, b0)) (jQ_X12_notes x1 a0 b0) := by
    intro y1 y2 y3 y4 a hm hv hf hi0 hi1 hi2 hi3 hy1 hi5 hi6 hi7 hi8 hi9 hi10 hbits hnv hfe hpm
    refine jt_eq (bq_X12_notes_40 E d y1 y2 y3 y4 a b0) ?_
    have h1267_ := pc_bd y2
    have h1268_ := iv_get hv (k := 146) (j := 58) (l := 0) (u := 27000) rfl
    have h1269_ := iv_get hv0 (k := 146) (j := 58) (l := 0) (u := 27000) rfl
    have h1270_ : jxw (y4 + 1) = y4 + 1 := jxw_id (by omega) (by omega)
    exact ih7 y1 y2 y3 (jxw (y4 + 1)) a (show (((5 - (jxw (y4 + 1))) * 1) + 0).toNat < n from by omega) hv hf (show 2 ≤ y1 from by omega) (show y1 ≤ 5 from by omega) (show 0 ≤ jxw (y4 + 1) from by omega) (show jxw (y4 + 1) ≤ 5 from by omega) (by first | rfl | assumption) (show 0 ≤ y2 from by omega) (show y2 ≤ 4095 from by omega) (show 0 ≤ jxw (y4 + 1) from by omega) (show jxw (y4 + 1) ≤ y1 from by omega) (show pc y2 = jxw (y4 + 1) from by omega) (show a 146 58 = a0 146 58 from by omega) (by first | (intro j hj h; exact absurd (bit0 j hj) h) | (intro j hj h; obtain ⟨i, h1, h2⟩ := hbits j hj h; exact ⟨i, by omega, h2⟩)) (by first | rfl | (rw [show (jxw (y4 + 1)).toNat = y4.toNat + 1 from (by omega)]; exact hnv)) hfe (by rw [show (jxw (y4 + 1)).toNat = y4.toNat + 1 from by omega]; exact hpm)
  have hc7 : ∀ (y1 y2 y3 y4 : Int) (a : Nat → Nat → Int), (((5 - y4) * 1) + 0).toNat ≤ n → iv a → jfr jW_X12_notes a0 a → 2 ≤ y1 → y1 ≤ 5 → 0 ≤ y4 → y4 ≤ 5 → (y1 = x1) → 0 ≤ y2 → y2 ≤ 4095 → 0 ≤ y4 → y4 ≤ y1 → pc y2 = y4 → a 146 58 = a0 146 58 → (∀ j : Nat, j < 12 → ¬ jxand (jxshr y2 j) 1 = 0 → ∃ i : Nat, (i : Int) < y4 ∧ a0 187 i = j) → (y3 = nbv (a0 187) y4.toNat) → (jfr jWe a0 a) → (y2 = ((PM (PLR (a0 187) y4.toNat) : Nat) : Int)) → jt (jxX E d 266 7 [some (.inr (.inr (.inl 146))), some (.inl y1), some (.inl y2), some (.inl y3), some (.inl y4)] [] (jxSH, a, b0)) (jQ_X12_notes x1 a0 b0) := by
    intro y1 y2 y3 y4 a hm hv hf hi0 hi1 hi2 hi3 hy1 hi5 hi6 hi7 hi8 hi9 hi10 hbits hnv hfe hpm
    refine jt_eq (bq_X12_notes_7 E d y1 y2 y3 y4 a b0) ?_
    have h1271_ := pc_bd y2
    have h1272_ := iv_get hv (k := 146) (j := 58) (l := 0) (u := 27000) rfl
    have h1273_ := iv_get hv0 (k := 146) (j := 58) (l := 0) (u := 27000) rfl
    have h187 : a 187 (y4.toNat) = a0 187 (y4.toNat) := hf 187 _ rfl
    have hpc0 : pc 0 = 0 := by decide +kernel
    have hset : y4 < y1 → _ := fun h => notes_set hp2 (y2 := y2) (y4 := y4) (by omega) (by omega) (by omega) (by omega) hbits
    have hall : y4 < y1 → _ := fun h => notes_all hp2 (y3 := y3) (y4 := y4) (by omega) (by omega) (by omega) hnv
    have hro : y4 < y1 → _ := fun h => hp2 y4.toNat (by omega)
    have hset1 : y4 < y1 → pc (jxor y2 (jxshl 1 (a 187 (y4.toNat)))) = pc y2 + 1 := fun h => by rw [h187]; exact (hset h).1
    refine jt_ite (fun c1274_ => ?_) (fun c1274_ => ?_)
    ·
      refine jt_grd (by omega) ?_
      refine jt_grd (by omega) ?_
      have h1275_ := iv_get hv (k := 187) (j := y4.toNat) (l := 0) (u := 12) rfl
      have h1276_ : a 187 (y4.toNat) = a0 187 (y4.toNat) := hf 187 (y4.toNat) rfl
      have h1277_ := iv_get hv0 (k := 187) (j := y4.toNat) (l := 0) (u := 12) rfl
      have h1278_ := jxshl1_b (a 187 (y4.toNat))
      have h1279_ := jxor_b y2 (jxshl 1 (a 187 (y4.toNat)))
      have h1280_ := pc_bd (jxor y2 (jxshl 1 (a 187 (y4.toNat))))
      have h1281_ : jxw (4 * y4) = 4 * y4 := jxw_id (by omega) (by omega)
      have h1282_ := jxor_b y3 (jxshl (a 187 (y4.toNat)) (jxw (4 * y4)))
      exact hc40 y1 (jxor y2 (jxshl 1 (a 187 (y4.toNat)))) (jxor y3 (jxshl (a 187 (y4.toNat)) (jxw (4 * y4)))) y4 a (show (((5 - y4) * 1) + 0).toNat ≤ n from by omega) hv hf (show 2 ≤ y1 from by omega) (show y1 ≤ 5 from by omega) (show 0 ≤ y4 from by omega) (show y4 ≤ 4 from by omega) (by first | rfl | assumption) (show 0 ≤ jxor y2 (jxshl 1 (a 187 (y4.toNat))) from by omega) (show jxor y2 (jxshl 1 (a 187 (y4.toNat))) ≤ 4095 from by omega) (show 0 ≤ y4 from by omega) (show y4 < y1 from by omega) (show pc (jxor y2 (jxshl 1 (a 187 (y4.toNat)))) = y4 + 1 from by omega) (show a 146 58 = a0 146 58 from by omega) (by rw [h187]; exact (hset (by omega)).2) (by rw [h187, show jxw (4 * y4) = 4 * y4 from jxw_id (by omega) (by omega)]; exact hall (by omega)) hfe (by have r := hp2 y4.toNat (by omega); have s1 := jxshl1_n (a0 187 y4.toNat).toNat (by omega); rw [Int.toNat_of_nonneg r.1] at s1; have p2 : 2 ^ (a0 187 y4.toNat).toNat ≤ 2048 := Nat.pow_le_pow_right (n := 2) (by decide) (show (a0 187 y4.toNat).toNat ≤ 11 by omega); rw [PLR_s, PM_app, h187, s1, hpm, jxor_nat _ _ (by omega) (by omega)])
    ·
      refine jt_grd (by omega) ?_
      refine jt_grd (by omega) ?_
      have hv1283_ : iv (jxu a 184 ((a 146 58).toNat) y2) := iv_put hv (l := 0) (u := 4095) rfl (by omega) (by omega)
      have hv1284_ : iv (jxu (jxu a 184 ((a 146 58).toNat) y2) 185 ((a 146 58).toNat) y3) := iv_putf hv1283_ rfl
      have hf1285_ : jfr jW_X12_notes a0 (jxu a 184 ((a 146 58).toNat) y2) := jfr_put hf rfl
      have hf1286_ : jfr jW_X12_notes a0 (jxu (jxu a 184 ((a 146 58).toNat) y2) 185 ((a 146 58).toNat) y3) := jfr_put hf1285_ rfl
      exact cp_X12_notes_66 E d hd x1 a0 b0 hv0 hp0 hp1 hp2 hp3 (jxu (jxu a 184 ((a 146 58).toNat) y2) 185 ((a 146 58).toNat) y3) hv1284_ hf1286_ (show a 146 58 = a0 146 58 from by omega) (RS1_mk (fun r => hfe 184 r rfl) (fun r => hfe 185 r rfl) (by rw [show a 146 58 = a0 146 58 from (by omega)]) ⟨(by omega), (by omega)⟩ (by rw [hnv]; exact nbv_nib (by omega) (fun i hi => by have := hp2 i (by omega); omega))) (by rw [jxu_off (show ¬ 184 = 185 by decide), show x1.toNat = y4.toNat from by omega, ← hpm, show (a0 146 58).toNat = (a 146 58).toNat from by omega]; exact UP_put (fun j => hfe 184 j rfl)) (by rw [show x1.toNat = y4.toNat from by omega, ← hnv, show (a0 146 58).toNat = (a 146 58).toNat from by omega]; exact UP_put (fun j => (jxu_nk (show ¬ 185 = 184 by decide)).trans (hfe 185 j rfl)))
  exact ⟨hc40, hc7⟩
theorem sp_X12_notes (E : jxE) (d : Nat) (hd : Nat.ble 1 d = true) (x1 : Int) (a0 b0 : Nat → Nat → Int) (hv0 : iv a0) (hp0 : (2 ≤ x1 ∧ x1 ≤ 5)) (hp1 : a0 146 58 ≤ 26999) (hp2 : ROWS a0 x1) (hp3 : RS a0) : jt (jxC E d 266 [.inr (.inr (.inl 146)), .inl x1] (jxSH, a0, b0)) (jQ_X12_notes x1 a0 b0) := by
  obtain ⟨d, rfl⟩ := jd_succ hd
  refine jt_eq (bq_X12_notes E d x1 a0 b0) ?_
  have h1287_ := iv_get hv0 (k := 146) (j := 58) (l := 0) (u := 27000) rfl
  have hpc0 : pc 0 = 0 := by decide +kernel
  have h1288_ := pc_bd 0
  exact (cp_X12_notes_7 E d hd x1 a0 b0 hv0 hp0 hp1 hp2 hp3 _).2 x1 0 0 0 a0 (Nat.le_refl _) hv0 (jfr_rf _ _) (show 2 ≤ x1 from by omega) (show x1 ≤ 5 from by omega) (show 0 ≤ 0 from by omega) (show 0 ≤ 5 from by omega) (by first | rfl | assumption) (show 0 ≤ 0 from by omega) (show 0 ≤ 4095 from by omega) (show 0 ≤ 0 from by omega) (show 0 ≤ x1 from by omega) (show pc 0 = 0 from by omega) (show a0 146 58 = a0 146 58 from by omega) (by first | (intro j hj h; exact absurd (bit0 j hj) h) | (intro j hj h; obtain ⟨i, h1, h2⟩ := hbits j hj h; exact ⟨i, by omega, h2⟩)) (by first | rfl | (rw [show (jxw (y4 + 1)).toNat = y4.toNat + 1 from (by omega)]; exact hnv)) (jfr_rf _ _) rfl
def jW_X12_ringsOf : List (Nat × Nat) := [(146, 58), (184, 9999), (185, 9999), (187, 9999)]
abbrev jQ_X12_ringsOf (x1 : Int) (a0 b0 : Nat → Nat → Int) : List jxV → (Nat → Nat → Int) → (Nat → Nat → Int) → Prop := rV (fun a b => (iv a) ∧ (jfr jW_X12_ringsOf a0 a) ∧ (b0 = b) ∧ (RS a) ∧ (a0 146 58 ≤ a 146 58) ∧ (a 146 58 ≤ (a0 146 58) + (tot (((a0 146 56) - 1) - x1))) ∧ (RCD a0 b0 a x1.toNat ([])))
theorem cp_X12_ringsOf_16 (E : jxE) (d : Nat) (hd : Nat.ble 3 (d + 1) = true) (x1 : Int) (a0 b0 : Nat → Nat → Int) (hv0 : iv a0) (hp0 : 0 ≤ x1) (hp1 : x1 < a0 146 56) (hp2 : rbase a0 x1 ≤ 27000) (hp3 : RS a0) : ∀ n : Nat, (∀ (y1 y2 : Int) (a : Nat → Nat → Int), ((jmu a y2) + 1).toNat ≤ n → iv a → jfr jW_X12_ringsOf a0 a → 0 ≤ y1 → 1 ≤ y2 → y2 ≤ 4 → (y1 = x1) → 1 ≤ y2 → y2 ≤ 4 → (RS a) → (RJ a0 a x1 (y2 - 1)) → (RCD a0 b0 a x1.toNat (REMr (a0 146 56).toNat (gR a0 b0 (a0 183)) (kR a0 b0 (a0 183)) (a 187) (y2.toNat - 1))) → jt (jxX E d 267 43 [some (.inr (.inr (.inl 146))), some (.inl y1), some (.inl y2)] [] (jxSH, a, b0)) (jQ_X12_ringsOf x1 a0 b0)) ∧ (∀ (y1 y2 : Int) (a : Nat → Nat → Int), ((jmu a y2) + (wt y2)).toNat ≤ n → iv a → jfr jW_X12_ringsOf a0 a → 0 ≤ y1 → 1 ≤ y2 → y2 ≤ 4 → 1 ≤ a 146 56 → (y1 = x1) → 1 ≤ y2 → y2 ≤ 4 → (RS a) → (RJ a0 a x1 y2) → (RCD a0 b0 a x1.toNat (REMr (a0 146 56).toNat (gR a0 b0 (a0 183)) (kR a0 b0 (a0 183)) (a 187) y2.toNat)) → jt (jxX E d 267 84 [some (.inr (.inr (.inl 146))), some (.inl y1), some (.inl y2)] [] (jxSH, a, b0)) (jQ_X12_ringsOf x1 a0 b0)) ∧ (∀ (y1 y2 : Int) (a : Nat → Nat → Int), ((jmu a y2) + (wt y2)).toNat ≤ n → iv a → jfr jW_X12_ringsOf a0 a → 0 ≤ y1 → 1 ≤ y2 → y2 ≤ 4 → 1 ≤ a 146 56 → (y1 = x1) → 1 ≤ y2 → y2 ≤ 4 → (RS a) → (RJ108 a0 a x1 y2) → (RCD a0 b0 a x1.toNat (RTL (a0 146 56).toNat (gR a0 b0 (a0 183)) (kR a0 b0 (a0 183)) (4 - y2.toNat) (PLR (a 187) (y2.toNat + 1)) ++ REMr (a0 146 56).toNat (gR a0 b0 (a0 183)) (kR a0 b0 (a0 183)) (a 187) y2.toNat)) → jt (jxX E d 267 108 [some (.inr (.inr (.inl 146))), some (.inl y1), some (.inl y2)] [] (jxSH, a, b0)) (jQ_X12_ringsOf x1 a0 b0)) ∧ (∀ (y1 y2 : Int) (a : Nat → Nat → Int), ((jmu a y2) + (wt y2)).toNat ≤ n → iv a → jfr jW_X12_ringsOf a0 a → 0 ≤ y1 → 1 ≤ y2 → y2 ≤ 4 → 1 ≤ a 146 56 → (y1 = x1) → 1 ≤ y2 → y2 ≤ 4 → (RS a) → (RJ87 a0 a x1 y2) → (RCD a0 b0 a x1.toNat (RGL (a0 146 56).toNat (gR a0 b0 (a0 183)) (kR a0 b0 (a0 183)) (4 - y2.toNat) (PLR (a 187) (y2.toNat + 1)) ++ REMr (a0 146 56).toNat (gR a0 b0 (a0 183)) (kR a0 b0 (a0 183)) (a 187) y2.toNat)) → (∀ i : Nat, i < y2.toNat → kR a0 b0 (a0 183) (a 187 i).toNat (a 187 y2.toNat).toNat = false) → jt (jxX E d 267 87 [some (.inr (.inr (.inl 146))), some (.inl y1), some (.inl y2)] [] (jxSH, a, b0)) (jQ_X12_ringsOf x1 a0 b0)) ∧ (∀ (y1 y2 : Int) (a : Nat → Nat → Int), ((jmu a y2) + (wt y2)).toNat ≤ n → iv a → jfr jW_X12_ringsOf a0 a → 0 ≤ y1 → 1 ≤ y2 → y2 ≤ 4 → 1 ≤ a 146 56 → (y1 = x1) → 1 ≤ y2 → y2 ≤ 4 → (RS a) → (RJ49 a0 a x1 y2) → (RCD a0 b0 a x1.toNat ((if rext (a0 146 56).toNat (gR a0 b0 (a0 183)) (kR a0 b0 (a0 183)) (PLR (a 187) y2.toNat) (a 187 y2.toNat).toNat = true then RGL (a0 146 56).toNat (gR a0 b0 (a0 183)) (kR a0 b0 (a0 183)) (4 - y2.toNat) (PLR (a 187) (y2.toNat + 1)) else []) ++ REMr (a0 146 56).toNat (gR a0 b0 (a0 183)) (kR a0 b0 (a0 183)) (a 187) y2.toNat)) → jt (jxX E d 267 49 [some (.inr (.inr (.inl 146))), some (.inl y1), some (.inl y2)] [] (jxSH, a, b0)) (jQ_X12_ringsOf x1 a0 b0)) ∧ (∀ (y1 y2 : Int) (a : Nat → Nat → Int), (jmu a y2).toNat ≤ n → iv a → jfr jW_X12_ringsOf a0 a → 0 ≤ y1 → 0 ≤ y2 → y2 ≤ 4 → (y1 = x1) → 0 ≤ y2 → y2 ≤ 4 → (RS a) → (RJ a0 a x1 y2) → (RCD a0 b0 a x1.toNat (REMr (a0 146 56).toNat (gR a0 b0 (a0 183)) (kR a0 b0 (a0 183)) (a 187) y2.toNat)) → jt (jxX E d 267 16 [some (.inr (.inr (.inl 146))), some (.inl y1), some (.inl y2)] [] (jxSH, a, b0)) (jQ_X12_ringsOf x1 a0 b0)) := by
  refine jx_ind fun n ih => ?_
  have ih43 : ∀ (y1 y2 : Int) (a : Nat → Nat → Int), ((jmu a y2) + 1).toNat < n → iv a → jfr jW_X12_ringsOf a0 a → 0 ≤ y1 → 1 ≤ y2 → y2 ≤ 4 → (y1 = x1) → 1 ≤ y2 → y2 ≤ 4 → (RS a) → (RJ a0 a x1 (y2 - 1)) → (RCD a0 b0 a x1.toNat (REMr (a0 146 56).toNat (gR a0 b0 (a0 183)) (kR a0 b0 (a0 183)) (a 187) (y2.toNat - 1))) → jt (jxX E d 267 43 [some (.inr (.inr (.inl 146))), some (.inl y1), some (.inl y2)] [] (jxSH, a, b0)) (jQ_X12_ringsOf x1 a0 b0) := fun y1 y2 a hlt i0 i1 i2 i3 i4 i5 i6 i7 i8 i9 i10 => (ih _ hlt).1 y1 y2 a (Nat.le_refl _) i0 i1 i2 i3 i4 i5 i6 i7 i8 i9 i10
  have ih84 : ∀ (y1 y2 : Int) (a : Nat → Nat → Int), ((jmu a y2) + (wt y2)).toNat < n → iv a → jfr jW_X12_ringsOf a0 a → 0 ≤ y1 → 1 ≤ y2 → y2 ≤ 4 → 1 ≤ a 146 56 → (y1 = x1) → 1 ≤ y2 → y2 ≤ 4 → (RS a) → (RJ a0 a x1 y2) → (RCD a0 b0 a x1.toNat (REMr (a0 146 56).toNat (gR a0 b0 (a0 183)) (kR a0 b0 (a0 183)) (a 187) y2.toNat)) → jt (jxX E d 267 84 [some (.inr (.inr (.inl 146))), some (.inl y1), some (.inl y2)] [] (jxSH, a, b0)) (jQ_X12_ringsOf x1 a0 b0) := fun y1 y2 a hlt i0 i1 i2 i3 i4 i5 i6 i7 i8 i9 i10 i11 => (ih _ hlt).2.1 y1 y2 a (Nat.le_refl _) i0 i1 i2 i3 i4 i5 i6 i7 i8 i9 i10 i11
  have ih108 : ∀ (y1 y2 : Int) (a : Nat → Nat → Int), ((jmu a y2) + (wt y2)).toNat < n → iv a → jfr jW_X12_ringsOf a0 a → 0 ≤ y1 → 1 ≤ y2 → y2 ≤ 4 → 1 ≤ a 146 56 → (y1 = x1) → 1 ≤ y2 → y2 ≤ 4 → (RS a) → (RJ108 a0 a x1 y2) → (RCD a0 b0 a x1.toNat (RTL (a0 146 56).toNat (gR a0 b0 (a0 183)) (kR a0 b0 (a0 183)) (4 - y2.toNat) (PLR (a 187) (y2.toNat + 1)) ++ REMr (a0 146 56).toNat (gR a0 b0 (a0 183)) (kR a0 b0 (a0 183)) (a 187) y2.toNat)) → jt (jxX E d 267 108 [some (.inr (.inr (.inl 146))), some (.inl y1), some (.inl y2)] [] (jxSH, a, b0)) (jQ_X12_ringsOf x1 a0 b0) := fun y1 y2 a hlt i0 i1 i2 i3 i4 i5 i6 i7 i8 i9 i10 i11 => (ih _ hlt).2.2.1 y1 y2 a (Nat.le_refl _) i0 i1 i2 i3 i4 i5 i6 i7 i8 i9 i10 i11
  have ih87 : ∀ (y1 y2 : Int) (a : Nat → Nat → Int), ((jmu a y2) + (wt y2)).toNat < n → iv a → jfr jW_X12_ringsOf a0 a → 0 ≤ y1 → 1 ≤ y2 → y2 ≤ 4 → 1 ≤ a 146 56 → (y1 = x1) → 1 ≤ y2 → y2 ≤ 4 → (RS a) → (RJ87 a0 a x1 y2) → (RCD a0 b0 a x1.toNat (RGL (a0 146 56).toNat (gR a0 b0 (a0 183)) (kR a0 b0 (a0 183)) (4 - y2.toNat) (PLR (a 187) (y2.toNat + 1)) ++ REMr (a0 146 56).toNat (gR a0 b0 (a0 183)) (kR a0 b0 (a0 183)) (a 187) y2.toNat)) → (∀ i : Nat, i < y2.toNat → kR a0 b0 (a0 183) (a 187 i).toNat (a 187 y2.toNat).toNat = false) → jt (jxX E d 267 87 [some (.inr (.inr (.inl 146))), some (.inl y1), some (.inl y2)] [] (jxSH, a, b0)) (jQ_X12_ringsOf x1 a0 b0) := fun y1 y2 a hlt i0 i1 i2 i3 i4 i5 i6 i7 i8 i9 i10 i11 i12 => (ih _ hlt).2.2.2.1 y1 y2 a (Nat.le_refl _) i0 i1 i2 i3 i4 i5 i6 i7 i8 i9 i10 i11 i12
  have ih49 : ∀ (y1 y2 : Int) (a : Nat → Nat → Int), ((jmu a y2) + (wt y2)).toNat < n → iv a → jfr jW_X12_ringsOf a0 a → 0 ≤ y1 → 1 ≤ y2 → y2 ≤ 4 → 1 ≤ a 146 56 → (y1 = x1) → 1 ≤ y2 → y2 ≤ 4 → (RS a) → (RJ49 a0 a x1 y2) → (RCD a0 b0 a x1.toNat ((if rext (a0 146 56).toNat (gR a0 b0 (a0 183)) (kR a0 b0 (a0 183)) (PLR (a 187) y2.toNat) (a 187 y2.toNat).toNat = true then RGL (a0 146 56).toNat (gR a0 b0 (a0 183)) (kR a0 b0 (a0 183)) (4 - y2.toNat) (PLR (a 187) (y2.toNat + 1)) else []) ++ REMr (a0 146 56).toNat (gR a0 b0 (a0 183)) (kR a0 b0 (a0 183)) (a 187) y2.toNat)) → jt (jxX E d 267 49 [some (.inr (.inr (.inl 146))), some (.inl y1), some (.inl y2)] [] (jxSH, a, b0)) (jQ_X12_ringsOf x1 a0 b0) := fun y1 y2 a hlt i0 i1 i2 i3 i4 i5 i6 i7 i8 i9 i10 i11 => (ih _ hlt).2.2.2.2.1 y1 y2 a (Nat.le_refl _) i0 i1 i2 i3 i4 i5 i6 i7 i8 i9 i10 i11
  have ih16 : ∀ (y1 y2 : Int) (a : Nat → Nat → Int), (jmu a y2).toNat < n → iv a → jfr jW_X12_ringsOf a0 a → 0 ≤ y1 → 0 ≤ y2 → y2 ≤ 4 → (y1 = x1) → 0 ≤ y2 → y2 ≤ 4 → (RS a) → (RJ a0 a x1 y2) → (RCD a0 b0 a x1.toNat (REMr (a0 146 56).toNat (gR a0 b0 (a0 183)) (kR a0 b0 (a0 183)) (a 187) y2.toNat)) → jt (jxX E d 267 16 [some (.inr (.inr (.inl 146))), some (.inl y1), some (.inl y2)] [] (jxSH, a, b0)) (jQ_X12_ringsOf x1 a0 b0) := fun y1 y2 a hlt i0 i1 i2 i3 i4 i5 i6 i7 i8 i9 i10 => (ih _ hlt).2.2.2.2.2 y1 y2 a (Nat.le_refl _) i0 i1 i2 i3 i4 i5 i6 i7 i8 i9 i10
  have hc43 : ∀ (y1 y2 : Int) (a : Nat → Nat → Int), ((jmu a y2) + 1).toNat ≤ n → iv a → jfr jW_X12_ringsOf a0 a → 0 ≤ y1 → 1 ≤ y2 → y2 ≤ 4 → (y1 = x1) → 1 ≤ y2 → y2 ≤ 4 → (RS a) → (RJ a0 a x1 (y2 - 1)) → (RCD a0 b0 a x1.toNat (REMr (a0 146 56).toNat (gR a0 b0 (a0 183)) (kR a0 b0 (a0 183)) (a 187) (y2.toNat - 1))) → jt (jxX E d 267 43 [some (.inr (.inr (.inl 146))), some (.inl y1), some (.inl y2)] [] (jxSH, a, b0)) (jQ_X12_ringsOf x1 a0 b0) := by
    intro y1 y2 a hm hv hf hi0 hi1 hi2 hy1 hi4 hi5 hi6 hrj hrc
    refine jt_eq (bq_X12_ringsOf_43 E d y1 y2 a b0) ?_
    have i0 := iv_get hv (k := 187) (j := y2.toNat) (l := 0) (u := 12) rfl
    have i56 := iv_get hv (k := 146) (j := 56) (l := 0) (u := 12) rfl
    have i1 := iv_get hv (k := 187) (j := 1) (l := 0) (u := 12) rfl
    have i2 := iv_get hv (k := 187) (j := 2) (l := 0) (u := 12) rfl
    have i3 := iv_get hv (k := 187) (j := 3) (l := 0) (u := 12) rfl
    have i4 := iv_get hv (k := 187) (j := 4) (l := 0) (u := 12) rfl
    have hwv : jxw ((a 187 (y2.toNat)) + 1) = a 187 (y2.toNat) + 1 := jxw_id (by omega) (by omega)
    have hwp := wt_pos y2
    have hnn := jmu_nn (a := a) (n := y2) i1.2 i2.2 i3.2 i4.2
    have h56 : a 146 56 = a0 146 56 := hf 146 56 rfl
    have hpop := jmu_pop (a := a) (n := y2) (by omega) i1.2 i2.2 i3.2 i4.2
    have hnn1 := jmu_nn (a := a) (n := y2 - 1) i1.2 i2.2 i3.2 i4.2
    have hmp : jmu a (jxw (y2 + (-1))) = jmu a (y2 - 1) := by rw [jxw_id (by omega) (by omega)]; rfl
    have hgk := gk_fr (b := b0) (b1 := b0) (funext fun j => hf 150 j rfl) (funext fun j => hf 178 j rfl) (funext fun j => hf 179 j rfl) (funext fun j => hf 180 j rfl) (funext fun j => hf 183 j rfl)
    have h187n : ∀ i, 0 ≤ a 187 i := fun i => (iv_get hv (k := 187) (j := i) (l := 0) (u := 12) rfl).1
    have h1289_ : jxw (y2 + (-1)) = y2 + (-1) := jxw_id (by omega) (by omega)
    exact ih16 y1 (jxw (y2 + (-1))) a (show (jmu a (jxw (y2 + (-1)))).toNat < n from by omega) hv hf (show 0 ≤ y1 from by omega) (show 0 ≤ jxw (y2 + (-1)) from by omega) (show jxw (y2 + (-1)) ≤ 4 from by omega) (by first | rfl | assumption) (show 0 ≤ jxw (y2 + (-1)) from by omega) (show jxw (y2 + (-1)) ≤ 4 from by omega) hi6 (by first | exact RJ_start (by omega) (by omega) (by omega) | exact RJ49_16 hrj | assumption | exact RJ108_16 hrj (by omega) | (rw [hy1]; exact RJ108_push hrj (by omega) (jxw_id (by omega) (by omega)) (by omega) (by omega)) | (rw [show jxw (y2 + (-1)) = y2 - 1 from (by omega)]; exact hrj)) (by rw [show (jxw (y2 + (-1))).toNat = y2.toNat - 1 from by omega]; exact hrc)
  have hc84 : ∀ (y1 y2 : Int) (a : Nat → Nat → Int), ((jmu a y2) + (wt y2)).toNat ≤ n → iv a → jfr jW_X12_ringsOf a0 a → 0 ≤ y1 → 1 ≤ y2 → y2 ≤ 4 → 1 ≤ a 146 56 → (y1 = x1) → 1 ≤ y2 → y2 ≤ 4 → (RS a) → (RJ a0 a x1 y2) → (RCD a0 b0 a x1.toNat (REMr (a0 146 56).toNat (gR a0 b0 (a0 183)) (kR a0 b0 (a0 183)) (a 187) y2.toNat)) → jt (jxX E d 267 84 [some (.inr (.inr (.inl 146))), some (.inl y1), some (.inl y2)] [] (jxSH, a, b0)) (jQ_X12_ringsOf x1 a0 b0) := by
    intro y1 y2 a hm hv hf hi0 hi1 hi2 hi3 hy1 hi5 hi6 hi7 hrj hrc
    refine jt_eq (bq_X12_ringsOf_84 E d y1 y2 a b0) ?_
    have h1290_ := iv_get hv (k := 146) (j := 56) (l := 0) (u := 12) rfl
    have h1291_ : a 146 56 = a0 146 56 := hf 146 56 rfl
    have h1292_ := iv_get hv0 (k := 146) (j := 56) (l := 0) (u := 12) rfl
    have i0 := iv_get hv (k := 187) (j := y2.toNat) (l := 0) (u := 12) rfl
    have i56 := iv_get hv (k := 146) (j := 56) (l := 0) (u := 12) rfl
    have i1 := iv_get hv (k := 187) (j := 1) (l := 0) (u := 12) rfl
    have i2 := iv_get hv (k := 187) (j := 2) (l := 0) (u := 12) rfl
    have i3 := iv_get hv (k := 187) (j := 3) (l := 0) (u := 12) rfl
    have i4 := iv_get hv (k := 187) (j := 4) (l := 0) (u := 12) rfl
    have hwv : jxw ((a 187 (y2.toNat)) + 1) = a 187 (y2.toNat) + 1 := jxw_id (by omega) (by omega)
    have hwp := wt_pos y2
    have hnn := jmu_nn (a := a) (n := y2) i1.2 i2.2 i3.2 i4.2
    have h56 : a 146 56 = a0 146 56 := hf 146 56 rfl
    have hgk := gk_fr (b := b0) (b1 := b0) (funext fun j => hf 150 j rfl) (funext fun j => hf 178 j rfl) (funext fun j => hf 179 j rfl) (funext fun j => hf 180 j rfl) (funext fun j => hf 183 j rfl)
    have h187n : ∀ i, 0 ≤ a 187 i := fun i => (iv_get hv (k := 187) (j := i) (l := 0) (u := 12) rfl).1
    exact ih16 y1 y2 a (show (jmu a y2).toNat < n from by omega) hv hf (show 0 ≤ y1 from by omega) (show 0 ≤ y2 from by omega) (show y2 ≤ 4 from by omega) (by first | rfl | assumption) (show 0 ≤ y2 from by omega) (show y2 ≤ 4 from by omega) hi7 (by first | exact RJ_start (by omega) (by omega) (by omega) | exact RJ49_16 hrj | assumption | exact RJ108_16 hrj (by omega) | (rw [hy1]; exact RJ108_push hrj (by omega) (jxw_id (by omega) (by omega)) (by omega) (by omega)) | (rw [show jxw (y2 + (-1)) = y2 - 1 from (by omega)]; exact hrj)) hrc
  have hc108 : ∀ (y1 y2 : Int) (a : Nat → Nat → Int), ((jmu a y2) + (wt y2)).toNat ≤ n → iv a → jfr jW_X12_ringsOf a0 a → 0 ≤ y1 → 1 ≤ y2 → y2 ≤ 4 → 1 ≤ a 146 56 → (y1 = x1) → 1 ≤ y2 → y2 ≤ 4 → (RS a) → (RJ108 a0 a x1 y2) → (RCD a0 b0 a x1.toNat (RTL (a0 146 56).toNat (gR a0 b0 (a0 183)) (kR a0 b0 (a0 183)) (4 - y2.toNat) (PLR (a 187) (y2.toNat + 1)) ++ REMr (a0 146 56).toNat (gR a0 b0 (a0 183)) (kR a0 b0 (a0 183)) (a 187) y2.toNat)) → jt (jxX E d 267 108 [some (.inr (.inr (.inl 146))), some (.inl y1), some (.inl y2)] [] (jxSH, a, b0)) (jQ_X12_ringsOf x1 a0 b0) := by
    intro y1 y2 a hm hv hf hi0 hi1 hi2 hi3 hy1 hi5 hi6 hi7 hrj hrc
    refine jt_eq (bq_X12_ringsOf_108 E d y1 y2 a b0) ?_
    have h1293_ := iv_get hv (k := 146) (j := 56) (l := 0) (u := 12) rfl
    have h1294_ : a 146 56 = a0 146 56 := hf 146 56 rfl
    have h1295_ := iv_get hv0 (k := 146) (j := 56) (l := 0) (u := 12) rfl
    have i0 := iv_get hv (k := 187) (j := y2.toNat) (l := 0) (u := 12) rfl
    have i56 := iv_get hv (k := 146) (j := 56) (l := 0) (u := 12) rfl
    have i1 := iv_get hv (k := 187) (j := 1) (l := 0) (u := 12) rfl
    have i2 := iv_get hv (k := 187) (j := 2) (l := 0) (u := 12) rfl
    have i3 := iv_get hv (k := 187) (j := 3) (l := 0) (u := 12) rfl
    have i4 := iv_get hv (k := 187) (j := 4) (l := 0) (u := 12) rfl
    have hwv : jxw ((a 187 (y2.toNat)) + 1) = a 187 (y2.toNat) + 1 := jxw_id (by omega) (by omega)
    have hwp := wt_pos y2
    have hnn := jmu_nn (a := a) (n := y2) i1.2 i2.2 i3.2 i4.2
    have h56 : a 146 56 = a0 146 56 := hf 146 56 rfl
    have hpush : y2 ≤ 3 → jmu (jxu a 187 ((jxw (y2 + 1)).toNat) y1) (jxw (y2 + 1)) < jmu a y2 + wt y2 := fun h => jmu_push (by omega) (jxw_id (by omega) (by omega)) (by omega)
    have hcr := hrj.2.2.1
    have hgk := gk_fr (b := b0) (b1 := b0) (funext fun j => hf 150 j rfl) (funext fun j => hf 178 j rfl) (funext fun j => hf 179 j rfl) (funext fun j => hf 180 j rfl) (funext fun j => hf 183 j rfl)
    have h187n : ∀ i, 0 ≤ a 187 i := fun i => (iv_get hv (k := 187) (j := i) (l := 0) (u := 12) rfl).1
    refine jt_ite (fun c1296_ => ?_) (fun c1296_ => ?_)
    ·
      exact ih16 y1 y2 a (show (jmu a y2).toNat < n from by omega) hv hf (show 0 ≤ y1 from by omega) (show 0 ≤ y2 from by omega) (show y2 ≤ 4 from by omega) (by first | rfl | assumption) (show 0 ≤ y2 from by omega) (show y2 ≤ 4 from by omega) hi7 (by first | exact RJ_start (by omega) (by omega) (by omega) | exact RJ49_16 hrj | assumption | exact RJ108_16 hrj (by omega) | (rw [hy1]; exact RJ108_push hrj (by omega) (jxw_id (by omega) (by omega)) (by omega) (by omega)) | (rw [show jxw (y2 + (-1)) = y2 - 1 from (by omega)]; exact hrj)) (by have q := hrc; rw [show 4 - y2.toNat = 0 from by omega] at q; exact q)
    ·
      have h1297_ : jxw (y2 + 1) = y2 + 1 := jxw_id (by omega) (by omega)
      refine jt_grd (by omega) ?_
      have hv1298_ : iv (jxu a 187 ((jxw (y2 + 1)).toNat) y1) := iv_put hv (l := 0) (u := 12) rfl (by omega) (by omega)
      have hf1299_ : jfr jW_X12_ringsOf a0 (jxu a 187 ((jxw (y2 + 1)).toNat) y1) := jfr_put hf rfl
      have hg1300_ : RS (jxu a 187 ((jxw (y2 + 1)).toNat) y1) := (RS_fr hi7 (jfr_1 a 187 ((jxw (y2 + 1)).toNat) y1) rfl (fun _ => rfl) (fun _ => rfl))
      exact ih16 y1 (jxw (y2 + 1)) (jxu a 187 ((jxw (y2 + 1)).toNat) y1) (show (jmu (jxu a 187 ((jxw (y2 + 1)).toNat) y1) (jxw (y2 + 1))).toNat < n from by omega) hv1298_ hf1299_ (show 0 ≤ y1 from by omega) (show 0 ≤ jxw (y2 + 1) from by omega) (show jxw (y2 + 1) ≤ 4 from by omega) (by first | rfl | assumption) (show 0 ≤ jxw (y2 + 1) from by omega) (show jxw (y2 + 1) ≤ 4 from by omega) hg1300_ (by first | exact RJ_start (by omega) (by omega) (by omega) | exact RJ49_16 hrj | assumption | exact RJ108_16 hrj (by omega) | (rw [hy1]; exact RJ108_push hrj (by omega) (jxw_id (by omega) (by omega)) (by omega) (by omega)) | (rw [show jxw (y2 + (-1)) = y2 - 1 from (by omega)]; exact hrj)) (RCD_fr hrc ((jxu_nk (by decide)).trans rfl) (fun j => jxu_nk (by decide)) (fun j => jxu_nk (by decide)) (by rw [show (jxw (y2 + 1)).toNat = y2.toNat + 1 from by omega]; exact REMr_push (by omega) (fun i hi => (jxu_nj (by omega)).symm) (by rw [jxu_at, hrj.1, show y1 = x1 from by omega]) (by rw [hrj.1]; omega)))
  have hc87 : ∀ (y1 y2 : Int) (a : Nat → Nat → Int), ((jmu a y2) + (wt y2)).toNat ≤ n → iv a → jfr jW_X12_ringsOf a0 a → 0 ≤ y1 → 1 ≤ y2 → y2 ≤ 4 → 1 ≤ a 146 56 → (y1 = x1) → 1 ≤ y2 → y2 ≤ 4 → (RS a) → (RJ87 a0 a x1 y2) → (RCD a0 b0 a x1.toNat (RGL (a0 146 56).toNat (gR a0 b0 (a0 183)) (kR a0 b0 (a0 183)) (4 - y2.toNat) (PLR (a 187) (y2.toNat + 1)) ++ REMr (a0 146 56).toNat (gR a0 b0 (a0 183)) (kR a0 b0 (a0 183)) (a 187) y2.toNat)) → (∀ i : Nat, i < y2.toNat → kR a0 b0 (a0 183) (a 187 i).toNat (a 187 y2.toNat).toNat = false) → jt (jxX E d 267 87 [some (.inr (.inr (.inl 146))), some (.inl y1), some (.inl y2)] [] (jxSH, a, b0)) (jQ_X12_ringsOf x1 a0 b0) := by
    intro y1 y2 a hm hv hf hi0 hi1 hi2 hi3 hy1 hi5 hi6 hi7 hrj hrc hnk
    refine jt_eq (bq_X12_ringsOf_87 E d y1 y2 a b0) ?_
    have h1301_ := iv_get hv (k := 146) (j := 56) (l := 0) (u := 12) rfl
    have h1302_ : a 146 56 = a0 146 56 := hf 146 56 rfl
    have h1303_ := iv_get hv0 (k := 146) (j := 56) (l := 0) (u := 12) rfl
    have i0 := iv_get hv (k := 187) (j := y2.toNat) (l := 0) (u := 12) rfl
    have i56 := iv_get hv (k := 146) (j := 56) (l := 0) (u := 12) rfl
    have i1 := iv_get hv (k := 187) (j := 1) (l := 0) (u := 12) rfl
    have i2 := iv_get hv (k := 187) (j := 2) (l := 0) (u := 12) rfl
    have i3 := iv_get hv (k := 187) (j := 3) (l := 0) (u := 12) rfl
    have i4 := iv_get hv (k := 187) (j := 4) (l := 0) (u := 12) rfl
    have hwv : jxw ((a 187 (y2.toNat)) + 1) = a 187 (y2.toNat) + 1 := jxw_id (by omega) (by omega)
    have hwp := wt_pos y2
    have hnn := jmu_nn (a := a) (n := y2) i1.2 i2.2 i3.2 i4.2
    have h56 : a 146 56 = a0 146 56 := hf 146 56 rfl
    have hcr := hrj.2.2.1
    have hroom := RJ87_room hrj (by omega) (by omega) (by omega) hp2
    have hrows := RJ87_rows hrj (by omega) (by omega) (by omega) (show jxw (y2 + 1) = y2 + 1 from jxw_id (by omega) (by omega))
    have hgk := gk_fr (b := b0) (b1 := b0) (funext fun j => hf 150 j rfl) (funext fun j => hf 178 j rfl) (funext fun j => hf 179 j rfl) (funext fun j => hf 180 j rfl) (funext fun j => hf 183 j rfl)
    have h187n : ∀ i, 0 ≤ a 187 i := fun i => (iv_get hv (k := 187) (j := i) (l := 0) (u := 12) rfl).1
    have hcl := rcls_R (a := a0) (b := b0) (f := a 187) (m := y2.toNat) (x := y1) (by omega) (by rw [hrj.1, show y1 = x1 from by omega]) (hnk 0 (by omega))
    rw [← hgk.2.2] at hcl
    refine jt_grd (by omega) ?_
    have h1304_ := iv_get hv (k := 187) (j := y2.toNat) (l := 0) (u := 12) rfl
    refine jt_eI (eq_X12_goesTo E d (jd_le hd rfl) (a 187 (y2.toNat)) y1 a b0 hv (show (0 ≤ a 187 (y2.toNat) ∧ a 187 (y2.toNat) < 12) from by omega) (show (0 ≤ y1 ∧ y1 < 12) from by omega)) ?_
    have h1305_ := f_X12_goesTo_bool a b0 (a 187 (y2.toNat)) y1
    refine jt_ite (fun c1306_ => ?_) (fun c1306_ => ?_)
    ·
      exact hc108 y1 y2 a (show ((jmu a y2) + (wt y2)).toNat ≤ n from by omega) hv hf (show 0 ≤ y1 from by omega) (show 1 ≤ y2 from by omega) (show y2 ≤ 4 from by omega) (show 1 ≤ a 146 56 from by omega) (by first | rfl | assumption) (show 1 ≤ y2 from by omega) (show y2 ≤ 4 from by omega) hi7 (by first | exact RJ87_108 hrj | exact RJ87_108n hrj (fun i => hf 187 i rfl) (hf 146 56 rfl) (by omega)) (RCD_fr hrc rfl (fun _ => rfl) (fun _ => rfl) (by rw [RGL_RTL, rone_no (fun z => (hcl.1 z) (by assumption)), List.nil_append]))
    ·
      have h1307_ : jxw (y2 + 1) = y2 + 1 := jxw_id (by omega) (by omega)
      have h1308_ := iv_get hv (k := 146) (j := 58) (l := 0) (u := 27000) rfl
      refine jt_bV (sp_X12_notes E d (jd_le hd rfl) (jxw (y2 + 1)) a b0 hv (show (2 ≤ jxw (y2 + 1) ∧ jxw (y2 + 1) ≤ 5) from by omega) (show a 146 58 ≤ 26999 from by omega) (by assumption) hi7) (fun a1309_ b1309_ h1309_ => ?_)
      obtain ⟨hv1309_, hf1309_, rfl, hq1309_0, hq1309_1, hq1309_2, hq1309_3⟩ := h1309_
      have h1310_ := iv_get hv1309_ (k := 146) (j := 58) (l := 0) (u := 27000) rfl
      have hjc1309 : jmu a1309_ y2 = jmu a y2 := jmu_congr (fun i => hf1309_ 187 i rfl)
      have hf1311_ : jfr jW_X12_ringsOf a0 a1309_ := jfr_tr hf hf1309_ rfl
      have h1312_ := iv_get hv1309_ (k := 146) (j := 56) (l := 0) (u := 12) rfl
      have h1313_ : a1309_ 146 56 = a 146 56 := hf1309_ 146 56 rfl
      exact hc108 y1 y2 a1309_ (show ((jmu a1309_ y2) + (wt y2)).toNat ≤ n from by omega) hv1309_ hf1311_ (show 0 ≤ y1 from by omega) (show 1 ≤ y2 from by omega) (show y2 ≤ 4 from by omega) (show 1 ≤ a1309_ 146 56 from by omega) (by first | rfl | assumption) (show 1 ≤ y2 from by omega) (show y2 ≤ 4 from by omega) hq1309_1 (by first | exact RJ87_108 hrj | exact RJ87_108n hrj (fun i => hf1309_ 187 i rfl) (hf1309_ 146 56 rfl) (by omega)) (by have q : RCD a0 b0 a x1.toNat ([PLR (a 187) (y2.toNat + 1)] ++ (RTL (a0 146 56).toNat (gR a0 b0 (a0 183)) (kR a0 b0 (a0 183)) (4 - y2.toNat) (PLR (a 187) (y2.toNat + 1)) ++ REMr (a0 146 56).toNat (gR a0 b0 (a0 183)) (kR a0 b0 (a0 183)) (a 187) y2.toNat)) := RCD_fr hrc rfl (fun _ => rfl) (fun _ => rfl) (by rw [RGL_RTL, rone_yes (hcl.2 (by assumption)), List.append_assoc]); have u4 := hq1309_2; have u5 := hq1309_3; rw [show (jxw (y2 + 1)).toNat = y2.toNat + 1 from by omega] at u4 u5; rw [show a1309_ 187 = a 187 from funext fun j => hf1309_ 187 j rfl]; exact RCD_note q (fun i _ => h187n i) (iv_get hv0 (k := 146) (j := 58) (l := 0) (u := 27000) rfl).1 (by omega) u4 u5)
  have hc49 : ∀ (y1 y2 : Int) (a : Nat → Nat → Int), ((jmu a y2) + (wt y2)).toNat ≤ n → iv a → jfr jW_X12_ringsOf a0 a → 0 ≤ y1 → 1 ≤ y2 → y2 ≤ 4 → 1 ≤ a 146 56 → (y1 = x1) → 1 ≤ y2 → y2 ≤ 4 → (RS a) → (RJ49 a0 a x1 y2) → (RCD a0 b0 a x1.toNat ((if rext (a0 146 56).toNat (gR a0 b0 (a0 183)) (kR a0 b0 (a0 183)) (PLR (a 187) y2.toNat) (a 187 y2.toNat).toNat = true then RGL (a0 146 56).toNat (gR a0 b0 (a0 183)) (kR a0 b0 (a0 183)) (4 - y2.toNat) (PLR (a 187) (y2.toNat + 1)) else []) ++ REMr (a0 146 56).toNat (gR a0 b0 (a0 183)) (kR a0 b0 (a0 183)) (a 187) y2.toNat)) → jt (jxX E d 267 49 [some (.inr (.inr (.inl 146))), some (.inl y1), some (.inl y2)] [] (jxSH, a, b0)) (jQ_X12_ringsOf x1 a0 b0) := by
    intro y1 y2 a hm hv hf hi0 hi1 hi2 hi3 hy1 hi5 hi6 hi7 hrj hrc
    refine jt_eq (bq_X12_ringsOf_49 E d y1 y2 a b0) ?_
    have h1314_ := iv_get hv (k := 146) (j := 56) (l := 0) (u := 12) rfl
    have h1315_ : a 146 56 = a0 146 56 := hf 146 56 rfl
    have h1316_ := iv_get hv0 (k := 146) (j := 56) (l := 0) (u := 12) rfl
    have i0 := iv_get hv (k := 187) (j := y2.toNat) (l := 0) (u := 12) rfl
    have i56 := iv_get hv (k := 146) (j := 56) (l := 0) (u := 12) rfl
    have i1 := iv_get hv (k := 187) (j := 1) (l := 0) (u := 12) rfl
    have i2 := iv_get hv (k := 187) (j := 2) (l := 0) (u := 12) rfl
    have i3 := iv_get hv (k := 187) (j := 3) (l := 0) (u := 12) rfl
    have i4 := iv_get hv (k := 187) (j := 4) (l := 0) (u := 12) rfl
    have hwv : jxw ((a 187 (y2.toNat)) + 1) = a 187 (y2.toNat) + 1 := jxw_id (by omega) (by omega)
    have hwp := wt_pos y2
    have hnn := jmu_nn (a := a) (n := y2) i1.2 i2.2 i3.2 i4.2
    have h56 : a 146 56 = a0 146 56 := hf 146 56 rfl
    have hbd := RJ49_bd hrj (by omega) (by omega) (by omega)
    have hcr := hrj.2.2.1
    have hrow : ∀ i : Nat, (i : Int) < y2 → a 187 i < 12 := hbd
    have hym : jxw (y2 - 1) = y2 - 1 := jxw_id (by omega) (by omega)
    have hprev := hbd ((jxw (y2 - 1)).toNat) (by omega)
    have hgk := gk_fr (b := b0) (b1 := b0) (funext fun j => hf 150 j rfl) (funext fun j => hf 178 j rfl) (funext fun j => hf 179 j rfl) (funext fun j => hf 180 j rfl) (funext fun j => hf 183 j rfl)
    have h187n : ∀ i, 0 ≤ a 187 i := fun i => (iv_get hv (k := 187) (j := i) (l := 0) (u := 12) rfl).1
    have hrx := rext_R (a := a0) (b := b0) (n := (a0 146 56).toNat) (f := a 187) (m := y2.toNat) (by omega) (fun i _ => h187n i) (by rw [hrj.1]; omega) (by have q := h187n y2.toNat; omega)
    have hym2 : (jxw (y2 - 1)).toNat = y2.toNat - 1 := by omega
    refine jt_grd (by omega) ?_
    have h1317_ := iv_get hv (k := 187) (j := y2.toNat) (l := 0) (u := 12) rfl
    refine jt_bI (sp_X12_mayJoin E d (jd_le hd rfl) y2 (a 187 (y2.toNat)) a b0 hv (show 0 ≤ y2 from by omega) (show y2 ≤ 4 from by omega) (show 0 ≤ a 187 (y2.toNat) from by omega) (show a 187 (y2.toNat) ≤ 11 from by omega) (by assumption)) (fun r1318_ a1318_ b1318_ h1318_ => ?_)
    obtain ⟨rfl, rfl, hq1318_0, hq1318_1, hq1318_2⟩ := h1318_
    have hno_ : r1318_ = 0 → (if rext (a0 146 56).toNat (gR a0 b0 (a0 183)) (kR a0 b0 (a0 183)) (PLR (a 187) y2.toNat) (a 187 y2.toNat).toNat = true then RGL (a0 146 56).toNat (gR a0 b0 (a0 183)) (kR a0 b0 (a0 183)) (4 - y2.toNat) (PLR (a 187) (y2.toNat + 1)) else []) ++ REMr (a0 146 56).toNat (gR a0 b0 (a0 183)) (kR a0 b0 (a0 183)) (a 187) y2.toNat = REMr (a0 146 56).toNat (gR a0 b0 (a0 183)) (kR a0 b0 (a0 183)) (a 187) y2.toNat := fun h => by
      obtain ⟨i, i1, i2⟩ := hq1318_2.2 h
      rw [hgk.1, show a 183 = a0 183 from funext fun j => hf 183 j rfl] at i2
      rw [if_neg (fun z => by have q := (hrx.1 z).1 i (by omega); rw [q] at i2; cases i2), List.nil_append]
    refine jt_ite (fun c1319_ => ?_) (fun c1319_ => ?_)
    ·
      exact ih16 y1 y2 a (show (jmu a y2).toNat < n from by omega) hv hf (show 0 ≤ y1 from by omega) (show 0 ≤ y2 from by omega) (show y2 ≤ 4 from by omega) (by first | rfl | assumption) (show 0 ≤ y2 from by omega) (show y2 ≤ 4 from by omega) hi7 (by first | exact RJ_start (by omega) (by omega) (by omega) | exact RJ49_16 hrj | assumption | exact RJ108_16 hrj (by omega) | (rw [hy1]; exact RJ108_push hrj (by omega) (jxw_id (by omega) (by omega)) (by omega) (by omega)) | (rw [show jxw (y2 + (-1)) = y2 - 1 from (by omega)]; exact hrj)) (RCD_fr hrc rfl (fun _ => rfl) (fun _ => rfl) (hno_ (by assumption)))
    ·
      have h1320_ : jxw (y2 - 1) = y2 - 1 := jxw_id (by omega) (by omega)
      refine jt_grd (by omega) ?_
      refine jt_grd (by omega) ?_
      have h1321_ := iv_get hv (k := 187) (j := (jxw (y2 - 1)).toNat) (l := 0) (u := 12) rfl
      refine jt_eI (eq_X12_goesTo E d (jd_le hd rfl) (a 187 ((jxw (y2 - 1)).toNat)) (a 187 (y2.toNat)) a b0 hv (show (0 ≤ a 187 ((jxw (y2 - 1)).toNat) ∧ a 187 ((jxw (y2 - 1)).toNat) < 12) from by omega) (show (0 ≤ a 187 (y2.toNat) ∧ a 187 (y2.toNat) < 12) from by omega)) ?_
      have h1322_ := f_X12_goesTo_bool a b0 (a 187 ((jxw (y2 - 1)).toNat)) (a 187 (y2.toNat))
      refine jt_ite (fun c1323_ => ?_) (fun c1323_ => ?_)
      ·
        exact hc84 y1 y2 a (show ((jmu a y2) + (wt y2)).toNat ≤ n from by omega) hv hf (show 0 ≤ y1 from by omega) (show 1 ≤ y2 from by omega) (show y2 ≤ 4 from by omega) (show 1 ≤ a 146 56 from by omega) (by first | rfl | assumption) (show 1 ≤ y2 from by omega) (show y2 ≤ 4 from by omega) hi7 (RJ87_16 (RJ49_87 hrj (hq1318_1 (by omega))) (by omega) (by omega)) (RCD_fr hrc rfl (fun _ => rfl) (fun _ => rfl) (by have hnk_ : ∀ i : Nat, i < y2.toNat → kR a0 b0 (a0 183) (a 187 i).toNat (a 187 y2.toNat).toNat = false := (fun i hi => by have q := hq1318_2.1 (by omega) i (by omega); rw [hgk.1, show a 183 = a0 183 from funext fun j => hf 183 j rfl] at q; exact q); rw [if_neg (fun z => by have q := ((hrx).1 z).2; rw [← hgk.2.2, ← hym2] at q; exact q (by assumption)), List.nil_append]))
      ·
        exact hc87 y1 y2 a (show ((jmu a y2) + (wt y2)).toNat ≤ n from by omega) hv hf (show 0 ≤ y1 from by omega) (show 1 ≤ y2 from by omega) (show y2 ≤ 4 from by omega) (show 1 ≤ a 146 56 from by omega) (by first | rfl | assumption) (show 1 ≤ y2 from by omega) (show y2 ≤ 4 from by omega) hi7 (RJ49_87 hrj (hq1318_1 (by omega))) (RCD_fr hrc rfl (fun _ => rfl) (fun _ => rfl) (by have hnk_ : ∀ i : Nat, i < y2.toNat → kR a0 b0 (a0 183) (a 187 i).toNat (a 187 y2.toNat).toNat = false := (fun i hi => by have q := hq1318_2.1 (by omega) i (by omega); rw [hgk.1, show a 183 = a0 183 from funext fun j => hf 183 j rfl] at q; exact q); rw [if_pos ((hrx).2 ⟨hnk_, by rw [← hgk.2.2, ← hym2]; assumption⟩)])) (by have hnk_ : ∀ i : Nat, i < y2.toNat → kR a0 b0 (a0 183) (a 187 i).toNat (a 187 y2.toNat).toNat = false := (fun i hi => by have q := hq1318_2.1 (by omega) i (by omega); rw [hgk.1, show a 183 = a0 183 from funext fun j => hf 183 j rfl] at q; exact q); exact hnk_)
  have hc16 : ∀ (y1 y2 : Int) (a : Nat → Nat → Int), (jmu a y2).toNat ≤ n → iv a → jfr jW_X12_ringsOf a0 a → 0 ≤ y1 → 0 ≤ y2 → y2 ≤ 4 → (y1 = x1) → 0 ≤ y2 → y2 ≤ 4 → (RS a) → (RJ a0 a x1 y2) → (RCD a0 b0 a x1.toNat (REMr (a0 146 56).toNat (gR a0 b0 (a0 183)) (kR a0 b0 (a0 183)) (a 187) y2.toNat)) → jt (jxX E d 267 16 [some (.inr (.inr (.inl 146))), some (.inl y1), some (.inl y2)] [] (jxSH, a, b0)) (jQ_X12_ringsOf x1 a0 b0) := by
    intro y1 y2 a hm hv hf hi0 hi1 hi2 hy1 hi4 hi5 hi6 hrj hrc
    refine jt_eq (bq_X12_ringsOf_16 E d y1 y2 a b0) ?_
    have i0 := iv_get hv (k := 187) (j := y2.toNat) (l := 0) (u := 12) rfl
    have i56 := iv_get hv (k := 146) (j := 56) (l := 0) (u := 12) rfl
    have i1 := iv_get hv (k := 187) (j := 1) (l := 0) (u := 12) rfl
    have i2 := iv_get hv (k := 187) (j := 2) (l := 0) (u := 12) rfl
    have i3 := iv_get hv (k := 187) (j := 3) (l := 0) (u := 12) rfl
    have i4 := iv_get hv (k := 187) (j := 4) (l := 0) (u := 12) rfl
    have hwv : jxw ((a 187 (y2.toNat)) + 1) = a 187 (y2.toNat) + 1 := jxw_id (by omega) (by omega)
    have hwp := wt_pos y2
    have hnn := jmu_nn (a := a) (n := y2) i1.2 i2.2 i3.2 i4.2
    have h56 : a 146 56 = a0 146 56 := hf 146 56 rfl
    have hjm : 1 ≤ y2 → jmu (jxu a 187 (y2.toNat) (jxw ((a 187 (y2.toNat)) + 1))) y2 + wt y2 = jmu a y2 := fun h => jmu_inc (by omega) hwv
    have hcur : 1 ≤ y2 → a 187 (y2.toNat) < a 146 56 := fun h => (hrj.2.2.1 h).2
    have hb58 : a 146 58 ≤ a0 146 58 + tot (a0 146 56 - 1 - x1) ∨ 1 ≤ y2 := by
      by_cases h : 1 ≤ y2
      · exact Or.inr h
      · left
        have h1 := hrj.2.2.2.2
        have e : y2 = 0 := by omega
        have e2 : jpot a x1 y2 = 0 := by rw [e]; simp [jpot, potI]
        unfold rbase at h1
        omega
    have hge := hrj.2.2.2.1
    have hgk := gk_fr (b := b0) (b1 := b0) (funext fun j => hf 150 j rfl) (funext fun j => hf 178 j rfl) (funext fun j => hf 179 j rfl) (funext fun j => hf 180 j rfl) (funext fun j => hf 183 j rfl)
    have h187n : ∀ i, 0 ≤ a 187 i := fun i => (iv_get hv (k := 187) (j := i) (l := 0) (u := 12) rfl).1
    refine jt_ite (fun c1324_ => ?_) (fun c1324_ => ?_)
    ·
      refine jt_grd (by omega) ?_
      refine jt_grd (by omega) ?_
      refine jt_grd (by omega) ?_
      have h1326_ := iv_get hv (k := 187) (j := y2.toNat) (l := 0) (u := 12) rfl
      have h1327_ : jxw ((a 187 (y2.toNat)) + 1) = (a 187 (y2.toNat)) + 1 := jxw_id (by omega) (by omega)
      have hv1325_ : iv (jxu a 187 (y2.toNat) (jxw ((a 187 (y2.toNat)) + 1))) := iv_put hv (l := 0) (u := 12) rfl (by omega) (by omega)
      have h1328_ := iv_get hv1325_ (k := 187) (j := y2.toNat) (l := 0) (u := 12) rfl
      have h1329_ := jxu_sp a 187 (y2.toNat) (jxw ((a 187 (y2.toNat)) + 1)) (y2.toNat)
      have h1330_ := iv_get hv (k := 146) (j := 56) (l := 0) (u := 12) rfl
      have h1331_ : a 146 56 = a0 146 56 := hf 146 56 rfl
      have h1332_ := iv_get hv0 (k := 146) (j := 56) (l := 0) (u := 12) rfl
      refine jt_ite (fun c1333_ => ?_) (fun c1333_ => ?_)
      ·
        have hf1334_ : jfr jW_X12_ringsOf a0 (jxu a 187 (y2.toNat) (jxw ((a 187 (y2.toNat)) + 1))) := jfr_put hf rfl
        have hg1335_ : RS (jxu a 187 (y2.toNat) (jxw ((a 187 (y2.toNat)) + 1))) := (RS_fr hi6 (jfr_1 a 187 (y2.toNat) (jxw ((a 187 (y2.toNat)) + 1))) rfl (fun _ => rfl) (fun _ => rfl))
        exact hc49 y1 y2 (jxu a 187 (y2.toNat) (jxw ((a 187 (y2.toNat)) + 1))) (show ((jmu (jxu a 187 (y2.toNat) (jxw ((a 187 (y2.toNat)) + 1))) y2) + (wt y2)).toNat ≤ n from by omega) hv1325_ hf1334_ (show 0 ≤ y1 from by omega) (show 1 ≤ y2 from by omega) (show y2 ≤ 4 from by omega) (show 1 ≤ a 146 56 from by omega) (by first | rfl | assumption) (show 1 ≤ y2 from by omega) (show y2 ≤ 4 from by omega) hg1335_ (RJ_49 hrj (by omega) (by omega) (by omega) hwv (by omega)) (RCD_fr hrc ((jxu_nk (by decide)).trans rfl) (fun j => jxu_nk (by decide)) (fun j => jxu_nk (by decide)) (REMr_in (by omega) (by have q := h187n y2.toNat; omega) (fun i hi => (jxu_nj (by omega)).symm) (by rw [jxu_at]; have q := h187n y2.toNat; omega)))
      ·
        have hf1336_ : jfr jW_X12_ringsOf a0 (jxu a 187 (y2.toNat) (jxw ((a 187 (y2.toNat)) + 1))) := jfr_put hf rfl
        have hg1337_ : RS (jxu a 187 (y2.toNat) (jxw ((a 187 (y2.toNat)) + 1))) := (RS_fr hi6 (jfr_1 a 187 (y2.toNat) (jxw ((a 187 (y2.toNat)) + 1))) rfl (fun _ => rfl) (fun _ => rfl))
        exact hc43 y1 y2 (jxu a 187 (y2.toNat) (jxw ((a 187 (y2.toNat)) + 1))) (show ((jmu (jxu a 187 (y2.toNat) (jxw ((a 187 (y2.toNat)) + 1))) y2) + 1).toNat ≤ n from by omega) hv1325_ hf1336_ (show 0 ≤ y1 from by omega) (show 1 ≤ y2 from by omega) (show y2 ≤ 4 from by omega) (by first | rfl | assumption) (show 1 ≤ y2 from by omega) (show y2 ≤ 4 from by omega) hg1337_ (RJ_43 hrj (by omega) (by omega) hwv (by omega)) (RCD_fr hrc ((jxu_nk (by decide)).trans rfl) (fun j => jxu_nk (by decide)) (fun j => jxu_nk (by decide)) (by rw [REMr_out (by omega) (by have q := h187n y2.toNat; omega)]; exact REMr_congr (fun i hi => (jxu_nj (by omega)).symm)))
    ·
      have h1338_ := iv_get hv0 (k := 146) (j := 58) (l := 0) (u := 27000) rfl
      have h1339_ := iv_get hv (k := 146) (j := 58) (l := 0) (u := 27000) rfl
      have h1340_ := iv_get hv0 (k := 146) (j := 56) (l := 0) (u := 12) rfl
      exact jt_rV ⟨hv, hf, rfl, hi6, (show a0 146 58 ≤ a 146 58 from by omega), (show a 146 58 ≤ (a0 146 58) + (tot (((a0 146 56) - 1) - x1)) from by omega), (by have q := hrc; rw [show y2.toNat = 0 from by omega] at q; exact q)⟩
  exact ⟨hc43, hc84, hc108, hc87, hc49, hc16⟩
theorem sp_X12_ringsOf (E : jxE) (d : Nat) (hd : Nat.ble 3 d = true) (x1 : Int) (a0 b0 : Nat → Nat → Int) (hv0 : iv a0) (hp0 : 0 ≤ x1) (hp1 : x1 < a0 146 56) (hp2 : rbase a0 x1 ≤ 27000) (hp3 : RS a0) : jt (jxC E d 267 [.inr (.inr (.inl 146)), .inl x1] (jxSH, a0, b0)) (jQ_X12_ringsOf x1 a0 b0) := by
  obtain ⟨d, rfl⟩ := jd_succ hd
  refine jt_eq (bq_X12_ringsOf E d x1 a0 b0) ?_
  have h1341_ := iv_get hv0 (k := 146) (j := 56) (l := 0) (u := 12) rfl
  have hv1342_ : iv (jxu a0 187 0 x1) := iv_put hv0 (l := 0) (u := 12) rfl (by omega) (by omega)
  have hv1343_ : iv (jxu (jxu a0 187 0 x1) 187 1 x1) := iv_put hv1342_ (l := 0) (u := 12) rfl (by omega) (by omega)
  have hf1344_ : jfr jW_X12_ringsOf a0 (jxu a0 187 0 x1) := jfr_put (jfr_rf _ _) rfl
  have hf1345_ : jfr jW_X12_ringsOf a0 (jxu (jxu a0 187 0 x1) 187 1 x1) := jfr_put hf1344_ rfl
  have hg1346_ : RS (jxu a0 187 0 x1) := (RS_fr hp3 (jfr_1 a0 187 0 x1) rfl (fun _ => rfl) (fun _ => rfl))
  have hg1347_ : RS (jxu (jxu a0 187 0 x1) 187 1 x1) := (RS_fr hg1346_ (jfr_1 (jxu a0 187 0 x1) 187 1 x1) rfl (fun _ => rfl) (fun _ => rfl))
  exact (cp_X12_ringsOf_16 E d hd x1 a0 b0 hv0 hp0 hp1 hp2 hp3 _).2.2.2.2.2 x1 1 (jxu (jxu a0 187 0 x1) 187 1 x1) (Nat.le_refl _) hv1343_ hf1345_ (show 0 ≤ x1 from by omega) (show 0 ≤ 1 from by omega) (show 1 ≤ 4 from by omega) (by first | rfl | assumption) (show 0 ≤ 1 from by omega) (show 1 ≤ 4 from by omega) hg1347_ (by first | exact RJ_start (by omega) (by omega) (by omega) | exact RJ49_16 hrj | assumption | exact RJ108_16 hrj (by omega) | (rw [hy1]; exact RJ108_push hrj (by omega) (jxw_id (by omega) (by omega)) (by omega) (by omega)) | (rw [show jxw (y2 + (-1)) = y2 - 1 from (by omega)]; exact hrj)) (RCD_0 ((jxu_nk (by decide)).trans (jxu_nk (by decide))) (fun j => (jxu_nk (by decide)).trans (jxu_nk (by decide))) (fun j => (jxu_nk (by decide)).trans (jxu_nk (by decide))) (REMr_0 (by rw [jxu_nj (by decide), jxu_at]) (by rw [jxu_at]) (by omega)).symm)
