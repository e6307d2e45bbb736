abbrev jQ_X12_sizeOf (x0 : Int) (a0 b0 : Nat → Nat → Int) : List jxV → (Nat → Nat → Int) → (Nat → Nat → Int) → Prop := rI (fun r a b => (a0 = a) ∧ (b0 = b) ∧ ((0 ≤ r ∧ r ≤ 12)) ∧ (r = pc x0))
theorem cp_X12_sizeOf_4 (E : jxE) (d : Nat) (hd : Nat.ble 1 (d + 1) = true) (x0 : Int) (a0 b0 : Nat → Nat → Int) (hv0 : iv a0) : ∀ n : Nat, (∀ (y0 y1 y2 : Int), (((12 - y2) * 1) + 0).toNat ≤ n → 0 ≤ y1 → y1 ≤ 12 → 0 ≤ y2 → y2 ≤ 12 → (y0 = x0) → 0 ≤ y1 → y1 ≤ y2 → (y1 = pcn x0 y2.toNat) → jt (jxX E d 268 4 [some (.inl y0), some (.inl y1), some (.inl y2)] [] (jxSH, a0, b0)) (jQ_X12_sizeOf x0 a0 b0)) := by
  refine jx_ind fun n ih => ?_
  have ih4 : ∀ (y0 y1 y2 : Int), (((12 - y2) * 1) + 0).toNat < n → 0 ≤ y1 → y1 ≤ 12 → 0 ≤ y2 → y2 ≤ 12 → (y0 = x0) → 0 ≤ y1 → y1 ≤ y2 → (y1 = pcn x0 y2.toNat) → jt (jxX E d 268 4 [some (.inl y0), some (.inl y1), some (.inl y2)] [] (jxSH, a0, b0)) (jQ_X12_sizeOf x0 a0 b0) := fun y0 y1 y2 hlt i0 i1 i2 i3 i4 i5 i6 i7 => (ih _ hlt) y0 y1 y2 (Nat.le_refl _) i0 i1 i2 i3 i4 i5 i6 i7
  have hc4 : ∀ (y0 y1 y2 : Int), (((12 - y2) * 1) + 0).toNat ≤ n → 0 ≤ y1 → y1 ≤ 12 → 0 ≤ y2 → y2 ≤ 12 → (y0 = x0) → 0 ≤ y1 → y1 ≤ y2 → (y1 = pcn x0 y2.toNat) → jt (jxX E d 268 4 [some (.inl y0), some (.inl y1), some (.inl y2)] [] (jxSH, a0, b0)) (jQ_X12_sizeOf x0 a0 b0) := by
    intro y0 y1 y2 hm hi0 hi1 hi2 hi3 hy0 hi5 hi6 hi7
    refine jt_eq (bq_X12_sizeOf_4 E d y0 y1 y2 a0 b0) ?_
    have hst : pcn x0 (y2.toNat + 1) = pcn x0 y2.toNat + jxand (jxshr y0 y2) 1 := by show _ + jxand (jxshr x0 ((y2.toNat : Nat) : Int)) 1 = _; rw [Int.toNat_of_nonneg (by omega), hy0]
    have h12 : y2 = 12 → pcn x0 y2.toNat = pc x0 := fun h => by rw [h]; rfl
    refine jt_ite (fun c1_ => ?_) (fun c1_ => ?_)
    ·
      have h2_ := jxshr_b y0 y2
      have h3_ := jxand_r (jxshr y0 y2) 1 (by decide) (by decide)
      have h4_ : jxw (y1 + (jxand (jxshr y0 y2) 1)) = y1 + (jxand (jxshr y0 y2) 1) := jxw_id (by omega) (by omega)
      have h5_ : jxw (y2 + 1) = y2 + 1 := jxw_id (by omega) (by omega)
      exact ih4 y0 (jxw (y1 + (jxand (jxshr y0 y2) 1))) (jxw (y2 + 1)) (show (((12 - (jxw (y2 + 1))) * 1) + 0).toNat < n from by omega) (show 0 ≤ jxw (y1 + (jxand (jxshr y0 y2) 1)) from by omega) (show jxw (y1 + (jxand (jxshr y0 y2) 1)) ≤ 12 from by omega) (show 0 ≤ jxw (y2 + 1) from by omega) (show jxw (y2 + 1) ≤ 12 from by omega) (by first | rfl | assumption) (show 0 ≤ jxw (y1 + (jxand (jxshr y0 y2) 1)) from by omega) (show jxw (y1 + (jxand (jxshr y0 y2) 1)) ≤ jxw (y2 + 1) from by omega) (by first | rfl | (rw [show (jxw (y2 + 1)).toNat = y2.toNat + 1 from (by omega), hst]; omega))
    ·
      have h6_ := pc_bd x0
      exact jt_rI ⟨rfl, rfl, (show (0 ≤ y1 ∧ y1 ≤ 12) from by omega), (show y1 = pc x0 from by omega)⟩
  exact hc4
theorem sp_X12_sizeOf (E : jxE) (d : Nat) (hd : Nat.ble 1 d = true) (x0 : Int) (a0 b0 : Nat → Nat → Int) (hv0 : iv a0) : jt (jxC E d 268 [.inl x0] (jxSH, a0, b0)) (jQ_X12_sizeOf x0 a0 b0) := by
  obtain ⟨d, rfl⟩ := jd_succ hd
  refine jt_eq (bq_X12_sizeOf E d x0 a0 b0) ?_
  exact (cp_X12_sizeOf_4 E d hd x0 a0 b0 hv0 _) x0 0 0 (Nat.le_refl _) (show 0 ≤ 0 from by omega) (show 0 ≤ 12 from by omega) (show 0 ≤ 0 from by omega) (show 0 ≤ 12 from by omega) (by first | rfl | assumption) (show 0 ≤ 0 from by omega) (show 0 ≤ 0 from by omega) (by first | rfl | (rw [show (jxw (y2 + 1)).toNat = y2.toNat + 1 from (by omega), hst]; omega))
abbrev jQ_X12_withRing (x1 x2 : Int) (a0 b0 : Nat → Nat → Int) : List jxV → (Nat → Nat → Int) → (Nat → Nat → Int) → Prop := rI (fun r a b => (a0 = a) ∧ (b0 = b))
theorem sp_X12_withRing (E : jxE) (d : Nat) (hd : Nat.ble 2 d = true) (x1 x2 : Int) (a0 b0 : Nat → Nat → Int) (hv0 : iv a0) (hp0 : (0 ≤ x1 ∧ x1 ≤ 4095)) (hp1 : (0 ≤ x2 ∧ x2 ≤ 26999)) : jt (jxC E d 270 [.inr (.inr (.inl 146)), .inl x1, .inl x2] (jxSH, a0, b0)) (jQ_X12_withRing x1 x2 a0 b0) := by
  obtain ⟨d, rfl⟩ := jd_succ hd
  refine jt_eq (bq_X12_withRing E d x1 x2 a0 b0) ?_
  refine jt_grd (by omega) ?_
  refine jt_bI (sp_X12_sizeOf E d (jd_le hd rfl) (a0 184 (x2.toNat)) a0 b0 hv0) (fun r7_ a7_ b7_ h7_ => ?_)
  obtain ⟨rfl, rfl, hq7_0, hq7_1⟩ := h7_
  have h8_ := iv_get hv0 (k := 184) (j := x2.toNat) (l := 0) (u := 4095) rfl
  have h9_ := pc_bd (a0 184 (x2.toNat))
  refine jt_grd (by omega) ?_
  have h10_ := jxxor_b x1 (a0 184 (x2.toNat))
  refine jt_grd (by omega) ?_
  exact jt_rI ⟨rfl, rfl⟩
abbrev jQ_X12_mayJoin (x1 x2 : Int) (a0 b0 : Nat → Nat → Int) : List jxV → (Nat → Nat → Int) → (Nat → Nat → Int) → Prop := rI (fun r a b => (a0 = a) ∧ (b0 = b) ∧ ((0 ≤ r ∧ r ≤ 1)) ∧ (r = 1 → ∀ i : Nat, (i : Int) < x1 → ¬ a0 187 i = x2))
theorem cp_X12_mayJoin_51 (E : jxE) (d : Nat) (hd : Nat.ble 2 (d + 1) = true) (x1 x2 : Int) (a0 b0 : Nat → Nat → Int) (hv0 : iv a0) (hp0 : 0 ≤ x1) (hp1 : x1 ≤ 4) (hp2 : 0 ≤ x2) (hp3 : x2 ≤ 11) (hp4 : ∀ i : Nat, (i : Int) < x1 → a0 187 i < 12) : jt (jxX E d 265 51 [none, none, none, none] [] (jxSH, a0, b0)) (jQ_X12_mayJoin x1 x2 a0 b0) := by
  refine jt_eq (bq_X12_mayJoin_51 E d a0 b0) ?_
  exact jt_rI ⟨rfl, rfl, (show (0 ≤ 0 ∧ 0 ≤ 1) from by omega), (by first | (intro _ i hi; exact hnj i (by omega)) | (intro h; omega))⟩
theorem cp_X12_mayJoin_2 (E : jxE) (d : Nat) (hd : Nat.ble 2 (d + 1) = true) (x1 x2 : Int) (a0 b0 : Nat → Nat → Int) (hv0 : iv a0) (hp0 : 0 ≤ x1) (hp1 : x1 ≤ 4) (hp2 : 0 ≤ x2) (hp3 : x2 ≤ 11) (hp4 : ∀ i : Nat, (i : Int) < x1 → a0 187 i < 12) : ∀ n : Nat, (∀ (y1 y2 y3 : Int), (((4 - y3) * 1) + 0).toNat ≤ n → 1 ≤ y1 → y1 ≤ 4 → 0 ≤ y2 → y2 ≤ 11 → 0 ≤ y3 → y3 ≤ 3 → y1 = x1 → y2 = x2 → (∀ i : Nat, (i : Int) ≤ y3 → ¬ a0 187 i = x2) → jt (jxX E d 265 53 [some (.inr (.inr (.inl 146))), some (.inl y1), some (.inl y2), some (.inl y3)] [] (jxSH, a0, b0)) (jQ_X12_mayJoin x1 x2 a0 b0)) ∧ (∀ (y1 y2 y3 : Int), (((4 - y3) * 1) + 0).toNat ≤ n → 0 ≤ y1 → y1 ≤ 4 → 0 ≤ y2 → y2 ≤ 11 → 0 ≤ y3 → y3 ≤ 4 → y1 = x1 → y2 = x2 → (∀ i : Nat, (i : Int) < y3 → ¬ a0 187 i = x2) → jt (jxX E d 265 2 [some (.inr (.inr (.inl 146))), some (.inl y1), some (.inl y2), some (.inl y3)] [] (jxSH, a0, b0)) (jQ_X12_mayJoin x1 x2 a0 b0)) := by
  refine jx_ind fun n ih => ?_
  have ih53 : ∀ (y1 y2 y3 : Int), (((4 - y3) * 1) + 0).toNat < n → 1 ≤ y1 → y1 ≤ 4 → 0 ≤ y2 → y2 ≤ 11 → 0 ≤ y3 → y3 ≤ 3 → y1 = x1 → y2 = x2 → (∀ i : Nat, (i : Int) ≤ y3 → ¬ a0 187 i = x2) → jt (jxX E d 265 53 [some (.inr (.inr (.inl 146))), some (.inl y1), some (.inl y2), some (.inl y3)] [] (jxSH, a0, b0)) (jQ_X12_mayJoin x1 x2 a0 b0) := fun y1 y2 y3 hlt i0 i1 i2 i3 i4 i5 i6 i7 i8 => (ih _ hlt).1 y1 y2 y3 (Nat.le_refl _) i0 i1 i2 i3 i4 i5 i6 i7 i8
  have ih2 : ∀ (y1 y2 y3 : Int), (((4 - y3) * 1) + 0).toNat < n → 0 ≤ y1 → y1 ≤ 4 → 0 ≤ y2 → y2 ≤ 11 → 0 ≤ y3 → y3 ≤ 4 → y1 = x1 → y2 = x2 → (∀ i : Nat, (i : Int) < y3 → ¬ a0 187 i = x2) → jt (jxX E d 265 2 [some (.inr (.inr (.inl 146))), some (.inl y1), some (.inl y2), some (.inl y3)] [] (jxSH, a0, b0)) (jQ_X12_mayJoin x1 x2 a0 b0) := fun y1 y2 y3 hlt i0 i1 i2 i3 i4 i5 i6 i7 i8 => (ih _ hlt).2 y1 y2 y3 (Nat.le_refl _) i0 i1 i2 i3 i4 i5 i6 i7 i8
  have hc53 : ∀ (y1 y2 y3 : Int), (((4 - y3) * 1) + 0).toNat ≤ n → 1 ≤ y1 → y1 ≤ 4 → 0 ≤ y2 → y2 ≤ 11 → 0 ≤ y3 → y3 ≤ 3 → y1 = x1 → y2 = x2 → (∀ i : Nat, (i : Int) ≤ y3 → ¬ a0 187 i = x2) → jt (jxX E d 265 53 [some (.inr (.inr (.inl 146))), some (.inl y1), some (.inl y2), some (.inl y3)] [] (jxSH, a0, b0)) (jQ_X12_mayJoin x1 x2 a0 b0) := by
    intro y1 y2 y3 hm hi0 hi1 hi2 hi3 hi4 hi5 hi6 hi7 hnj
    refine jt_eq (bq_X12_mayJoin_53 E d y1 y2 y3 a0 b0) ?_
    have h11_ : jxw (y3 + 1) = y3 + 1 := jxw_id (by omega) (by omega)
    exact ih2 y1 y2 (jxw (y3 + 1)) (show (((4 - (jxw (y3 + 1))) * 1) + 0).toNat < n from by omega) (show 0 ≤ y1 from by omega) (show y1 ≤ 4 from by omega) (show 0 ≤ y2 from by omega) (show y2 ≤ 11 from by omega) (show 0 ≤ jxw (y3 + 1) from by omega) (show jxw (y3 + 1) ≤ 4 from by omega) (show y1 = x1 from by omega) (show y2 = x2 from by omega) (by first | (intro i hi; exact hnj i (by omega)) | (intro i hi; omega))
  have hc2 : ∀ (y1 y2 y3 : Int), (((4 - y3) * 1) + 0).toNat ≤ n → 0 ≤ y1 → y1 ≤ 4 → 0 ≤ y2 → y2 ≤ 11 → 0 ≤ y3 → y3 ≤ 4 → y1 = x1 → y2 = x2 → (∀ i : Nat, (i : Int) < y3 → ¬ a0 187 i = x2) → jt (jxX E d 265 2 [some (.inr (.inr (.inl 146))), some (.inl y1), some (.inl y2), some (.inl y3)] [] (jxSH, a0, b0)) (jQ_X12_mayJoin x1 x2 a0 b0) := by
    intro y1 y2 y3 hm hi0 hi1 hi2 hi3 hi4 hi5 hi6 hi7 hnj
    refine jt_eq (bq_X12_mayJoin_2 E d y1 y2 y3 a0 b0) ?_
    have h187 : y3 < y1 → a0 187 (y3.toNat) < 12 := fun h => hp4 y3.toNat (by omega)
    refine jt_ite (fun c12_ => ?_) (fun c12_ => ?_)
    ·
      refine jt_grd (by omega) ?_
      have h13_ := iv_get hv0 (k := 187) (j := y3.toNat) (l := 0) (u := 12) rfl
      refine jt_ite (fun c14_ => ?_) (fun c14_ => ?_)
      ·
        exact cp_X12_mayJoin_51 E d hd x1 x2 a0 b0 hv0 hp0 hp1 hp2 hp3 hp4
      ·
        refine jt_grd (by omega) ?_
        refine jt_grd (by omega) ?_
        have h15_ := iv_get hv0 (k := 183) (j := (a0 187 (y3.toNat)).toNat) (l := 0) (u := 19) rfl
        refine jt_grd (by omega) ?_
        refine jt_grd (by omega) ?_
        have h16_ := iv_get hv0 (k := 183) (j := y2.toNat) (l := 0) (u := 19) rfl
        refine jt_grd (by omega) ?_
        have h17_ := iv_get hv0 (k := 178) (j := (a0 183 ((a0 187 (y3.toNat)).toNat)).toNat) (l := 0) (u := 39) rfl
        have h18_ := iv_get hv0 (k := 178) (j := (a0 183 (y2.toNat)).toNat) (l := 0) (u := 39) rfl
        refine jt_eI (eq_X12_isKin E d (jd_le hd rfl) (a0 178 ((a0 183 ((a0 187 (y3.toNat)).toNat)).toNat)) (a0 178 ((a0 183 (y2.toNat)).toNat)) a0 b0 (show (0 ≤ a0 178 ((a0 183 ((a0 187 (y3.toNat)).toNat)).toNat) ∧ a0 178 ((a0 183 ((a0 187 (y3.toNat)).toNat)).toNat) < 40) from by omega) (show (0 ≤ a0 178 ((a0 183 (y2.toNat)).toNat) ∧ a0 178 ((a0 183 (y2.toNat)).toNat) < 40) from by omega)) ?_
        have h19_ := f_X12_isKin_bool a0 b0 (a0 178 ((a0 183 ((a0 187 (y3.toNat)).toNat)).toNat)) (a0 178 ((a0 183 (y2.toNat)).toNat))
        refine jt_ite (fun c20_ => ?_) (fun c20_ => ?_)
        ·
          exact hc53 y1 y2 y3 (show (((4 - y3) * 1) + 0).toNat ≤ n from by omega) (show 1 ≤ y1 from by omega) (show y1 ≤ 4 from by omega) (show 0 ≤ y2 from by omega) (show y2 ≤ 11 from by omega) (show 0 ≤ y3 from by omega) (show y3 ≤ 3 from by omega) (show y1 = x1 from by omega) (show y2 = x2 from by omega) (by intro i hi hh; rcases Int.lt_or_le (i : Int) y3 with h | h <;> first | exact hnj i h hh | (obtain rfl : i = y3.toNat := (by omega); omega))
        ·
          exact cp_X12_mayJoin_51 E d hd x1 x2 a0 b0 hv0 hp0 hp1 hp2 hp3 hp4
    ·
      exact jt_rI ⟨rfl, rfl, (show (0 ≤ 1 ∧ 1 ≤ 1) from by omega), (by first | (intro _ i hi; exact hnj i (by omega)) | (intro h; omega))⟩
  exact ⟨hc53, hc2⟩
theorem sp_X12_mayJoin (E : jxE) (d : Nat) (hd : Nat.ble 2 d = true) (x1 x2 : Int) (a0 b0 : Nat → Nat → Int) (hv0 : iv a0) (hp0 : 0 ≤ x1) (hp1 : x1 ≤ 4) (hp2 : 0 ≤ x2) (hp3 : x2 ≤ 11) (hp4 : ∀ i : Nat, (i : Int) < x1 → a0 187 i < 12) : jt (jxC E d 265 [.inr (.inr (.inl 146)), .inl x1, .inl x2] (jxSH, a0, b0)) (jQ_X12_mayJoin x1 x2 a0 b0) := by
  obtain ⟨d, rfl⟩ := jd_succ hd
  refine jt_eq (bq_X12_mayJoin E d x1 x2 a0 b0) ?_
  exact (cp_X12_mayJoin_2 E d hd x1 x2 a0 b0 hv0 hp0 hp1 hp2 hp3 hp4 _).2 x1 x2 0 (Nat.le_refl _) (show 0 ≤ x1 from by omega) (show x1 ≤ 4 from by omega) (show 0 ≤ x2 from by omega) (show x2 ≤ 11 from by omega) (show 0 ≤ 0 from by omega) (show 0 ≤ 4 from by omega) (show x1 = x1 from by omega) (show x2 = x2 from by omega) (by first | (intro i hi; exact hnj i (by omega)) | (intro i hi; omega))
def jWe : List (Nat × Nat) := []
def jW_X12_notes : List (Nat × Nat) := [(146, 58), (184, 9999), (185, 9999)]
abbrev jQ_X12_notes (x1 : Int) (a0 b0 : Nat → Nat → Int) : List jxV → (Nat → Nat → Int) → (Nat → Nat → Int) → Prop := rV (fun a b => (iv a) ∧ (jfr jW_X12_notes a0 a) ∧ (b0 = b) ∧ (a 146 58 = (a0 146 58) + 1) ∧ (RS a))
theorem cp_X12_notes_66 (E : jxE) (d : Nat) (hd : Nat.ble 1 (d + 1) = true) (x1 : Int) (a0 b0 : Nat → Nat → Int) (hv0 : iv a0) (hp0 : (2 ≤ x1 ∧ x1 ≤ 5)) (hp1 : a0 146 58 ≤ 26999) (hp2 : ROWS a0 x1) (hp3 : RS a0) : ∀ (a : Nat → Nat → Int), iv a → jfr jW_X12_notes a0 a → a 146 58 = a0 146 58 → (RS1 a0 a) → jt (jxX E d 266 66 [some (.inr (.inr (.inl 146))), none, none, none, none] [] (jxSH, a, b0)) (jQ_X12_notes x1 a0 b0) := by
  intro a hv hf hi0 hi1
  refine jt_eq (bq_X12_notes_66 E d a b0) ?_
  have h21_ := iv_get hv (k := 146) (j := 58) (l := 0) (u := 27000) rfl
  have h22_ := iv_get hv0 (k := 146) (j := 58) (l := 0) (u := 27000) rfl
  have h24_ : jxw ((a 146 58) + 1) = (a 146 58) + 1 := jxw_id (by omega) (by omega)
  have hv23_ : iv (jxu a 146 58 (jxw ((a 146 58) + 1))) := iv_put hv (l := 0) (u := 27000) rfl (by omega) (by omega)
  have hf25_ : jfr jW_X12_notes a0 (jxu a 146 58 (jxw ((a 146 58) + 1))) := jfr_put hf rfl
  exact jt_rV ⟨hv23_, hf25_, rfl, (show jxw ((a 146 58) + 1) = (a0 146 58) + 1 from by omega), (RS_done hp3 (by assumption) (by omega) (by omega))⟩
theorem cp_X12_notes_7 (E : jxE) (d : Nat) (hd : Nat.ble 1 (d + 1) = true) (x1 : Int) (a0 b0 : Nat → Nat → Int) (hv0 : iv a0) (hp0 : (2 ≤ x1 ∧ x1 ≤ 5)) (hp1 : a0 146 58 ≤ 26999) (hp2 : ROWS a0 x1) (hp3 : RS a0) : ∀ n : Nat, (∀ (y1 y2 y3 y4 : Int) (a : Nat → Nat → Int), (((5 - y4) * 1) + 0).toNat ≤ n → iv a → jfr jW_X12_notes a0 a → 2 ≤ y1 → y1 ≤ 5 → 0 ≤ y4 → y4 ≤ 4 → (y1 = x1) → 0 ≤ y2 → y2 ≤ 4095 → 0 ≤ y4 → y4 < y1 → pc y2 = y4 + 1 → a 146 58 = a0 146 58 → (∀ j : Nat, j < 12 → ¬ jxand (jxshr y2 j) 1 = 0 → ∃ i : Nat, (i : Int) ≤ y4 ∧ a0 187 i = j) → (y3 = nbv (a0 187) (y4.toNat + 1)) → (jfr jWe a0 a) → jt (jxX E d 266 40 [some (.inr (.inr (.inl 146))), some (.inl y1), some (.inl y2), some (.inl y3), some (.inl y4)] [] (jxSH, a, b0)) (jQ_X12_notes x1 a0 b0)) ∧ (∀ (y1 y2 y3 y4 : Int) (a : Nat → Nat → Int), (((5 - y4) * 1) + 0).toNat ≤ n → iv a → jfr jW_X12_notes a0 a → 2 ≤ y1 → y1 ≤ 5 → 0 ≤ y4 → y4 ≤ 5 → (y1 = x1) → 0 ≤ y2 → y2 ≤ 4095 → 0 ≤ y4 → y4 ≤ y1 → pc y2 = y4 → a 146 58 = a0 146 58 → (∀ j : Nat, j < 12 → ¬ jxand (jxshr y2 j) 1 = 0 → ∃ i : Nat, (i : Int) < y4 ∧ a0 187 i = j) → (y3 = nbv (a0 187) y4.toNat) → (jfr jWe a0 a) → jt (jxX E d 266 7 [some (.inr (.inr (.inl 146))), some (.inl y1), some (.inl y2), some (.inl y3), some (.inl y4)] [] (jxSH, a, b0)) (jQ_X12_notes x1 a0 b0)) := by
  refine jx_ind fun n ih => ?_
  have ih40 : ∀ (y1 y2 y3 y4 : Int) (a : Nat → Nat → Int), (((5 - y4) * 1) + 0).toNat < n → iv a → jfr jW_X12_notes a0 a → 2 ≤ y1 → y1 ≤ 5 → 0 ≤ y4 → y4 ≤ 4 → (y1 = x1) → 0 ≤ y2 → y2 ≤ 4095 → 0 ≤ y4 → y4 < y1 → pc y2 = y4 + 1 → a 146 58 = a0 146 58 → (∀ j : Nat, j < 12 → ¬ jxand (jxshr y2 j) 1 = 0 → ∃ i : Nat, (i : Int) ≤ y4 ∧ a0 187 i = j) → (y3 = nbv (a0 187) (y4.toNat + 1)) → (jfr jWe a0 a) → jt (jxX E d 266 40 [some (.inr (.inr (.inl 146))), some (.inl y1), some (.inl y2), some (.inl y3), some (.inl y4)] [] (jxSH, a, b0)) (jQ_X12_notes x1 a0 b0) := fun y1 y2 y3 y4 a hlt i0 i1 i2 i3 i4 i5 i6 i7 i8 i9 i10 i11 i12 i13 i14 i15 => (ih _ hlt).1 y1 y2 y3 y4 a (Nat.le_refl _) i0 i1 i2 i3 i4 i5 i6 i7 i8 i9 i10 i11 i12 i13 i14 i15
  have ih7 : ∀ (y1 y2 y3 y4 : Int) (a : Nat → Nat → Int), (((5 - y4) * 1) + 0).toNat < n → iv a → jfr jW_X12_notes a0 a → 2 ≤ y1 → y1 ≤ 5 → 0 ≤ y4 → y4 ≤ 5 → (y1 = x1) → 0 ≤ y2 → y2 ≤ 4095 → 0 ≤ y4 → y4 ≤ y1 → pc y2 = y4 → a 146 58 = a0 146 58 → (∀ j : Nat, j < 12 → ¬ jxand (jxshr y2 j) 1 = 0 → ∃ i : Nat, (i : Int) < y4 ∧ a0 187 i = j) → (y3 = nbv (a0 187) y4.toNat) → (jfr jWe a0 a) → jt (jxX E d 266 7 [some (.inr (.inr (.inl 146))), some (.inl y1), some (.inl y2), some (.inl y3), some (.inl y4)] [] (jxSH, a, b0)) (jQ_X12_notes x1 a0 b0) := fun y1 y2 y3 y4 a hlt i0 i1 i2 i3 i4 i5 i6 i7 i8 i9 i10 i11 i12 i13 i14 i15 => (ih _ hlt).2 y1 y2 y3 y4 a (Nat.le_refl _) i0 i1 i2 i3 i4 i5 i6 i7 i8 i9 i10 i11 i12 i13 i14 i15
  have hc40 : ∀ (y1 y2 y3 y4 : Int) (a : Nat → Nat → Int), (((5 - y4) * 1) + 0).toNat ≤ n → iv a → jfr jW_X12_notes a0 a → 2 ≤ y1 → y1 ≤ 5 → 0 ≤ y4 → y4 ≤ 4 → (y1 = x1) → 0 ≤ y2 → y2 ≤ 4095 → 0 ≤ y4 → y4 < y1 → pc y2 = y4 + 1 → a 146 58 = a0 146 58 → (∀ j : Nat, j < 12 → ¬ jxand (jxshr y2 j) 1 = 0 → ∃ i : Nat, (i : Int) ≤ y4 ∧ a0 187 i = j) → (y3 = nbv (a0 187) (y4.toNat + 1)) → (jfr jWe a0 a) → jt (jxX E d 266 40 [some (.inr (.inr (.inl 146))), some (.inl y1), some (.inl y2), some (.inl y3), some (.inl y4)] [] (jxSH, a, b0)) (jQ_X12_notes x1 a0 b0) := by
    intro y1 y2 y3 y4 a hm hv hf hi0 hi1 hi2 hi3 hy1 hi5 hi6 hi7 hi8 hi9 hi10 hbits hnv hfe
    refine jt_eq (bq_X12_notes_40 E d y1 y2 y3 y4 a b0) ?_
    have h26_ := pc_bd y2
    have h27_ := iv_get hv (k := 146) (j := 58) (l := 0) (u := 27000) rfl
    have h28_ := iv_get hv0 (k := 146) (j := 58) (l := 0) (u := 27000) rfl
    have h29_ : jxw (y4 + 1) = y4 + 1 := jxw_id (by omega) (by omega)
    exact ih7 y1 y2 y3 (jxw (y4 + 1)) a (show (((5 - (jxw (y4 + 1))) * 1) + 0).toNat < n from by omega) hv hf (show 2 ≤ y1 from by omega) (show y1 ≤ 5 from by omega) (show 0 ≤ jxw (y4 + 1) from by omega) (show jxw (y4 + 1) ≤ 5 from by omega) (by first | rfl | assumption) (show 0 ≤ y2 from by omega) (show y2 ≤ 4095 from by omega) (show 0 ≤ jxw (y4 + 1) from by omega) (show jxw (y4 + 1) ≤ y1 from by omega) (show pc y2 = jxw (y4 + 1) from by omega) (show a 146 58 = a0 146 58 from by omega) (by first | (intro j hj h; exact absurd (bit0 j hj) h) | (intro j hj h; obtain ⟨i, h1, h2⟩ := hbits j hj h; exact ⟨i, by omega, h2⟩)) (by first | rfl | (rw [show (jxw (y4 + 1)).toNat = y4.toNat + 1 from (by omega)]; exact hnv)) hfe
  have hc7 : ∀ (y1 y2 y3 y4 : Int) (a : Nat → Nat → Int), (((5 - y4) * 1) + 0).toNat ≤ n → iv a → jfr jW_X12_notes a0 a → 2 ≤ y1 → y1 ≤ 5 → 0 ≤ y4 → y4 ≤ 5 → (y1 = x1) → 0 ≤ y2 → y2 ≤ 4095 → 0 ≤ y4 → y4 ≤ y1 → pc y2 = y4 → a 146 58 = a0 146 58 → (∀ j : Nat, j < 12 → ¬ jxand (jxshr y2 j) 1 = 0 → ∃ i : Nat, (i : Int) < y4 ∧ a0 187 i = j) → (y3 = nbv (a0 187) y4.toNat) → (jfr jWe a0 a) → jt (jxX E d 266 7 [some (.inr (.inr (.inl 146))), some (.inl y1), some (.inl y2), some (.inl y3), some (.inl y4)] [] (jxSH, a, b0)) (jQ_X12_notes x1 a0 b0) := by
    intro y1 y2 y3 y4 a hm hv hf hi0 hi1 hi2 hi3 hy1 hi5 hi6 hi7 hi8 hi9 hi10 hbits hnv hfe
    refine jt_eq (bq_X12_notes_7 E d y1 y2 y3 y4 a b0) ?_
    have h30_ := pc_bd y2
    have h31_ := iv_get hv (k := 146) (j := 58) (l := 0) (u := 27000) rfl
    have h32_ := iv_get hv0 (k := 146) (j := 58) (l := 0) (u := 27000) rfl
    have h187 : a 187 (y4.toNat) = a0 187 (y4.toNat) := hf 187 _ rfl
    have hpc0 : pc 0 = 0 := by decide +kernel
    have hset : y4 < y1 → _ := fun h => notes_set hp2 (y2 := y2) (y4 := y4) (by omega) (by omega) (by omega) (by omega) hbits
    have hall : y4 < y1 → _ := fun h => notes_all hp2 (y3 := y3) (y4 := y4) (by omega) (by omega) (by omega) hnv
    have hro : y4 < y1 → _ := fun h => hp2 y4.toNat (by omega)
    have hset1 : y4 < y1 → pc (jxor y2 (jxshl 1 (a 187 (y4.toNat)))) = pc y2 + 1 := fun h => by rw [h187]; exact (hset h).1
    refine jt_ite (fun c33_ => ?_) (fun c33_ => ?_)
    ·
      refine jt_grd (by omega) ?_
      refine jt_grd (by omega) ?_
      have h34_ := iv_get hv (k := 187) (j := y4.toNat) (l := 0) (u := 12) rfl
      have h35_ : a 187 (y4.toNat) = a0 187 (y4.toNat) := hf 187 (y4.toNat) rfl
      have h36_ := iv_get hv0 (k := 187) (j := y4.toNat) (l := 0) (u := 12) rfl
      have h37_ := jxshl1_b (a 187 (y4.toNat))
      have h38_ := jxor_b y2 (jxshl 1 (a 187 (y4.toNat)))
      have h39_ := pc_bd (jxor y2 (jxshl 1 (a 187 (y4.toNat))))
      have h40_ : jxw (4 * y4) = 4 * y4 := jxw_id (by omega) (by omega)
      have h41_ := jxor_b y3 (jxshl (a 187 (y4.toNat)) (jxw (4 * y4)))
      exact hc40 y1 (jxor y2 (jxshl 1 (a 187 (y4.toNat)))) (jxor y3 (jxshl (a 187 (y4.toNat)) (jxw (4 * y4)))) y4 a (show (((5 - y4) * 1) + 0).toNat ≤ n from by omega) hv hf (show 2 ≤ y1 from by omega) (show y1 ≤ 5 from by omega) (show 0 ≤ y4 from by omega) (show y4 ≤ 4 from by omega) (by first | rfl | assumption) (show 0 ≤ jxor y2 (jxshl 1 (a 187 (y4.toNat))) from by omega) (show jxor y2 (jxshl 1 (a 187 (y4.toNat))) ≤ 4095 from by omega) (show 0 ≤ y4 from by omega) (show y4 < y1 from by omega) (show pc (jxor y2 (jxshl 1 (a 187 (y4.toNat)))) = y4 + 1 from by omega) (show a 146 58 = a0 146 58 from by omega) (by rw [h187]; exact (hset (by omega)).2) (by rw [h187, show jxw (4 * y4) = 4 * y4 from jxw_id (by omega) (by omega)]; exact hall (by omega)) hfe
    ·
      refine jt_grd (by omega) ?_
      refine jt_grd (by omega) ?_
      have hv42_ : iv (jxu a 184 ((a 146 58).toNat) y2) := iv_put hv (l := 0) (u := 4095) rfl (by omega) (by omega)
      have hv43_ : iv (jxu (jxu a 184 ((a 146 58).toNat) y2) 185 ((a 146 58).toNat) y3) := iv_putf hv42_ rfl
      have hf44_ : jfr jW_X12_notes a0 (jxu a 184 ((a 146 58).toNat) y2) := jfr_put hf rfl
      have hf45_ : jfr jW_X12_notes a0 (jxu (jxu a 184 ((a 146 58).toNat) y2) 185 ((a 146 58).toNat) y3) := jfr_put hf44_ rfl
      exact cp_X12_notes_66 E d hd x1 a0 b0 hv0 hp0 hp1 hp2 hp3 (jxu (jxu a 184 ((a 146 58).toNat) y2) 185 ((a 146 58).toNat) y3) hv43_ hf45_ (show a 146 58 = a0 146 58 from by omega) (RS1_mk (fun r => hfe 184 r rfl) (fun r => hfe 185 r rfl) (by rw [show a 146 58 = a0 146 58 from (by omega)]) ⟨(by omega), (by omega)⟩ (by rw [hnv]; exact nbv_nib (by omega) (fun i hi => by have := hp2 i (by omega); omega)))
  exact ⟨hc40, hc7⟩
theorem sp_X12_notes (E : jxE) (d : Nat) (hd : Nat.ble 1 d = true) (x1 : Int) (a0 b0 : Nat → Nat → Int) (hv0 : iv a0) (hp0 : (2 ≤ x1 ∧ x1 ≤ 5)) (hp1 : a0 146 58 ≤ 26999) (hp2 : ROWS a0 x1) (hp3 : RS a0) : jt (jxC E d 266 [.inr (.inr (.inl 146)), .inl x1] (jxSH, a0, b0)) (jQ_X12_notes x1 a0 b0) := by
  obtain ⟨d, rfl⟩ := jd_succ hd
  refine jt_eq (bq_X12_notes E d x1 a0 b0) ?_
  have h46_ := iv_get hv0 (k := 146) (j := 58) (l := 0) (u := 27000) rfl
  have hpc0 : pc 0 = 0 := by decide +kernel
  have h47_ := pc_bd 0
  exact (cp_X12_notes_7 E d hd x1 a0 b0 hv0 hp0 hp1 hp2 hp3 _).2 x1 0 0 0 a0 (Nat.le_refl _) hv0 (jfr_rf _ _) (show 2 ≤ x1 from by omega) (show x1 ≤ 5 from by omega) (show 0 ≤ 0 from by omega) (show 0 ≤ 5 from by omega) (by first | rfl | assumption) (show 0 ≤ 0 from by omega) (show 0 ≤ 4095 from by omega) (show 0 ≤ 0 from by omega) (show 0 ≤ x1 from by omega) (show pc 0 = 0 from by omega) (show a0 146 58 = a0 146 58 from by omega) (by first | (intro j hj h; exact absurd (bit0 j hj) h) | (intro j hj h; obtain ⟨i, h1, h2⟩ := hbits j hj h; exact ⟨i, by omega, h2⟩)) (by first | rfl | (rw [show (jxw (y4 + 1)).toNat = y4.toNat + 1 from (by omega)]; exact hnv)) (jfr_rf _ _)
def jW_X12_ringsOf : List (Nat × Nat) := [(146, 58), (184, 9999), (185, 9999), (187, 9999)]
abbrev jQ_X12_ringsOf (x1 : Int) (a0 b0 : Nat → Nat → Int) : List jxV → (Nat → Nat → Int) → (Nat → Nat → Int) → Prop := rV (fun a b => (iv a) ∧ (jfr jW_X12_ringsOf a0 a) ∧ (b0 = b) ∧ (RS a) ∧ (a0 146 58 ≤ a 146 58) ∧ (a 146 58 ≤ (a0 146 58) + (tot (((a0 146 56) - 1) - x1))))
theorem cp_X12_ringsOf_16 (E : jxE) (d : Nat) (hd : Nat.ble 3 (d + 1) = true) (x1 : Int) (a0 b0 : Nat → Nat → Int) (hv0 : iv a0) (hp0 : 0 ≤ x1) (hp1 : x1 < a0 146 56) (hp2 : rbase a0 x1 ≤ 27000) (hp3 : RS a0) : ∀ n : Nat, (∀ (y1 y2 : Int) (a : Nat → Nat → Int), ((jmu a y2) + 1).toNat ≤ n → iv a → jfr jW_X12_ringsOf a0 a → 0 ≤ y1 → 1 ≤ y2 → y2 ≤ 4 → (y1 = x1) → 1 ≤ y2 → y2 ≤ 4 → (RS a) → (RJ a0 a x1 (y2 - 1)) → jt (jxX E d 267 43 [some (.inr (.inr (.inl 146))), some (.inl y1), some (.inl y2)] [] (jxSH, a, b0)) (jQ_X12_ringsOf x1 a0 b0)) ∧ (∀ (y1 y2 : Int) (a : Nat → Nat → Int), ((jmu a y2) + (wt y2)).toNat ≤ n → iv a → jfr jW_X12_ringsOf a0 a → 0 ≤ y1 → 1 ≤ y2 → y2 ≤ 4 → 1 ≤ a 146 56 → (y1 = x1) → 1 ≤ y2 → y2 ≤ 4 → (RS a) → (RJ a0 a x1 y2) → jt (jxX E d 267 84 [some (.inr (.inr (.inl 146))), some (.inl y1), some (.inl y2)] [] (jxSH, a, b0)) (jQ_X12_ringsOf x1 a0 b0)) ∧ (∀ (y1 y2 : Int) (a : Nat → Nat → Int), ((jmu a y2) + (wt y2)).toNat ≤ n → iv a → jfr jW_X12_ringsOf a0 a → 0 ≤ y1 → 1 ≤ y2 → y2 ≤ 4 → 1 ≤ a 146 56 → (y1 = x1) → 1 ≤ y2 → y2 ≤ 4 → (RS a) → (RJ108 a0 a x1 y2) → jt (jxX E d 267 108 [some (.inr (.inr (.inl 146))), some (.inl y1), some (.inl y2)] [] (jxSH, a, b0)) (jQ_X12_ringsOf x1 a0 b0)) ∧ (∀ (y1 y2 : Int) (a : Nat → Nat → Int), ((jmu a y2) + (wt y2)).toNat ≤ n → iv a → jfr jW_X12_ringsOf a0 a → 0 ≤ y1 → 1 ≤ y2 → y2 ≤ 4 → 1 ≤ a 146 56 → (y1 = x1) → 1 ≤ y2 → y2 ≤ 4 → (RS a) → (RJ87 a0 a x1 y2) → jt (jxX E d 267 87 [some (.inr (.inr (.inl 146))), some (.inl y1), some (.inl y2)] [] (jxSH, a, b0)) (jQ_X12_ringsOf x1 a0 b0)) ∧ (∀ (y1 y2 : Int) (a : Nat → Nat → Int), ((jmu a y2) + (wt y2)).toNat ≤ n → iv a → jfr jW_X12_ringsOf a0 a → 0 ≤ y1 → 1 ≤ y2 → y2 ≤ 4 → 1 ≤ a 146 56 → (y1 = x1) → 1 ≤ y2 → y2 ≤ 4 → (RS a) → (RJ49 a0 a x1 y2) → jt (jxX E d 267 49 [some (.inr (.inr (.inl 146))), some (.inl y1), some (.inl y2)] [] (jxSH, a, b0)) (jQ_X12_ringsOf x1 a0 b0)) ∧ (∀ (y1 y2 : Int) (a : Nat → Nat → Int), (jmu a y2).toNat ≤ n → iv a → jfr jW_X12_ringsOf a0 a → 0 ≤ y1 → 0 ≤ y2 → y2 ≤ 4 → (y1 = x1) → 0 ≤ y2 → y2 ≤ 4 → (RS a) → (RJ a0 a x1 y2) → jt (jxX E d 267 16 [some (.inr (.inr (.inl 146))), some (.inl y1), some (.inl y2)] [] (jxSH, a, b0)) (jQ_X12_ringsOf x1 a0 b0)) := by
  refine jx_ind fun n ih => ?_
  have ih43 : ∀ (y1 y2 : Int) (a : Nat → Nat → Int), ((jmu a y2) + 1).toNat < n → iv a → jfr jW_X12_ringsOf a0 a → 0 ≤ y1 → 1 ≤ y2 → y2 ≤ 4 → (y1 = x1) → 1 ≤ y2 → y2 ≤ 4 → (RS a) → (RJ a0 a x1 (y2 - 1)) → jt (jxX E d 267 43 [some (.inr (.inr (.inl 146))), some (.inl y1), some (.inl y2)] [] (jxSH, a, b0)) (jQ_X12_ringsOf x1 a0 b0) := fun y1 y2 a hlt i0 i1 i2 i3 i4 i5 i6 i7 i8 i9 => (ih _ hlt).1 y1 y2 a (Nat.le_refl _) i0 i1 i2 i3 i4 i5 i6 i7 i8 i9
  have ih84 : ∀ (y1 y2 : Int) (a : Nat → Nat → Int), ((jmu a y2) + (wt y2)).toNat < n → iv a → jfr jW_X12_ringsOf a0 a → 0 ≤ y1 → 1 ≤ y2 → y2 ≤ 4 → 1 ≤ a 146 56 → (y1 = x1) → 1 ≤ y2 → y2 ≤ 4 → (RS a) → (RJ a0 a x1 y2) → jt (jxX E d 267 84 [some (.inr (.inr (.inl 146))), some (.inl y1), some (.inl y2)] [] (jxSH, a, b0)) (jQ_X12_ringsOf x1 a0 b0) := fun y1 y2 a hlt i0 i1 i2 i3 i4 i5 i6 i7 i8 i9 i10 => (ih _ hlt).2.1 y1 y2 a (Nat.le_refl _) i0 i1 i2 i3 i4 i5 i6 i7 i8 i9 i10
  have ih108 : ∀ (y1 y2 : Int) (a : Nat → Nat → Int), ((jmu a y2) + (wt y2)).toNat < n → iv a → jfr jW_X12_ringsOf a0 a → 0 ≤ y1 → 1 ≤ y2 → y2 ≤ 4 → 1 ≤ a 146 56 → (y1 = x1) → 1 ≤ y2 → y2 ≤ 4 → (RS a) → (RJ108 a0 a x1 y2) → jt (jxX E d 267 108 [some (.inr (.inr (.inl 146))), some (.inl y1), some (.inl y2)] [] (jxSH, a, b0)) (jQ_X12_ringsOf x1 a0 b0) := fun y1 y2 a hlt i0 i1 i2 i3 i4 i5 i6 i7 i8 i9 i10 => (ih _ hlt).2.2.1 y1 y2 a (Nat.le_refl _) i0 i1 i2 i3 i4 i5 i6 i7 i8 i9 i10
  have ih87 : ∀ (y1 y2 : Int) (a : Nat → Nat → Int), ((jmu a y2) + (wt y2)).toNat < n → iv a → jfr jW_X12_ringsOf a0 a → 0 ≤ y1 → 1 ≤ y2 → y2 ≤ 4 → 1 ≤ a 146 56 → (y1 = x1) → 1 ≤ y2 → y2 ≤ 4 → (RS a) → (RJ87 a0 a x1 y2) → jt (jxX E d 267 87 [some (.inr (.inr (.inl 146))), some (.inl y1), some (.inl y2)] [] (jxSH, a, b0)) (jQ_X12_ringsOf x1 a0 b0) := fun y1 y2 a hlt i0 i1 i2 i3 i4 i5 i6 i7 i8 i9 i10 => (ih _ hlt).2.2.2.1 y1 y2 a (Nat.le_refl _) i0 i1 i2 i3 i4 i5 i6 i7 i8 i9 i10
  have ih49 : ∀ (y1 y2 : Int) (a : Nat → Nat → Int), ((jmu a y2) + (wt y2)).toNat < n → iv a → jfr jW_X12_ringsOf a0 a → 0 ≤ y1 → 1 ≤ y2 → y2 ≤ 4 → 1 ≤ a 146 56 → (y1 = x1) → 1 ≤ y2 → y2 ≤ 4 → (RS a) → (RJ49 a0 a x1 y2) → jt (jxX E d 267 49 [some (.inr (.inr (.inl 146))), some (.inl y1), some (.inl y2)] [] (jxSH, a, b0)) (jQ_X12_ringsOf x1 a0 b0) := fun y1 y2 a hlt i0 i1 i2 i3 i4 i5 i6 i7 i8 i9 i10 => (ih _ hlt).2.2.2.2.1 y1 y2 a (Nat.le_refl _) i0 i1 i2 i3 i4 i5 i6 i7 i8 i9 i10
  have ih16 : ∀ (y1 y2 : Int) (a : Nat → Nat → Int), (jmu a y2).toNat < n → iv a → jfr jW_X12_ringsOf a0 a → 0 ≤ y1 → 0 ≤ y2 → y2 ≤ 4 → (y1 = x1) → 0 ≤ y2 → y2 ≤ 4 → (RS a) → (RJ a0 a x1 y2) → jt (jxX E d 267 16 [some (.inr (.inr (.inl 146))), some (.inl y1), some (.inl y2)] [] (jxSH, a, b0)) (jQ_X12_ringsOf x1 a0 b0) := fun y1 y2 a hlt i0 i1 i2 i3 i4 i5 i6 i7 i8 i9 => (ih _ hlt).2.2.2.2.2 y1 y2 a (Nat.le_refl _) i0 i1 i2 i3 i4 i5 i6 i7 i8 i9
  have hc43 : ∀ (y1 y2 : Int) (a : Nat → Nat → Int), ((jmu a y2) + 1).toNat ≤ n → iv a → jfr jW_X12_ringsOf a0 a → 0 ≤ y1 → 1 ≤ y2 → y2 ≤ 4 → (y1 = x1) → 1 ≤ y2 → y2 ≤ 4 → (RS a) → (RJ a0 a x1 (y2 - 1)) → jt (jxX E d 267 43 [some (.inr (.inr (.inl 146))), some (.inl y1), some (.inl y2)] [] (jxSH, a, b0)) (jQ_X12_ringsOf x1 a0 b0) := by
    intro y1 y2 a hm hv hf hi0 hi1 hi2 hy1 hi4 hi5 hi6 hrj
    refine jt_eq (bq_X12_ringsOf_43 E d y1 y2 a b0) ?_
    have i0 := iv_get hv (k := 187) (j := y2.toNat) (l := 0) (u := 12) rfl
    have i56 := iv_get hv (k := 146) (j := 56) (l := 0) (u := 12) rfl
    have i1 := iv_get hv (k := 187) (j := 1) (l := 0) (u := 12) rfl
    have i2 := iv_get hv (k := 187) (j := 2) (l := 0) (u := 12) rfl
    have i3 := iv_get hv (k := 187) (j := 3) (l := 0) (u := 12) rfl
    have i4 := iv_get hv (k := 187) (j := 4) (l := 0) (u := 12) rfl
    have hwv : jxw ((a 187 (y2.toNat)) + 1) = a 187 (y2.toNat) + 1 := jxw_id (by omega) (by omega)
    have hwp := wt_pos y2
    have hnn := jmu_nn (a := a) (n := y2) i1.2 i2.2 i3.2 i4.2
    have h56 : a 146 56 = a0 146 56 := hf 146 56 rfl
    have hpop := jmu_pop (a := a) (n := y2) (by omega) i1.2 i2.2 i3.2 i4.2
    have hnn1 := jmu_nn (a := a) (n := y2 - 1) i1.2 i2.2 i3.2 i4.2
    have hmp : jmu a (jxw (y2 + (-1))) = jmu a (y2 - 1) := by rw [jxw_id (by omega) (by omega)]; rfl
    have h48_ : jxw (y2 + (-1)) = y2 + (-1) := jxw_id (by omega) (by omega)
    exact ih16 y1 (jxw (y2 + (-1))) a (show (jmu a (jxw (y2 + (-1)))).toNat < n from by omega) hv hf (show 0 ≤ y1 from by omega) (show 0 ≤ jxw (y2 + (-1)) from by omega) (show jxw (y2 + (-1)) ≤ 4 from by omega) (by first | rfl | assumption) (show 0 ≤ jxw (y2 + (-1)) from by omega) (show jxw (y2 + (-1)) ≤ 4 from by omega) hi6 (by first | exact RJ_start (by omega) (by omega) (by omega) | exact RJ49_16 hrj | assumption | exact RJ108_16 hrj (by omega) | (rw [hy1]; exact RJ108_push hrj (by omega) (jxw_id (by omega) (by omega)) (by omega) (by omega)) | (rw [show jxw (y2 + (-1)) = y2 - 1 from (by omega)]; exact hrj))
  have hc84 : ∀ (y1 y2 : Int) (a : Nat → Nat → Int), ((jmu a y2) + (wt y2)).toNat ≤ n → iv a → jfr jW_X12_ringsOf a0 a → 0 ≤ y1 → 1 ≤ y2 → y2 ≤ 4 → 1 ≤ a 146 56 → (y1 = x1) → 1 ≤ y2 → y2 ≤ 4 → (RS a) → (RJ a0 a x1 y2) → jt (jxX E d 267 84 [some (.inr (.inr (.inl 146))), some (.inl y1), some (.inl y2)] [] (jxSH, a, b0)) (jQ_X12_ringsOf x1 a0 b0) := by
    intro y1 y2 a hm hv hf hi0 hi1 hi2 hi3 hy1 hi5 hi6 hi7 hrj
    refine jt_eq (bq_X12_ringsOf_84 E d y1 y2 a b0) ?_
    have h49_ := iv_get hv (k := 146) (j := 56) (l := 0) (u := 12) rfl
    have h50_ : a 146 56 = a0 146 56 := hf 146 56 rfl
    have h51_ := iv_get hv0 (k := 146) (j := 56) (l := 0) (u := 12) rfl
    have i0 := iv_get hv (k := 187) (j := y2.toNat) (l := 0) (u := 12) rfl
    have i56 := iv_get hv (k := 146) (j := 56) (l := 0) (u := 12) rfl
    have i1 := iv_get hv (k := 187) (j := 1) (l := 0) (u := 12) rfl
    have i2 := iv_get hv (k := 187) (j := 2) (l := 0) (u := 12) rfl
    have i3 := iv_get hv (k := 187) (j := 3) (l := 0) (u := 12) rfl
    have i4 := iv_get hv (k := 187) (j := 4) (l := 0) (u := 12) rfl
    have hwv : jxw ((a 187 (y2.toNat)) + 1) = a 187 (y2.toNat) + 1 := jxw_id (by omega) (by omega)
    have hwp := wt_pos y2
    have hnn := jmu_nn (a := a) (n := y2) i1.2 i2.2 i3.2 i4.2
    have h56 : a 146 56 = a0 146 56 := hf 146 56 rfl
    exact ih16 y1 y2 a (show (jmu a y2).toNat < n from by omega) hv hf (show 0 ≤ y1 from by omega) (show 0 ≤ y2 from by omega) (show y2 ≤ 4 from by omega) (by first | rfl | assumption) (show 0 ≤ y2 from by omega) (show y2 ≤ 4 from by omega) hi7 (by first | exact RJ_start (by omega) (by omega) (by omega) | exact RJ49_16 hrj | assumption | exact RJ108_16 hrj (by omega) | (rw [hy1]; exact RJ108_push hrj (by omega) (jxw_id (by omega) (by omega)) (by omega) (by omega)) | (rw [show jxw (y2 + (-1)) = y2 - 1 from (by omega)]; exact hrj))
  have hc108 : ∀ (y1 y2 : Int) (a : Nat → Nat → Int), ((jmu a y2) + (wt y2)).toNat ≤ n → iv a → jfr jW_X12_ringsOf a0 a → 0 ≤ y1 → 1 ≤ y2 → y2 ≤ 4 → 1 ≤ a 146 56 → (y1 = x1) → 1 ≤ y2 → y2 ≤ 4 → (RS a) → (RJ108 a0 a x1 y2) → jt (jxX E d 267 108 [some (.inr (.inr (.inl 146))), some (.inl y1), some (.inl y2)] [] (jxSH, a, b0)) (jQ_X12_ringsOf x1 a0 b0) := by
    intro y1 y2 a hm hv hf hi0 hi1 hi2 hi3 hy1 hi5 hi6 hi7 hrj
    refine jt_eq (bq_X12_ringsOf_108 E d y1 y2 a b0) ?_
    have h52_ := iv_get hv (k := 146) (j := 56) (l := 0) (u := 12) rfl
    have h53_ : a 146 56 = a0 146 56 := hf 146 56 rfl
    have h54_ := iv_get hv0 (k := 146) (j := 56) (l := 0) (u := 12) rfl
    have i0 := iv_get hv (k := 187) (j := y2.toNat) (l := 0) (u := 12) rfl
    have i56 := iv_get hv (k := 146) (j := 56) (l := 0) (u := 12) rfl
    have i1 := iv_get hv (k := 187) (j := 1) (l := 0) (u := 12) rfl
    have i2 := iv_get hv (k := 187) (j := 2) (l := 0) (u := 12) rfl
    have i3 := iv_get hv (k := 187) (j := 3) (l := 0) (u := 12) rfl
    have i4 := iv_get hv (k := 187) (j := 4) (l := 0) (u := 12) rfl
    have hwv : jxw ((a 187 (y2.toNat)) + 1) = a 187 (y2.toNat) + 1 := jxw_id (by omega) (by omega)
    have hwp := wt_pos y2
    have hnn := jmu_nn (a := a) (n := y2) i1.2 i2.2 i3.2 i4.2
    have h56 : a 146 56 = a0 146 56 := hf 146 56 rfl
    have hpush : y2 ≤ 3 → jmu (jxu a 187 ((jxw (y2 + 1)).toNat) y1) (jxw (y2 + 1)) < jmu a y2 + wt y2 := fun h => jmu_push (by omega) (jxw_id (by omega) (by omega)) (by omega)
    have hcr := hrj.2.2.1
    refine jt_ite (fun c55_ => ?_) (fun c55_ => ?_)
    ·
      exact ih16 y1 y2 a (show (jmu a y2).toNat < n from by omega) hv hf (show 0 ≤ y1 from by omega) (show 0 ≤ y2 from by omega) (show y2 ≤ 4 from by omega) (by first | rfl | assumption) (show 0 ≤ y2 from by omega) (show y2 ≤ 4 from by omega) hi7 (by first | exact RJ_start (by omega) (by omega) (by omega) | exact RJ49_16 hrj | assumption | exact RJ108_16 hrj (by omega) | (rw [hy1]; exact RJ108_push hrj (by omega) (jxw_id (by omega) (by omega)) (by omega) (by omega)) | (rw [show jxw (y2 + (-1)) = y2 - 1 from (by omega)]; exact hrj))
    ·
      have h56_ : jxw (y2 + 1) = y2 + 1 := jxw_id (by omega) (by omega)
      refine jt_grd (by omega) ?_
      have hv57_ : iv (jxu a 187 ((jxw (y2 + 1)).toNat) y1) := iv_put hv (l := 0) (u := 12) rfl (by omega) (by omega)
      have hf58_ : jfr jW_X12_ringsOf a0 (jxu a 187 ((jxw (y2 + 1)).toNat) y1) := jfr_put hf rfl
      have hg59_ : RS (jxu a 187 ((jxw (y2 + 1)).toNat) y1) := (RS_fr hi7 (jfr_1 a 187 ((jxw (y2 + 1)).toNat) y1) rfl (fun _ => rfl) (fun _ => rfl))
      exact ih16 y1 (jxw (y2 + 1)) (jxu a 187 ((jxw (y2 + 1)).toNat) y1) (show (jmu (jxu a 187 ((jxw (y2 + 1)).toNat) y1) (jxw (y2 + 1))).toNat < n from by omega) hv57_ hf58_ (show 0 ≤ y1 from by omega) (show 0 ≤ jxw (y2 + 1) from by omega) (show jxw (y2 + 1) ≤ 4 from by omega) (by first | rfl | assumption) (show 0 ≤ jxw (y2 + 1) from by omega) (show jxw (y2 + 1) ≤ 4 from by omega) hg59_ (by first | exact RJ_start (by omega) (by omega) (by omega) | exact RJ49_16 hrj | assumption | exact RJ108_16 hrj (by omega) | (rw [hy1]; exact RJ108_push hrj (by omega) (jxw_id (by omega) (by omega)) (by omega) (by omega)) | (rw [show jxw (y2 + (-1)) = y2 - 1 from (by omega)]; exact hrj))
  have hc87 : ∀ (y1 y2 : Int) (a : Nat → Nat → Int), ((jmu a y2) + (wt y2)).toNat ≤ n → iv a → jfr jW_X12_ringsOf a0 a → 0 ≤ y1 → 1 ≤ y2 → y2 ≤ 4 → 1 ≤ a 146 56 → (y1 = x1) → 1 ≤ y2 → y2 ≤ 4 → (RS a) → (RJ87 a0 a x1 y2) → jt (jxX E d 267 87 [some (.inr (.inr (.inl 146))), some (.inl y1), some (.inl y2)] [] (jxSH, a, b0)) (jQ_X12_ringsOf x1 a0 b0) := by
    intro y1 y2 a hm hv hf hi0 hi1 hi2 hi3 hy1 hi5 hi6 hi7 hrj
    refine jt_eq (bq_X12_ringsOf_87 E d y1 y2 a b0) ?_
    have h60_ := iv_get hv (k := 146) (j := 56) (l := 0) (u := 12) rfl
    have h61_ : a 146 56 = a0 146 56 := hf 146 56 rfl
    have h62_ := iv_get hv0 (k := 146) (j := 56) (l := 0) (u := 12) rfl
    have i0 := iv_get hv (k := 187) (j := y2.toNat) (l := 0) (u := 12) rfl
    have i56 := iv_get hv (k := 146) (j := 56) (l := 0) (u := 12) rfl
    have i1 := iv_get hv (k := 187) (j := 1) (l := 0) (u := 12) rfl
    have i2 := iv_get hv (k := 187) (j := 2) (l := 0) (u := 12) rfl
    have i3 := iv_get hv (k := 187) (j := 3) (l := 0) (u := 12) rfl
    have i4 := iv_get hv (k := 187) (j := 4) (l := 0) (u := 12) rfl
    have hwv : jxw ((a 187 (y2.toNat)) + 1) = a 187 (y2.toNat) + 1 := jxw_id (by omega) (by omega)
    have hwp := wt_pos y2
    have hnn := jmu_nn (a := a) (n := y2) i1.2 i2.2 i3.2 i4.2
    have h56 : a 146 56 = a0 146 56 := hf 146 56 rfl
    have hcr := hrj.2.2.1
    have hroom := RJ87_room hrj (by omega) (by omega) (by omega) hp2
    have hrows := RJ87_rows hrj (by omega) (by omega) (by omega) (show jxw (y2 + 1) = y2 + 1 from jxw_id (by omega) (by omega))
    refine jt_grd (by omega) ?_
    have h63_ := iv_get hv (k := 187) (j := y2.toNat) (l := 0) (u := 12) rfl
    refine jt_eI (eq_X12_goesTo E d (jd_le hd rfl) (a 187 (y2.toNat)) y1 a b0 hv (show (0 ≤ a 187 (y2.toNat) ∧ a 187 (y2.toNat) < 12) from by omega) (show (0 ≤ y1 ∧ y1 < 12) from by omega)) ?_
    have h64_ := f_X12_goesTo_bool a b0 (a 187 (y2.toNat)) y1
    refine jt_ite (fun c65_ => ?_) (fun c65_ => ?_)
    ·
      exact hc108 y1 y2 a (show ((jmu a y2) + (wt y2)).toNat ≤ n from by omega) hv hf (show 0 ≤ y1 from by omega) (show 1 ≤ y2 from by omega) (show y2 ≤ 4 from by omega) (show 1 ≤ a 146 56 from by omega) (by first | rfl | assumption) (show 1 ≤ y2 from by omega) (show y2 ≤ 4 from by omega) hi7 (by first | exact RJ87_108 hrj | exact RJ87_108n hrj (fun i => hf 187 i rfl) (hf 146 56 rfl) (by omega))
    ·
      have h66_ : jxw (y2 + 1) = y2 + 1 := jxw_id (by omega) (by omega)
      have h67_ := iv_get hv (k := 146) (j := 58) (l := 0) (u := 27000) rfl
      refine jt_bV (sp_X12_notes E d (jd_le hd rfl) (jxw (y2 + 1)) a b0 hv (show (2 ≤ jxw (y2 + 1) ∧ jxw (y2 + 1) ≤ 5) from by omega) (show a 146 58 ≤ 26999 from by omega) (by assumption) hi7) (fun a68_ b68_ h68_ => ?_)
      obtain ⟨hv68_, hf68_, rfl, hq68_0, hq68_1⟩ := h68_
      have h69_ := iv_get hv68_ (k := 146) (j := 58) (l := 0) (u := 27000) rfl
      have hjc68 : jmu a68_ y2 = jmu a y2 := jmu_congr (fun i => hf68_ 187 i rfl)
      have hf70_ : jfr jW_X12_ringsOf a0 a68_ := jfr_tr hf hf68_ rfl
      have h71_ := iv_get hv68_ (k := 146) (j := 56) (l := 0) (u := 12) rfl
      have h72_ : a68_ 146 56 = a 146 56 := hf68_ 146 56 rfl
      exact hc108 y1 y2 a68_ (show ((jmu a68_ y2) + (wt y2)).toNat ≤ n from by omega) hv68_ hf70_ (show 0 ≤ y1 from by omega) (show 1 ≤ y2 from by omega) (show y2 ≤ 4 from by omega) (show 1 ≤ a68_ 146 56 from by omega) (by first | rfl | assumption) (show 1 ≤ y2 from by omega) (show y2 ≤ 4 from by omega) hq68_1 (by first | exact RJ87_108 hrj | exact RJ87_108n hrj (fun i => hf68_ 187 i rfl) (hf68_ 146 56 rfl) (by omega))
  have hc49 : ∀ (y1 y2 : Int) (a : Nat → Nat → Int), ((jmu a y2) + (wt y2)).toNat ≤ n → iv a → jfr jW_X12_ringsOf a0 a → 0 ≤ y1 → 1 ≤ y2 → y2 ≤ 4 → 1 ≤ a 146 56 → (y1 = x1) → 1 ≤ y2 → y2 ≤ 4 → (RS a) → (RJ49 a0 a x1 y2) → jt (jxX E d 267 49 [some (.inr (.inr (.inl 146))), some (.inl y1), some (.inl y2)] [] (jxSH, a, b0)) (jQ_X12_ringsOf x1 a0 b0) := by
    intro y1 y2 a hm hv hf hi0 hi1 hi2 hi3 hy1 hi5 hi6 hi7 hrj
    refine jt_eq (bq_X12_ringsOf_49 E d y1 y2 a b0) ?_
    have h73_ := iv_get hv (k := 146) (j := 56) (l := 0) (u := 12) rfl
    have h74_ : a 146 56 = a0 146 56 := hf 146 56 rfl
    have h75_ := iv_get hv0 (k := 146) (j := 56) (l := 0) (u := 12) rfl
    have i0 := iv_get hv (k := 187) (j := y2.toNat) (l := 0) (u := 12) rfl
    have i56 := iv_get hv (k := 146) (j := 56) (l := 0) (u := 12) rfl
    have i1 := iv_get hv (k := 187) (j := 1) (l := 0) (u := 12) rfl
    have i2 := iv_get hv (k := 187) (j := 2) (l := 0) (u := 12) rfl
    have i3 := iv_get hv (k := 187) (j := 3) (l := 0) (u := 12) rfl
    have i4 := iv_get hv (k := 187) (j := 4) (l := 0) (u := 12) rfl
    have hwv : jxw ((a 187 (y2.toNat)) + 1) = a 187 (y2.toNat) + 1 := jxw_id (by omega) (by omega)
    have hwp := wt_pos y2
    have hnn := jmu_nn (a := a) (n := y2) i1.2 i2.2 i3.2 i4.2
    have h56 : a 146 56 = a0 146 56 := hf 146 56 rfl
    have hbd := RJ49_bd hrj (by omega) (by omega) (by omega)
    have hcr := hrj.2.2.1
    have hrow : ∀ i : Nat, (i : Int) < y2 → a 187 i < 12 := hbd
    have hym : jxw (y2 - 1) = y2 - 1 := jxw_id (by omega) (by omega)
    have hprev := hbd ((jxw (y2 - 1)).toNat) (by omega)
    refine jt_grd (by omega) ?_
    have h76_ := iv_get hv (k := 187) (j := y2.toNat) (l := 0) (u := 12) rfl
    refine jt_bI (sp_X12_mayJoin E d (jd_le hd rfl) y2 (a 187 (y2.toNat)) a b0 hv (show 0 ≤ y2 from by omega) (show y2 ≤ 4 from by omega) (show 0 ≤ a 187 (y2.toNat) from by omega) (show a 187 (y2.toNat) ≤ 11 from by omega) (by assumption)) (fun r77_ a77_ b77_ h77_ => ?_)
    obtain ⟨rfl, rfl, hq77_0, hq77_1⟩ := h77_
    refine jt_ite (fun c78_ => ?_) (fun c78_ => ?_)
    ·
      exact ih16 y1 y2 a (show (jmu a y2).toNat < n from by omega) hv hf (show 0 ≤ y1 from by omega) (show 0 ≤ y2 from by omega) (show y2 ≤ 4 from by omega) (by first | rfl | assumption) (show 0 ≤ y2 from by omega) (show y2 ≤ 4 from by omega) hi7 (by first | exact RJ_start (by omega) (by omega) (by omega) | exact RJ49_16 hrj | assumption | exact RJ108_16 hrj (by omega) | (rw [hy1]; exact RJ108_push hrj (by omega) (jxw_id (by omega) (by omega)) (by omega) (by omega)) | (rw [show jxw (y2 + (-1)) = y2 - 1 from (by omega)]; exact hrj))
    ·
      have h79_ : jxw (y2 - 1) = y2 - 1 := jxw_id (by omega) (by omega)
      refine jt_grd (by omega) ?_
      refine jt_grd (by omega) ?_
      have h80_ := iv_get hv (k := 187) (j := (jxw (y2 - 1)).toNat) (l := 0) (u := 12) rfl
      refine jt_eI (eq_X12_goesTo E d (jd_le hd rfl) (a 187 ((jxw (y2 - 1)).toNat)) (a 187 (y2.toNat)) a b0 hv (show (0 ≤ a 187 ((jxw (y2 - 1)).toNat) ∧ a 187 ((jxw (y2 - 1)).toNat) < 12) from by omega) (show (0 ≤ a 187 (y2.toNat) ∧ a 187 (y2.toNat) < 12) from by omega)) ?_
      have h81_ := f_X12_goesTo_bool a b0 (a 187 ((jxw (y2 - 1)).toNat)) (a 187 (y2.toNat))
      refine jt_ite (fun c82_ => ?_) (fun c82_ => ?_)
      ·
        exact hc84 y1 y2 a (show ((jmu a y2) + (wt y2)).toNat ≤ n from by omega) hv hf (show 0 ≤ y1 from by omega) (show 1 ≤ y2 from by omega) (show y2 ≤ 4 from by omega) (show 1 ≤ a 146 56 from by omega) (by first | rfl | assumption) (show 1 ≤ y2 from by omega) (show y2 ≤ 4 from by omega) hi7 (RJ87_16 (RJ49_87 hrj (hq77_1 (by omega))) (by omega) (by omega))
      ·
        exact hc87 y1 y2 a (show ((jmu a y2) + (wt y2)).toNat ≤ n from by omega) hv hf (show 0 ≤ y1 from by omega) (show 1 ≤ y2 from by omega) (show y2 ≤ 4 from by omega) (show 1 ≤ a 146 56 from by omega) (by first | rfl | assumption) (show 1 ≤ y2 from by omega) (show y2 ≤ 4 from by omega) hi7 (RJ49_87 hrj (hq77_1 (by omega)))
  have hc16 : ∀ (y1 y2 : Int) (a : Nat → Nat → Int), (jmu a y2).toNat ≤ n → iv a → jfr jW_X12_ringsOf a0 a → 0 ≤ y1 → 0 ≤ y2 → y2 ≤ 4 → (y1 = x1) → 0 ≤ y2 → y2 ≤ 4 → (RS a) → (RJ a0 a x1 y2) → jt (jxX E d 267 16 [some (.inr (.inr (.inl 146))), some (.inl y1), some (.inl y2)] [] (jxSH, a, b0)) (jQ_X12_ringsOf x1 a0 b0) := by
    intro y1 y2 a hm hv hf hi0 hi1 hi2 hy1 hi4 hi5 hi6 hrj
    refine jt_eq (bq_X12_ringsOf_16 E d y1 y2 a b0) ?_
    have i0 := iv_get hv (k := 187) (j := y2.toNat) (l := 0) (u := 12) rfl
    have i56 := iv_get hv (k := 146) (j := 56) (l := 0) (u := 12) rfl
    have i1 := iv_get hv (k := 187) (j := 1) (l := 0) (u := 12) rfl
    have i2 := iv_get hv (k := 187) (j := 2) (l := 0) (u := 12) rfl
    have i3 := iv_get hv (k := 187) (j := 3) (l := 0) (u := 12) rfl
    have i4 := iv_get hv (k := 187) (j := 4) (l := 0) (u := 12) rfl
    have hwv : jxw ((a 187 (y2.toNat)) + 1) = a 187 (y2.toNat) + 1 := jxw_id (by omega) (by omega)
    have hwp := wt_pos y2
    have hnn := jmu_nn (a := a) (n := y2) i1.2 i2.2 i3.2 i4.2
    have h56 : a 146 56 = a0 146 56 := hf 146 56 rfl
    have hjm : 1 ≤ y2 → jmu (jxu a 187 (y2.toNat) (jxw ((a 187 (y2.toNat)) + 1))) y2 + wt y2 = jmu a y2 := fun h => jmu_inc (by omega) hwv
    have hcur : 1 ≤ y2 → a 187 (y2.toNat) < a 146 56 := fun h => (hrj.2.2.1 h).2
    have hb58 : a 146 58 ≤ a0 146 58 + tot (a0 146 56 - 1 - x1) ∨ 1 ≤ y2 := by
      by_cases h : 1 ≤ y2
      · exact Or.inr h
      · left
        have h1 := hrj.2.2.2.2
        have e : y2 = 0 := by omega
        have e2 : jpot a x1 y2 = 0 := by rw [e]; simp [jpot, potI]
        unfold rbase at h1
        omega
    have hge := hrj.2.2.2.1
    refine jt_ite (fun c83_ => ?_) (fun c83_ => ?_)
    ·
      refine jt_grd (by omega) ?_
      refine jt_grd (by omega) ?_
      refine jt_grd (by omega) ?_
      have h85_ := iv_get hv (k := 187) (j := y2.toNat) (l := 0) (u := 12) rfl
      have h86_ : jxw ((a 187 (y2.toNat)) + 1) = (a 187 (y2.toNat)) + 1 := jxw_id (by omega) (by omega)
      have hv84_ : iv (jxu a 187 (y2.toNat) (jxw ((a 187 (y2.toNat)) + 1))) := iv_put hv (l := 0) (u := 12) rfl (by omega) (by omega)
      have h87_ := iv_get hv84_ (k := 187) (j := y2.toNat) (l := 0) (u := 12) rfl
      have h88_ := jxu_sp a 187 (y2.toNat) (jxw ((a 187 (y2.toNat)) + 1)) (y2.toNat)
      have h89_ := iv_get hv (k := 146) (j := 56) (l := 0) (u := 12) rfl
      have h90_ : a 146 56 = a0 146 56 := hf 146 56 rfl
      have h91_ := iv_get hv0 (k := 146) (j := 56) (l := 0) (u := 12) rfl
      refine jt_ite (fun c92_ => ?_) (fun c92_ => ?_)
      ·
        have hf93_ : jfr jW_X12_ringsOf a0 (jxu a 187 (y2.toNat) (jxw ((a 187 (y2.toNat)) + 1))) := jfr_put hf rfl
        have hg94_ : RS (jxu a 187 (y2.toNat) (jxw ((a 187 (y2.toNat)) + 1))) := (RS_fr hi6 (jfr_1 a 187 (y2.toNat) (jxw ((a 187 (y2.toNat)) + 1))) rfl (fun _ => rfl) (fun _ => rfl))
        exact hc49 y1 y2 (jxu a 187 (y2.toNat) (jxw ((a 187 (y2.toNat)) + 1))) (show ((jmu (jxu a 187 (y2.toNat) (jxw ((a 187 (y2.toNat)) + 1))) y2) + (wt y2)).toNat ≤ n from by omega) hv84_ hf93_ (show 0 ≤ y1 from by omega) (show 1 ≤ y2 from by omega) (show y2 ≤ 4 from by omega) (show 1 ≤ a 146 56 from by omega) (by first | rfl | assumption) (show 1 ≤ y2 from by omega) (show y2 ≤ 4 from by omega) hg94_ (RJ_49 hrj (by omega) (by omega) (by omega) hwv (by omega))
      ·
        have hf95_ : jfr jW_X12_ringsOf a0 (jxu a 187 (y2.toNat) (jxw ((a 187 (y2.toNat)) + 1))) := jfr_put hf rfl
        have hg96_ : RS (jxu a 187 (y2.toNat) (jxw ((a 187 (y2.toNat)) + 1))) := (RS_fr hi6 (jfr_1 a 187 (y2.toNat) (jxw ((a 187 (y2.toNat)) + 1))) rfl (fun _ => rfl) (fun _ => rfl))
        exact hc43 y1 y2 (jxu a 187 (y2.toNat) (jxw ((a 187 (y2.toNat)) + 1))) (show ((jmu (jxu a 187 (y2.toNat) (jxw ((a 187 (y2.toNat)) + 1))) y2) + 1).toNat ≤ n from by omega) hv84_ hf95_ (show 0 ≤ y1 from by omega) (show 1 ≤ y2 from by omega) (show y2 ≤ 4 from by omega) (by first | rfl | assumption) (show 1 ≤ y2 from by omega) (show y2 ≤ 4 from by omega) hg96_ (RJ_43 hrj (by omega) (by omega) hwv (by omega))
    ·
      have h97_ := iv_get hv0 (k := 146) (j := 58) (l := 0) (u := 27000) rfl
      have h98_ := iv_get hv (k := 146) (j := 58) (l := 0) (u := 27000) rfl
      have h99_ := iv_get hv0 (k := 146) (j := 56) (l := 0) (u := 12) rfl
      exact jt_rV ⟨hv, hf, rfl, hi6, (show a0 146 58 ≤ a 146 58 from by omega), (show a 146 58 ≤ (a0 146 58) + (tot (((a0 146 56) - 1) - x1)) from by omega)⟩
  exact ⟨hc43, hc84, hc108, hc87, hc49, hc16⟩
theorem sp_X12_ringsOf (E : jxE) (d : Nat) (hd : Nat.ble 3 d = true) (x1 : Int) (a0 b0 : Nat → Nat → Int) (hv0 : iv a0) (hp0 : 0 ≤ x1) (hp1 : x1 < a0 146 56) (hp2 : rbase a0 x1 ≤ 27000) (hp3 : RS a0) : jt (jxC E d 267 [.inr (.inr (.inl 146)), .inl x1] (jxSH, a0, b0)) (jQ_X12_ringsOf x1 a0 b0) := by
  obtain ⟨d, rfl⟩ := jd_succ hd
  refine jt_eq (bq_X12_ringsOf E d x1 a0 b0) ?_
  have h100_ := iv_get hv0 (k := 146) (j := 56) (l := 0) (u := 12) rfl
  have hv101_ : iv (jxu a0 187 0 x1) := iv_put hv0 (l := 0) (u := 12) rfl (by omega) (by omega)
  have hv102_ : iv (jxu (jxu a0 187 0 x1) 187 1 x1) := iv_put hv101_ (l := 0) (u := 12) rfl (by omega) (by omega)
  have hf103_ : jfr jW_X12_ringsOf a0 (jxu a0 187 0 x1) := jfr_put (jfr_rf _ _) rfl
  have hf104_ : jfr jW_X12_ringsOf a0 (jxu (jxu a0 187 0 x1) 187 1 x1) := jfr_put hf103_ rfl
  have hg105_ : RS (jxu a0 187 0 x1) := (RS_fr hp3 (jfr_1 a0 187 0 x1) rfl (fun _ => rfl) (fun _ => rfl))
  have hg106_ : RS (jxu (jxu a0 187 0 x1) 187 1 x1) := (RS_fr hg105_ (jfr_1 (jxu a0 187 0 x1) 187 1 x1) rfl (fun _ => rfl) (fun _ => rfl))
  exact (cp_X12_ringsOf_16 E d hd x1 a0 b0 hv0 hp0 hp1 hp2 hp3 _).2.2.2.2.2 x1 1 (jxu (jxu a0 187 0 x1) 187 1 x1) (Nat.le_refl _) hv102_ hf104_ (show 0 ≤ x1 from by omega) (show 0 ≤ 1 from by omega) (show 1 ≤ 4 from by omega) (by first | rfl | assumption) (show 0 ≤ 1 from by omega) (show 1 ≤ 4 from by omega) hg106_ (by first | exact RJ_start (by omega) (by omega) (by omega) | exact RJ49_16 hrj | assumption | exact RJ108_16 hrj (by omega) | (rw [hy1]; exact RJ108_push hrj (by omega) (jxw_id (by omega) (by omega)) (by omega) (by omega)) | (rw [show jxw (y2 + (-1)) = y2 - 1 from (by omega)]; exact hrj))
