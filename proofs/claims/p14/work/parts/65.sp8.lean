def jW_X12_close : List (Nat × Nat) := [(146, 9), (146, 39), (146, 40), (146, 41), (146, 55), (154, 9999), (155, 9999), (156, 9999), (157, 9999), (158, 9999), (159, 9999), (160, 9999), (181, 9999), (182, 9999)]
abbrev jQ_X12_close (x1 : Int) (a0 b0 : Nat → Nat → Int) : List jxV → (Nat → Nat → Int) → (Nat → Nat → Int) → Prop := rI (fun r a b => (iv a) ∧ (jfr jW_X12_close a0 a) ∧ (b0 = b) ∧ (OC a) ∧ ((a0 146 64 = 0 → r = 0 - 1)))
theorem cp_X12_close_31 (E : jxE) (d : Nat) (hd : Nat.ble 3 (d + 1) = true) (x1 : Int) (a0 b0 : Nat → Nat → Int) (hv0 : iv a0) (hp0 : OC a0) (hp1 : FO a0) : ∀ (a : Nat → Nat → Int), iv a → jfr jW_X12_close a0 a → (OC a) → jt (jxX E d 274 31 [none, none, none, none, none, none] [] (jxSH, a, b0)) (jQ_X12_close x1 a0 b0) := by
  intro a hv hf hoc
  refine jt_eq (bq_X12_close_31 E d a b0) ?_
  have h1_ := iv_get hv0 (k := 146) (j := 64) (l := 0) (u := 6) rfl
  exact jt_rI ⟨hv, hf, rfl, hoc, (show (a0 146 64 = 0 → (-1) = 0 - 1) from by omega)⟩
theorem cp_X12_close_65 (E : jxE) (d : Nat) (hd : Nat.ble 3 (d + 1) = true) (x1 : Int) (a0 b0 : Nat → Nat → Int) (hv0 : iv a0) (hp0 : OC a0) (hp1 : FO a0) : ∀ (a : Nat → Nat → Int), iv a → jfr jW_X12_close a0 a → (OC a) → 1 ≤ a0 146 64 → jt (jxX E d 274 65 [none, none, none, none, none, none] [] (jxSH, a, b0)) (jQ_X12_close x1 a0 b0) := by
  intro a hv hf hoc hi1
  refine jt_eq (bq_X12_close_65 E d a b0) ?_
  have h2_ := iv_get hv0 (k := 146) (j := 64) (l := 0) (u := 6) rfl
  exact jt_rI ⟨hv, hf, rfl, hoc, (show (a0 146 64 = 0 → (-1) = 0 - 1) from by omega)⟩
theorem cp_X12_close_75 (E : jxE) (d : Nat) (hd : Nat.ble 3 (d + 1) = true) (x1 : Int) (a0 b0 : Nat → Nat → Int) (hv0 : iv a0) (hp0 : OC a0) (hp1 : FO a0) : ∀ n : Nat, (∀ (y1 y2 y3 : Int) (a : Nat → Nat → Int), (((5 - y3) * 1) + 0).toNat ≤ n → iv a → jfr jW_X12_close a0 a → 0 ≤ y1 → y1 ≤ 5 → 1 ≤ y2 → y2 ≤ 5 → 0 ≤ y3 → y3 ≤ 4 → 0 ≤ y1 → y1 ≤ 5 → 0 ≤ y2 → y2 ≤ 5 → (OC a) → ((a 146 9) + y2) - y3 ≤ 301 → 1 ≤ a 146 49 → y3 < y2 → 1 ≤ a0 146 64 → jt (jxX E d 274 150 [some (.inr (.inr (.inl 146))), some (.inl y1), some (.inl y2), some (.inl y3), none, none] [] (jxSH, a, b0)) (jQ_X12_close x1 a0 b0)) ∧ (∀ (y1 y2 y3 y4 y5 : Int) (a : Nat → Nat → Int), (((5 - y3) * 1) + 0).toNat ≤ n → iv a → jfr jW_X12_close a0 a → 0 ≤ y1 → y1 ≤ 5 → 1 ≤ y2 → y2 ≤ 5 → 0 ≤ y3 → y3 ≤ 4 → 0 ≤ y4 → y4 ≤ 19 → 0 ≤ y5 → y5 ≤ 19 → 0 ≤ y1 → y1 ≤ 5 → 0 ≤ y2 → y2 ≤ 5 → (OC a) → ((a 146 9) + y2) - y3 ≤ 300 → 1 ≤ a 146 49 → y4 < a 146 49 → y3 < y2 → 1 ≤ a0 146 64 → jt (jxX E d 274 108 [some (.inr (.inr (.inl 146))), some (.inl y1), some (.inl y2), some (.inl y3), some (.inl y4), some (.inl y5)] [] (jxSH, a, b0)) (jQ_X12_close x1 a0 b0)) ∧ (∀ (y1 y2 y3 : Int) (a : Nat → Nat → Int), (((5 - y3) * 1) + 0).toNat ≤ n → iv a → jfr jW_X12_close a0 a → 0 ≤ y1 → y1 ≤ 5 → 0 ≤ y2 → y2 ≤ 5 → 0 ≤ y3 → y3 ≤ 5 → 0 ≤ y1 → y1 ≤ 5 → 0 ≤ y2 → y2 ≤ 5 → (OC a) → ((a 146 9) + y2) - y3 ≤ 300 → 1 ≤ a 146 49 → y3 ≤ y2 → 1 ≤ a0 146 64 → jt (jxX E d 274 75 [some (.inr (.inr (.inl 146))), some (.inl y1), some (.inl y2), some (.inl y3), none, none] [] (jxSH, a, b0)) (jQ_X12_close x1 a0 b0)) := by
  refine jx_ind fun n ih => ?_
  have ih150 : ∀ (y1 y2 y3 : Int) (a : Nat → Nat → Int), (((5 - y3) * 1) + 0).toNat < n → iv a → jfr jW_X12_close a0 a → 0 ≤ y1 → y1 ≤ 5 → 1 ≤ y2 → y2 ≤ 5 → 0 ≤ y3 → y3 ≤ 4 → 0 ≤ y1 → y1 ≤ 5 → 0 ≤ y2 → y2 ≤ 5 → (OC a) → ((a 146 9) + y2) - y3 ≤ 301 → 1 ≤ a 146 49 → y3 < y2 → 1 ≤ a0 146 64 → jt (jxX E d 274 150 [some (.inr (.inr (.inl 146))), some (.inl y1), some (.inl y2), some (.inl y3), none, none] [] (jxSH, a, b0)) (jQ_X12_close x1 a0 b0) := fun y1 y2 y3 a hlt i0 i1 i2 i3 i4 i5 i6 i7 i8 i9 i10 i11 i12 i13 i14 i15 i16 => (ih _ hlt).1 y1 y2 y3 a (Nat.le_refl _) i0 i1 i2 i3 i4 i5 i6 i7 i8 i9 i10 i11 i12 i13 i14 i15 i16
  have ih108 : ∀ (y1 y2 y3 y4 y5 : Int) (a : Nat → Nat → Int), (((5 - y3) * 1) + 0).toNat < n → iv a → jfr jW_X12_close a0 a → 0 ≤ y1 → y1 ≤ 5 → 1 ≤ y2 → y2 ≤ 5 → 0 ≤ y3 → y3 ≤ 4 → 0 ≤ y4 → y4 ≤ 19 → 0 ≤ y5 → y5 ≤ 19 → 0 ≤ y1 → y1 ≤ 5 → 0 ≤ y2 → y2 ≤ 5 → (OC a) → ((a 146 9) + y2) - y3 ≤ 300 → 1 ≤ a 146 49 → y4 < a 146 49 → y3 < y2 → 1 ≤ a0 146 64 → jt (jxX E d 274 108 [some (.inr (.inr (.inl 146))), some (.inl y1), some (.inl y2), some (.inl y3), some (.inl y4), some (.inl y5)] [] (jxSH, a, b0)) (jQ_X12_close x1 a0 b0) := fun y1 y2 y3 y4 y5 a hlt i0 i1 i2 i3 i4 i5 i6 i7 i8 i9 i10 i11 i12 i13 i14 i15 i16 i17 i18 i19 i20 i21 => (ih _ hlt).2.1 y1 y2 y3 y4 y5 a (Nat.le_refl _) i0 i1 i2 i3 i4 i5 i6 i7 i8 i9 i10 i11 i12 i13 i14 i15 i16 i17 i18 i19 i20 i21
  have ih75 : ∀ (y1 y2 y3 : Int) (a : Nat → Nat → Int), (((5 - y3) * 1) + 0).toNat < n → iv a → jfr jW_X12_close a0 a → 0 ≤ y1 → y1 ≤ 5 → 0 ≤ y2 → y2 ≤ 5 → 0 ≤ y3 → y3 ≤ 5 → 0 ≤ y1 → y1 ≤ 5 → 0 ≤ y2 → y2 ≤ 5 → (OC a) → ((a 146 9) + y2) - y3 ≤ 300 → 1 ≤ a 146 49 → y3 ≤ y2 → 1 ≤ a0 146 64 → jt (jxX E d 274 75 [some (.inr (.inr (.inl 146))), some (.inl y1), some (.inl y2), some (.inl y3), none, none] [] (jxSH, a, b0)) (jQ_X12_close x1 a0 b0) := fun y1 y2 y3 a hlt i0 i1 i2 i3 i4 i5 i6 i7 i8 i9 i10 i11 i12 i13 i14 i15 i16 => (ih _ hlt).2.2 y1 y2 y3 a (Nat.le_refl _) i0 i1 i2 i3 i4 i5 i6 i7 i8 i9 i10 i11 i12 i13 i14 i15 i16
  have hc150 : ∀ (y1 y2 y3 : Int) (a : Nat → Nat → Int), (((5 - y3) * 1) + 0).toNat ≤ n → iv a → jfr jW_X12_close a0 a → 0 ≤ y1 → y1 ≤ 5 → 1 ≤ y2 → y2 ≤ 5 → 0 ≤ y3 → y3 ≤ 4 → 0 ≤ y1 → y1 ≤ 5 → 0 ≤ y2 → y2 ≤ 5 → (OC a) → ((a 146 9) + y2) - y3 ≤ 301 → 1 ≤ a 146 49 → y3 < y2 → 1 ≤ a0 146 64 → jt (jxX E d 274 150 [some (.inr (.inr (.inl 146))), some (.inl y1), some (.inl y2), some (.inl y3), none, none] [] (jxSH, a, b0)) (jQ_X12_close x1 a0 b0) := by
    intro y1 y2 y3 a hm hv hf hi0 hi1 hi2 hi3 hi4 hi5 hi6 hi7 hi8 hi9 hoc hi11 hi12 hi13 hi14
    refine jt_eq (bq_X12_close_150 E d y1 y2 y3 a b0) ?_
    have h3_ := iv_get hv (k := 146) (j := 9) (l := 0) (u := 300) rfl
    have h4_ := iv_get hv (k := 146) (j := 49) (l := 0) (u := 20) rfl
    have h5_ : a 146 49 = a0 146 49 := hf 146 49 rfl
    have h6_ := iv_get hv0 (k := 146) (j := 49) (l := 0) (u := 20) rfl
    have h7_ := iv_get hv0 (k := 146) (j := 64) (l := 0) (u := 6) rfl
    have h8_ : jxw (y3 + 1) = y3 + 1 := jxw_id (by omega) (by omega)
    exact ih75 y1 y2 (jxw (y3 + 1)) a (show (((5 - (jxw (y3 + 1))) * 1) + 0).toNat < n from by omega) hv hf (show 0 ≤ y1 from by omega) (show y1 ≤ 5 from by omega) (show 0 ≤ y2 from by omega) (show y2 ≤ 5 from by omega) (show 0 ≤ jxw (y3 + 1) from by omega) (show jxw (y3 + 1) ≤ 5 from by omega) (show 0 ≤ y1 from by omega) (show y1 ≤ 5 from by omega) (show 0 ≤ y2 from by omega) (show y2 ≤ 5 from by omega) hoc (show ((a 146 9) + y2) - (jxw (y3 + 1)) ≤ 300 from by omega) (show 1 ≤ a 146 49 from by omega) (show jxw (y3 + 1) ≤ y2 from by omega) (show 1 ≤ a0 146 64 from by omega)
  have hc108 : ∀ (y1 y2 y3 y4 y5 : Int) (a : Nat → Nat → Int), (((5 - y3) * 1) + 0).toNat ≤ n → iv a → jfr jW_X12_close a0 a → 0 ≤ y1 → y1 ≤ 5 → 1 ≤ y2 → y2 ≤ 5 → 0 ≤ y3 → y3 ≤ 4 → 0 ≤ y4 → y4 ≤ 19 → 0 ≤ y5 → y5 ≤ 19 → 0 ≤ y1 → y1 ≤ 5 → 0 ≤ y2 → y2 ≤ 5 → (OC a) → ((a 146 9) + y2) - y3 ≤ 300 → 1 ≤ a 146 49 → y4 < a 146 49 → y3 < y2 → 1 ≤ a0 146 64 → jt (jxX E d 274 108 [some (.inr (.inr (.inl 146))), some (.inl y1), some (.inl y2), some (.inl y3), some (.inl y4), some (.inl y5)] [] (jxSH, a, b0)) (jQ_X12_close x1 a0 b0) := by
    intro y1 y2 y3 y4 y5 a hm hv hf hi0 hi1 hi2 hi3 hi4 hi5 hi6 hi7 hi8 hi9 hi10 hi11 hi12 hi13 hoc hi15 hi16 hi17 hi18 hi19
    refine jt_eq (bq_X12_close_108 E d y1 y2 y3 y4 y5 a b0) ?_
    have h9_ := iv_get hv (k := 146) (j := 9) (l := 0) (u := 300) rfl
    have h10_ := iv_get hv (k := 146) (j := 49) (l := 0) (u := 20) rfl
    have h11_ : a 146 49 = a0 146 49 := hf 146 49 rfl
    have h12_ := iv_get hv0 (k := 146) (j := 49) (l := 0) (u := 20) rfl
    have h13_ := iv_get hv0 (k := 146) (j := 64) (l := 0) (u := 6) rfl
    refine jt_grd (by omega) ?_
    refine jt_grd (by omega) ?_
    refine jt_grd (by omega) ?_
    refine jt_grd (by omega) ?_
    have hv14_ : iv (jxu a 181 (y4.toNat) 1) := iv_put hv (l := 0) (u := 2) rfl (by omega) (by omega)
    have hv15_ : iv (jxu (jxu a 181 (y4.toNat) 1) 182 (y4.toNat) (a 146 55)) := iv_putf hv14_ rfl
    have h16_ := iv_get hv (k := 178) (j := y4.toNat) (l := 0) (u := 39) rfl
    have h17_ : a 178 (y4.toNat) = a0 178 (y4.toNat) := hf 178 (y4.toNat) rfl
    have h18_ := iv_get hv0 (k := 178) (j := y4.toNat) (l := 0) (u := 39) rfl
    have h19_ := iv_get hv (k := 178) (j := y5.toNat) (l := 0) (u := 39) rfl
    have h20_ : a 178 (y5.toNat) = a0 178 (y5.toNat) := hf 178 (y5.toNat) rfl
    have h21_ := iv_get hv0 (k := 178) (j := y5.toNat) (l := 0) (u := 39) rfl
    refine jt_bI (sp_X12_sends E d (jd_le hd rfl) (a 178 (y4.toNat)) (a 178 (y5.toNat)) (a 146 55) (jxu (jxu a 181 (y4.toNat) 1) 182 (y4.toNat) (a 146 55)) b0 hv15_ (show (0 ≤ a 178 (y4.toNat) ∧ a 178 (y4.toNat) ≤ 39) from by omega) (show (0 ≤ a 178 (y5.toNat) ∧ a 178 (y5.toNat) ≤ 39) from by omega) (show a 146 9 ≤ 299 from by omega)) (fun r22_ a22_ b22_ h22_ => ?_)
    obtain ⟨hv22_, hf22_, rfl, hq22_0, hq22_1, hq22_2, hq22_3, hq22_4⟩ := h22_
    have h23_ := iv_get hv22_ (k := 146) (j := 9) (l := 0) (u := 300) rfl
    have h24_ : a22_ 146 9 = (a 146 9) + 1 := hq22_0
    have h25_ : r22_ = a 146 9 := hq22_4
    have hf26_ : jfr jW_X12_close a0 (jxu a 181 (y4.toNat) 1) := jfr_put hf rfl
    have hf27_ : jfr jW_X12_close a0 (jxu (jxu a 181 (y4.toNat) 1) 182 (y4.toNat) (a 146 55)) := jfr_put hf26_ rfl
    have hf28_ : jfr jW_X12_close a0 a22_ := jfr_tr hf27_ hf22_ rfl
    have h29_ := iv_get hv22_ (k := 146) (j := 49) (l := 0) (u := 20) rfl
    have h30_ : a22_ 146 49 = a 146 49 := hf22_ 146 49 rfl
    exact hc150 y1 y2 y3 a22_ (show (((5 - y3) * 1) + 0).toNat ≤ n from by omega) hv22_ hf28_ (show 0 ≤ y1 from by omega) (show y1 ≤ 5 from by omega) (show 1 ≤ y2 from by omega) (show y2 ≤ 5 from by omega) (show 0 ≤ y3 from by omega) (show y3 ≤ 4 from by omega) (show 0 ≤ y1 from by omega) (show y1 ≤ 5 from by omega) (show 0 ≤ y2 from by omega) (show y2 ≤ 5 from by omega) (OC_close hoc (o := y4.toNat) (R := a 146 55) (by omega) (by omega) (by omega) (hf22_ 146 49 rfl) (fun c hc => hq22_2 c hc) (fun j => hf22_ 178 j rfl) (fun j hj => by rw [hf22_ 181 j rfl]; simp [jxu, hj]) (fun j hj => by rw [hf22_ 182 j rfl]; simp [jxu, hj]) (by rw [hf22_ 182 _ rfl]; simp [jxu]) hq22_1.2 hq22_1.1) (show ((a22_ 146 9) + y2) - y3 ≤ 301 from by omega) (show 1 ≤ a22_ 146 49 from by omega) (show y3 < y2 from by omega) (show 1 ≤ a0 146 64 from by omega)
  have hc75 : ∀ (y1 y2 y3 : Int) (a : Nat → Nat → Int), (((5 - y3) * 1) + 0).toNat ≤ n → iv a → jfr jW_X12_close a0 a → 0 ≤ y1 → y1 ≤ 5 → 0 ≤ y2 → y2 ≤ 5 → 0 ≤ y3 → y3 ≤ 5 → 0 ≤ y1 → y1 ≤ 5 → 0 ≤ y2 → y2 ≤ 5 → (OC a) → ((a 146 9) + y2) - y3 ≤ 300 → 1 ≤ a 146 49 → y3 ≤ y2 → 1 ≤ a0 146 64 → jt (jxX E d 274 75 [some (.inr (.inr (.inl 146))), some (.inl y1), some (.inl y2), some (.inl y3), none, none] [] (jxSH, a, b0)) (jQ_X12_close x1 a0 b0) := by
    intro y1 y2 y3 a hm hv hf hi0 hi1 hi2 hi3 hi4 hi5 hi6 hi7 hi8 hi9 hoc hi11 hi12 hi13 hi14
    refine jt_eq (bq_X12_close_75 E d y1 y2 y3 a b0) ?_
    have h31_ := iv_get hv (k := 146) (j := 9) (l := 0) (u := 300) rfl
    have h32_ := iv_get hv (k := 146) (j := 49) (l := 0) (u := 20) rfl
    have h33_ : a 146 49 = a0 146 49 := hf 146 49 rfl
    have h34_ := iv_get hv0 (k := 146) (j := 49) (l := 0) (u := 20) rfl
    have h35_ := iv_get hv0 (k := 146) (j := 64) (l := 0) (u := 6) rfl
    have hfo := (FO_fr hp1 hf rfl rfl (fun _ => rfl)).1 ((jxw ((jxw (5 * y1)) + y3)).toNat)
    have hyy : jxw (y3 + 1) = y3 + 1 := jxw_id (by omega) (by omega)
    have htm : y3 < y2 → 0 ≤ Int.tmod (jxw (y3 + 1)) y2 ∧ Int.tmod (jxw (y3 + 1)) y2 < y2 := fun h => ⟨Int.tmod_nonneg _ (by omega), Int.tmod_lt_of_pos _ (by omega)⟩
    refine jt_ite (fun c36_ => ?_) (fun c36_ => ?_)
    ·
      have h37_ : jxw (5 * y1) = 5 * y1 := jxw_id (by omega) (by omega)
      have h38_ : jxw ((jxw (5 * y1)) + y3) = (jxw (5 * y1)) + y3 := jxw_id (by omega) (by omega)
      refine jt_grd (by omega) ?_
      refine jt_dvd (by omega) ?_
      have h39_ : jxw (y3 + 1) = y3 + 1 := jxw_id (by omega) (by omega)
      have h40_ := jxw_im (Int.tmod (jxw (y3 + 1)) y2)
      have h41_ := jxw_rg (Int.tmod (jxw (y3 + 1)) y2)
      have h42_ := jxw_im ((jxw (5 * y1)) + (jxw (Int.tmod (jxw (y3 + 1)) y2)))
      have h43_ := jxw_rg ((jxw (5 * y1)) + (jxw (Int.tmod (jxw (y3 + 1)) y2)))
      refine jt_grd (by omega) ?_
      have h44_ := iv_get hv (k := 189) (j := (jxw ((jxw (5 * y1)) + y3)).toNat) (l := 0) (u := 19) rfl
      have h45_ : a 189 ((jxw ((jxw (5 * y1)) + y3)).toNat) = a0 189 ((jxw ((jxw (5 * y1)) + y3)).toNat) := hf 189 ((jxw ((jxw (5 * y1)) + y3)).toNat) rfl
      have h46_ := iv_get hv0 (k := 189) (j := (jxw ((jxw (5 * y1)) + y3)).toNat) (l := 0) (u := 19) rfl
      have h47_ := iv_get hv (k := 189) (j := (jxw ((jxw (5 * y1)) + (jxw (Int.tmod (jxw (y3 + 1)) y2)))).toNat) (l := 0) (u := 19) rfl
      have h48_ : a 189 ((jxw ((jxw (5 * y1)) + (jxw (Int.tmod (jxw (y3 + 1)) y2)))).toNat) = a0 189 ((jxw ((jxw (5 * y1)) + (jxw (Int.tmod (jxw (y3 + 1)) y2)))).toNat) := hf 189 ((jxw ((jxw (5 * y1)) + (jxw (Int.tmod (jxw (y3 + 1)) y2)))).toNat) rfl
      have h49_ := iv_get hv0 (k := 189) (j := (jxw ((jxw (5 * y1)) + (jxw (Int.tmod (jxw (y3 + 1)) y2)))).toNat) (l := 0) (u := 19) rfl
      exact hc108 y1 y2 y3 (a 189 ((jxw ((jxw (5 * y1)) + y3)).toNat)) (a 189 ((jxw ((jxw (5 * y1)) + (jxw (Int.tmod (jxw (y3 + 1)) y2)))).toNat)) a (show (((5 - y3) * 1) + 0).toNat ≤ n from by omega) hv hf (show 0 ≤ y1 from by omega) (show y1 ≤ 5 from by omega) (show 1 ≤ y2 from by omega) (show y2 ≤ 5 from by omega) (show 0 ≤ y3 from by omega) (show y3 ≤ 4 from by omega) (show 0 ≤ a 189 ((jxw ((jxw (5 * y1)) + y3)).toNat) from by omega) (show a 189 ((jxw ((jxw (5 * y1)) + y3)).toNat) ≤ 19 from by omega) (show 0 ≤ a 189 ((jxw ((jxw (5 * y1)) + (jxw (Int.tmod (jxw (y3 + 1)) y2)))).toNat) from by omega) (show a 189 ((jxw ((jxw (5 * y1)) + (jxw (Int.tmod (jxw (y3 + 1)) y2)))).toNat) ≤ 19 from by omega) (show 0 ≤ y1 from by omega) (show y1 ≤ 5 from by omega) (show 0 ≤ y2 from by omega) (show y2 ≤ 5 from by omega) hoc (show ((a 146 9) + y2) - y3 ≤ 300 from by omega) (show 1 ≤ a 146 49 from by omega) (show a 189 ((jxw ((jxw (5 * y1)) + y3)).toNat) < a 146 49 from by omega) (show y3 < y2 from by omega) (show 1 ≤ a0 146 64 from by omega)
    ·
      have hv50_ : iv (jxu a 146 55 (jxw ((a 146 55) + 1))) := iv_putf hv rfl
      have hf51_ : jfr jW_X12_close a0 (jxu a 146 55 (jxw ((a 146 55) + 1))) := jfr_put hf rfl
      have hg52_ : OC (jxu a 146 55 (jxw ((a 146 55) + 1))) := (OC_fr hoc (jfr_1s a 146 55 (jxw ((a 146 55) + 1))) rfl rfl (fun _ => rfl) (fun _ => rfl) (fun _ => rfl) (fun _ => rfl) (fun _ => rfl))
      have h53_ := jxw_im ((a 146 55) + 1)
      have h54_ := jxw_rg ((a 146 55) + 1)
      have h55_ := jxw_im ((jxw ((a 146 55) + 1)) - 1)
      have h56_ := jxw_rg ((jxw ((a 146 55) + 1)) - 1)
      exact jt_rI ⟨hv50_, hf51_, rfl, hg52_, (show (a0 146 64 = 0 → jxw ((jxw ((a 146 55) + 1)) - 1) = 0 - 1) from by omega)⟩
  exact ⟨hc150, hc108, hc75⟩
theorem cp_X12_close_42 (E : jxE) (d : Nat) (hd : Nat.ble 3 (d + 1) = true) (x1 : Int) (a0 b0 : Nat → Nat → Int) (hv0 : iv a0) (hp0 : OC a0) (hp1 : FO a0) : ∀ n : Nat, (∀ (y1 y2 y3 : Int) (a : Nat → Nat → Int), (((5 - y3) * 1) + 0).toNat ≤ n → iv a → jfr jW_X12_close a0 a → 0 ≤ y1 → y1 ≤ 5 → 1 ≤ y2 → y2 ≤ 5 → 0 ≤ y3 → y3 ≤ 4 → 0 ≤ y1 → y1 ≤ 5 → 0 ≤ y2 → y2 ≤ 5 → (OC a) → (a 146 9) + y2 ≤ 300 → 1 ≤ a 146 49 → y3 < y2 → 1 ≤ a0 146 64 → jt (jxX E d 274 67 [some (.inr (.inr (.inl 146))), some (.inl y1), some (.inl y2), some (.inl y3), none, none] [] (jxSH, a, b0)) (jQ_X12_close x1 a0 b0)) ∧ (∀ (y1 y2 y3 : Int) (a : Nat → Nat → Int), (((5 - y3) * 1) + 0).toNat ≤ n → iv a → jfr jW_X12_close a0 a → 0 ≤ y1 → y1 ≤ 5 → 0 ≤ y2 → y2 ≤ 5 → 0 ≤ y3 → y3 ≤ 5 → 0 ≤ y1 → y1 ≤ 5 → 0 ≤ y2 → y2 ≤ 5 → (OC a) → (a 146 9) + y2 ≤ 300 → 1 ≤ a 146 49 → 1 ≤ a0 146 64 → jt (jxX E d 274 42 [some (.inr (.inr (.inl 146))), some (.inl y1), some (.inl y2), some (.inl y3), none, none] [] (jxSH, a, b0)) (jQ_X12_close x1 a0 b0)) := by
  refine jx_ind fun n ih => ?_
  have ih67 : ∀ (y1 y2 y3 : Int) (a : Nat → Nat → Int), (((5 - y3) * 1) + 0).toNat < n → iv a → jfr jW_X12_close a0 a → 0 ≤ y1 → y1 ≤ 5 → 1 ≤ y2 → y2 ≤ 5 → 0 ≤ y3 → y3 ≤ 4 → 0 ≤ y1 → y1 ≤ 5 → 0 ≤ y2 → y2 ≤ 5 → (OC a) → (a 146 9) + y2 ≤ 300 → 1 ≤ a 146 49 → y3 < y2 → 1 ≤ a0 146 64 → jt (jxX E d 274 67 [some (.inr (.inr (.inl 146))), some (.inl y1), some (.inl y2), some (.inl y3), none, none] [] (jxSH, a, b0)) (jQ_X12_close x1 a0 b0) := fun y1 y2 y3 a hlt i0 i1 i2 i3 i4 i5 i6 i7 i8 i9 i10 i11 i12 i13 i14 i15 i16 => (ih _ hlt).1 y1 y2 y3 a (Nat.le_refl _) i0 i1 i2 i3 i4 i5 i6 i7 i8 i9 i10 i11 i12 i13 i14 i15 i16
  have ih42 : ∀ (y1 y2 y3 : Int) (a : Nat → Nat → Int), (((5 - y3) * 1) + 0).toNat < n → iv a → jfr jW_X12_close a0 a → 0 ≤ y1 → y1 ≤ 5 → 0 ≤ y2 → y2 ≤ 5 → 0 ≤ y3 → y3 ≤ 5 → 0 ≤ y1 → y1 ≤ 5 → 0 ≤ y2 → y2 ≤ 5 → (OC a) → (a 146 9) + y2 ≤ 300 → 1 ≤ a 146 49 → 1 ≤ a0 146 64 → jt (jxX E d 274 42 [some (.inr (.inr (.inl 146))), some (.inl y1), some (.inl y2), some (.inl y3), none, none] [] (jxSH, a, b0)) (jQ_X12_close x1 a0 b0) := fun y1 y2 y3 a hlt i0 i1 i2 i3 i4 i5 i6 i7 i8 i9 i10 i11 i12 i13 i14 i15 => (ih _ hlt).2 y1 y2 y3 a (Nat.le_refl _) i0 i1 i2 i3 i4 i5 i6 i7 i8 i9 i10 i11 i12 i13 i14 i15
  have hc67 : ∀ (y1 y2 y3 : Int) (a : Nat → Nat → Int), (((5 - y3) * 1) + 0).toNat ≤ n → iv a → jfr jW_X12_close a0 a → 0 ≤ y1 → y1 ≤ 5 → 1 ≤ y2 → y2 ≤ 5 → 0 ≤ y3 → y3 ≤ 4 → 0 ≤ y1 → y1 ≤ 5 → 0 ≤ y2 → y2 ≤ 5 → (OC a) → (a 146 9) + y2 ≤ 300 → 1 ≤ a 146 49 → y3 < y2 → 1 ≤ a0 146 64 → jt (jxX E d 274 67 [some (.inr (.inr (.inl 146))), some (.inl y1), some (.inl y2), some (.inl y3), none, none] [] (jxSH, a, b0)) (jQ_X12_close x1 a0 b0) := by
    intro y1 y2 y3 a hm hv hf hi0 hi1 hi2 hi3 hi4 hi5 hi6 hi7 hi8 hi9 hoc hi11 hi12 hi13 hi14
    refine jt_eq (bq_X12_close_67 E d y1 y2 y3 a b0) ?_
    have h57_ := iv_get hv (k := 146) (j := 9) (l := 0) (u := 300) rfl
    have h58_ := iv_get hv (k := 146) (j := 49) (l := 0) (u := 20) rfl
    have h59_ : a 146 49 = a0 146 49 := hf 146 49 rfl
    have h60_ := iv_get hv0 (k := 146) (j := 49) (l := 0) (u := 20) rfl
    have h61_ := iv_get hv0 (k := 146) (j := 64) (l := 0) (u := 6) rfl
    have h62_ : jxw (y3 + 1) = y3 + 1 := jxw_id (by omega) (by omega)
    exact ih42 y1 y2 (jxw (y3 + 1)) a (show (((5 - (jxw (y3 + 1))) * 1) + 0).toNat < n from by omega) hv hf (show 0 ≤ y1 from by omega) (show y1 ≤ 5 from by omega) (show 0 ≤ y2 from by omega) (show y2 ≤ 5 from by omega) (show 0 ≤ jxw (y3 + 1) from by omega) (show jxw (y3 + 1) ≤ 5 from by omega) (show 0 ≤ y1 from by omega) (show y1 ≤ 5 from by omega) (show 0 ≤ y2 from by omega) (show y2 ≤ 5 from by omega) hoc (show (a 146 9) + y2 ≤ 300 from by omega) (show 1 ≤ a 146 49 from by omega) (show 1 ≤ a0 146 64 from by omega)
  have hc42 : ∀ (y1 y2 y3 : Int) (a : Nat → Nat → Int), (((5 - y3) * 1) + 0).toNat ≤ n → iv a → jfr jW_X12_close a0 a → 0 ≤ y1 → y1 ≤ 5 → 0 ≤ y2 → y2 ≤ 5 → 0 ≤ y3 → y3 ≤ 5 → 0 ≤ y1 → y1 ≤ 5 → 0 ≤ y2 → y2 ≤ 5 → (OC a) → (a 146 9) + y2 ≤ 300 → 1 ≤ a 146 49 → 1 ≤ a0 146 64 → jt (jxX E d 274 42 [some (.inr (.inr (.inl 146))), some (.inl y1), some (.inl y2), some (.inl y3), none, none] [] (jxSH, a, b0)) (jQ_X12_close x1 a0 b0) := by
    intro y1 y2 y3 a hm hv hf hi0 hi1 hi2 hi3 hi4 hi5 hi6 hi7 hi8 hi9 hoc hi11 hi12 hi13
    refine jt_eq (bq_X12_close_42 E d y1 y2 y3 a b0) ?_
    have h63_ := iv_get hv (k := 146) (j := 9) (l := 0) (u := 300) rfl
    have h64_ := iv_get hv (k := 146) (j := 49) (l := 0) (u := 20) rfl
    have h65_ : a 146 49 = a0 146 49 := hf 146 49 rfl
    have h66_ := iv_get hv0 (k := 146) (j := 49) (l := 0) (u := 20) rfl
    have h67_ := iv_get hv0 (k := 146) (j := 64) (l := 0) (u := 6) rfl
    refine jt_ite (fun c68_ => ?_) (fun c68_ => ?_)
    ·
      have h69_ : jxw (5 * y1) = 5 * y1 := jxw_id (by omega) (by omega)
      have h70_ : jxw ((jxw (5 * y1)) + y3) = (jxw (5 * y1)) + y3 := jxw_id (by omega) (by omega)
      refine jt_grd (by omega) ?_
      have h71_ := iv_get hv (k := 189) (j := (jxw ((jxw (5 * y1)) + y3)).toNat) (l := 0) (u := 19) rfl
      have h72_ : a 189 ((jxw ((jxw (5 * y1)) + y3)).toNat) = a0 189 ((jxw ((jxw (5 * y1)) + y3)).toNat) := hf 189 ((jxw ((jxw (5 * y1)) + y3)).toNat) rfl
      have h73_ := iv_get hv0 (k := 189) (j := (jxw ((jxw (5 * y1)) + y3)).toNat) (l := 0) (u := 19) rfl
      refine jt_grd (by omega) ?_
      have h74_ := iv_get hv (k := 181) (j := (a 189 ((jxw ((jxw (5 * y1)) + y3)).toNat)).toNat) (l := 0) (u := 2) rfl
      refine jt_ite (fun c75_ => ?_) (fun c75_ => ?_)
      ·
        exact hc67 y1 y2 y3 a (show (((5 - y3) * 1) + 0).toNat ≤ n from by omega) hv hf (show 0 ≤ y1 from by omega) (show y1 ≤ 5 from by omega) (show 1 ≤ y2 from by omega) (show y2 ≤ 5 from by omega) (show 0 ≤ y3 from by omega) (show y3 ≤ 4 from by omega) (show 0 ≤ y1 from by omega) (show y1 ≤ 5 from by omega) (show 0 ≤ y2 from by omega) (show y2 ≤ 5 from by omega) hoc (show (a 146 9) + y2 ≤ 300 from by omega) (show 1 ≤ a 146 49 from by omega) (show y3 < y2 from by omega) (show 1 ≤ a0 146 64 from by omega)
      ·
        exact cp_X12_close_65 E d hd x1 a0 b0 hv0 hp0 hp1 a hv hf hoc (show 1 ≤ a0 146 64 from by omega)
    ·
      exact (cp_X12_close_75 E d hd x1 a0 b0 hv0 hp0 hp1 _).2.2 y1 y2 0 a (Nat.le_refl _) hv hf (show 0 ≤ y1 from by omega) (show y1 ≤ 5 from by omega) (show 0 ≤ y2 from by omega) (show y2 ≤ 5 from by omega) (show 0 ≤ 0 from by omega) (show 0 ≤ 5 from by omega) (show 0 ≤ y1 from by omega) (show y1 ≤ 5 from by omega) (show 0 ≤ y2 from by omega) (show y2 ≤ 5 from by omega) hoc (show ((a 146 9) + y2) - 0 ≤ 300 from by omega) (show 1 ≤ a 146 49 from by omega) (show 0 ≤ y2 from by omega) (show 1 ≤ a0 146 64 from by omega)
  exact ⟨hc67, hc42⟩
theorem cp_X12_close_33 (E : jxE) (d : Nat) (hd : Nat.ble 3 (d + 1) = true) (x1 : Int) (a0 b0 : Nat → Nat → Int) (hv0 : iv a0) (hp0 : OC a0) (hp1 : FO a0) : ∀ (y1 : Int) (a : Nat → Nat → Int), iv a → jfr jW_X12_close a0 a → 0 ≤ y1 → y1 ≤ 5 → 0 ≤ y1 → y1 ≤ 5 → (OC a) → (a 146 9) + (a 190 (y1.toNat)) ≤ 300 → 1 ≤ a 146 49 → 1 ≤ a0 146 64 → jt (jxX E d 274 33 [some (.inr (.inr (.inl 146))), some (.inl y1), none, none, none, none] [] (jxSH, a, b0)) (jQ_X12_close x1 a0 b0) := by
  intro y1 a hv hf hi0 hi1 hi2 hi3 hoc hi5 hi6 hi7
  refine jt_eq (bq_X12_close_33 E d y1 a b0) ?_
  have h76_ := iv_get hv (k := 146) (j := 9) (l := 0) (u := 300) rfl
  have h77_ := iv_get hv (k := 190) (j := y1.toNat) (l := 0) (u := 5) rfl
  have h78_ : a 190 (y1.toNat) = a0 190 (y1.toNat) := hf 190 (y1.toNat) rfl
  have h79_ := iv_get hv0 (k := 190) (j := y1.toNat) (l := 0) (u := 5) rfl
  have h80_ := iv_get hv (k := 146) (j := 49) (l := 0) (u := 20) rfl
  have h81_ : a 146 49 = a0 146 49 := hf 146 49 rfl
  have h82_ := iv_get hv0 (k := 146) (j := 49) (l := 0) (u := 20) rfl
  have h83_ := iv_get hv0 (k := 146) (j := 64) (l := 0) (u := 6) rfl
  refine jt_grd (by omega) ?_
  exact (cp_X12_close_42 E d hd x1 a0 b0 hv0 hp0 hp1 _).2 y1 (a 190 (y1.toNat)) 0 a (Nat.le_refl _) hv hf (show 0 ≤ y1 from by omega) (show y1 ≤ 5 from by omega) (show 0 ≤ a 190 (y1.toNat) from by omega) (show a 190 (y1.toNat) ≤ 5 from by omega) (show 0 ≤ 0 from by omega) (show 0 ≤ 5 from by omega) (show 0 ≤ y1 from by omega) (show y1 ≤ 5 from by omega) (show 0 ≤ a 190 (y1.toNat) from by omega) (show a 190 (y1.toNat) ≤ 5 from by omega) hoc (show (a 146 9) + (a 190 (y1.toNat)) ≤ 300 from by omega) (show 1 ≤ a 146 49 from by omega) (show 1 ≤ a0 146 64 from by omega)
theorem sp_X12_close (E : jxE) (d : Nat) (hd : Nat.ble 3 d = true) (x1 : Int) (a0 b0 : Nat → Nat → Int) (hv0 : iv a0) (hp0 : OC a0) (hp1 : FO a0) : jt (jxC E d 274 [.inr (.inr (.inl 146)), .inl x1] (jxSH, a0, b0)) (jQ_X12_close x1 a0 b0) := by
  obtain ⟨d, rfl⟩ := jd_succ hd
  refine jt_eq (bq_X12_close E d x1 a0 b0) ?_
  have hfo2 := hp1.2
  refine jt_eI (eq_X12_in E d (jd_le hd rfl) x1 0 (jxw ((a0 146 64) - 1)) a0 b0) ?_
  have h84_ := iv_get hv0 (k := 146) (j := 64) (l := 0) (u := 6) rfl
  have h85_ : jxw ((a0 146 64) - 1) = (a0 146 64) - 1 := jxw_id (by omega) (by omega)
  have h86_ := f_X12_in_eq a0 b0 x1 0 (jxw ((a0 146 64) - 1))
  refine jt_ite (fun c87_ => ?_) (fun c87_ => ?_)
  ·
    exact cp_X12_close_31 E d hd x1 a0 b0 hv0 hp0 hp1 a0 hv0 (jfr_rf _ _) hp0
  ·
    refine jt_grd (by omega) ?_
    have h88_ := iv_get hv0 (k := 146) (j := 9) (l := 0) (u := 300) rfl
    have h89_ := iv_get hv0 (k := 190) (j := x1.toNat) (l := 0) (u := 5) rfl
    have h90_ : jxw ((a0 146 9) + (a0 190 (x1.toNat))) = (a0 146 9) + (a0 190 (x1.toNat)) := jxw_id (by omega) (by omega)
    refine jt_ite (fun c91_ => ?_) (fun c91_ => ?_)
    ·
      exact cp_X12_close_31 E d hd x1 a0 b0 hv0 hp0 hp1 a0 hv0 (jfr_rf _ _) hp0
    ·
      have h92_ := iv_get hv0 (k := 146) (j := 49) (l := 0) (u := 20) rfl
      exact cp_X12_close_33 E d hd x1 a0 b0 hv0 hp0 hp1 x1 a0 hv0 (jfr_rf _ _) (show 0 ≤ x1 from by omega) (show x1 ≤ 5 from by omega) (show 0 ≤ x1 from by omega) (show x1 ≤ 5 from by omega) hp0 (show (a0 146 9) + (a0 190 (x1.toNat)) ≤ 300 from by omega) (show 1 ≤ a0 146 49 from by omega) (show 1 ≤ a0 146 64 from by omega)
