abbrev jR_X12_cardOf (x1 x2 : Int) (a0 b0 : Nat → Nat → Int) : List jxV → (Nat → Nat → Int) → (Nat → Nat → Int) → Prop := rI (fun r a b => (a0 = a) ∧ (b0 = b) ∧ (0 - 1 ≤ r) ∧ (r ≤ 299) ∧ (r < a0 146 9) ∧ ((∃ c : Nat, (c : Int) < a0 146 9 ∧ a0 158 c = x1 ∧ a0 154 c = x2) → 0 ≤ r) ∧ (r = CRDF (a0 158) (a0 154) x1 x2 (a0 146 9).toNat))
theorem cr_X12_cardOf_30 (E : jxE) (d : Nat) (hd : Nat.ble 1 (d + 1) = true) (x1 x2 : Int) (a0 b0 : Nat → Nat → Int) (hv0 : iv a0) : ∀ (y3 : Int), 0 ≤ y3 → y3 ≤ 299 → 0 ≤ y3 → y3 < a0 146 9 → (CRDF (a0 158) (a0 154) x1 x2 y3.toNat = -1 ∧ a0 158 y3.toNat = x1 ∧ a0 154 y3.toNat = x2) → jt (jxX E d 275 30 [none, none, none, some (.inl y3)] [] (jxSH, a0, b0)) (jR_X12_cardOf x1 x2 a0 b0) := by
  intro y3 hi0 hi1 hi2 hi3 hfo
  refine jt_eq (bq_X12_cardOf_30 E d y3 a0 b0) ?_
  have h591_ := iv_get hv0 (k := 146) (j := 9) (l := 0) (u := 300) rfl
  exact jt_rI ⟨rfl, rfl, (show 0 - 1 ≤ y3 from by omega), (show y3 ≤ 299 from by omega), (show y3 < a0 146 9 from by omega), (by first | (rintro ⟨c, h1, h2, h3⟩; exact absurd ⟨h2, h3⟩ (hne c (by omega))) | (intro _; omega)), (by rw [CRDF_at hfo.1 hfo.2 (show y3.toNat < (a0 146 9).toNat by omega)]; omega)⟩
theorem cr_X12_cardOf_2 (E : jxE) (d : Nat) (hd : Nat.ble 1 (d + 1) = true) (x1 x2 : Int) (a0 b0 : Nat → Nat → Int) (hv0 : iv a0) : ∀ n : Nat, (∀ (y1 y2 y3 : Int), (((300 - y3) * 1) + 0).toNat ≤ n → 0 ≤ y3 → y3 ≤ 299 → y1 = x1 → y2 = x2 → 0 ≤ y3 → y3 < a0 146 9 → (∀ c : Nat, (c : Int) ≤ y3 → ¬ (a0 158 c = x1 ∧ a0 154 c = x2)) → (CRDF (a0 158) (a0 154) x1 x2 (y3.toNat + 1) = -1) → jt (jxX E d 275 32 [some (.inr (.inr (.inl 146))), some (.inl y1), some (.inl y2), some (.inl y3)] [] (jxSH, a0, b0)) (jR_X12_cardOf x1 x2 a0 b0)) ∧ (∀ (y1 y2 y3 : Int), (((300 - y3) * 1) + 0).toNat ≤ n → 0 ≤ y3 → y3 ≤ 300 → y1 = x1 → y2 = x2 → 0 ≤ y3 → (∀ c : Nat, (c : Int) < y3 → ¬ (a0 158 c = x1 ∧ a0 154 c = x2)) → y3 ≤ a0 146 9 → (CRDF (a0 158) (a0 154) x1 x2 y3.toNat = -1) → jt (jxX E d 275 2 [some (.inr (.inr (.inl 146))), some (.inl y1), some (.inl y2), some (.inl y3)] [] (jxSH, a0, b0)) (jR_X12_cardOf x1 x2 a0 b0)) := by
  refine jx_ind fun n ih => ?_
  have ih32 : ∀ (y1 y2 y3 : Int), (((300 - y3) * 1) + 0).toNat < n → 0 ≤ y3 → y3 ≤ 299 → y1 = x1 → y2 = x2 → 0 ≤ y3 → y3 < a0 146 9 → (∀ c : Nat, (c : Int) ≤ y3 → ¬ (a0 158 c = x1 ∧ a0 154 c = x2)) → (CRDF (a0 158) (a0 154) x1 x2 (y3.toNat + 1) = -1) → jt (jxX E d 275 32 [some (.inr (.inr (.inl 146))), some (.inl y1), some (.inl y2), some (.inl y3)] [] (jxSH, a0, b0)) (jR_X12_cardOf x1 x2 a0 b0) := fun y1 y2 y3 hlt i0 i1 i2 i3 i4 i5 i6 i7 => (ih _ hlt).1 y1 y2 y3 (Nat.le_refl _) i0 i1 i2 i3 i4 i5 i6 i7
  have ih2 : ∀ (y1 y2 y3 : Int), (((300 - y3) * 1) + 0).toNat < n → 0 ≤ y3 → y3 ≤ 300 → y1 = x1 → y2 = x2 → 0 ≤ y3 → (∀ c : Nat, (c : Int) < y3 → ¬ (a0 158 c = x1 ∧ a0 154 c = x2)) → y3 ≤ a0 146 9 → (CRDF (a0 158) (a0 154) x1 x2 y3.toNat = -1) → jt (jxX E d 275 2 [some (.inr (.inr (.inl 146))), some (.inl y1), some (.inl y2), some (.inl y3)] [] (jxSH, a0, b0)) (jR_X12_cardOf x1 x2 a0 b0) := fun y1 y2 y3 hlt i0 i1 i2 i3 i4 i5 i6 i7 => (ih _ hlt).2 y1 y2 y3 (Nat.le_refl _) i0 i1 i2 i3 i4 i5 i6 i7
  have hc32 : ∀ (y1 y2 y3 : Int), (((300 - y3) * 1) + 0).toNat ≤ n → 0 ≤ y3 → y3 ≤ 299 → y1 = x1 → y2 = x2 → 0 ≤ y3 → y3 < a0 146 9 → (∀ c : Nat, (c : Int) ≤ y3 → ¬ (a0 158 c = x1 ∧ a0 154 c = x2)) → (CRDF (a0 158) (a0 154) x1 x2 (y3.toNat + 1) = -1) → jt (jxX E d 275 32 [some (.inr (.inr (.inl 146))), some (.inl y1), some (.inl y2), some (.inl y3)] [] (jxSH, a0, b0)) (jR_X12_cardOf x1 x2 a0 b0) := by
    intro y1 y2 y3 hm hi0 hi1 hi2 hi3 hi4 hi5 hne hfo
    refine jt_eq (bq_X12_cardOf_32 E d y1 y2 y3 a0 b0) ?_
    have h592_ := iv_get hv0 (k := 146) (j := 9) (l := 0) (u := 300) rfl
    have h593_ : jxw (y3 + 1) = y3 + 1 := jxw_id (by omega) (by omega)
    exact ih2 y1 y2 (jxw (y3 + 1)) (show (((300 - (jxw (y3 + 1))) * 1) + 0).toNat < n from by omega) (show 0 ≤ jxw (y3 + 1) from by omega) (show jxw (y3 + 1) ≤ 300 from by omega) (show y1 = x1 from by omega) (show y2 = x2 from by omega) (show 0 ≤ jxw (y3 + 1) from by omega) (by first | (intro c hc; exact hne c (by omega)) | (intro c hc; omega)) (show jxw (y3 + 1) ≤ a0 146 9 from by omega) (by first | rfl | (rw [show (jxw (y3 + 1)).toNat = y3.toNat + 1 from by omega]; exact hfo))
  have hc2 : ∀ (y1 y2 y3 : Int), (((300 - y3) * 1) + 0).toNat ≤ n → 0 ≤ y3 → y3 ≤ 300 → y1 = x1 → y2 = x2 → 0 ≤ y3 → (∀ c : Nat, (c : Int) < y3 → ¬ (a0 158 c = x1 ∧ a0 154 c = x2)) → y3 ≤ a0 146 9 → (CRDF (a0 158) (a0 154) x1 x2 y3.toNat = -1) → jt (jxX E d 275 2 [some (.inr (.inr (.inl 146))), some (.inl y1), some (.inl y2), some (.inl y3)] [] (jxSH, a0, b0)) (jR_X12_cardOf x1 x2 a0 b0) := by
    intro y1 y2 y3 hm hi0 hi1 hi2 hi3 hi4 hne hi6 hfo
    refine jt_eq (bq_X12_cardOf_2 E d y1 y2 y3 a0 b0) ?_
    have h594_ := iv_get hv0 (k := 146) (j := 9) (l := 0) (u := 300) rfl
    refine jt_ite (fun c595_ => ?_) (fun c595_ => ?_)
    ·
      refine jt_grd (by omega) ?_
      refine jt_ite (fun c596_ => ?_) (fun c596_ => ?_)
      ·
        refine jt_grd (by omega) ?_
        have h597_ := iv_get hv0 (k := 154) (j := y3.toNat) (l := 0) (u := 39) rfl
        refine jt_ite (fun c598_ => ?_) (fun c598_ => ?_)
        ·
          exact cr_X12_cardOf_30 E d hd x1 x2 a0 b0 hv0 y3 (show 0 ≤ y3 from by omega) (show y3 ≤ 299 from by omega) (show 0 ≤ y3 from by omega) (show y3 < a0 146 9 from by omega) ⟨hfo, by omega, by omega⟩
        ·
          exact hc32 y1 y2 y3 (show (((300 - y3) * 1) + 0).toNat ≤ n from by omega) (show 0 ≤ y3 from by omega) (show y3 ≤ 299 from by omega) (show y1 = x1 from by omega) (show y2 = x2 from by omega) (show 0 ≤ y3 from by omega) (show y3 < a0 146 9 from by omega) (by intro c hc hh; rcases Int.lt_or_le (c : Int) y3 with h | h <;> first | exact hne c h hh | (obtain rfl : c = y3.toNat := (by omega); omega)) (CRDF_no hfo (fun z => by have z1 := z.1; have z2 := z.2; omega))
      ·
        exact hc32 y1 y2 y3 (show (((300 - y3) * 1) + 0).toNat ≤ n from by omega) (show 0 ≤ y3 from by omega) (show y3 ≤ 299 from by omega) (show y1 = x1 from by omega) (show y2 = x2 from by omega) (show 0 ≤ y3 from by omega) (show y3 < a0 146 9 from by omega) (by intro c hc hh; rcases Int.lt_or_le (c : Int) y3 with h | h <;> first | exact hne c h hh | (obtain rfl : c = y3.toNat := (by omega); omega)) (CRDF_no hfo (fun z => by have z1 := z.1; have z2 := z.2; omega))
    ·
      exact jt_rI ⟨rfl, rfl, (show 0 - 1 ≤ (-1) from by omega), (show (-1) ≤ 299 from by omega), (show (-1) < a0 146 9 from by omega), (by first | (rintro ⟨c, h1, h2, h3⟩; exact absurd ⟨h2, h3⟩ (hne c (by omega))) | (intro _; omega)), (by rw [show (a0 146 9).toNat = y3.toNat from by omega, hfo])⟩
  exact ⟨hc32, hc2⟩
theorem sq_X12_cardOf (E : jxE) (d : Nat) (hd : Nat.ble 1 d = true) (x1 x2 : Int) (a0 b0 : Nat → Nat → Int) (hv0 : iv a0) : jt (jxC E d 275 [.inr (.inr (.inl 146)), .inl x1, .inl x2] (jxSH, a0, b0)) (jR_X12_cardOf x1 x2 a0 b0) := by
  obtain ⟨d, rfl⟩ := jd_succ hd
  refine jt_eq (bq_X12_cardOf E d x1 x2 a0 b0) ?_
  have h599_ := iv_get hv0 (k := 146) (j := 9) (l := 0) (u := 300) rfl
  exact (cr_X12_cardOf_2 E d hd x1 x2 a0 b0 hv0 _).2 x1 x2 0 (Nat.le_refl _) (show 0 ≤ 0 from by omega) (show 0 ≤ 300 from by omega) (show x1 = x1 from by omega) (show x2 = x2 from by omega) (show 0 ≤ 0 from by omega) (by first | (intro c hc; exact hne c (by omega)) | (intro c hc; omega)) (show 0 ≤ a0 146 9 from by omega) (by first | rfl | (rw [show (jxw (y3 + 1)).toNat = y3.toNat + 1 from by omega]; exact hfo))
abbrev jR_X12_offerIn (x1 x2 : Int) (a0 b0 : Nat → Nat → Int) : List jxV → (Nat → Nat → Int) → (Nat → Nat → Int) → Prop := rI (fun r a b => (a0 = a) ∧ (b0 = b) ∧ (0 - 1 ≤ r) ∧ (r ≤ 19) ∧ (r < a0 146 49) ∧ ((0 ≤ r → (a0 181 (r.toNat) = 1 ∧ a0 182 (r.toNat) = x1))) ∧ (r = FOF (a0 181) (a0 182) (a0 178) x1 x2 (a0 146 49).toNat))
theorem cr_X12_offerIn_2 (E : jxE) (d : Nat) (hd : Nat.ble 1 (d + 1) = true) (x1 x2 : Int) (a0 b0 : Nat → Nat → Int) (hv0 : iv a0) : ∀ n : Nat, (∀ (y1 y2 y3 : Int), (((20 - y3) * 1) + 0).toNat ≤ n → 0 ≤ y3 → y3 ≤ 19 → y1 = x1 → y2 = x2 → 0 ≤ y3 → y3 < a0 146 49 → (FOF (a0 181) (a0 182) (a0 178) x1 x2 (y3.toNat + 1) = -1) → jt (jxX E d 276 42 [some (.inr (.inr (.inl 146))), some (.inl y1), some (.inl y2), some (.inl y3)] [] (jxSH, a0, b0)) (jR_X12_offerIn x1 x2 a0 b0)) ∧ (∀ (y1 y2 y3 : Int), (((20 - y3) * 1) + 0).toNat ≤ n → 0 ≤ y3 → y3 ≤ 19 → y3 < a0 146 49 → a0 181 (y3.toNat) = 1 → a0 182 (y3.toNat) = x1 → y1 = x1 → y2 = x2 → 0 ≤ y3 → (FOF (a0 181) (a0 182) (a0 178) x1 x2 y3.toNat = -1) → jt (jxX E d 276 30 [some (.inr (.inr (.inl 146))), some (.inl y1), some (.inl y2), some (.inl y3)] [] (jxSH, a0, b0)) (jR_X12_offerIn x1 x2 a0 b0)) ∧ (∀ (y1 y2 y3 : Int), (((20 - y3) * 1) + 0).toNat ≤ n → 0 ≤ y3 → y3 ≤ 20 → y1 = x1 → y2 = x2 → 0 ≤ y3 → y3 ≤ a0 146 49 → (FOF (a0 181) (a0 182) (a0 178) x1 x2 y3.toNat = -1) → jt (jxX E d 276 2 [some (.inr (.inr (.inl 146))), some (.inl y1), some (.inl y2), some (.inl y3)] [] (jxSH, a0, b0)) (jR_X12_offerIn x1 x2 a0 b0)) := by
  refine jx_ind fun n ih => ?_
  have ih42 : ∀ (y1 y2 y3 : Int), (((20 - y3) * 1) + 0).toNat < n → 0 ≤ y3 → y3 ≤ 19 → y1 = x1 → y2 = x2 → 0 ≤ y3 → y3 < a0 146 49 → (FOF (a0 181) (a0 182) (a0 178) x1 x2 (y3.toNat + 1) = -1) → jt (jxX E d 276 42 [some (.inr (.inr (.inl 146))), some (.inl y1), some (.inl y2), some (.inl y3)] [] (jxSH, a0, b0)) (jR_X12_offerIn x1 x2 a0 b0) := fun y1 y2 y3 hlt i0 i1 i2 i3 i4 i5 i6 => (ih _ hlt).1 y1 y2 y3 (Nat.le_refl _) i0 i1 i2 i3 i4 i5 i6
  have ih30 : ∀ (y1 y2 y3 : Int), (((20 - y3) * 1) + 0).toNat < n → 0 ≤ y3 → y3 ≤ 19 → y3 < a0 146 49 → a0 181 (y3.toNat) = 1 → a0 182 (y3.toNat) = x1 → y1 = x1 → y2 = x2 → 0 ≤ y3 → (FOF (a0 181) (a0 182) (a0 178) x1 x2 y3.toNat = -1) → jt (jxX E d 276 30 [some (.inr (.inr (.inl 146))), some (.inl y1), some (.inl y2), some (.inl y3)] [] (jxSH, a0, b0)) (jR_X12_offerIn x1 x2 a0 b0) := fun y1 y2 y3 hlt i0 i1 i2 i3 i4 i5 i6 i7 i8 => (ih _ hlt).2.1 y1 y2 y3 (Nat.le_refl _) i0 i1 i2 i3 i4 i5 i6 i7 i8
  have ih2 : ∀ (y1 y2 y3 : Int), (((20 - y3) * 1) + 0).toNat < n → 0 ≤ y3 → y3 ≤ 20 → y1 = x1 → y2 = x2 → 0 ≤ y3 → y3 ≤ a0 146 49 → (FOF (a0 181) (a0 182) (a0 178) x1 x2 y3.toNat = -1) → jt (jxX E d 276 2 [some (.inr (.inr (.inl 146))), some (.inl y1), some (.inl y2), some (.inl y3)] [] (jxSH, a0, b0)) (jR_X12_offerIn x1 x2 a0 b0) := fun y1 y2 y3 hlt i0 i1 i2 i3 i4 i5 i6 => (ih _ hlt).2.2 y1 y2 y3 (Nat.le_refl _) i0 i1 i2 i3 i4 i5 i6
  have hc42 : ∀ (y1 y2 y3 : Int), (((20 - y3) * 1) + 0).toNat ≤ n → 0 ≤ y3 → y3 ≤ 19 → y1 = x1 → y2 = x2 → 0 ≤ y3 → y3 < a0 146 49 → (FOF (a0 181) (a0 182) (a0 178) x1 x2 (y3.toNat + 1) = -1) → jt (jxX E d 276 42 [some (.inr (.inr (.inl 146))), some (.inl y1), some (.inl y2), some (.inl y3)] [] (jxSH, a0, b0)) (jR_X12_offerIn x1 x2 a0 b0) := by
    intro y1 y2 y3 hm hi0 hi1 hi2 hi3 hi4 hi5 hfo
    refine jt_eq (bq_X12_offerIn_42 E d y1 y2 y3 a0 b0) ?_
    have h600_ := iv_get hv0 (k := 146) (j := 49) (l := 0) (u := 20) rfl
    have h601_ : jxw (y3 + 1) = y3 + 1 := jxw_id (by omega) (by omega)
    exact ih2 y1 y2 (jxw (y3 + 1)) (show (((20 - (jxw (y3 + 1))) * 1) + 0).toNat < n from by omega) (show 0 ≤ jxw (y3 + 1) from by omega) (show jxw (y3 + 1) ≤ 20 from by omega) (show y1 = x1 from by omega) (show y2 = x2 from by omega) (show 0 ≤ jxw (y3 + 1) from by omega) (show jxw (y3 + 1) ≤ a0 146 49 from by omega) (by first | rfl | (rw [show (jxw (y3 + 1)).toNat = y3.toNat + 1 from by omega]; exact hfo))
  have hc30 : ∀ (y1 y2 y3 : Int), (((20 - y3) * 1) + 0).toNat ≤ n → 0 ≤ y3 → y3 ≤ 19 → y3 < a0 146 49 → a0 181 (y3.toNat) = 1 → a0 182 (y3.toNat) = x1 → y1 = x1 → y2 = x2 → 0 ≤ y3 → (FOF (a0 181) (a0 182) (a0 178) x1 x2 y3.toNat = -1) → jt (jxX E d 276 30 [some (.inr (.inr (.inl 146))), some (.inl y1), some (.inl y2), some (.inl y3)] [] (jxSH, a0, b0)) (jR_X12_offerIn x1 x2 a0 b0) := by
    intro y1 y2 y3 hm hi0 hi1 hi2 hi3 hi4 hi5 hi6 hi7 hfo
    refine jt_eq (bq_X12_offerIn_30 E d y1 y2 y3 a0 b0) ?_
    have h602_ := iv_get hv0 (k := 146) (j := 49) (l := 0) (u := 20) rfl
    have h603_ := iv_get hv0 (k := 181) (j := y3.toNat) (l := 0) (u := 2) rfl
    refine jt_grd (by omega) ?_
    have h604_ := iv_get hv0 (k := 178) (j := y3.toNat) (l := 0) (u := 39) rfl
    refine jt_ite (fun c605_ => ?_) (fun c605_ => ?_)
    ·
      exact jt_rI ⟨rfl, rfl, (show 0 - 1 ≤ y3 from by omega), (show y3 ≤ 19 from by omega), (show y3 < a0 146 49 from by omega), (show (0 ≤ y3 → (a0 181 (y3.toNat) = 1 ∧ a0 182 (y3.toNat) = x1)) from by omega), (by rw [FOF_at hfo ⟨by omega, by omega, by omega⟩ (show y3.toNat < (a0 146 49).toNat by omega)]; omega)⟩
    ·
      exact hc42 y1 y2 y3 (show (((20 - y3) * 1) + 0).toNat ≤ n from by omega) (show 0 ≤ y3 from by omega) (show y3 ≤ 19 from by omega) (show y1 = x1 from by omega) (show y2 = x2 from by omega) (show 0 ≤ y3 from by omega) (show y3 < a0 146 49 from by omega) (FOF_no hfo (fun z => by have z1 := z.1; have z2 := z.2.1; have z3 := z.2.2; omega))
  have hc2 : ∀ (y1 y2 y3 : Int), (((20 - y3) * 1) + 0).toNat ≤ n → 0 ≤ y3 → y3 ≤ 20 → y1 = x1 → y2 = x2 → 0 ≤ y3 → y3 ≤ a0 146 49 → (FOF (a0 181) (a0 182) (a0 178) x1 x2 y3.toNat = -1) → jt (jxX E d 276 2 [some (.inr (.inr (.inl 146))), some (.inl y1), some (.inl y2), some (.inl y3)] [] (jxSH, a0, b0)) (jR_X12_offerIn x1 x2 a0 b0) := by
    intro y1 y2 y3 hm hi0 hi1 hi2 hi3 hi4 hi5 hfo
    refine jt_eq (bq_X12_offerIn_2 E d y1 y2 y3 a0 b0) ?_
    have h606_ := iv_get hv0 (k := 146) (j := 49) (l := 0) (u := 20) rfl
    refine jt_ite (fun c607_ => ?_) (fun c607_ => ?_)
    ·
      refine jt_grd (by omega) ?_
      have h608_ := iv_get hv0 (k := 181) (j := y3.toNat) (l := 0) (u := 2) rfl
      refine jt_ite (fun c609_ => ?_) (fun c609_ => ?_)
      ·
        refine jt_grd (by omega) ?_
        refine jt_ite (fun c610_ => ?_) (fun c610_ => ?_)
        ·
          exact hc30 y1 y2 y3 (show (((20 - y3) * 1) + 0).toNat ≤ n from by omega) (show 0 ≤ y3 from by omega) (show y3 ≤ 19 from by omega) (show y3 < a0 146 49 from by omega) (show a0 181 (y3.toNat) = 1 from by omega) (show a0 182 (y3.toNat) = x1 from by omega) (show y1 = x1 from by omega) (show y2 = x2 from by omega) (show 0 ≤ y3 from by omega) hfo
        ·
          exact hc42 y1 y2 y3 (show (((20 - y3) * 1) + 0).toNat ≤ n from by omega) (show 0 ≤ y3 from by omega) (show y3 ≤ 19 from by omega) (show y1 = x1 from by omega) (show y2 = x2 from by omega) (show 0 ≤ y3 from by omega) (show y3 < a0 146 49 from by omega) (FOF_no hfo (fun z => by have z1 := z.1; have z2 := z.2.1; have z3 := z.2.2; omega))
      ·
        exact hc42 y1 y2 y3 (show (((20 - y3) * 1) + 0).toNat ≤ n from by omega) (show 0 ≤ y3 from by omega) (show y3 ≤ 19 from by omega) (show y1 = x1 from by omega) (show y2 = x2 from by omega) (show 0 ≤ y3 from by omega) (show y3 < a0 146 49 from by omega) (FOF_no hfo (fun z => by have z1 := z.1; have z2 := z.2.1; have z3 := z.2.2; omega))
    ·
      have h611_ := iv_get hv0 (k := 181) (j := (-1 : Int).toNat) (l := 0) (u := 2) rfl
      exact jt_rI ⟨rfl, rfl, (show 0 - 1 ≤ (-1) from by omega), (show (-1) ≤ 19 from by omega), (show (-1) < a0 146 49 from by omega), (show (0 ≤ (-1) → (a0 181 ((-1 : Int).toNat) = 1 ∧ a0 182 ((-1 : Int).toNat) = x1)) from by omega), (by rw [show (a0 146 49).toNat = y3.toNat from by omega, hfo])⟩
  exact ⟨hc42, hc30, hc2⟩
theorem sq_X12_offerIn (E : jxE) (d : Nat) (hd : Nat.ble 1 d = true) (x1 x2 : Int) (a0 b0 : Nat → Nat → Int) (hv0 : iv a0) : jt (jxC E d 276 [.inr (.inr (.inl 146)), .inl x1, .inl x2] (jxSH, a0, b0)) (jR_X12_offerIn x1 x2 a0 b0) := by
  obtain ⟨d, rfl⟩ := jd_succ hd
  refine jt_eq (bq_X12_offerIn E d x1 x2 a0 b0) ?_
  have h612_ := iv_get hv0 (k := 146) (j := 49) (l := 0) (u := 20) rfl
  exact (cr_X12_offerIn_2 E d hd x1 x2 a0 b0 hv0 _).2.2 x1 x2 0 (Nat.le_refl _) (show 0 ≤ 0 from by omega) (show 0 ≤ 20 from by omega) (show x1 = x1 from by omega) (show x2 = x2 from by omega) (show 0 ≤ 0 from by omega) (show 0 ≤ a0 146 49 from by omega) (by first | rfl | (rw [show (jxw (y3 + 1)).toNat = y3.toNat + 1 from by omega]; exact hfo))
def jWd1 : List (Nat × Nat) := [(181, 9999)]
def jWd2 : List (Nat × Nat) := [(181, 9999), (159, 9999)]
def jW_X12_drops : List (Nat × Nat) := [(153, 9999), (159, 9999), (181, 9999)]
abbrev jQ_X12_drops (x1 x2 : Int) (a0 b0 : Nat → Nat → Int) : List jxV → (Nat → Nat → Int) → (Nat → Nat → Int) → Prop := rI (fun r a b => (iv a) ∧ (jfr jW_X12_drops a0 a) ∧ (b0 = b) ∧ ((0 ≤ r ∧ r ≤ 1)) ∧ (OC a) ∧ ((cvR a, a 153, r) = wdr (a0 146 0) (a0 152) (CRDF (a0 158) (a0 154) x1 (a0 178 x2.toNat) (a0 146 9).toNat) (cvR a0, a0 153, 0)) ∧ (a 181 = rup (a0 181) x2.toNat 2))
theorem cp_X12_drops_27 (E : jxE) (d : Nat) (hd : Nat.ble 4 (d + 1) = true) (x1 x2 : Int) (a0 b0 : Nat → Nat → Int) (hv0 : iv a0) (hp0 : (0 ≤ x2 ∧ x2 ≤ 19)) (hp1 : x2 < a0 146 49) (hp2 : a0 181 (x2.toNat) = 1) (hp3 : x1 = a0 182 (x2.toNat)) (hp4 : OC a0) : ∀ (a : Nat → Nat → Int), iv a → jfr jW_X12_drops a0 a → (a 181 = rup (a0 181) x2.toNat 2) → ((cvR a, a 153, 0) = wdr (a0 146 0) (a0 152) (CRDF (a0 158) (a0 154) x1 (a0 178 x2.toNat) (a0 146 9).toNat) (cvR a0, a0 153, 0)) → (OC a) → jt (jxX E d 277 27 [none, none, none, none] [] (jxSH, a, b0)) (jQ_X12_drops x1 x2 a0 b0) := by
  intro a hv hf h181 hw hi2
  refine jt_eq (bq_X12_drops_27 E d a b0) ?_
  exact jt_rI ⟨hv, hf, rfl, (show (0 ≤ 0 ∧ 0 ≤ 1) from by omega), hi2, hw, h181⟩
theorem cp_X12_drops_68 (E : jxE) (d : Nat) (hd : Nat.ble 4 (d + 1) = true) (x1 x2 : Int) (a0 b0 : Nat → Nat → Int) (hv0 : iv a0) (hp0 : (0 ≤ x2 ∧ x2 ≤ 19)) (hp1 : x2 < a0 146 49) (hp2 : a0 181 (x2.toNat) = 1) (hp3 : x1 = a0 182 (x2.toNat)) (hp4 : OC a0) : ∀ (a : Nat → Nat → Int), iv a → jfr jW_X12_drops a0 a → (a 181 = rup (a0 181) x2.toNat 2) → ((cvR a, a 153, 1) = wdr (a0 146 0) (a0 152) (CRDF (a0 158) (a0 154) x1 (a0 178 x2.toNat) (a0 146 9).toNat) (cvR a0, a0 153, 0)) → (OC a) → jt (jxX E d 277 68 [none, none, none, none] [] (jxSH, a, b0)) (jQ_X12_drops x1 x2 a0 b0) := by
  intro a hv hf h181 hw hi2
  refine jt_eq (bq_X12_drops_68 E d a b0) ?_
  exact jt_rI ⟨hv, hf, rfl, (show (0 ≤ 1 ∧ 1 ≤ 1) from by omega), hi2, hw, h181⟩
theorem cp_X12_drops_53 (E : jxE) (d : Nat) (hd : Nat.ble 4 (d + 1) = true) (x1 x2 : Int) (a0 b0 : Nat → Nat → Int) (hv0 : iv a0) (hp0 : (0 ≤ x2 ∧ x2 ≤ 19)) (hp1 : x2 < a0 146 49) (hp2 : a0 181 (x2.toNat) = 1) (hp3 : x1 = a0 182 (x2.toNat)) (hp4 : OC a0) : ∀ (y3 : Int) (a : Nat → Nat → Int), iv a → jfr jW_X12_drops a0 a → 0 ≤ y3 → y3 ≤ 299 → 0 ≤ y3 → (a 181 = rup (a0 181) x2.toNat 2) → (y3 = (CRDF (a0 158) (a0 154) x1 (a0 178 x2.toNat) (a0 146 9).toNat) ∧ 0 ≤ y3 ∧ y3 < a0 146 9 ∧ vSt (cvR a0) (a0 146 0) y3.toNat = 0) → (cvR a = vOff (cvR a0) y3 (a0 146 0) ∧ a 153 = a0 153 ∧ ¬ a0 152 (a0 155 y3.toNat).toNat = 0 ∧ a 155 = a0 155) → (OC a) → jt (jxX E d 277 53 [some (.inr (.inr (.inl 146))), none, none, some (.inl y3)] [] (jxSH, a, b0)) (jQ_X12_drops x1 x2 a0 b0) := by
  intro y3 a hv hf hi0 hi1 hi2 h181 hy3 h53 hi6
  refine jt_eq (bq_X12_drops_53 E d y3 a b0) ?_
  refine jt_grd (by omega) ?_
  have h613_ := iv_get hv (k := 155) (j := y3.toNat) (l := 0) (u := 39) rfl
  have h614_ : a 155 (y3.toNat) = a0 155 (y3.toNat) := hf 155 (y3.toNat) rfl
  have h615_ := iv_get hv0 (k := 155) (j := y3.toNat) (l := 0) (u := 39) rfl
  refine jt_grd (by omega) ?_
  refine jt_grd (by omega) ?_
  have hv616_ : iv (jxu a 153 ((a 155 (y3.toNat)).toNat) (jxw ((a 153 ((a 155 (y3.toNat)).toNat)) + 1))) := iv_putf hv rfl
  have hf617_ : jfr jW_X12_drops a0 (jxu a 153 ((a 155 (y3.toNat)).toNat) (jxw ((a 153 ((a 155 (y3.toNat)).toNat)) + 1))) := jfr_put hf rfl
  have hg618_ : OC (jxu a 153 ((a 155 (y3.toNat)).toNat) (jxw ((a 153 ((a 155 (y3.toNat)).toNat)) + 1))) := (OC_fr hi6 (jfr_1 a 153 ((a 155 (y3.toNat)).toNat) (jxw ((a 153 ((a 155 (y3.toNat)).toNat)) + 1))) rfl rfl (fun _ => rfl) (fun _ => rfl) (fun _ => rfl) (fun _ => rfl) (fun _ => rfl))
  exact cp_X12_drops_68 E d hd x1 x2 a0 b0 hv0 hp0 hp1 hp2 hp3 hp4 (jxu a 153 ((a 155 (y3.toNat)).toNat) (jxw ((a 153 ((a 155 (y3.toNat)).toNat)) + 1))) hv616_ hf617_ (by rw [jxu_off (show ¬ 181 = 153 by decide)]; exact h181) (by rw [jxu_rup, show cvR (jxu a 153 (a 155 y3.toNat).toNat (jxw ((a 153 ((a 155 (y3.toNat)).toNat)) + 1))) = cvR a from cvR_fr (jfr_1 a 153 _ _) rfl, h53.1, h53.2.1, h53.2.2.2, wdr_yes]; rw [← hy3.1]; exact (by rw [if_neg (show ¬ a0 152 (vTo (cvR a0) y3.toNat).toNat = 0 from h53.2.2.1)]; rfl); rw [← hy3.1]; exact ⟨hy3.2.1, hy3.2.2.1, hy3.2.2.2⟩) hg618_
theorem cp_X12_drops_29 (E : jxE) (d : Nat) (hd : Nat.ble 4 (d + 1) = true) (x1 x2 : Int) (a0 b0 : Nat → Nat → Int) (hv0 : iv a0) (hp0 : (0 ≤ x2 ∧ x2 ≤ 19)) (hp1 : x2 < a0 146 49) (hp2 : a0 181 (x2.toNat) = 1) (hp3 : x1 = a0 182 (x2.toNat)) (hp4 : OC a0) : ∀ (y3 : Int) (a : Nat → Nat → Int), iv a → jfr jW_X12_drops a0 a → 0 - 1 ≤ y3 → y3 ≤ 299 → 0 ≤ y3 → (a 181 = rup (a0 181) x2.toNat 2) → (y3 = (CRDF (a0 158) (a0 154) x1 (a0 178 x2.toNat) (a0 146 9).toNat) ∧ 0 ≤ y3 ∧ y3 < a0 146 9 ∧ vSt (cvR a0) (a0 146 0) y3.toNat = 0) → (cvR a = cvR a0 ∧ a 153 = a0 153 ∧ a 152 = a0 152 ∧ a 146 0 = a0 146 0 ∧ a 155 = a0 155) → (OC a) → jt (jxX E d 277 29 [some (.inr (.inr (.inl 146))), none, none, some (.inl y3)] [] (jxSH, a, b0)) (jQ_X12_drops x1 x2 a0 b0) := by
  intro y3 a hv hf hi0 hi1 hi2 h181 hy3 hsame hi6
  refine jt_eq (bq_X12_drops_29 E d y3 a b0) ?_
  refine jt_grd (by omega) ?_
  refine jt_grd (by omega) ?_
  have h619_ := iv_get hv (k := 155) (j := y3.toNat) (l := 0) (u := 39) rfl
  have h620_ : a 155 (y3.toNat) = a0 155 (y3.toNat) := hf 155 (y3.toNat) rfl
  have h621_ := iv_get hv0 (k := 155) (j := y3.toNat) (l := 0) (u := 39) rfl
  refine jt_grd (by omega) ?_
  have h622_ := iv_get hv (k := 152) (j := (a 155 (y3.toNat)).toNat) (l := 0) (u := 1) rfl
  have h623_ : a 152 ((a 155 (y3.toNat)).toNat) = a0 152 ((a 155 (y3.toNat)).toNat) := hf 152 ((a 155 (y3.toNat)).toNat) rfl
  have h624_ := iv_get hv0 (k := 152) (j := (a 155 (y3.toNat)).toNat) (l := 0) (u := 1) rfl
  refine jt_ite (fun c625_ => ?_) (fun c625_ => ?_)
  ·
    have hv626_ : iv (jxu a 159 (y3.toNat) (a 146 0)) := iv_putf hv rfl
    have hf627_ : jfr jW_X12_drops a0 (jxu a 159 (y3.toNat) (a 146 0)) := jfr_put hf rfl
    have hg628_ : OC (jxu a 159 (y3.toNat) (a 146 0)) := (OC_fr hi6 (jfr_1 a 159 (y3.toNat) (a 146 0)) rfl rfl (fun _ => rfl) (fun _ => rfl) (fun _ => rfl) (fun _ => rfl) (fun _ => rfl))
    exact cp_X12_drops_68 E d hd x1 x2 a0 b0 hv0 hp0 hp1 hp2 hp3 hp4 (jxu a 159 (y3.toNat) (a 146 0)) hv626_ hf627_ (by rw [jxu_off (show ¬ 181 = 159 by decide)]; exact h181) (by rw [cvR_off, jxu_off (show ¬ 153 = 159 by decide), hsame.1, hsame.2.1, hsame.2.2.2.1, wdr_yes]; rw [← hy3.1]; exact (by rw [if_pos (show a0 152 (vTo (cvR a0) y3.toNat).toNat = 0 from by show a0 152 (a0 155 y3.toNat).toNat = 0; rw [← hsame.2.2.1, ← hsame.2.2.2.2]; assumption)]; rfl); rw [← hy3.1]; exact ⟨hy3.2.1, hy3.2.2.1, hy3.2.2.2⟩) hg628_
  ·
    have hv629_ : iv (jxu a 159 (y3.toNat) (a 146 0)) := iv_putf hv rfl
    have hf630_ : jfr jW_X12_drops a0 (jxu a 159 (y3.toNat) (a 146 0)) := jfr_put hf rfl
    have hg631_ : OC (jxu a 159 (y3.toNat) (a 146 0)) := (OC_fr hi6 (jfr_1 a 159 (y3.toNat) (a 146 0)) rfl rfl (fun _ => rfl) (fun _ => rfl) (fun _ => rfl) (fun _ => rfl) (fun _ => rfl))
    exact cp_X12_drops_53 E d hd x1 x2 a0 b0 hv0 hp0 hp1 hp2 hp3 hp4 y3 (jxu a 159 (y3.toNat) (a 146 0)) hv629_ hf630_ (show 0 ≤ y3 from by omega) (show y3 ≤ 299 from by omega) (show 0 ≤ y3 from by omega) (by rw [jxu_off (show ¬ 181 = 159 by decide)]; exact h181) hy3 ⟨by rw [cvR_off, hsame.1, hsame.2.2.2.1], by rw [jxu_off (show ¬ 153 = 159 by decide)]; exact hsame.2.1, by rw [← hsame.2.2.1, ← hsame.2.2.2.2]; assumption, by rw [jxu_off (show ¬ 155 = 159 by decide)]; exact hsame.2.2.2.2⟩ hg631_
theorem sp_X12_drops (E : jxE) (d : Nat) (hd : Nat.ble 4 d = true) (x1 x2 : Int) (a0 b0 : Nat → Nat → Int) (hv0 : iv a0) (hp0 : (0 ≤ x2 ∧ x2 ≤ 19)) (hp1 : x2 < a0 146 49) (hp2 : a0 181 (x2.toNat) = 1) (hp3 : x1 = a0 182 (x2.toNat)) (hp4 : OC a0) : jt (jxC E d 277 [.inr (.inr (.inl 146)), .inl x1, .inl x2] (jxSH, a0, b0)) (jQ_X12_drops x1 x2 a0 b0) := by
  obtain ⟨d, rfl⟩ := jd_succ hd
  refine jt_eq (bq_X12_drops E d x1 x2 a0 b0) ?_
  have h632_ := iv_get hv0 (k := 146) (j := 49) (l := 0) (u := 20) rfl
  have h633_ := iv_get hv0 (k := 181) (j := x2.toNat) (l := 0) (u := 2) rfl
  obtain ⟨oc, hoc1, hoc2, hoc3⟩ := hp4.1 x2.toNat (by omega) (by omega)
  refine jt_grd (by omega) ?_
  refine jt_bI (sq_X12_cardOf E d (jd_le hd rfl) x1 (a0 178 (x2.toNat)) a0 b0 hv0) (fun r634_ a634_ b634_ h634_ => ?_)
  obtain ⟨rfl, rfl, hq634_0, hq634_1, hq634_2, hq634_3, hq634_4⟩ := h634_
  have h635_ := iv_get hv0 (k := 146) (j := 9) (l := 0) (u := 300) rfl
  have hr634_ : 0 ≤ r634_ := hq634_3 ⟨oc, hoc1, (by omega), (by omega)⟩
  have hcd_ : r634_ = CRDF (a0 158) (a0 154) x1 (a0 178 x2.toNat) (a0 146 9).toNat := hq634_4
  have hcr_ := CRDF_rg (a0 158) (a0 154) x1 (a0 178 x2.toNat) (a0 146 9).toNat
  rw [← hcd_] at hcr_
  have i1469 := iv_get hv0 (k := 146) (j := 9) (l := 0) (u := 300) rfl
  refine jt_grd (by omega) ?_
  have hv636_ : iv (jxu a0 181 (x2.toNat) 2) := iv_put hv0 (l := 0) (u := 2) rfl (by omega) (by omega)
  refine jt_bI (sp_X12_stateNow E d (jd_le hd rfl) r634_ (jxu a0 181 (x2.toNat) 2) b0 hv636_ (show (0 ≤ r634_ ∧ r634_ ≤ 299) from by omega)) (fun r637_ a637_ b637_ h637_ => ?_)
  obtain ⟨he637_, rfl, hq637_0, hq637_1, hq637_2⟩ := h637_
  have hv637_ : iv a637_ := he637_ ▸ hv636_
  have hf637_ : jfr [] (jxu a0 181 (x2.toNat) 2) a637_ := jfr_eq he637_
  have h638_ : 0 ≤ r637_ := hq637_0
  have h639_ : r637_ ≤ 4 := hq637_1
  have hf2_ := hf637_
  have hjf_ : jfr jWd1 a0 (jxu a0 181 x2.toNat 2) := jfr_1 a0 181 _ _
  have hsn_ : r637_ = vSt (cvR a0) (a0 146 0) r634_.toNat := by rw [hq637_2, show cvR (jxu a0 181 x2.toNat 2) = cvR a0 from cvR_fr hjf_ rfl, hjf_ 146 0 rfl]
  have hcv_ : cvR a637_ = cvR a0 := (cvR_fr hf2_ rfl).trans (cvR_fr hjf_ rfl)
  have h181_ : a637_ 181 = rup (a0 181) x2.toNat 2 := (show a637_ 181 = jxu a0 181 x2.toNat 2 181 from funext fun j => hf2_ 181 j rfl).trans (jxu_rup _ _ _ _)
  have h153_ : a637_ 153 = a0 153 := funext fun j => (hf2_ 153 j rfl).trans (hjf_ 153 j rfl)
  have h152_ : a637_ 152 = a0 152 := funext fun j => (hf2_ 152 j rfl).trans (hjf_ 152 j rfl)
  have h0_ : a637_ 146 0 = a0 146 0 := (hf2_ 146 0 rfl).trans (hjf_ 146 0 rfl)
  have h155_ : a637_ 155 = a0 155 := funext fun j => (hf2_ 155 j rfl).trans (hjf_ 155 j rfl)
  refine jt_ite (fun c640_ => ?_) (fun c640_ => ?_)
  ·
    have hf641_ : jfr jW_X12_drops a0 (jxu a0 181 (x2.toNat) 2) := jfr_put (jfr_rf _ _) rfl
    have hf642_ : jfr jW_X12_drops a0 a637_ := jfr_tr hf641_ hf637_ rfl
    have hg643_ : OC (jxu a0 181 (x2.toNat) 2) := (OC_put2 hp4 (by decide) (by omega))
    exact cp_X12_drops_29 E d hd x1 x2 a0 b0 hv0 hp0 hp1 hp2 hp3 hp4 r634_ a637_ hv637_ hf642_ (show 0 - 1 ≤ r634_ from by omega) (show r634_ ≤ 299 from by omega) (show 0 ≤ r634_ from by omega) h181_ ⟨hcd_, by omega, by omega, by rw [← hsn_]; assumption⟩ ⟨hcv_, h153_, h152_, h0_, h155_⟩ (OC_fr hg643_ hf637_ rfl rfl (fun _ => rfl) (fun _ => rfl) (fun _ => rfl) (fun _ => rfl) (fun _ => rfl))
  ·
    have hf644_ : jfr jW_X12_drops a0 (jxu a0 181 (x2.toNat) 2) := jfr_put (jfr_rf _ _) rfl
    have hf645_ : jfr jW_X12_drops a0 a637_ := jfr_tr hf644_ hf637_ rfl
    have hg646_ : OC (jxu a0 181 (x2.toNat) 2) := (OC_put2 hp4 (by decide) (by omega))
    exact cp_X12_drops_27 E d hd x1 x2 a0 b0 hv0 hp0 hp1 hp2 hp3 hp4 a637_ hv637_ hf645_ h181_ (by rw [hcv_, h153_, wdr_no]; rw [← hcd_]; exact fun z => by have z2 : _ < a0 146 9 := z.2.1; have z3 := z.2.2; rw [← hsn_] at z3; omega) (OC_fr hg646_ hf637_ rfl rfl (fun _ => rfl) (fun _ => rfl) (fun _ => rfl) (fun _ => rfl) (fun _ => rfl))
def jW_X12_drop : List (Nat × Nat) := [(153, 9999), (159, 9999), (181, 9999)]
abbrev jQ_X12_drop (x1 x2 : Int) (a0 b0 : Nat → Nat → Int) : List jxV → (Nat → Nat → Int) → (Nat → Nat → Int) → Prop := rI (fun r a b => (iv a) ∧ (jfr jW_X12_drop a0 a) ∧ (b0 = b) ∧ (OC a) ∧ ((a0 146 55 = 0 → r = 0 - 1)) ∧ (0 ≤ a0 146 55 → a0 146 55 ≤ 1000 → ¬ (0 ≤ x1 ∧ x1 < a0 146 55 ∧ 0 ≤ x2 ∧ x2 < a0 146 2) → r = -1 ∧ cvR a = cvR a0 ∧ a 153 = a0 153 ∧ a 181 = a0 181) ∧ (0 ≤ a0 146 55 → a0 146 55 ≤ 1000 → (0 ≤ x1 ∧ x1 < a0 146 55 ∧ 0 ≤ x2 ∧ x2 < a0 146 2) → FOF (a0 181) (a0 182) (a0 178) x1 x2 (a0 146 49).toNat = -1 → r = -1 ∧ cvR a = cvR a0 ∧ a 153 = a0 153 ∧ a 181 = a0 181) ∧ (0 ≤ a0 146 55 → a0 146 55 ≤ 1000 → (0 ≤ x1 ∧ x1 < a0 146 55 ∧ 0 ≤ x2 ∧ x2 < a0 146 2) → ¬ FOF (a0 181) (a0 182) (a0 178) x1 x2 (a0 146 49).toNat = -1 → (cvR a, a 153, r) = wdr (a0 146 0) (a0 152) (CRDF (a0 158) (a0 154) (a0 182 (FOF (a0 181) (a0 182) (a0 178) x1 x2 (a0 146 49).toNat).toNat) (a0 178 (FOF (a0 181) (a0 182) (a0 178) x1 x2 (a0 146 49).toNat).toNat) (a0 146 9).toNat) (cvR a0, a0 153, 0) ∧ a 181 = rup (a0 181) (FOF (a0 181) (a0 182) (a0 178) x1 x2 (a0 146 49).toNat).toNat 2))
theorem cp_X12_drop_31 (E : jxE) (d : Nat) (hd : Nat.ble 5 (d + 1) = true) (x1 x2 : Int) (a0 b0 : Nat → Nat → Int) (hv0 : iv a0) (hp0 : OC a0) : ∀ (y1 y3 : Int) (a : Nat → Nat → Int), iv a → jfr jW_X12_drop a0 a → 0 ≤ y1 → 0 - 1 ≤ y3 → y3 ≤ 19 → (0 ≤ y3 → (a 181 (y3.toNat) = 1 ∧ a 182 (y3.toNat) = y1)) → y3 < a 146 49 → ¬ a0 146 55 = 0 → (y1 = x1) → (y3 = FOF (a0 181) (a0 182) (a0 178) x1 x2 (a0 146 49).toNat) → (0 ≤ a0 146 55 → a0 146 55 ≤ 1000 → (0 ≤ x1 ∧ x1 < a0 146 55 ∧ 0 ≤ x2 ∧ x2 < a0 146 2)) → (cvR a = cvR a0 ∧ a 153 = a0 153 ∧ a 181 = a0 181 ∧ a 152 = a0 152) → (OC a) → jt (jxX E d 278 31 [some (.inr (.inr (.inl 146))), some (.inl y1), none, some (.inl y3)] [] (jxSH, a, b0)) (jQ_X12_drop x1 x2 a0 b0) := by
  intro y1 y3 a hv hf hi0 hi1 hi2 hi3 hi4 hi5 hy1 hy3 hdv hsame hi10
  refine jt_eq (bq_X12_drop_31 E d y1 y3 a b0) ?_
  have h647_ := iv_get hv (k := 181) (j := y3.toNat) (l := 0) (u := 2) rfl
  have h648_ : a 182 (y3.toNat) = a0 182 (y3.toNat) := hf 182 (y3.toNat) rfl
  have h649_ := iv_get hv (k := 146) (j := 49) (l := 0) (u := 20) rfl
  have h650_ : a 146 49 = a0 146 49 := hf 146 49 rfl
  have h651_ := iv_get hv0 (k := 146) (j := 49) (l := 0) (u := 20) rfl
  have hfr := FOF_rg (a0 181) (a0 182) (a0 178) x1 x2 (a0 146 49).toNat
  rw [← hy3] at hfr
  refine jt_ite (fun c652_ => ?_) (fun c652_ => ?_)
  ·
    exact jt_rI ⟨hv, hf, rfl, hi10, (show (a0 146 55 = 0 → (-1) = 0 - 1) from by omega), (fun h1 h2 h3 => absurd (hdv h1 h2) h3), (fun h1 h2 h3 h4 => ⟨rfl, hsame.1, hsame.2.1, hsame.2.2.1⟩), (fun h1 h2 h3 h4 => absurd (by rw [← hy3]; omega) h4)⟩
  ·
    refine jt_bI (sp_X12_drops E d (jd_le hd rfl) y1 y3 a b0 hv (show (0 ≤ y3 ∧ y3 ≤ 19) from by omega) (show y3 < a 146 49 from by omega) (show a 181 (y3.toNat) = 1 from by omega) (show y1 = a 182 (y3.toNat) from by omega) hi10) (fun r653_ a653_ b653_ h653_ => ?_)
    obtain ⟨hv653_, hf653_, rfl, hq653_0, hq653_1, hq653_2, hq653_3⟩ := h653_
    have hf654_ : jfr jW_X12_drop a0 a653_ := jfr_tr hf hf653_ rfl
    exact jt_rI ⟨hv653_, hf654_, rfl, hq653_1, (show (a0 146 55 = 0 → r653_ = 0 - 1) from by omega), (fun h1 h2 h3 => absurd (hdv h1 h2) h3), (fun h1 h2 h3 h4 => absurd (hy3.trans h4) (by omega)), (fun h1 h2 h3 h4 => by have z := hfr.resolve_left (by omega); have q := hq653_2; have q2 := hq653_3; rw [show a 158 = a0 158 from funext fun j => hf 158 j rfl, show a 154 = a0 154 from funext fun j => hf 154 j rfl, show a 178 = a0 178 from funext fun j => hf 178 j rfl, hf 146 9 rfl, hf 146 0 rfl, hsame.1, hsame.2.1, hsame.2.2.2] at q; rw [hsame.2.2.1] at q2; rw [← hy3, z.2.2.2.1, ← hy1]; exact ⟨q, q2⟩)⟩
theorem sp_X12_drop (E : jxE) (d : Nat) (hd : Nat.ble 5 d = true) (x1 x2 : Int) (a0 b0 : Nat → Nat → Int) (hv0 : iv a0) (hp0 : OC a0) : jt (jxC E d 278 [.inr (.inr (.inl 146)), .inl x1, .inl x2] (jxSH, a0, b0)) (jQ_X12_drop x1 x2 a0 b0) := by
  obtain ⟨d, rfl⟩ := jd_succ hd
  refine jt_eq (bq_X12_drop E d x1 x2 a0 b0) ?_
  refine jt_eI (eq_X12_in E d (jd_le hd rfl) x1 0 (jxw ((a0 146 55) - 1)) a0 b0) ?_
  have h655_ := jxw_im ((a0 146 55) - 1)
  have h656_ := jxw_rg ((a0 146 55) - 1)
  have h657_ := f_X12_in_eq a0 b0 x1 0 (jxw ((a0 146 55) - 1))
  refine jt_ite (fun c658_ => ?_) (fun c658_ => ?_)
  ·
    exact jt_rI ⟨hv0, (jfr_rf _ _), rfl, hp0, (show (a0 146 55 = 0 → (-1) = 0 - 1) from by omega), (fun h1 h2 h3 => ⟨rfl, rfl, rfl, rfl⟩), (fun h1 h2 h3 h4 => absurd h3 (by omega)), (fun h1 h2 h3 h4 => absurd h3 (by omega))⟩
  ·
    refine jt_eI (eq_X12_isMember E d (jd_le hd rfl) x2 a0 b0) ?_
    have h659_ := f_X12_isMember_eq a0 b0 x2
    have h660_ := iv_get hv0 (k := 146) (j := 2) (l := 0) (u := 40) rfl
    have h661_ : jxw ((a0 146 2) - 1) = (a0 146 2) - 1 := jxw_id (by omega) (by omega)
    have h662_ := f_X12_in_eq a0 b0 x2 0 (jxw ((a0 146 2) - 1))
    refine jt_ite (fun c663_ => ?_) (fun c663_ => ?_)
    ·
      exact jt_rI ⟨hv0, (jfr_rf _ _), rfl, hp0, (show (a0 146 55 = 0 → (-1) = 0 - 1) from by omega), (fun h1 h2 h3 => ⟨rfl, rfl, rfl, rfl⟩), (fun h1 h2 h3 h4 => absurd h3 (by omega)), (fun h1 h2 h3 h4 => absurd h3 (by omega))⟩
    ·
      refine jt_bI (sq_X12_offerIn E d (jd_le hd rfl) x1 x2 a0 b0 hv0) (fun r664_ a664_ b664_ h664_ => ?_)
      obtain ⟨rfl, rfl, hq664_0, hq664_1, hq664_2, hq664_3, hq664_4⟩ := h664_
      have h665_ := iv_get hv0 (k := 146) (j := 49) (l := 0) (u := 20) rfl
      have h666_ := iv_get hv0 (k := 181) (j := r664_.toNat) (l := 0) (u := 2) rfl
      exact cp_X12_drop_31 E d hd x1 x2 a0 b0 hv0 hp0 x1 r664_ a0 hv0 (jfr_rf _ _) (show 0 ≤ x1 from by omega) (show 0 - 1 ≤ r664_ from by omega) (show r664_ ≤ 19 from by omega) (show (0 ≤ r664_ → (a0 181 (r664_.toNat) = 1 ∧ a0 182 (r664_.toNat) = x1)) from by omega) (show r664_ < a0 146 49 from by omega) (show ¬ a0 146 55 = 0 from by omega) (by first | rfl | assumption) hq664_4 (fun h1 h2 => by omega) ⟨rfl, rfl, rfl, rfl⟩ hp0
def jW_X12_leave : List (Nat × Nat) := [(152, 9999), (153, 9999), (159, 9999), (181, 9999)]
abbrev jQ_X12_leave (x1 : Int) (a0 b0 : Nat → Nat → Int) : List jxV → (Nat → Nat → Int) → (Nat → Nat → Int) → Prop := rI (fun r a b => (iv a) ∧ (jfr jW_X12_leave a0 a) ∧ (b0 = b) ∧ (OC a) ∧ ((a0 146 2 = 0 → r = 0 - 1)) ∧ (0 ≤ x1 ∧ x1 < a0 146 2 ∧ ¬ a0 152 x1.toNat = 0 → UP (a0 152) (a 152) x1.toNat 0) ∧ (x1 < 0 ∨ a0 146 2 ≤ x1 ∨ a0 152 x1.toNat = 0 → ∀ j, a 152 j = a0 152 j) ∧ ((0 ≤ x1 ∧ x1 < a0 146 2 ∧ ¬ a0 152 x1.toNat = 0) → ((cvR a, a 153, r), a 181) = lvo (a0 146 0) x1 (rup (a0 152) x1.toNat 0) (a0 178) (fun n => CRDF (a0 158) (a0 154) (a0 182 n) (a0 178 n) (a0 146 9).toNat) (a0 146 49).toNat (cnc (a0 146 0) x1 (a0 146 9).toNat (cvR a0, a0 153, 0), a0 181) ∧ a 152 = rup (a0 152) x1.toNat 0 ∧ ∀ k : Nat, a 181 k = 1 → a0 181 k = 1) ∧ (¬ (0 ≤ x1 ∧ x1 < a0 146 2 ∧ ¬ a0 152 x1.toNat = 0) → r = -1 ∧ cvR a = cvR a0 ∧ a 153 = a0 153 ∧ a 181 = a0 181 ∧ a 152 = a0 152))
theorem cp_X12_leave_95 (E : jxE) (d : Nat) (hd : Nat.ble 5 (d + 1) = true) (x1 : Int) (a0 b0 : Nat → Nat → Int) (hv0 : iv a0) (hp0 : OC a0) : ∀ n : Nat, (∀ (y1 y2 y3 : Int) (a : Nat → Nat → Int), (((20 - y3) * 1) + 0).toNat ≤ n → iv a → jfr jW_X12_leave a0 a → 0 ≤ y1 → y1 ≤ 39 → 0 ≤ y3 → y3 ≤ 19 → 1 ≤ a 146 49 → y3 < a 146 49 → (UP (a0 152) (a 152) x1.toNat 0) → (y1 = x1) → 0 ≤ y3 → 0 ≤ y2 → y2 ≤ 301 + y3 → (a 152 = rup (a0 152) x1.toNat 0) → (((cvR a, a 153, y2), rup (a 181) y3.toNat 2) = lvo (a0 146 0) x1 (rup (a0 152) x1.toNat 0) (a0 178) (fun n => CRDF (a0 158) (a0 154) (a0 182 n) (a0 178 n) (a0 146 9).toNat) (y3.toNat + 1) (cnc (a0 146 0) x1 (a0 146 9).toNat (cvR a0, a0 153, 0), a0 181)) → (∀ k : Nat, a 181 k = 1 → a0 181 k = 1) → (OC a) → 1 ≤ a0 146 2 → ((0 ≤ x1 ∧ x1 < a0 146 2) ∧ ¬ a0 152 (x1.toNat) = 0) → jt (jxX E d 279 140 [some (.inr (.inr (.inl 146))), some (.inl y1), some (.inl y2), some (.inl y3)] [] (jxSH, a, b0)) (jQ_X12_leave x1 a0 b0)) ∧ (∀ (y1 y2 y3 : Int) (a : Nat → Nat → Int), (((20 - y3) * 1) + 0).toNat ≤ n → iv a → jfr jW_X12_leave a0 a → 0 ≤ y1 → y1 ≤ 39 → 0 ≤ y3 → y3 ≤ 19 → 1 ≤ a 146 49 → a 181 (y3.toNat) = 1 → y3 < a 146 49 → (UP (a0 152) (a 152) x1.toNat 0) → (y1 = x1) → 0 ≤ y3 → 0 ≤ y2 → y2 ≤ 300 + y3 → (a 152 = rup (a0 152) x1.toNat 0) → (((cvR a, a 153, y2), a 181) = lvo (a0 146 0) x1 (rup (a0 152) x1.toNat 0) (a0 178) (fun n => CRDF (a0 158) (a0 154) (a0 182 n) (a0 178 n) (a0 146 9).toNat) y3.toNat (cnc (a0 146 0) x1 (a0 146 9).toNat (cvR a0, a0 153, 0), a0 181)) → (a0 178 y3.toNat = x1) → (∀ k : Nat, a 181 k = 1 → a0 181 k = 1) → (OC a) → 1 ≤ a0 146 2 → ((0 ≤ x1 ∧ x1 < a0 146 2) ∧ ¬ a0 152 (x1.toNat) = 0) → jt (jxX E d 279 126 [some (.inr (.inr (.inl 146))), some (.inl y1), some (.inl y2), some (.inl y3)] [] (jxSH, a, b0)) (jQ_X12_leave x1 a0 b0)) ∧ (∀ (y1 y2 y3 : Int) (a : Nat → Nat → Int), (((20 - y3) * 1) + 0).toNat ≤ n → iv a → jfr jW_X12_leave a0 a → 0 ≤ y1 → y1 ≤ 39 → 0 ≤ y3 → y3 ≤ 20 → (UP (a0 152) (a 152) x1.toNat 0) → (y1 = x1) → 0 ≤ y3 → 0 ≤ y2 → y3 ≤ a 146 49 → y2 ≤ 300 + y3 → (a 152 = rup (a0 152) x1.toNat 0) → (((cvR a, a 153, y2), a 181) = lvo (a0 146 0) x1 (rup (a0 152) x1.toNat 0) (a0 178) (fun n => CRDF (a0 158) (a0 154) (a0 182 n) (a0 178 n) (a0 146 9).toNat) y3.toNat (cnc (a0 146 0) x1 (a0 146 9).toNat (cvR a0, a0 153, 0), a0 181)) → (∀ k : Nat, a 181 k = 1 → a0 181 k = 1) → (OC a) → 1 ≤ a0 146 2 → ((0 ≤ x1 ∧ x1 < a0 146 2) ∧ ¬ a0 152 (x1.toNat) = 0) → jt (jxX E d 279 95 [some (.inr (.inr (.inl 146))), some (.inl y1), some (.inl y2), some (.inl y3)] [] (jxSH, a, b0)) (jQ_X12_leave x1 a0 b0)) := by
  refine jx_ind fun n ih => ?_
  have ih140 : ∀ (y1 y2 y3 : Int) (a : Nat → Nat → Int), (((20 - y3) * 1) + 0).toNat < n → iv a → jfr jW_X12_leave a0 a → 0 ≤ y1 → y1 ≤ 39 → 0 ≤ y3 → y3 ≤ 19 → 1 ≤ a 146 49 → y3 < a 146 49 → (UP (a0 152) (a 152) x1.toNat 0) → (y1 = x1) → 0 ≤ y3 → 0 ≤ y2 → y2 ≤ 301 + y3 → (a 152 = rup (a0 152) x1.toNat 0) → (((cvR a, a 153, y2), rup (a 181) y3.toNat 2) = lvo (a0 146 0) x1 (rup (a0 152) x1.toNat 0) (a0 178) (fun n => CRDF (a0 158) (a0 154) (a0 182 n) (a0 178 n) (a0 146 9).toNat) (y3.toNat + 1) (cnc (a0 146 0) x1 (a0 146 9).toNat (cvR a0, a0 153, 0), a0 181)) → (∀ k : Nat, a 181 k = 1 → a0 181 k = 1) → (OC a) → 1 ≤ a0 146 2 → ((0 ≤ x1 ∧ x1 < a0 146 2) ∧ ¬ a0 152 (x1.toNat) = 0) → jt (jxX E d 279 140 [some (.inr (.inr (.inl 146))), some (.inl y1), some (.inl y2), some (.inl y3)] [] (jxSH, a, b0)) (jQ_X12_leave x1 a0 b0) := fun y1 y2 y3 a hlt i0 i1 i2 i3 i4 i5 i6 i7 i8 i9 i10 i11 i12 i13 i14 i15 i16 i17 i18 => (ih _ hlt).1 y1 y2 y3 a (Nat.le_refl _) i0 i1 i2 i3 i4 i5 i6 i7 i8 i9 i10 i11 i12 i13 i14 i15 i16 i17 i18
  have ih126 : ∀ (y1 y2 y3 : Int) (a : Nat → Nat → Int), (((20 - y3) * 1) + 0).toNat < n → iv a → jfr jW_X12_leave a0 a → 0 ≤ y1 → y1 ≤ 39 → 0 ≤ y3 → y3 ≤ 19 → 1 ≤ a 146 49 → a 181 (y3.toNat) = 1 → y3 < a 146 49 → (UP (a0 152) (a 152) x1.toNat 0) → (y1 = x1) → 0 ≤ y3 → 0 ≤ y2 → y2 ≤ 300 + y3 → (a 152 = rup (a0 152) x1.toNat 0) → (((cvR a, a 153, y2), a 181) = lvo (a0 146 0) x1 (rup (a0 152) x1.toNat 0) (a0 178) (fun n => CRDF (a0 158) (a0 154) (a0 182 n) (a0 178 n) (a0 146 9).toNat) y3.toNat (cnc (a0 146 0) x1 (a0 146 9).toNat (cvR a0, a0 153, 0), a0 181)) → (a0 178 y3.toNat = x1) → (∀ k : Nat, a 181 k = 1 → a0 181 k = 1) → (OC a) → 1 ≤ a0 146 2 → ((0 ≤ x1 ∧ x1 < a0 146 2) ∧ ¬ a0 152 (x1.toNat) = 0) → jt (jxX E d 279 126 [some (.inr (.inr (.inl 146))), some (.inl y1), some (.inl y2), some (.inl y3)] [] (jxSH, a, b0)) (jQ_X12_leave x1 a0 b0) := fun y1 y2 y3 a hlt i0 i1 i2 i3 i4 i5 i6 i7 i8 i9 i10 i11 i12 i13 i14 i15 i16 i17 i18 i19 i20 => (ih _ hlt).2.1 y1 y2 y3 a (Nat.le_refl _) i0 i1 i2 i3 i4 i5 i6 i7 i8 i9 i10 i11 i12 i13 i14 i15 i16 i17 i18 i19 i20
  have ih95 : ∀ (y1 y2 y3 : Int) (a : Nat → Nat → Int), (((20 - y3) * 1) + 0).toNat < n → iv a → jfr jW_X12_leave a0 a → 0 ≤ y1 → y1 ≤ 39 → 0 ≤ y3 → y3 ≤ 20 → (UP (a0 152) (a 152) x1.toNat 0) → (y1 = x1) → 0 ≤ y3 → 0 ≤ y2 → y3 ≤ a 146 49 → y2 ≤ 300 + y3 → (a 152 = rup (a0 152) x1.toNat 0) → (((cvR a, a 153, y2), a 181) = lvo (a0 146 0) x1 (rup (a0 152) x1.toNat 0) (a0 178) (fun n => CRDF (a0 158) (a0 154) (a0 182 n) (a0 178 n) (a0 146 9).toNat) y3.toNat (cnc (a0 146 0) x1 (a0 146 9).toNat (cvR a0, a0 153, 0), a0 181)) → (∀ k : Nat, a 181 k = 1 → a0 181 k = 1) → (OC a) → 1 ≤ a0 146 2 → ((0 ≤ x1 ∧ x1 < a0 146 2) ∧ ¬ a0 152 (x1.toNat) = 0) → jt (jxX E d 279 95 [some (.inr (.inr (.inl 146))), some (.inl y1), some (.inl y2), some (.inl y3)] [] (jxSH, a, b0)) (jQ_X12_leave x1 a0 b0) := fun y1 y2 y3 a hlt i0 i1 i2 i3 i4 i5 i6 i7 i8 i9 i10 i11 i12 i13 i14 i15 i16 i17 => (ih _ hlt).2.2 y1 y2 y3 a (Nat.le_refl _) i0 i1 i2 i3 i4 i5 i6 i7 i8 i9 i10 i11 i12 i13 i14 i15 i16 i17
  have hc140 : ∀ (y1 y2 y3 : Int) (a : Nat → Nat → Int), (((20 - y3) * 1) + 0).toNat ≤ n → iv a → jfr jW_X12_leave a0 a → 0 ≤ y1 → y1 ≤ 39 → 0 ≤ y3 → y3 ≤ 19 → 1 ≤ a 146 49 → y3 < a 146 49 → (UP (a0 152) (a 152) x1.toNat 0) → (y1 = x1) → 0 ≤ y3 → 0 ≤ y2 → y2 ≤ 301 + y3 → (a 152 = rup (a0 152) x1.toNat 0) → (((cvR a, a 153, y2), rup (a 181) y3.toNat 2) = lvo (a0 146 0) x1 (rup (a0 152) x1.toNat 0) (a0 178) (fun n => CRDF (a0 158) (a0 154) (a0 182 n) (a0 178 n) (a0 146 9).toNat) (y3.toNat + 1) (cnc (a0 146 0) x1 (a0 146 9).toNat (cvR a0, a0 153, 0), a0 181)) → (∀ k : Nat, a 181 k = 1 → a0 181 k = 1) → (OC a) → 1 ≤ a0 146 2 → ((0 ≤ x1 ∧ x1 < a0 146 2) ∧ ¬ a0 152 (x1.toNat) = 0) → jt (jxX E d 279 140 [some (.inr (.inr (.inl 146))), some (.inl y1), some (.inl y2), some (.inl y3)] [] (jxSH, a, b0)) (jQ_X12_leave x1 a0 b0) := by
    intro y1 y2 y3 a hm hv hf hi0 hi1 hi2 hi3 hi4 hi5 hu152 hy1 hi8 hi9 hi10 h152 hl hk1 hi14 hi15 hi16
    refine jt_eq (bq_X12_leave_140 E d y1 y2 y3 a b0) ?_
    have h667_ := iv_get hv (k := 146) (j := 49) (l := 0) (u := 20) rfl
    have h668_ : a 146 49 = a0 146 49 := hf 146 49 rfl
    have h669_ := iv_get hv0 (k := 146) (j := 49) (l := 0) (u := 20) rfl
    have h670_ := iv_get hv0 (k := 146) (j := 2) (l := 0) (u := 40) rfl
    have h671_ := iv_get hv0 (k := 152) (j := x1.toNat) (l := 0) (u := 1) rfl
    refine jt_grd (by omega) ?_
    have hv672_ : iv (jxu a 181 (y3.toNat) 2) := iv_put hv (l := 0) (u := 2) rfl (by omega) (by omega)
    have hf673_ : jfr jW_X12_leave a0 (jxu a 181 (y3.toNat) 2) := jfr_put hf rfl
    have h674_ : jxw (y3 + 1) = y3 + 1 := jxw_id (by omega) (by omega)
    have hg675_ : OC (jxu a 181 (y3.toNat) 2) := (OC_put2 hi14 (by decide) (by omega))
    exact ih95 y1 y2 (jxw (y3 + 1)) (jxu a 181 (y3.toNat) 2) (show (((20 - (jxw (y3 + 1))) * 1) + 0).toNat < n from by omega) hv672_ hf673_ (show 0 ≤ y1 from by omega) (show y1 ≤ 39 from by omega) (show 0 ≤ jxw (y3 + 1) from by omega) (show jxw (y3 + 1) ≤ 20 from by omega) (UP_cr hu152 (fun j => rfl)) (by first | rfl | assumption) (show 0 ≤ jxw (y3 + 1) from by omega) (show 0 ≤ y2 from by omega) (show jxw (y3 + 1) ≤ a 146 49 from by omega) (show y2 ≤ 300 + (jxw (y3 + 1)) from by omega) (by rw [jxu_off (show ¬ 152 = 181 by decide)]; exact h152) (by rw [show (jxw (y3 + 1)).toNat = y3.toNat + 1 from by omega]; rw [jxu_rup, jxu_off (show ¬ 153 = 181 by decide), show cvR (jxu a 181 y3.toNat 2) = cvR a from cvR_fr (jfr_1 a 181 _ _) rfl]; exact hl) (fun k h => by rw [jxu_rup] at h; by_cases e : k = y3.toNat <;> first | (rw [e, rup_at] at h; exact absurd h (by decide)) | (rw [rup_ne e] at h; exact hk1 k h)) hg675_ (show 1 ≤ a0 146 2 from by omega) (show ((0 ≤ x1 ∧ x1 < a0 146 2) ∧ ¬ a0 152 (x1.toNat) = 0) from by omega)
  have hc126 : ∀ (y1 y2 y3 : Int) (a : Nat → Nat → Int), (((20 - y3) * 1) + 0).toNat ≤ n → iv a → jfr jW_X12_leave a0 a → 0 ≤ y1 → y1 ≤ 39 → 0 ≤ y3 → y3 ≤ 19 → 1 ≤ a 146 49 → a 181 (y3.toNat) = 1 → y3 < a 146 49 → (UP (a0 152) (a 152) x1.toNat 0) → (y1 = x1) → 0 ≤ y3 → 0 ≤ y2 → y2 ≤ 300 + y3 → (a 152 = rup (a0 152) x1.toNat 0) → (((cvR a, a 153, y2), a 181) = lvo (a0 146 0) x1 (rup (a0 152) x1.toNat 0) (a0 178) (fun n => CRDF (a0 158) (a0 154) (a0 182 n) (a0 178 n) (a0 146 9).toNat) y3.toNat (cnc (a0 146 0) x1 (a0 146 9).toNat (cvR a0, a0 153, 0), a0 181)) → (a0 178 y3.toNat = x1) → (∀ k : Nat, a 181 k = 1 → a0 181 k = 1) → (OC a) → 1 ≤ a0 146 2 → ((0 ≤ x1 ∧ x1 < a0 146 2) ∧ ¬ a0 152 (x1.toNat) = 0) → jt (jxX E d 279 126 [some (.inr (.inr (.inl 146))), some (.inl y1), some (.inl y2), some (.inl y3)] [] (jxSH, a, b0)) (jQ_X12_leave x1 a0 b0) := by
    intro y1 y2 y3 a hm hv hf hi0 hi1 hi2 hi3 hi4 hi5 hi6 hu152 hy1 hi9 hi10 hi11 h152 hl h178 hk1 hi16 hi17 hi18
    refine jt_eq (bq_X12_leave_126 E d y1 y2 y3 a b0) ?_
    have h676_ := iv_get hv (k := 146) (j := 49) (l := 0) (u := 20) rfl
    have h677_ : a 146 49 = a0 146 49 := hf 146 49 rfl
    have h678_ := iv_get hv0 (k := 146) (j := 49) (l := 0) (u := 20) rfl
    have h679_ := iv_get hv (k := 181) (j := y3.toNat) (l := 0) (u := 2) rfl
    have h680_ := iv_get hv0 (k := 146) (j := 2) (l := 0) (u := 40) rfl
    have h681_ := iv_get hv0 (k := 152) (j := x1.toNat) (l := 0) (u := 1) rfl
    have e00 := hf 146 0 rfl
    have i1469 := iv_get hv (k := 146) (j := 9) (l := 0) (u := 300) rfl
    refine jt_grd (by omega) ?_
    have h682_ : a 182 (y3.toNat) = a0 182 (y3.toNat) := hf 182 (y3.toNat) rfl
    refine jt_bI (sp_X12_drops E d (jd_le hd rfl) (a 182 (y3.toNat)) y3 a b0 hv (show (0 ≤ y3 ∧ y3 ≤ 19) from by omega) (show y3 < a 146 49 from by omega) (show a 181 (y3.toNat) = 1 from by omega) (show a 182 (y3.toNat) = a 182 (y3.toNat) from by omega) hi16) (fun r683_ a683_ b683_ h683_ => ?_)
    obtain ⟨hv683_, hf683_, rfl, hq683_0, hq683_1, hq683_2, hq683_3⟩ := h683_
    have hf684_ : jfr jW_X12_leave a0 a683_ := jfr_tr hf hf683_ rfl
    have h685_ := iv_get hv683_ (k := 146) (j := 49) (l := 0) (u := 20) rfl
    have h686_ : a683_ 146 49 = a 146 49 := hf683_ 146 49 rfl
    have h687_ := jxw_im (y2 + r683_)
    have h688_ := jxw_rg (y2 + r683_)
    exact hc140 y1 (jxw (y2 + r683_)) y3 a683_ (show (((20 - y3) * 1) + 0).toNat ≤ n from by omega) hv683_ hf684_ (show 0 ≤ y1 from by omega) (show y1 ≤ 39 from by omega) (show 0 ≤ y3 from by omega) (show y3 ≤ 19 from by omega) (show 1 ≤ a683_ 146 49 from by omega) (show y3 < a683_ 146 49 from by omega) (UP_cr hu152 (fun j => (hf683_ 152 j rfl))) (by first | rfl | assumption) (show 0 ≤ y3 from by omega) (show 0 ≤ jxw (y2 + r683_) from by omega) (show jxw (y2 + r683_) ≤ 301 + y3 from by omega) ((show a683_ 152 = a 152 from funext fun j => hf683_ 152 j rfl).trans h152) (by have q := hq683_2; have q2 := hq683_3; rw [show a 158 = a0 158 from funext fun j => hf 158 j rfl, show a 154 = a0 154 from funext fun j => hf 154 j rfl, show a 182 = a0 182 from funext fun j => hf 182 j rfl, show a 178 = a0 178 from funext fun j => hf 178 j rfl, hf 146 9 rfl, e00, h152] at q; obtain ⟨w1, w2, w3⟩ := LV_one (y := y2) q; rw [lvo_yes hl h178]; show _ = ((if a 181 y3.toNat = 1 then _ else _), _); rw [if_pos (by omega), show jxw (y2 + r683_) = y2 + r683_ from jxw_id (by omega) (by omega), w1, q2, rup_rup]) (fun k h => by rw [hq683_3] at h; by_cases e : k = y3.toNat <;> first | (rw [e, rup_at] at h; exact absurd h (by decide)) | (rw [rup_ne e] at h; exact hk1 k h)) hq683_1 (show 1 ≤ a0 146 2 from by omega) (show ((0 ≤ x1 ∧ x1 < a0 146 2) ∧ ¬ a0 152 (x1.toNat) = 0) from by omega)
  have hc95 : ∀ (y1 y2 y3 : Int) (a : Nat → Nat → Int), (((20 - y3) * 1) + 0).toNat ≤ n → iv a → jfr jW_X12_leave a0 a → 0 ≤ y1 → y1 ≤ 39 → 0 ≤ y3 → y3 ≤ 20 → (UP (a0 152) (a 152) x1.toNat 0) → (y1 = x1) → 0 ≤ y3 → 0 ≤ y2 → y3 ≤ a 146 49 → y2 ≤ 300 + y3 → (a 152 = rup (a0 152) x1.toNat 0) → (((cvR a, a 153, y2), a 181) = lvo (a0 146 0) x1 (rup (a0 152) x1.toNat 0) (a0 178) (fun n => CRDF (a0 158) (a0 154) (a0 182 n) (a0 178 n) (a0 146 9).toNat) y3.toNat (cnc (a0 146 0) x1 (a0 146 9).toNat (cvR a0, a0 153, 0), a0 181)) → (∀ k : Nat, a 181 k = 1 → a0 181 k = 1) → (OC a) → 1 ≤ a0 146 2 → ((0 ≤ x1 ∧ x1 < a0 146 2) ∧ ¬ a0 152 (x1.toNat) = 0) → jt (jxX E d 279 95 [some (.inr (.inr (.inl 146))), some (.inl y1), some (.inl y2), some (.inl y3)] [] (jxSH, a, b0)) (jQ_X12_leave x1 a0 b0) := by
    intro y1 y2 y3 a hm hv hf hi0 hi1 hi2 hi3 hu152 hy1 hi6 hi7 hi8 hi9 h152 hl hk1 hi13 hi14 hi15
    refine jt_eq (bq_X12_leave_95 E d y1 y2 y3 a b0) ?_
    have h689_ := iv_get hv (k := 146) (j := 49) (l := 0) (u := 20) rfl
    have h690_ : a 146 49 = a0 146 49 := hf 146 49 rfl
    have h691_ := iv_get hv0 (k := 146) (j := 49) (l := 0) (u := 20) rfl
    have h692_ := iv_get hv0 (k := 146) (j := 2) (l := 0) (u := 40) rfl
    have h693_ := iv_get hv0 (k := 152) (j := x1.toNat) (l := 0) (u := 1) rfl
    have e00 := hf 146 0 rfl
    have i1469 := iv_get hv (k := 146) (j := 9) (l := 0) (u := 300) rfl
    refine jt_ite (fun c694_ => ?_) (fun c694_ => ?_)
    ·
      refine jt_grd (by omega) ?_
      have h695_ := iv_get hv (k := 178) (j := y3.toNat) (l := 0) (u := 39) rfl
      have h696_ : a 178 (y3.toNat) = a0 178 (y3.toNat) := hf 178 (y3.toNat) rfl
      have h697_ := iv_get hv0 (k := 178) (j := y3.toNat) (l := 0) (u := 39) rfl
      refine jt_ite (fun c698_ => ?_) (fun c698_ => ?_)
      ·
        refine jt_grd (by omega) ?_
        have h699_ := iv_get hv (k := 181) (j := y3.toNat) (l := 0) (u := 2) rfl
        refine jt_ite (fun c700_ => ?_) (fun c700_ => ?_)
        ·
          exact hc126 y1 y2 y3 a (show (((20 - y3) * 1) + 0).toNat ≤ n from by omega) hv hf (show 0 ≤ y1 from by omega) (show y1 ≤ 39 from by omega) (show 0 ≤ y3 from by omega) (show y3 ≤ 19 from by omega) (show 1 ≤ a 146 49 from by omega) (show a 181 (y3.toNat) = 1 from by omega) (show y3 < a 146 49 from by omega) (UP_cr hu152 (fun j => rfl)) (by first | rfl | assumption) (show 0 ≤ y3 from by omega) (show 0 ≤ y2 from by omega) (show y2 ≤ 300 + y3 from by omega) h152 hl (by have e8 := hf 178 y3.toNat rfl; omega) hk1 hi13 (show 1 ≤ a0 146 2 from by omega) (show ((0 ≤ x1 ∧ x1 < a0 146 2) ∧ ¬ a0 152 (x1.toNat) = 0) from by omega)
        ·
          exact hc140 y1 y2 y3 a (show (((20 - y3) * 1) + 0).toNat ≤ n from by omega) hv hf (show 0 ≤ y1 from by omega) (show y1 ≤ 39 from by omega) (show 0 ≤ y3 from by omega) (show y3 ≤ 19 from by omega) (show 1 ≤ a 146 49 from by omega) (show y3 < a 146 49 from by omega) (UP_cr hu152 (fun j => rfl)) (by first | rfl | assumption) (show 0 ≤ y3 from by omega) (show 0 ≤ y2 from by omega) (show y2 ≤ 301 + y3 from by omega) h152 (by have e8 := hf 178 y3.toNat rfl; rw [lvo_yes hl (by omega)]; show _ = ((if a 181 y3.toNat = 1 then _ else _), _); rw [if_neg (by omega)]) hk1 hi13 (show 1 ≤ a0 146 2 from by omega) (show ((0 ≤ x1 ∧ x1 < a0 146 2) ∧ ¬ a0 152 (x1.toNat) = 0) from by omega)
      ·
        have h701_ : jxw (y3 + 1) = y3 + 1 := jxw_id (by omega) (by omega)
        exact ih95 y1 y2 (jxw (y3 + 1)) a (show (((20 - (jxw (y3 + 1))) * 1) + 0).toNat < n from by omega) hv hf (show 0 ≤ y1 from by omega) (show y1 ≤ 39 from by omega) (show 0 ≤ jxw (y3 + 1) from by omega) (show jxw (y3 + 1) ≤ 20 from by omega) (UP_cr hu152 (fun j => rfl)) (by first | rfl | assumption) (show 0 ≤ jxw (y3 + 1) from by omega) (show 0 ≤ y2 from by omega) (show jxw (y3 + 1) ≤ a 146 49 from by omega) (show y2 ≤ 300 + (jxw (y3 + 1)) from by omega) h152 (by rw [show (jxw (y3 + 1)).toNat = y3.toNat + 1 from by omega]; rw [lvo_no hl (by have e8 := hf 178 y3.toNat rfl; omega)]) hk1 hi13 (show 1 ≤ a0 146 2 from by omega) (show ((0 ≤ x1 ∧ x1 < a0 146 2) ∧ ¬ a0 152 (x1.toNat) = 0) from by omega)
    ·
      exact jt_rI ⟨hv, hf, rfl, hi13, (show (a0 146 2 = 0 → y2 = 0 - 1) from by omega), (fun _ => (UP_cr hu152 (fun j => rfl))), (fun h => absurd h (by omega)), (fun _ => ⟨by rw [show (a0 146 49).toNat = y3.toNat from by omega]; exact hl, h152, hk1⟩), (fun h => absurd (by omega) h)⟩
  exact ⟨hc140, hc126, hc95⟩
theorem cp_X12_leave_30 (E : jxE) (d : Nat) (hd : Nat.ble 5 (d + 1) = true) (x1 : Int) (a0 b0 : Nat → Nat → Int) (hv0 : iv a0) (hp0 : OC a0) : ∀ n : Nat, (∀ (y1 y2 y3 : Int) (a : Nat → Nat → Int), (((300 - y3) * 1) + 0).toNat ≤ n → iv a → jfr jW_X12_leave a0 a → 0 ≤ y1 → y1 ≤ 39 → 0 ≤ y3 → y3 ≤ 299 → 1 ≤ a 146 9 → (UP (a0 152) (a 152) x1.toNat 0) → (y1 = x1) → 0 ≤ y3 → 0 ≤ y2 → y3 < a 146 9 → y2 ≤ y3 → (a 152 = rup (a0 152) x1.toNat 0) → (a 181 = a0 181) → ((cvR a, a 153, y2) = cnc (a0 146 0) x1 (y3.toNat + 1) (cvR a0, a0 153, 0)) → (OC a) → 1 ≤ a0 146 2 → ((0 ≤ x1 ∧ x1 < a0 146 2) ∧ ¬ a0 152 (x1.toNat) = 0) → jt (jxX E d 279 56 [some (.inr (.inr (.inl 146))), some (.inl y1), some (.inl y2), some (.inl y3)] [] (jxSH, a, b0)) (jQ_X12_leave x1 a0 b0)) ∧ (∀ (y1 y2 y3 : Int) (a : Nat → Nat → Int), (((300 - y3) * 1) + 0).toNat ≤ n → iv a → jfr jW_X12_leave a0 a → 0 ≤ y1 → y1 ≤ 39 → 0 ≤ y3 → y3 ≤ 299 → 1 ≤ a 146 9 → (UP (a0 152) (a 152) x1.toNat 0) → (y1 = x1) → 0 ≤ y3 → 0 ≤ y2 → y3 < a 146 9 → y2 ≤ y3 → (a 152 = rup (a0 152) x1.toNat 0) → (a 181 = a0 181) → ((cvR a, a 153, (y2 + 1)) = cnc (a0 146 0) x1 (y3.toNat + 1) (cvR a0, a0 153, 0)) → (OC a) → 1 ≤ a0 146 2 → ((0 ≤ x1 ∧ x1 < a0 146 2) ∧ ¬ a0 152 (x1.toNat) = 0) → jt (jxX E d 279 84 [some (.inr (.inr (.inl 146))), some (.inl y1), some (.inl y2), some (.inl y3)] [] (jxSH, a, b0)) (jQ_X12_leave x1 a0 b0)) ∧ (∀ (y1 y2 y3 : Int) (a : Nat → Nat → Int), (((300 - y3) * 1) + 0).toNat ≤ n → iv a → jfr jW_X12_leave a0 a → 0 ≤ y1 → y1 ≤ 39 → 0 ≤ y3 → y3 ≤ 299 → 1 ≤ a 146 9 → (UP (a0 152) (a 152) x1.toNat 0) → (y1 = x1) → 0 ≤ y3 → 0 ≤ y2 → y3 < a 146 9 → y2 ≤ y3 → (a 152 = rup (a0 152) x1.toNat 0) → (a 181 = a0 181) → ((cvR a, a 153, y2) = cnc (a0 146 0) x1 y3.toNat (cvR a0, a0 153, 0)) → (a 155 y3.toNat = x1 ∧ vSt (cvR a) (a0 146 0) y3.toNat = 0) → (OC a) → 1 ≤ a0 146 2 → ((0 ≤ x1 ∧ x1 < a0 146 2) ∧ ¬ a0 152 (x1.toNat) = 0) → jt (jxX E d 279 59 [some (.inr (.inr (.inl 146))), some (.inl y1), some (.inl y2), some (.inl y3)] [] (jxSH, a, b0)) (jQ_X12_leave x1 a0 b0)) ∧ (∀ (y1 y2 y3 : Int) (a : Nat → Nat → Int), (((300 - y3) * 1) + 0).toNat ≤ n → iv a → jfr jW_X12_leave a0 a → 0 ≤ y1 → y1 ≤ 39 → 0 ≤ y3 → y3 ≤ 300 → (UP (a0 152) (a 152) x1.toNat 0) → (y1 = x1) → 0 ≤ y3 → 0 ≤ y2 → y3 ≤ a 146 9 → y2 ≤ y3 → (a 152 = rup (a0 152) x1.toNat 0) → (a 181 = a0 181) → ((cvR a, a 153, y2) = cnc (a0 146 0) x1 y3.toNat (cvR a0, a0 153, 0)) → (OC a) → 1 ≤ a0 146 2 → ((0 ≤ x1 ∧ x1 < a0 146 2) ∧ ¬ a0 152 (x1.toNat) = 0) → jt (jxX E d 279 30 [some (.inr (.inr (.inl 146))), some (.inl y1), some (.inl y2), some (.inl y3)] [] (jxSH, a, b0)) (jQ_X12_leave x1 a0 b0)) := by
  refine jx_ind fun n ih => ?_
  have ih56 : ∀ (y1 y2 y3 : Int) (a : Nat → Nat → Int), (((300 - y3) * 1) + 0).toNat < n → iv a → jfr jW_X12_leave a0 a → 0 ≤ y1 → y1 ≤ 39 → 0 ≤ y3 → y3 ≤ 299 → 1 ≤ a 146 9 → (UP (a0 152) (a 152) x1.toNat 0) → (y1 = x1) → 0 ≤ y3 → 0 ≤ y2 → y3 < a 146 9 → y2 ≤ y3 → (a 152 = rup (a0 152) x1.toNat 0) → (a 181 = a0 181) → ((cvR a, a 153, y2) = cnc (a0 146 0) x1 (y3.toNat + 1) (cvR a0, a0 153, 0)) → (OC a) → 1 ≤ a0 146 2 → ((0 ≤ x1 ∧ x1 < a0 146 2) ∧ ¬ a0 152 (x1.toNat) = 0) → jt (jxX E d 279 56 [some (.inr (.inr (.inl 146))), some (.inl y1), some (.inl y2), some (.inl y3)] [] (jxSH, a, b0)) (jQ_X12_leave x1 a0 b0) := fun y1 y2 y3 a hlt i0 i1 i2 i3 i4 i5 i6 i7 i8 i9 i10 i11 i12 i13 i14 i15 i16 i17 i18 => (ih _ hlt).1 y1 y2 y3 a (Nat.le_refl _) i0 i1 i2 i3 i4 i5 i6 i7 i8 i9 i10 i11 i12 i13 i14 i15 i16 i17 i18
  have ih84 : ∀ (y1 y2 y3 : Int) (a : Nat → Nat → Int), (((300 - y3) * 1) + 0).toNat < n → iv a → jfr jW_X12_leave a0 a → 0 ≤ y1 → y1 ≤ 39 → 0 ≤ y3 → y3 ≤ 299 → 1 ≤ a 146 9 → (UP (a0 152) (a 152) x1.toNat 0) → (y1 = x1) → 0 ≤ y3 → 0 ≤ y2 → y3 < a 146 9 → y2 ≤ y3 → (a 152 = rup (a0 152) x1.toNat 0) → (a 181 = a0 181) → ((cvR a, a 153, (y2 + 1)) = cnc (a0 146 0) x1 (y3.toNat + 1) (cvR a0, a0 153, 0)) → (OC a) → 1 ≤ a0 146 2 → ((0 ≤ x1 ∧ x1 < a0 146 2) ∧ ¬ a0 152 (x1.toNat) = 0) → jt (jxX E d 279 84 [some (.inr (.inr (.inl 146))), some (.inl y1), some (.inl y2), some (.inl y3)] [] (jxSH, a, b0)) (jQ_X12_leave x1 a0 b0) := fun y1 y2 y3 a hlt i0 i1 i2 i3 i4 i5 i6 i7 i8 i9 i10 i11 i12 i13 i14 i15 i16 i17 i18 => (ih _ hlt).2.1 y1 y2 y3 a (Nat.le_refl _) i0 i1 i2 i3 i4 i5 i6 i7 i8 i9 i10 i11 i12 i13 i14 i15 i16 i17 i18
  have ih59 : ∀ (y1 y2 y3 : Int) (a : Nat → Nat → Int), (((300 - y3) * 1) + 0).toNat < n → iv a → jfr jW_X12_leave a0 a → 0 ≤ y1 → y1 ≤ 39 → 0 ≤ y3 → y3 ≤ 299 → 1 ≤ a 146 9 → (UP (a0 152) (a 152) x1.toNat 0) → (y1 = x1) → 0 ≤ y3 → 0 ≤ y2 → y3 < a 146 9 → y2 ≤ y3 → (a 152 = rup (a0 152) x1.toNat 0) → (a 181 = a0 181) → ((cvR a, a 153, y2) = cnc (a0 146 0) x1 y3.toNat (cvR a0, a0 153, 0)) → (a 155 y3.toNat = x1 ∧ vSt (cvR a) (a0 146 0) y3.toNat = 0) → (OC a) → 1 ≤ a0 146 2 → ((0 ≤ x1 ∧ x1 < a0 146 2) ∧ ¬ a0 152 (x1.toNat) = 0) → jt (jxX E d 279 59 [some (.inr (.inr (.inl 146))), some (.inl y1), some (.inl y2), some (.inl y3)] [] (jxSH, a, b0)) (jQ_X12_leave x1 a0 b0) := fun y1 y2 y3 a hlt i0 i1 i2 i3 i4 i5 i6 i7 i8 i9 i10 i11 i12 i13 i14 i15 i16 i17 i18 i19 => (ih _ hlt).2.2.1 y1 y2 y3 a (Nat.le_refl _) i0 i1 i2 i3 i4 i5 i6 i7 i8 i9 i10 i11 i12 i13 i14 i15 i16 i17 i18 i19
  have ih30 : ∀ (y1 y2 y3 : Int) (a : Nat → Nat → Int), (((300 - y3) * 1) + 0).toNat < n → iv a → jfr jW_X12_leave a0 a → 0 ≤ y1 → y1 ≤ 39 → 0 ≤ y3 → y3 ≤ 300 → (UP (a0 152) (a 152) x1.toNat 0) → (y1 = x1) → 0 ≤ y3 → 0 ≤ y2 → y3 ≤ a 146 9 → y2 ≤ y3 → (a 152 = rup (a0 152) x1.toNat 0) → (a 181 = a0 181) → ((cvR a, a 153, y2) = cnc (a0 146 0) x1 y3.toNat (cvR a0, a0 153, 0)) → (OC a) → 1 ≤ a0 146 2 → ((0 ≤ x1 ∧ x1 < a0 146 2) ∧ ¬ a0 152 (x1.toNat) = 0) → jt (jxX E d 279 30 [some (.inr (.inr (.inl 146))), some (.inl y1), some (.inl y2), some (.inl y3)] [] (jxSH, a, b0)) (jQ_X12_leave x1 a0 b0) := fun y1 y2 y3 a hlt i0 i1 i2 i3 i4 i5 i6 i7 i8 i9 i10 i11 i12 i13 i14 i15 i16 i17 => (ih _ hlt).2.2.2 y1 y2 y3 a (Nat.le_refl _) i0 i1 i2 i3 i4 i5 i6 i7 i8 i9 i10 i11 i12 i13 i14 i15 i16 i17
  have hc56 : ∀ (y1 y2 y3 : Int) (a : Nat → Nat → Int), (((300 - y3) * 1) + 0).toNat ≤ n → iv a → jfr jW_X12_leave a0 a → 0 ≤ y1 → y1 ≤ 39 → 0 ≤ y3 → y3 ≤ 299 → 1 ≤ a 146 9 → (UP (a0 152) (a 152) x1.toNat 0) → (y1 = x1) → 0 ≤ y3 → 0 ≤ y2 → y3 < a 146 9 → y2 ≤ y3 → (a 152 = rup (a0 152) x1.toNat 0) → (a 181 = a0 181) → ((cvR a, a 153, y2) = cnc (a0 146 0) x1 (y3.toNat + 1) (cvR a0, a0 153, 0)) → (OC a) → 1 ≤ a0 146 2 → ((0 ≤ x1 ∧ x1 < a0 146 2) ∧ ¬ a0 152 (x1.toNat) = 0) → jt (jxX E d 279 56 [some (.inr (.inr (.inl 146))), some (.inl y1), some (.inl y2), some (.inl y3)] [] (jxSH, a, b0)) (jQ_X12_leave x1 a0 b0) := by
    intro y1 y2 y3 a hm hv hf hi0 hi1 hi2 hi3 hi4 hu152 hy1 hi7 hi8 hi9 hi10 h152 h181 hs hi14 hi15 hi16
    refine jt_eq (bq_X12_leave_56 E d y1 y2 y3 a b0) ?_
    have h702_ := iv_get hv (k := 146) (j := 9) (l := 0) (u := 300) rfl
    have h703_ : a 146 9 = a0 146 9 := hf 146 9 rfl
    have h704_ := iv_get hv0 (k := 146) (j := 9) (l := 0) (u := 300) rfl
    have h705_ := iv_get hv0 (k := 146) (j := 2) (l := 0) (u := 40) rfl
    have h706_ := iv_get hv0 (k := 152) (j := x1.toNat) (l := 0) (u := 1) rfl
    have h707_ : jxw (y3 + 1) = y3 + 1 := jxw_id (by omega) (by omega)
    exact ih30 y1 y2 (jxw (y3 + 1)) a (show (((300 - (jxw (y3 + 1))) * 1) + 0).toNat < n from by omega) hv hf (show 0 ≤ y1 from by omega) (show y1 ≤ 39 from by omega) (show 0 ≤ jxw (y3 + 1) from by omega) (show jxw (y3 + 1) ≤ 300 from by omega) (UP_cr hu152 (fun j => rfl)) (by first | rfl | assumption) (show 0 ≤ jxw (y3 + 1) from by omega) (show 0 ≤ y2 from by omega) (show jxw (y3 + 1) ≤ a 146 9 from by omega) (show y2 ≤ jxw (y3 + 1) from by omega) h152 h181 (by rw [show (jxw (y3 + 1)).toNat = y3.toNat + 1 from by omega]; exact hs) hi14 (show 1 ≤ a0 146 2 from by omega) (show ((0 ≤ x1 ∧ x1 < a0 146 2) ∧ ¬ a0 152 (x1.toNat) = 0) from by omega)
  have hc84 : ∀ (y1 y2 y3 : Int) (a : Nat → Nat → Int), (((300 - y3) * 1) + 0).toNat ≤ n → iv a → jfr jW_X12_leave a0 a → 0 ≤ y1 → y1 ≤ 39 → 0 ≤ y3 → y3 ≤ 299 → 1 ≤ a 146 9 → (UP (a0 152) (a 152) x1.toNat 0) → (y1 = x1) → 0 ≤ y3 → 0 ≤ y2 → y3 < a 146 9 → y2 ≤ y3 → (a 152 = rup (a0 152) x1.toNat 0) → (a 181 = a0 181) → ((cvR a, a 153, (y2 + 1)) = cnc (a0 146 0) x1 (y3.toNat + 1) (cvR a0, a0 153, 0)) → (OC a) → 1 ≤ a0 146 2 → ((0 ≤ x1 ∧ x1 < a0 146 2) ∧ ¬ a0 152 (x1.toNat) = 0) → jt (jxX E d 279 84 [some (.inr (.inr (.inl 146))), some (.inl y1), some (.inl y2), some (.inl y3)] [] (jxSH, a, b0)) (jQ_X12_leave x1 a0 b0) := by
    intro y1 y2 y3 a hm hv hf hi0 hi1 hi2 hi3 hi4 hu152 hy1 hi7 hi8 hi9 hi10 h152 h181 hs hi14 hi15 hi16
    refine jt_eq (bq_X12_leave_84 E d y1 y2 y3 a b0) ?_
    have h708_ := iv_get hv (k := 146) (j := 9) (l := 0) (u := 300) rfl
    have h709_ : a 146 9 = a0 146 9 := hf 146 9 rfl
    have h710_ := iv_get hv0 (k := 146) (j := 9) (l := 0) (u := 300) rfl
    have h711_ := iv_get hv0 (k := 146) (j := 2) (l := 0) (u := 40) rfl
    have h712_ := iv_get hv0 (k := 152) (j := x1.toNat) (l := 0) (u := 1) rfl
    have h713_ : jxw (y3 + 1) = y3 + 1 := jxw_id (by omega) (by omega)
    have h714_ := jxw_im (y2 + 1)
    have h715_ := jxw_rg (y2 + 1)
    exact ih30 y1 (jxw (y2 + 1)) (jxw (y3 + 1)) a (show (((300 - (jxw (y3 + 1))) * 1) + 0).toNat < n from by omega) hv hf (show 0 ≤ y1 from by omega) (show y1 ≤ 39 from by omega) (show 0 ≤ jxw (y3 + 1) from by omega) (show jxw (y3 + 1) ≤ 300 from by omega) (UP_cr hu152 (fun j => rfl)) (by first | rfl | assumption) (show 0 ≤ jxw (y3 + 1) from by omega) (show 0 ≤ jxw (y2 + 1) from by omega) (show jxw (y3 + 1) ≤ a 146 9 from by omega) (show jxw (y2 + 1) ≤ jxw (y3 + 1) from by omega) h152 h181 (by rw [show (jxw (y3 + 1)).toNat = y3.toNat + 1 from by omega]; rw [show jxw (y2 + 1) = y2 + 1 from by omega]; exact hs) hi14 (show 1 ≤ a0 146 2 from by omega) (show ((0 ≤ x1 ∧ x1 < a0 146 2) ∧ ¬ a0 152 (x1.toNat) = 0) from by omega)
  have hc59 : ∀ (y1 y2 y3 : Int) (a : Nat → Nat → Int), (((300 - y3) * 1) + 0).toNat ≤ n → iv a → jfr jW_X12_leave a0 a → 0 ≤ y1 → y1 ≤ 39 → 0 ≤ y3 → y3 ≤ 299 → 1 ≤ a 146 9 → (UP (a0 152) (a 152) x1.toNat 0) → (y1 = x1) → 0 ≤ y3 → 0 ≤ y2 → y3 < a 146 9 → y2 ≤ y3 → (a 152 = rup (a0 152) x1.toNat 0) → (a 181 = a0 181) → ((cvR a, a 153, y2) = cnc (a0 146 0) x1 y3.toNat (cvR a0, a0 153, 0)) → (a 155 y3.toNat = x1 ∧ vSt (cvR a) (a0 146 0) y3.toNat = 0) → (OC a) → 1 ≤ a0 146 2 → ((0 ≤ x1 ∧ x1 < a0 146 2) ∧ ¬ a0 152 (x1.toNat) = 0) → jt (jxX E d 279 59 [some (.inr (.inr (.inl 146))), some (.inl y1), some (.inl y2), some (.inl y3)] [] (jxSH, a, b0)) (jQ_X12_leave x1 a0 b0) := by
    intro y1 y2 y3 a hm hv hf hi0 hi1 hi2 hi3 hi4 hu152 hy1 hi7 hi8 hi9 hi10 h152 h181 hs h59 hi15 hi16 hi17
    refine jt_eq (bq_X12_leave_59 E d y1 y2 y3 a b0) ?_
    have h716_ := iv_get hv (k := 146) (j := 9) (l := 0) (u := 300) rfl
    have h717_ : a 146 9 = a0 146 9 := hf 146 9 rfl
    have h718_ := iv_get hv0 (k := 146) (j := 9) (l := 0) (u := 300) rfl
    have h719_ := iv_get hv0 (k := 146) (j := 2) (l := 0) (u := 40) rfl
    have h720_ := iv_get hv0 (k := 152) (j := x1.toNat) (l := 0) (u := 1) rfl
    have e00 := hf 146 0 rfl
    have i1469 := iv_get hv (k := 146) (j := 9) (l := 0) (u := 300) rfl
    refine jt_grd (by omega) ?_
    refine jt_grd (by omega) ?_
    have h721_ := iv_get hv (k := 154) (j := y3.toNat) (l := 0) (u := 39) rfl
    have h722_ : a 154 (y3.toNat) = a0 154 (y3.toNat) := hf 154 (y3.toNat) rfl
    have h723_ := iv_get hv0 (k := 154) (j := y3.toNat) (l := 0) (u := 39) rfl
    refine jt_grd (by omega) ?_
    refine jt_grd (by omega) ?_
    have hv724_ : iv (jxu a 159 (y3.toNat) (a 146 0)) := iv_putf hv rfl
    have hv725_ : iv (jxu (jxu a 159 (y3.toNat) (a 146 0)) 153 ((a 154 (y3.toNat)).toNat) (jxw ((a 153 ((a 154 (y3.toNat)).toNat)) + 1))) := iv_putf hv724_ rfl
    have hf726_ : jfr jW_X12_leave a0 (jxu a 159 (y3.toNat) (a 146 0)) := jfr_put hf rfl
    have hf727_ : jfr jW_X12_leave a0 (jxu (jxu a 159 (y3.toNat) (a 146 0)) 153 ((a 154 (y3.toNat)).toNat) (jxw ((a 153 ((a 154 (y3.toNat)).toNat)) + 1))) := jfr_put hf726_ rfl
    have hg728_ : OC (jxu a 159 (y3.toNat) (a 146 0)) := (OC_fr hi15 (jfr_1 a 159 (y3.toNat) (a 146 0)) rfl rfl (fun _ => rfl) (fun _ => rfl) (fun _ => rfl) (fun _ => rfl) (fun _ => rfl))
    have hg729_ : OC (jxu (jxu a 159 (y3.toNat) (a 146 0)) 153 ((a 154 (y3.toNat)).toNat) (jxw ((a 153 ((a 154 (y3.toNat)).toNat)) + 1))) := (OC_fr hg728_ (jfr_1 (jxu a 159 (y3.toNat) (a 146 0)) 153 ((a 154 (y3.toNat)).toNat) (jxw ((a 153 ((a 154 (y3.toNat)).toNat)) + 1))) rfl rfl (fun _ => rfl) (fun _ => rfl) (fun _ => rfl) (fun _ => rfl) (fun _ => rfl))
    exact hc84 y1 y2 y3 (jxu (jxu a 159 (y3.toNat) (a 146 0)) 153 ((a 154 (y3.toNat)).toNat) (jxw ((a 153 ((a 154 (y3.toNat)).toNat)) + 1))) (show (((300 - y3) * 1) + 0).toNat ≤ n from by omega) hv725_ hf727_ (show 0 ≤ y1 from by omega) (show y1 ≤ 39 from by omega) (show 0 ≤ y3 from by omega) (show y3 ≤ 299 from by omega) (show 1 ≤ a 146 9 from by omega) (UP_cr hu152 (fun j => rfl)) (by first | rfl | assumption) (show 0 ≤ y3 from by omega) (show 0 ≤ y2 from by omega) (show y3 < a 146 9 from by omega) (show y2 ≤ y3 from by omega) (by rw [jxu_off (show ¬ 152 = 153 by decide), jxu_off (show ¬ 152 = 159 by decide)]; exact h152) (by rw [jxu_off (show ¬ 181 = 153 by decide), jxu_off (show ¬ 181 = 159 by decide)]; exact h181) (by rw [cnc_yes hs ⟨h59.1, h59.2⟩, jxu_rup, jxu_off (show ¬ 153 = 159 by decide), show cvR (jxu (jxu a 159 y3.toNat (a 146 0)) 153 (a 154 y3.toNat).toNat (jxw ((a 153 ((a 154 (y3.toNat)).toNat)) + 1))) = cvR (jxu a 159 y3.toNat (a 146 0)) from cvR_fr (jfr_1 _ 153 _ _) rfl, cvR_off, e00, Int.toNat_of_nonneg (show 0 ≤ y3 by omega)]; rfl) hg729_ (show 1 ≤ a0 146 2 from by omega) (show ((0 ≤ x1 ∧ x1 < a0 146 2) ∧ ¬ a0 152 (x1.toNat) = 0) from by omega)
  have hc30 : ∀ (y1 y2 y3 : Int) (a : Nat → Nat → Int), (((300 - y3) * 1) + 0).toNat ≤ n → iv a → jfr jW_X12_leave a0 a → 0 ≤ y1 → y1 ≤ 39 → 0 ≤ y3 → y3 ≤ 300 → (UP (a0 152) (a 152) x1.toNat 0) → (y1 = x1) → 0 ≤ y3 → 0 ≤ y2 → y3 ≤ a 146 9 → y2 ≤ y3 → (a 152 = rup (a0 152) x1.toNat 0) → (a 181 = a0 181) → ((cvR a, a 153, y2) = cnc (a0 146 0) x1 y3.toNat (cvR a0, a0 153, 0)) → (OC a) → 1 ≤ a0 146 2 → ((0 ≤ x1 ∧ x1 < a0 146 2) ∧ ¬ a0 152 (x1.toNat) = 0) → jt (jxX E d 279 30 [some (.inr (.inr (.inl 146))), some (.inl y1), some (.inl y2), some (.inl y3)] [] (jxSH, a, b0)) (jQ_X12_leave x1 a0 b0) := by
    intro y1 y2 y3 a hm hv hf hi0 hi1 hi2 hi3 hu152 hy1 hi6 hi7 hi8 hi9 h152 h181 hs hi13 hi14 hi15
    refine jt_eq (bq_X12_leave_30 E d y1 y2 y3 a b0) ?_
    have h730_ := iv_get hv (k := 146) (j := 9) (l := 0) (u := 300) rfl
    have h731_ : a 146 9 = a0 146 9 := hf 146 9 rfl
    have h732_ := iv_get hv0 (k := 146) (j := 9) (l := 0) (u := 300) rfl
    have h733_ := iv_get hv0 (k := 146) (j := 2) (l := 0) (u := 40) rfl
    have h734_ := iv_get hv0 (k := 152) (j := x1.toNat) (l := 0) (u := 1) rfl
    have e00 := hf 146 0 rfl
    have i1469 := iv_get hv (k := 146) (j := 9) (l := 0) (u := 300) rfl
    refine jt_ite (fun c735_ => ?_) (fun c735_ => ?_)
    ·
      refine jt_grd (by omega) ?_
      have h736_ := iv_get hv (k := 155) (j := y3.toNat) (l := 0) (u := 39) rfl
      have h737_ : a 155 (y3.toNat) = a0 155 (y3.toNat) := hf 155 (y3.toNat) rfl
      have h738_ := iv_get hv0 (k := 155) (j := y3.toNat) (l := 0) (u := 39) rfl
      refine jt_ite (fun c739_ => ?_) (fun c739_ => ?_)
      ·
        refine jt_bI (sp_X12_stateNow E d (jd_le hd rfl) y3 a b0 hv (show (0 ≤ y3 ∧ y3 ≤ 299) from by omega)) (fun r740_ a740_ b740_ h740_ => ?_)
        obtain ⟨rfl, rfl, hq740_0, hq740_1, hq740_2⟩ := h740_
        have hsn_ := hq740_2
        refine jt_ite (fun c741_ => ?_) (fun c741_ => ?_)
        ·
          exact hc59 y1 y2 y3 a (show (((300 - y3) * 1) + 0).toNat ≤ n from by omega) hv hf (show 0 ≤ y1 from by omega) (show y1 ≤ 39 from by omega) (show 0 ≤ y3 from by omega) (show y3 ≤ 299 from by omega) (show 1 ≤ a 146 9 from by omega) (UP_cr hu152 (fun j => rfl)) (by first | rfl | assumption) (show 0 ≤ y3 from by omega) (show 0 ≤ y2 from by omega) (show y3 < a 146 9 from by omega) (show y2 ≤ y3 from by omega) h152 h181 hs ⟨by omega, by rw [← e00, ← hsn_]; assumption⟩ hi13 (show 1 ≤ a0 146 2 from by omega) (show ((0 ≤ x1 ∧ x1 < a0 146 2) ∧ ¬ a0 152 (x1.toNat) = 0) from by omega)
        ·
          exact hc56 y1 y2 y3 a (show (((300 - y3) * 1) + 0).toNat ≤ n from by omega) hv hf (show 0 ≤ y1 from by omega) (show y1 ≤ 39 from by omega) (show 0 ≤ y3 from by omega) (show y3 ≤ 299 from by omega) (show 1 ≤ a 146 9 from by omega) (UP_cr hu152 (fun j => rfl)) (by first | rfl | assumption) (show 0 ≤ y3 from by omega) (show 0 ≤ y2 from by omega) (show y3 < a 146 9 from by omega) (show y2 ≤ y3 from by omega) h152 h181 (by rw [cnc_no hs (fun z => by have z2 := z.2; rw [← e00] at z2; exact absurd (hsn_.trans z2) (by assumption))]) hi13 (show 1 ≤ a0 146 2 from by omega) (show ((0 ≤ x1 ∧ x1 < a0 146 2) ∧ ¬ a0 152 (x1.toNat) = 0) from by omega)
      ·
        have h742_ : jxw (y3 + 1) = y3 + 1 := jxw_id (by omega) (by omega)
        exact ih30 y1 y2 (jxw (y3 + 1)) a (show (((300 - (jxw (y3 + 1))) * 1) + 0).toNat < n from by omega) hv hf (show 0 ≤ y1 from by omega) (show y1 ≤ 39 from by omega) (show 0 ≤ jxw (y3 + 1) from by omega) (show jxw (y3 + 1) ≤ 300 from by omega) (UP_cr hu152 (fun j => rfl)) (by first | rfl | assumption) (show 0 ≤ jxw (y3 + 1) from by omega) (show 0 ≤ y2 from by omega) (show jxw (y3 + 1) ≤ a 146 9 from by omega) (show y2 ≤ jxw (y3 + 1) from by omega) h152 h181 (by rw [show (jxw (y3 + 1)).toNat = y3.toNat + 1 from by omega]; rw [cnc_no hs (fun z => by have z1 : a 155 y3.toNat = x1 := z.1; omega)]) hi13 (show 1 ≤ a0 146 2 from by omega) (show ((0 ≤ x1 ∧ x1 < a0 146 2) ∧ ¬ a0 152 (x1.toNat) = 0) from by omega)
    ·
      have h743_ := iv_get hv (k := 146) (j := 49) (l := 0) (u := 20) rfl
      have h744_ : a 146 49 = a0 146 49 := hf 146 49 rfl
      have h745_ := iv_get hv0 (k := 146) (j := 49) (l := 0) (u := 20) rfl
      exact (cp_X12_leave_95 E d hd x1 a0 b0 hv0 hp0 _).2.2 y1 y2 0 a (Nat.le_refl _) hv hf (show 0 ≤ y1 from by omega) (show y1 ≤ 39 from by omega) (show 0 ≤ 0 from by omega) (show 0 ≤ 20 from by omega) (UP_cr hu152 (fun j => rfl)) (by first | rfl | assumption) (show 0 ≤ 0 from by omega) (show 0 ≤ y2 from by omega) (show 0 ≤ a 146 49 from by omega) (show y2 ≤ 300 + 0 from by omega) h152 (by rw [h181]; show ((cvR a, a 153, y2), a0 181) = (_, a0 181); rw [show (a0 146 9).toNat = y3.toNat from by omega]; exact congrArg (fun t => (t, a0 181)) hs) (fun k h => by rw [← h181]; exact h) hi13 (show 1 ≤ a0 146 2 from by omega) (show ((0 ≤ x1 ∧ x1 < a0 146 2) ∧ ¬ a0 152 (x1.toNat) = 0) from by omega)
  exact ⟨hc56, hc84, hc59, hc30⟩
theorem cp_X12_leave_26 (E : jxE) (d : Nat) (hd : Nat.ble 5 (d + 1) = true) (x1 : Int) (a0 b0 : Nat → Nat → Int) (hv0 : iv a0) (hp0 : OC a0) : ∀ (y1 : Int) (a : Nat → Nat → Int), iv a → jfr jW_X12_leave a0 a → 0 ≤ y1 → y1 ≤ 39 → (UP (a0 152) (a 152) x1.toNat 0) → (y1 = x1) → (a 152 = rup (a0 152) x1.toNat 0) → (a 181 = a0 181) → ((cvR a, a 153, 0) = cnc (a0 146 0) x1 0 (cvR a0, a0 153, 0)) → (OC a) → 1 ≤ a0 146 2 → ((0 ≤ x1 ∧ x1 < a0 146 2) ∧ ¬ a0 152 (x1.toNat) = 0) → jt (jxX E d 279 26 [some (.inr (.inr (.inl 146))), some (.inl y1), none, none] [] (jxSH, a, b0)) (jQ_X12_leave x1 a0 b0) := by
  intro y1 a hv hf hi0 hi1 hu152 hy1 h152 h181 hs hi7 hi8 hi9
  refine jt_eq (bq_X12_leave_26 E d y1 a b0) ?_
  have h746_ := iv_get hv0 (k := 146) (j := 2) (l := 0) (u := 40) rfl
  have h747_ := iv_get hv0 (k := 152) (j := x1.toNat) (l := 0) (u := 1) rfl
  have h748_ := iv_get hv (k := 146) (j := 9) (l := 0) (u := 300) rfl
  have h749_ : a 146 9 = a0 146 9 := hf 146 9 rfl
  have h750_ := iv_get hv0 (k := 146) (j := 9) (l := 0) (u := 300) rfl
  exact (cp_X12_leave_30 E d hd x1 a0 b0 hv0 hp0 _).2.2.2 y1 0 0 a (Nat.le_refl _) hv hf (show 0 ≤ y1 from by omega) (show y1 ≤ 39 from by omega) (show 0 ≤ 0 from by omega) (show 0 ≤ 300 from by omega) (UP_cr hu152 (fun j => rfl)) (by first | rfl | assumption) (show 0 ≤ 0 from by omega) (show 0 ≤ 0 from by omega) (show 0 ≤ a 146 9 from by omega) (show 0 ≤ 0 from by omega) h152 h181 hs hi7 (show 1 ≤ a0 146 2 from by omega) (show ((0 ≤ x1 ∧ x1 < a0 146 2) ∧ ¬ a0 152 (x1.toNat) = 0) from by omega)
theorem sp_X12_leave (E : jxE) (d : Nat) (hd : Nat.ble 5 d = true) (x1 : Int) (a0 b0 : Nat → Nat → Int) (hv0 : iv a0) (hp0 : OC a0) : jt (jxC E d 279 [.inr (.inr (.inl 146)), .inl x1] (jxSH, a0, b0)) (jQ_X12_leave x1 a0 b0) := by
  obtain ⟨d, rfl⟩ := jd_succ hd
  refine jt_eq (bq_X12_leave E d x1 a0 b0) ?_
  refine jt_eI (eq_X12_isMember E d (jd_le hd rfl) x1 a0 b0) ?_
  have h751_ := f_X12_isMember_eq a0 b0 x1
  have h752_ := iv_get hv0 (k := 146) (j := 2) (l := 0) (u := 40) rfl
  have h753_ : jxw ((a0 146 2) - 1) = (a0 146 2) - 1 := jxw_id (by omega) (by omega)
  have h754_ := f_X12_in_eq a0 b0 x1 0 (jxw ((a0 146 2) - 1))
  refine jt_ite (fun c755_ => ?_) (fun c755_ => ?_)
  ·
    exact jt_rI ⟨hv0, (jfr_rf _ _), rfl, hp0, (show (a0 146 2 = 0 → (-1) = 0 - 1) from by omega), (fun h => absurd h (by omega)), (fun _ j => rfl), (fun h => absurd h (by omega)), (fun _ => ⟨rfl, rfl, rfl, rfl, rfl⟩)⟩
  ·
    refine jt_grd (by omega) ?_
    have h756_ := iv_get hv0 (k := 152) (j := x1.toNat) (l := 0) (u := 1) rfl
    refine jt_ite (fun c757_ => ?_) (fun c757_ => ?_)
    ·
      exact jt_rI ⟨hv0, (jfr_rf _ _), rfl, hp0, (show (a0 146 2 = 0 → (-1) = 0 - 1) from by omega), (fun h => absurd h (by omega)), (fun _ j => rfl), (fun h => absurd h (by omega)), (fun _ => ⟨rfl, rfl, rfl, rfl, rfl⟩)⟩
    ·
      refine jt_grd (by omega) ?_
      have hv758_ : iv (jxu a0 152 (x1.toNat) 0) := iv_put hv0 (l := 0) (u := 1) rfl (by omega) (by omega)
      have hf759_ : jfr jW_X12_leave a0 (jxu a0 152 (x1.toNat) 0) := jfr_put (jfr_rf _ _) rfl
      have hg760_ : OC (jxu a0 152 (x1.toNat) 0) := (OC_fr hp0 (jfr_1 a0 152 (x1.toNat) 0) rfl rfl (fun _ => rfl) (fun _ => rfl) (fun _ => rfl) (fun _ => rfl) (fun _ => rfl))
      exact cp_X12_leave_26 E d hd x1 a0 b0 hv0 hp0 x1 (jxu a0 152 (x1.toNat) 0) hv758_ hf759_ (show 0 ≤ x1 from by omega) (show x1 ≤ 39 from by omega) (UP_cr (UP_put (fun _ => rfl)) (fun j => rfl)) (by first | rfl | assumption) (jxu_rup _ _ _ _) (jxu_off (by decide)) (by rw [jxu_off (show ¬ 153 = 152 by decide), show cvR (jxu a0 152 x1.toNat 0) = cvR a0 from cvR_fr (jfr_1 a0 152 _ _) rfl]; rfl) hg760_ (show 1 ≤ a0 146 2 from by omega) (show ((0 ≤ x1 ∧ x1 < a0 146 2) ∧ ¬ a0 152 (x1.toNat) = 0) from by omega)
