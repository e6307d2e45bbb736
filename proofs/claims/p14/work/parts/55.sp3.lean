abbrev jQ_X12_arrival (x1 x2 : Int) (a0 b0 : Nat → Nat → Int) : List jxV → (Nat → Nat → Int) → (Nat → Nat → Int) → Prop := rI (fun r a b => (a0 = a) ∧ (b0 = b) ∧ (r = if a0 146 0 ≤ x2 then vArr (cvR a0) x1.toNat else vKn (cvR a0) x1.toNat x2))
theorem cp_X12_arrival_38 (E : jxE) (d : Nat) (hd : Nat.ble 1 (d + 1) = true) (x1 x2 : Int) (a0 b0 : Nat → Nat → Int) (hv0 : iv a0) (hp0 : (0 ≤ x1 ∧ x1 ≤ 299)) : ∀ n : Nat, (∀ (y1 y2 y3 y4 : Int), (((600 - y4) * 1) + 0).toNat ≤ n → 0 ≤ y1 → y1 ≤ 299 → y2 ≤ 1998 → 0 ≤ y4 → y4 ≤ 599 → y1 = x1 → y2 = x2 → x2 < a0 146 0 → 0 ≤ y4 → y4 < a0 146 17 → (y3 = lastd (a0 161) (a0 162) (a0 163) x1 x2 (y4.toNat + 1)) → jt (jxX E d 233 77 [some (.inr (.inr (.inl 146))), some (.inl y1), some (.inl y2), some (.inl y3), some (.inl y4)] [] (jxSH, a0, b0)) (jQ_X12_arrival x1 x2 a0 b0)) ∧ (∀ (y1 y2 y4 : Int), (((600 - y4) * 1) + 0).toNat ≤ n → 0 ≤ y1 → y1 ≤ 299 → y2 ≤ 1998 → 0 ≤ y4 → y4 ≤ 599 → y1 = x1 → y2 = x2 → x2 < a0 146 0 → 0 ≤ y4 → y4 < a0 146 17 → (a0 162 y4.toNat = lastd (a0 161) (a0 162) (a0 163) x1 x2 (y4.toNat + 1)) → jt (jxX E d 233 69 [some (.inr (.inr (.inl 146))), some (.inl y1), some (.inl y2), none, some (.inl y4)] [] (jxSH, a0, b0)) (jQ_X12_arrival x1 x2 a0 b0)) ∧ (∀ (y1 y2 y3 y4 : Int), (((600 - y4) * 1) + 0).toNat ≤ n → 0 ≤ y1 → y1 ≤ 299 → y2 ≤ 1998 → 0 ≤ y4 → y4 ≤ 600 → y1 = x1 → y2 = x2 → x2 < a0 146 0 → 0 ≤ y4 → y4 ≤ a0 146 17 → (y3 = lastd (a0 161) (a0 162) (a0 163) x1 x2 y4.toNat) → jt (jxX E d 233 38 [some (.inr (.inr (.inl 146))), some (.inl y1), some (.inl y2), some (.inl y3), some (.inl y4)] [] (jxSH, a0, b0)) (jQ_X12_arrival x1 x2 a0 b0)) := by
  refine jx_ind fun n ih => ?_
  have ih77 : ∀ (y1 y2 y3 y4 : Int), (((600 - y4) * 1) + 0).toNat < n → 0 ≤ y1 → y1 ≤ 299 → y2 ≤ 1998 → 0 ≤ y4 → y4 ≤ 599 → y1 = x1 → y2 = x2 → x2 < a0 146 0 → 0 ≤ y4 → y4 < a0 146 17 → (y3 = lastd (a0 161) (a0 162) (a0 163) x1 x2 (y4.toNat + 1)) → jt (jxX E d 233 77 [some (.inr (.inr (.inl 146))), some (.inl y1), some (.inl y2), some (.inl y3), some (.inl y4)] [] (jxSH, a0, b0)) (jQ_X12_arrival x1 x2 a0 b0) := fun y1 y2 y3 y4 hlt i0 i1 i2 i3 i4 i5 i6 i7 i8 i9 i10 => (ih _ hlt).1 y1 y2 y3 y4 (Nat.le_refl _) i0 i1 i2 i3 i4 i5 i6 i7 i8 i9 i10
  have ih69 : ∀ (y1 y2 y4 : Int), (((600 - y4) * 1) + 0).toNat < n → 0 ≤ y1 → y1 ≤ 299 → y2 ≤ 1998 → 0 ≤ y4 → y4 ≤ 599 → y1 = x1 → y2 = x2 → x2 < a0 146 0 → 0 ≤ y4 → y4 < a0 146 17 → (a0 162 y4.toNat = lastd (a0 161) (a0 162) (a0 163) x1 x2 (y4.toNat + 1)) → jt (jxX E d 233 69 [some (.inr (.inr (.inl 146))), some (.inl y1), some (.inl y2), none, some (.inl y4)] [] (jxSH, a0, b0)) (jQ_X12_arrival x1 x2 a0 b0) := fun y1 y2 y4 hlt i0 i1 i2 i3 i4 i5 i6 i7 i8 i9 i10 => (ih _ hlt).2.1 y1 y2 y4 (Nat.le_refl _) i0 i1 i2 i3 i4 i5 i6 i7 i8 i9 i10
  have ih38 : ∀ (y1 y2 y3 y4 : Int), (((600 - y4) * 1) + 0).toNat < n → 0 ≤ y1 → y1 ≤ 299 → y2 ≤ 1998 → 0 ≤ y4 → y4 ≤ 600 → y1 = x1 → y2 = x2 → x2 < a0 146 0 → 0 ≤ y4 → y4 ≤ a0 146 17 → (y3 = lastd (a0 161) (a0 162) (a0 163) x1 x2 y4.toNat) → jt (jxX E d 233 38 [some (.inr (.inr (.inl 146))), some (.inl y1), some (.inl y2), some (.inl y3), some (.inl y4)] [] (jxSH, a0, b0)) (jQ_X12_arrival x1 x2 a0 b0) := fun y1 y2 y3 y4 hlt i0 i1 i2 i3 i4 i5 i6 i7 i8 i9 i10 => (ih _ hlt).2.2 y1 y2 y3 y4 (Nat.le_refl _) i0 i1 i2 i3 i4 i5 i6 i7 i8 i9 i10
  have hc77 : ∀ (y1 y2 y3 y4 : Int), (((600 - y4) * 1) + 0).toNat ≤ n → 0 ≤ y1 → y1 ≤ 299 → y2 ≤ 1998 → 0 ≤ y4 → y4 ≤ 599 → y1 = x1 → y2 = x2 → x2 < a0 146 0 → 0 ≤ y4 → y4 < a0 146 17 → (y3 = lastd (a0 161) (a0 162) (a0 163) x1 x2 (y4.toNat + 1)) → jt (jxX E d 233 77 [some (.inr (.inr (.inl 146))), some (.inl y1), some (.inl y2), some (.inl y3), some (.inl y4)] [] (jxSH, a0, b0)) (jQ_X12_arrival x1 x2 a0 b0) := by
    intro y1 y2 y3 y4 hm hi0 hi1 hi2 hi3 hi4 hi5 hi6 hi7 hi8 hi9 hl
    refine jt_eq (bq_X12_arrival_77 E d y1 y2 y3 y4 a0 b0) ?_
    have h1_ := iv_get hv0 (k := 146) (j := 0) (l := 0) (u := 1999) rfl
    have h2_ := iv_get hv0 (k := 146) (j := 17) (l := 0) (u := 600) rfl
    have h3_ : jxw (y4 + 1) = y4 + 1 := jxw_id (by omega) (by omega)
    exact ih38 y1 y2 y3 (jxw (y4 + 1)) (show (((600 - (jxw (y4 + 1))) * 1) + 0).toNat < n from by omega) (show 0 ≤ y1 from by omega) (show y1 ≤ 299 from by omega) (show y2 ≤ 1998 from by omega) (show 0 ≤ jxw (y4 + 1) from by omega) (show jxw (y4 + 1) ≤ 600 from by omega) (show y1 = x1 from by omega) (show y2 = x2 from by omega) (show x2 < a0 146 0 from by omega) (show 0 ≤ jxw (y4 + 1) from by omega) (show jxw (y4 + 1) ≤ a0 146 17 from by omega) (by first | rfl | (rw [show (jxw (y4 + 1)).toNat = y4.toNat + 1 from by omega]; exact hl))
  have hc69 : ∀ (y1 y2 y4 : Int), (((600 - y4) * 1) + 0).toNat ≤ n → 0 ≤ y1 → y1 ≤ 299 → y2 ≤ 1998 → 0 ≤ y4 → y4 ≤ 599 → y1 = x1 → y2 = x2 → x2 < a0 146 0 → 0 ≤ y4 → y4 < a0 146 17 → (a0 162 y4.toNat = lastd (a0 161) (a0 162) (a0 163) x1 x2 (y4.toNat + 1)) → jt (jxX E d 233 69 [some (.inr (.inr (.inl 146))), some (.inl y1), some (.inl y2), none, some (.inl y4)] [] (jxSH, a0, b0)) (jQ_X12_arrival x1 x2 a0 b0) := by
    intro y1 y2 y4 hm hi0 hi1 hi2 hi3 hi4 hi5 hi6 hi7 hi8 hi9 hl
    refine jt_eq (bq_X12_arrival_69 E d y1 y2 y4 a0 b0) ?_
    have h4_ := iv_get hv0 (k := 146) (j := 0) (l := 0) (u := 1999) rfl
    have h5_ := iv_get hv0 (k := 146) (j := 17) (l := 0) (u := 600) rfl
    refine jt_grd (by omega) ?_
    exact hc77 y1 y2 (a0 162 (y4.toNat)) y4 (show (((600 - y4) * 1) + 0).toNat ≤ n from by omega) (show 0 ≤ y1 from by omega) (show y1 ≤ 299 from by omega) (show y2 ≤ 1998 from by omega) (show 0 ≤ y4 from by omega) (show y4 ≤ 599 from by omega) (show y1 = x1 from by omega) (show y2 = x2 from by omega) (show x2 < a0 146 0 from by omega) (show 0 ≤ y4 from by omega) (show y4 < a0 146 17 from by omega) (by first | exact hl | (rw [hls, if_neg (fun q => by omega)]; exact hl))
  have hc38 : ∀ (y1 y2 y3 y4 : Int), (((600 - y4) * 1) + 0).toNat ≤ n → 0 ≤ y1 → y1 ≤ 299 → y2 ≤ 1998 → 0 ≤ y4 → y4 ≤ 600 → y1 = x1 → y2 = x2 → x2 < a0 146 0 → 0 ≤ y4 → y4 ≤ a0 146 17 → (y3 = lastd (a0 161) (a0 162) (a0 163) x1 x2 y4.toNat) → jt (jxX E d 233 38 [some (.inr (.inr (.inl 146))), some (.inl y1), some (.inl y2), some (.inl y3), some (.inl y4)] [] (jxSH, a0, b0)) (jQ_X12_arrival x1 x2 a0 b0) := by
    intro y1 y2 y3 y4 hm hi0 hi1 hi2 hi3 hi4 hi5 hi6 hi7 hi8 hi9 hl
    refine jt_eq (bq_X12_arrival_38 E d y1 y2 y3 y4 a0 b0) ?_
    have h6_ := iv_get hv0 (k := 146) (j := 0) (l := 0) (u := 1999) rfl
    have h7_ := iv_get hv0 (k := 146) (j := 17) (l := 0) (u := 600) rfl
    have hls : lastd (a0 161) (a0 162) (a0 163) x1 x2 (y4.toNat + 1) = if a0 161 y4.toNat = x1 ∧ a0 163 y4.toNat ≤ x2 then a0 162 y4.toNat else lastd (a0 161) (a0 162) (a0 163) x1 x2 y4.toNat := rfl
    refine jt_ite (fun c8_ => ?_) (fun c8_ => ?_)
    ·
      refine jt_grd (by omega) ?_
      have h9_ := iv_get hv0 (k := 161) (j := y4.toNat) (l := 0) (u := 299) rfl
      refine jt_ite (fun c10_ => ?_) (fun c10_ => ?_)
      ·
        refine jt_grd (by omega) ?_
        refine jt_ite (fun c11_ => ?_) (fun c11_ => ?_)
        ·
          exact hc77 y1 y2 y3 y4 (show (((600 - y4) * 1) + 0).toNat ≤ n from by omega) (show 0 ≤ y1 from by omega) (show y1 ≤ 299 from by omega) (show y2 ≤ 1998 from by omega) (show 0 ≤ y4 from by omega) (show y4 ≤ 599 from by omega) (show y1 = x1 from by omega) (show y2 = x2 from by omega) (show x2 < a0 146 0 from by omega) (show 0 ≤ y4 from by omega) (show y4 < a0 146 17 from by omega) (by first | exact hl | (rw [hls, if_neg (fun q => by omega)]; exact hl))
        ·
          exact hc69 y1 y2 y4 (show (((600 - y4) * 1) + 0).toNat ≤ n from by omega) (show 0 ≤ y1 from by omega) (show y1 ≤ 299 from by omega) (show y2 ≤ 1998 from by omega) (show 0 ≤ y4 from by omega) (show y4 ≤ 599 from by omega) (show y1 = x1 from by omega) (show y2 = x2 from by omega) (show x2 < a0 146 0 from by omega) (show 0 ≤ y4 from by omega) (show y4 < a0 146 17 from by omega) (by rw [hls, if_pos ⟨by omega, by omega⟩])
      ·
        exact hc77 y1 y2 y3 y4 (show (((600 - y4) * 1) + 0).toNat ≤ n from by omega) (show 0 ≤ y1 from by omega) (show y1 ≤ 299 from by omega) (show y2 ≤ 1998 from by omega) (show 0 ≤ y4 from by omega) (show y4 ≤ 599 from by omega) (show y1 = x1 from by omega) (show y2 = x2 from by omega) (show x2 < a0 146 0 from by omega) (show 0 ≤ y4 from by omega) (show y4 < a0 146 17 from by omega) (by first | exact hl | (rw [hls, if_neg (fun q => by omega)]; exact hl))
    ·
      exact jt_rI ⟨rfl, rfl, (by rw [if_neg (by omega)]; show y3 = lastd (a0 161) (a0 162) (a0 163) ((x1.toNat : Nat) : Int) x2 (a0 146 17).toNat; rw [show ((x1.toNat : Nat) : Int) = x1 from by omega, show (a0 146 17).toNat = y4.toNat from by omega]; exact hl)⟩
  exact ⟨hc77, hc69, hc38⟩
theorem sp_X12_arrival (E : jxE) (d : Nat) (hd : Nat.ble 1 d = true) (x1 x2 : Int) (a0 b0 : Nat → Nat → Int) (hv0 : iv a0) (hp0 : (0 ≤ x1 ∧ x1 ≤ 299)) : jt (jxC E d 233 [.inr (.inr (.inl 146)), .inl x1, .inl x2] (jxSH, a0, b0)) (jQ_X12_arrival x1 x2 a0 b0) := by
  obtain ⟨d, rfl⟩ := jd_succ hd
  refine jt_eq (bq_X12_arrival E d x1 x2 a0 b0) ?_
  have h12_ := iv_get hv0 (k := 146) (j := 0) (l := 0) (u := 1999) rfl
  refine jt_ite (fun c13_ => ?_) (fun c13_ => ?_)
  ·
    have h14_ := iv_get hv0 (k := 146) (j := 17) (l := 0) (u := 600) rfl
    exact (cp_X12_arrival_38 E d hd x1 x2 a0 b0 hv0 hp0 _).2.2 x1 x2 (-1) 0 (Nat.le_refl _) (show 0 ≤ x1 from by omega) (show x1 ≤ 299 from by omega) (show x2 ≤ 1998 from by omega) (show 0 ≤ 0 from by omega) (show 0 ≤ 600 from by omega) (show x1 = x1 from by omega) (show x2 = x2 from by omega) (show x2 < a0 146 0 from by omega) (show 0 ≤ 0 from by omega) (show 0 ≤ a0 146 17 from by omega) (by first | rfl | (rw [show (jxw (y4 + 1)).toNat = y4.toNat + 1 from by omega]; exact hl))
  ·
    refine jt_grd (by omega) ?_
    have h15_ := iv_get hv0 (k := 160) (j := x1.toNat) (l := (-1)) (u := 599) rfl
    refine jt_ite (fun c16_ => ?_) (fun c16_ => ?_)
    ·
      exact jt_rI ⟨rfl, rfl, (by rw [if_pos (by omega)]; show -1 = (if a0 160 x1.toNat < 0 then -1 else _); rw [if_pos (by assumption)])⟩
    ·
      refine jt_grd (by omega) ?_
      refine jt_grd (by omega) ?_
      exact jt_rI ⟨rfl, rfl, (by rw [if_pos (by omega)]; show _ = (if a0 160 x1.toNat < 0 then -1 else a0 162 (a0 160 x1.toNat).toNat); rw [if_neg (by assumption)])⟩
abbrev jQ_X12_stateAt (x1 x2 x3 : Int) (a0 b0 : Nat → Nat → Int) : List jxV → (Nat → Nat → Int) → (Nat → Nat → Int) → Prop := rI (fun r a b => (a0 = a) ∧ (b0 = b) ∧ (0 ≤ r) ∧ (r ≤ 4) ∧ (r = vStk (cvR a0) (a0 146 0) x1.toNat x2 x3))
theorem cp_X12_stateAt_30 (E : jxE) (d : Nat) (hd : Nat.ble 2 (d + 1) = true) (x1 x2 x3 : Int) (a0 b0 : Nat → Nat → Int) (hv0 : iv a0) (hp0 : (0 ≤ x1 ∧ x1 ≤ 299)) : (¬ a0 159 x1.toNat = -1 ∧ a0 159 x1.toNat ≤ x2 ∧ a0 159 x1.toNat ≤ x3) → jt (jxX E d 234 30 [none, none, none, none, none] [] (jxSH, a0, b0)) (jQ_X12_stateAt x1 x2 x3 a0 b0) := by
  intro hof
  refine jt_eq (bq_X12_stateAt_30 E d a0 b0) ?_
  exact jt_rI ⟨rfl, rfl, (show 0 ≤ 4 from by omega), (show 4 ≤ 4 from by omega), (vStk_off (v := cvR a0) hof).symm⟩
theorem cp_X12_stateAt_74 (E : jxE) (d : Nat) (hd : Nat.ble 2 (d + 1) = true) (x1 x2 x3 : Int) (a0 b0 : Nat → Nat → Int) (hv0 : iv a0) (hp0 : (0 ≤ x1 ∧ x1 ≤ 299)) : (vStk (cvR a0) (a0 146 0) x1.toNat x2 x3 = 1) → jt (jxX E d 234 74 [none, none, none, none, none] [] (jxSH, a0, b0)) (jQ_X12_stateAt x1 x2 x3 a0 b0) := by
  intro hv
  refine jt_eq (bq_X12_stateAt_74 E d a0 b0) ?_
  exact jt_rI ⟨rfl, rfl, (show 0 ≤ 1 from by omega), (show 1 ≤ 4 from by omega), hv.symm⟩
theorem cp_X12_stateAt_76 (E : jxE) (d : Nat) (hd : Nat.ble 2 (d + 1) = true) (x1 x2 x3 : Int) (a0 b0 : Nat → Nat → Int) (hv0 : iv a0) (hp0 : (0 ≤ x1 ∧ x1 ≤ 299)) : ∀ (y1 y2 : Int), 0 ≤ y1 → y1 ≤ 299 → (y1 = x1) → (y2 = x2) → (vStk (cvR a0) (a0 146 0) x1.toNat x2 x3 = if jxw (x2 - a0 156 x1.toNat) < a0 157 x1.toNat then 0 else 2) → jt (jxX E d 234 76 [some (.inr (.inr (.inl 146))), some (.inl y1), some (.inl y2), none, none] [] (jxSH, a0, b0)) (jQ_X12_stateAt x1 x2 x3 a0 b0) := by
  intro y1 y2 hi0 hi1 hy1 hy2 hv
  refine jt_eq (bq_X12_stateAt_76 E d y1 y2 a0 b0) ?_
  refine jt_grd (by omega) ?_
  refine jt_grd (by omega) ?_
  have h17_ := iv_get hv0 (k := 156) (j := y1.toNat) (l := 0) (u := 1999) rfl
  have h18_ := jxw_im (y2 - (a0 156 (y1.toNat)))
  have h19_ := jxw_rg (y2 - (a0 156 (y1.toNat)))
  refine jt_ite (fun c20_ => ?_) (fun c20_ => ?_)
  ·
    exact jt_rI ⟨rfl, rfl, (show 0 ≤ 0 from by omega), (show 0 ≤ 4 from by omega), (by rw [hv, ← hy1, ← hy2]; first | rw [if_pos (by assumption)] | rw [if_neg (by assumption)])⟩
  ·
    exact jt_rI ⟨rfl, rfl, (show 0 ≤ 2 from by omega), (show 2 ≤ 4 from by omega), (by rw [hv, ← hy1, ← hy2]; first | rw [if_pos (by assumption)] | rw [if_neg (by assumption)])⟩
theorem cp_X12_stateAt_70 (E : jxE) (d : Nat) (hd : Nat.ble 2 (d + 1) = true) (x1 x2 x3 : Int) (a0 b0 : Nat → Nat → Int) (hv0 : iv a0) (hp0 : (0 ≤ x1 ∧ x1 ≤ 299)) : (vStk (cvR a0) (a0 146 0) x1.toNat x2 x3 = 3) → jt (jxX E d 234 70 [none, none, none, none, none] [] (jxSH, a0, b0)) (jQ_X12_stateAt x1 x2 x3 a0 b0) := by
  intro hv
  refine jt_eq (bq_X12_stateAt_70 E d a0 b0) ?_
  exact jt_rI ⟨rfl, rfl, (show 0 ≤ 3 from by omega), (show 3 ≤ 4 from by omega), hv.symm⟩
theorem cp_X12_stateAt_32 (E : jxE) (d : Nat) (hd : Nat.ble 2 (d + 1) = true) (x1 x2 x3 : Int) (a0 b0 : Nat → Nat → Int) (hv0 : iv a0) (hp0 : (0 ≤ x1 ∧ x1 ≤ 299)) : ∀ (y1 y2 y3 : Int), 0 ≤ y1 → y1 ≤ 299 → (y1 = x1) → (y2 = x2) → (y3 = x3) → (¬ (¬ a0 159 x1.toNat = -1 ∧ a0 159 x1.toNat ≤ x2 ∧ a0 159 x1.toNat ≤ x3)) → jt (jxX E d 234 32 [some (.inr (.inr (.inl 146))), some (.inl y1), some (.inl y2), some (.inl y3), none] [] (jxSH, a0, b0)) (jQ_X12_stateAt x1 x2 x3 a0 b0) := by
  intro y1 y2 y3 hi0 hi1 hy1 hy2 hy3 hof
  refine jt_eq (bq_X12_stateAt_32 E d y1 y2 y3 a0 b0) ?_
  refine jt_bI (sp_X12_arrival E d (jd_le hd rfl) y1 y3 a0 b0 hv0 (show (0 ≤ y1 ∧ y1 ≤ 299) from by omega)) (fun r21_ a21_ b21_ h21_ => ?_)
  obtain ⟨rfl, rfl, hq21_0⟩ := h21_
  refine jt_ite (fun c22_ => ?_) (fun c22_ => ?_)
  ·
    exact cp_X12_stateAt_76 E d hd x1 x2 x3 a0 b0 hv0 hp0 y1 y2 (show 0 ≤ y1 from by omega) (show y1 ≤ 299 from by omega) (by first | rfl | assumption) (by first | rfl | assumption) (by have er : r21_ = if a0 146 0 ≤ x3 then vArr (cvR a0) x1.toNat else vKn (cvR a0) x1.toNat x3 := (by have q := hq21_0; rw [hy1, hy3] at q; exact q); have ev := vStk_on (v := cvR a0) (w := a0 146 0) (c := x1.toNat) (d := x2) (k := x3) hof er; rw [ev, if_neg (fun q => by omega)]; rfl)
  ·
    refine jt_ite (fun c23_ => ?_) (fun c23_ => ?_)
    ·
      exact cp_X12_stateAt_76 E d hd x1 x2 x3 a0 b0 hv0 hp0 y1 y2 (show 0 ≤ y1 from by omega) (show y1 ≤ 299 from by omega) (by first | rfl | assumption) (by first | rfl | assumption) (by have er : r21_ = if a0 146 0 ≤ x3 then vArr (cvR a0) x1.toNat else vKn (cvR a0) x1.toNat x3 := (by have q := hq21_0; rw [hy1, hy3] at q; exact q); have ev := vStk_on (v := cvR a0) (w := a0 146 0) (c := x1.toNat) (d := x2) (k := x3) hof er; rw [ev, if_neg (fun q => by omega)]; rfl)
    ·
      refine jt_grd (by omega) ?_
      refine jt_grd (by omega) ?_
      have h24_ := iv_get hv0 (k := 156) (j := y1.toNat) (l := 0) (u := 1999) rfl
      have h25_ := jxw_im (r21_ - (a0 156 (y1.toNat)))
      have h26_ := jxw_rg (r21_ - (a0 156 (y1.toNat)))
      refine jt_ite (fun c27_ => ?_) (fun c27_ => ?_)
      ·
        exact cp_X12_stateAt_74 E d hd x1 x2 x3 a0 b0 hv0 hp0 (by have er : r21_ = if a0 146 0 ≤ x3 then vArr (cvR a0) x1.toNat else vKn (cvR a0) x1.toNat x3 := (by have q := hq21_0; rw [hy1, hy3] at q; exact q); have ev := vStk_on (v := cvR a0) (w := a0 146 0) (c := x1.toNat) (d := x2) (k := x3) hof er; have f1 : vSn (cvR a0) x1.toNat = a0 156 (y1.toNat) := (by rw [hy1]; rfl); have f2 : vBd (cvR a0) x1.toNat = a0 157 (y1.toNat) := (by rw [hy1]; rfl); rw [ev, if_pos ⟨by omega, by omega⟩, f1, f2]; first | rw [if_pos (by assumption)] | rw [if_neg (by assumption)])
      ·
        exact cp_X12_stateAt_70 E d hd x1 x2 x3 a0 b0 hv0 hp0 (by have er : r21_ = if a0 146 0 ≤ x3 then vArr (cvR a0) x1.toNat else vKn (cvR a0) x1.toNat x3 := (by have q := hq21_0; rw [hy1, hy3] at q; exact q); have ev := vStk_on (v := cvR a0) (w := a0 146 0) (c := x1.toNat) (d := x2) (k := x3) hof er; have f1 : vSn (cvR a0) x1.toNat = a0 156 (y1.toNat) := (by rw [hy1]; rfl); have f2 : vBd (cvR a0) x1.toNat = a0 157 (y1.toNat) := (by rw [hy1]; rfl); rw [ev, if_pos ⟨by omega, by omega⟩, f1, f2]; first | rw [if_pos (by assumption)] | rw [if_neg (by assumption)])
theorem sp_X12_stateAt (E : jxE) (d : Nat) (hd : Nat.ble 2 d = true) (x1 x2 x3 : Int) (a0 b0 : Nat → Nat → Int) (hv0 : iv a0) (hp0 : (0 ≤ x1 ∧ x1 ≤ 299)) : jt (jxC E d 234 [.inr (.inr (.inl 146)), .inl x1, .inl x2, .inl x3] (jxSH, a0, b0)) (jQ_X12_stateAt x1 x2 x3 a0 b0) := by
  obtain ⟨d, rfl⟩ := jd_succ hd
  refine jt_eq (bq_X12_stateAt E d x1 x2 x3 a0 b0) ?_
  refine jt_grd (by omega) ?_
  refine jt_ite (fun c28_ => ?_) (fun c28_ => ?_)
  ·
    exact cp_X12_stateAt_32 E d hd x1 x2 x3 a0 b0 hv0 hp0 x1 x2 x3 (show 0 ≤ x1 from by omega) (show x1 ≤ 299 from by omega) (by first | rfl | assumption) (by first | rfl | assumption) (by first | rfl | assumption) (fun q => by omega)
  ·
    refine jt_grd (by omega) ?_
    refine jt_ite (fun c29_ => ?_) (fun c29_ => ?_)
    ·
      exact cp_X12_stateAt_32 E d hd x1 x2 x3 a0 b0 hv0 hp0 x1 x2 x3 (show 0 ≤ x1 from by omega) (show x1 ≤ 299 from by omega) (by first | rfl | assumption) (by first | rfl | assumption) (by first | rfl | assumption) (fun q => by omega)
    ·
      refine jt_grd (by omega) ?_
      refine jt_ite (fun c30_ => ?_) (fun c30_ => ?_)
      ·
        exact cp_X12_stateAt_32 E d hd x1 x2 x3 a0 b0 hv0 hp0 x1 x2 x3 (show 0 ≤ x1 from by omega) (show x1 ≤ 299 from by omega) (by first | rfl | assumption) (by first | rfl | assumption) (by first | rfl | assumption) (fun q => by omega)
      ·
        exact cp_X12_stateAt_30 E d hd x1 x2 x3 a0 b0 hv0 hp0 ⟨by omega, by omega, by omega⟩
abbrev jQ_X12_stateNow (x1 : Int) (a0 b0 : Nat → Nat → Int) : List jxV → (Nat → Nat → Int) → (Nat → Nat → Int) → Prop := rI (fun r a b => (a0 = a) ∧ (b0 = b) ∧ (0 ≤ r) ∧ (r ≤ 4) ∧ (r = vSt (cvR a0) (a0 146 0) x1.toNat))
theorem sp_X12_stateNow (E : jxE) (d : Nat) (hd : Nat.ble 3 d = true) (x1 : Int) (a0 b0 : Nat → Nat → Int) (hv0 : iv a0) (hp0 : (0 ≤ x1 ∧ x1 ≤ 299)) : jt (jxC E d 235 [.inr (.inr (.inl 146)), .inl x1] (jxSH, a0, b0)) (jQ_X12_stateNow x1 a0 b0) := by
  obtain ⟨d, rfl⟩ := jd_succ hd
  refine jt_eq (bq_X12_stateNow E d x1 a0 b0) ?_
  refine jt_bI (sp_X12_stateAt E d (jd_le hd rfl) x1 (a0 146 0) (a0 146 0) a0 b0 hv0 (show (0 ≤ x1 ∧ x1 ≤ 299) from by omega)) (fun r31_ a31_ b31_ h31_ => ?_)
  obtain ⟨rfl, rfl, hq31_0, hq31_1, hq31_2⟩ := h31_
  exact jt_rI ⟨rfl, rfl, (show 0 ≤ r31_ from by omega), (show r31_ ≤ 4 from by omega), (hq31_2.trans (vStk_now _ _ _))⟩
abbrev jQ_X12_coming (x1 : Int) (a0 b0 : Nat → Nat → Int) : List jxV → (Nat → Nat → Int) → (Nat → Nat → Int) → Prop := rI (fun r a b => (a0 = a) ∧ (b0 = b) ∧ (0 ≤ r) ∧ (r ≤ 300) ∧ (r = SUMN (cmF (cvR a0) (a0 146 0) x1) (a0 146 9).toNat))
theorem cp_X12_coming_4 (E : jxE) (d : Nat) (hd : Nat.ble 4 (d + 1) = true) (x1 : Int) (a0 b0 : Nat → Nat → Int) (hv0 : iv a0) : ∀ n : Nat, (∀ (y1 y2 y3 : Int), (((300 - y3) * 1) + 0).toNat ≤ n → 0 ≤ y2 → y2 ≤ 300 → 0 ≤ y3 → y3 ≤ 299 → y2 ≤ y3 + 1 → y1 = x1 → 0 ≤ y3 → y3 < a0 146 9 → (y2 = SUMN (cmF (cvR a0) (a0 146 0) x1) (y3.toNat + 1)) → jt (jxX E d 243 38 [some (.inr (.inr (.inl 146))), some (.inl y1), some (.inl y2), some (.inl y3)] [] (jxSH, a0, b0)) (jQ_X12_coming x1 a0 b0)) ∧ (∀ (y1 y2 y3 : Int), (((300 - y3) * 1) + 0).toNat ≤ n → 0 ≤ y2 → y2 ≤ 300 → 0 ≤ y3 → y3 ≤ 300 → y2 ≤ y3 → y1 = x1 → 0 ≤ y3 → y3 ≤ a0 146 9 → (y2 = SUMN (cmF (cvR a0) (a0 146 0) x1) y3.toNat) → jt (jxX E d 243 4 [some (.inr (.inr (.inl 146))), some (.inl y1), some (.inl y2), some (.inl y3)] [] (jxSH, a0, b0)) (jQ_X12_coming x1 a0 b0)) := by
  refine jx_ind fun n ih => ?_
  have ih38 : ∀ (y1 y2 y3 : Int), (((300 - y3) * 1) + 0).toNat < n → 0 ≤ y2 → y2 ≤ 300 → 0 ≤ y3 → y3 ≤ 299 → y2 ≤ y3 + 1 → y1 = x1 → 0 ≤ y3 → y3 < a0 146 9 → (y2 = SUMN (cmF (cvR a0) (a0 146 0) x1) (y3.toNat + 1)) → jt (jxX E d 243 38 [some (.inr (.inr (.inl 146))), some (.inl y1), some (.inl y2), some (.inl y3)] [] (jxSH, a0, b0)) (jQ_X12_coming x1 a0 b0) := fun y1 y2 y3 hlt i0 i1 i2 i3 i4 i5 i6 i7 i8 => (ih _ hlt).1 y1 y2 y3 (Nat.le_refl _) i0 i1 i2 i3 i4 i5 i6 i7 i8
  have ih4 : ∀ (y1 y2 y3 : Int), (((300 - y3) * 1) + 0).toNat < n → 0 ≤ y2 → y2 ≤ 300 → 0 ≤ y3 → y3 ≤ 300 → y2 ≤ y3 → y1 = x1 → 0 ≤ y3 → y3 ≤ a0 146 9 → (y2 = SUMN (cmF (cvR a0) (a0 146 0) x1) y3.toNat) → jt (jxX E d 243 4 [some (.inr (.inr (.inl 146))), some (.inl y1), some (.inl y2), some (.inl y3)] [] (jxSH, a0, b0)) (jQ_X12_coming x1 a0 b0) := fun y1 y2 y3 hlt i0 i1 i2 i3 i4 i5 i6 i7 i8 => (ih _ hlt).2 y1 y2 y3 (Nat.le_refl _) i0 i1 i2 i3 i4 i5 i6 i7 i8
  have hc38 : ∀ (y1 y2 y3 : Int), (((300 - y3) * 1) + 0).toNat ≤ n → 0 ≤ y2 → y2 ≤ 300 → 0 ≤ y3 → y3 ≤ 299 → y2 ≤ y3 + 1 → y1 = x1 → 0 ≤ y3 → y3 < a0 146 9 → (y2 = SUMN (cmF (cvR a0) (a0 146 0) x1) (y3.toNat + 1)) → jt (jxX E d 243 38 [some (.inr (.inr (.inl 146))), some (.inl y1), some (.inl y2), some (.inl y3)] [] (jxSH, a0, b0)) (jQ_X12_coming x1 a0 b0) := by
    intro y1 y2 y3 hm hi0 hi1 hi2 hi3 hi4 hi5 hi6 hi7 hs
    refine jt_eq (bq_X12_coming_38 E d y1 y2 y3 a0 b0) ?_
    have h32_ := iv_get hv0 (k := 146) (j := 9) (l := 0) (u := 300) rfl
    have h33_ : jxw (y3 + 1) = y3 + 1 := jxw_id (by omega) (by omega)
    exact ih4 y1 y2 (jxw (y3 + 1)) (show (((300 - (jxw (y3 + 1))) * 1) + 0).toNat < n from by omega) (show 0 ≤ y2 from by omega) (show y2 ≤ 300 from by omega) (show 0 ≤ jxw (y3 + 1) from by omega) (show jxw (y3 + 1) ≤ 300 from by omega) (show y2 ≤ jxw (y3 + 1) from by omega) (show y1 = x1 from by omega) (show 0 ≤ jxw (y3 + 1) from by omega) (show jxw (y3 + 1) ≤ a0 146 9 from by omega) (by first | rfl | (rw [show (jxw (y3 + 1)).toNat = y3.toNat + 1 from by omega]; exact hs))
  have hc4 : ∀ (y1 y2 y3 : Int), (((300 - y3) * 1) + 0).toNat ≤ n → 0 ≤ y2 → y2 ≤ 300 → 0 ≤ y3 → y3 ≤ 300 → y2 ≤ y3 → y1 = x1 → 0 ≤ y3 → y3 ≤ a0 146 9 → (y2 = SUMN (cmF (cvR a0) (a0 146 0) x1) y3.toNat) → jt (jxX E d 243 4 [some (.inr (.inr (.inl 146))), some (.inl y1), some (.inl y2), some (.inl y3)] [] (jxSH, a0, b0)) (jQ_X12_coming x1 a0 b0) := by
    intro y1 y2 y3 hm hi0 hi1 hi2 hi3 hi4 hi5 hi6 hi7 hs
    refine jt_eq (bq_X12_coming_4 E d y1 y2 y3 a0 b0) ?_
    have h34_ := iv_get hv0 (k := 146) (j := 9) (l := 0) (u := 300) rfl
    have hrg := SUMN_bd (f := (cmF (cvR a0) (a0 146 0) x1)) (n := y3.toNat) (fun k _ => cmF_rg _ _ _ k)
    refine jt_ite (fun c35_ => ?_) (fun c35_ => ?_)
    ·
      refine jt_grd (by omega) ?_
      have h36_ := iv_get hv0 (k := 155) (j := y3.toNat) (l := 0) (u := 39) rfl
      refine jt_ite (fun c37_ => ?_) (fun c37_ => ?_)
      ·
        refine jt_bI (sp_X12_stateNow E d (jd_le hd rfl) y3 a0 b0 hv0 (show (0 ≤ y3 ∧ y3 ≤ 299) from by omega)) (fun r38_ a38_ b38_ h38_ => ?_)
        obtain ⟨rfl, rfl, hq38_0, hq38_1, hq38_2⟩ := h38_
        refine jt_ite (fun c39_ => ?_) (fun c39_ => ?_)
        ·
          have h40_ : jxw (y2 + 1) = y2 + 1 := jxw_id (by omega) (by omega)
          exact hc38 y1 (jxw (y2 + 1)) y3 (show (((300 - y3) * 1) + 0).toNat ≤ n from by omega) (show 0 ≤ jxw (y2 + 1) from by omega) (show jxw (y2 + 1) ≤ 300 from by omega) (show 0 ≤ y3 from by omega) (show y3 ≤ 299 from by omega) (show jxw (y2 + 1) ≤ y3 + 1 from by omega) (show y1 = x1 from by omega) (show 0 ≤ y3 from by omega) (show y3 < a0 146 9 from by omega) (by show jxw (y2 + 1) = SUMN (cmF (cvR a0) (a0 146 0) x1) y3.toNat + (cmF (cvR a0) (a0 146 0) x1) y3.toNat; have e : (cmF (cvR a0) (a0 146 0) x1) y3.toNat = (if r38_ = 0 then 1 else 0) := (by show (if a0 155 y3.toNat = x1 then _ else _) = _; rw [if_pos (by omega), hq38_2]); rw [e]; first | (rw [if_pos (by omega)]; omega) | (rw [if_neg (by omega)]; omega))
        ·
          have h41_ : jxw (y2 + 0) = y2 + 0 := jxw_id (by omega) (by omega)
          exact hc38 y1 (jxw (y2 + 0)) y3 (show (((300 - y3) * 1) + 0).toNat ≤ n from by omega) (show 0 ≤ jxw (y2 + 0) from by omega) (show jxw (y2 + 0) ≤ 300 from by omega) (show 0 ≤ y3 from by omega) (show y3 ≤ 299 from by omega) (show jxw (y2 + 0) ≤ y3 + 1 from by omega) (show y1 = x1 from by omega) (show 0 ≤ y3 from by omega) (show y3 < a0 146 9 from by omega) (by show jxw (y2 + 0) = SUMN (cmF (cvR a0) (a0 146 0) x1) y3.toNat + (cmF (cvR a0) (a0 146 0) x1) y3.toNat; have e : (cmF (cvR a0) (a0 146 0) x1) y3.toNat = (if r38_ = 0 then 1 else 0) := (by show (if a0 155 y3.toNat = x1 then _ else _) = _; rw [if_pos (by omega), hq38_2]); rw [e]; first | (rw [if_pos (by omega)]; omega) | (rw [if_neg (by omega)]; omega))
      ·
        have h42_ : jxw (y2 + 0) = y2 + 0 := jxw_id (by omega) (by omega)
        exact hc38 y1 (jxw (y2 + 0)) y3 (show (((300 - y3) * 1) + 0).toNat ≤ n from by omega) (show 0 ≤ jxw (y2 + 0) from by omega) (show jxw (y2 + 0) ≤ 300 from by omega) (show 0 ≤ y3 from by omega) (show y3 ≤ 299 from by omega) (show jxw (y2 + 0) ≤ y3 + 1 from by omega) (show y1 = x1 from by omega) (show 0 ≤ y3 from by omega) (show y3 < a0 146 9 from by omega) (by show jxw (y2 + 0) = SUMN (cmF (cvR a0) (a0 146 0) x1) y3.toNat + (cmF (cvR a0) (a0 146 0) x1) y3.toNat; have e : (cmF (cvR a0) (a0 146 0) x1) y3.toNat = 0 := (by show (if a0 155 y3.toNat = x1 then _ else _) = _; rw [if_neg (by omega)]); omega)
    ·
      exact jt_rI ⟨rfl, rfl, (show 0 ≤ y2 from by omega), (show y2 ≤ 300 from by omega), (by rw [show (a0 146 9).toNat = y3.toNat from by omega]; exact hs)⟩
  exact ⟨hc38, hc4⟩
theorem sp_X12_coming (E : jxE) (d : Nat) (hd : Nat.ble 4 d = true) (x1 : Int) (a0 b0 : Nat → Nat → Int) (hv0 : iv a0) : jt (jxC E d 243 [.inr (.inr (.inl 146)), .inl x1] (jxSH, a0, b0)) (jQ_X12_coming x1 a0 b0) := by
  obtain ⟨d, rfl⟩ := jd_succ hd
  refine jt_eq (bq_X12_coming E d x1 a0 b0) ?_
  have h43_ := iv_get hv0 (k := 146) (j := 9) (l := 0) (u := 300) rfl
  exact (cp_X12_coming_4 E d hd x1 a0 b0 hv0 _).2 x1 0 0 (Nat.le_refl _) (show 0 ≤ 0 from by omega) (show 0 ≤ 300 from by omega) (show 0 ≤ 0 from by omega) (show 0 ≤ 300 from by omega) (show 0 ≤ 0 from by omega) (show x1 = x1 from by omega) (show 0 ≤ 0 from by omega) (show 0 ≤ a0 146 9 from by omega) (by first | rfl | (rw [show (jxw (y3 + 1)).toNat = y3.toNat + 1 from by omega]; exact hs))
abbrev jQ_X12_hasArrived (x1 : Int) (a0 b0 : Nat → Nat → Int) : List jxV → (Nat → Nat → Int) → (Nat → Nat → Int) → Prop := rI (fun r a b => (a0 = a) ∧ (b0 = b) ∧ ((0 ≤ r ∧ r ≤ 1)) ∧ (r = HAS (vSt (cvR a0) (a0 146 0) x1.toNat)))
theorem sp_X12_hasArrived (E : jxE) (d : Nat) (hd : Nat.ble 4 d = true) (x1 : Int) (a0 b0 : Nat → Nat → Int) (hv0 : iv a0) (hp0 : (0 ≤ x1 ∧ x1 ≤ 299)) : jt (jxC E d 236 [.inr (.inr (.inl 146)), .inl x1] (jxSH, a0, b0)) (jQ_X12_hasArrived x1 a0 b0) := by
  obtain ⟨d, rfl⟩ := jd_succ hd
  refine jt_eq (bq_X12_hasArrived E d x1 a0 b0) ?_
  refine jt_bI (sp_X12_stateNow E d (jd_le hd rfl) x1 a0 b0 hv0 (show (0 ≤ x1 ∧ x1 ≤ 299) from by omega)) (fun r44_ a44_ b44_ h44_ => ?_)
  obtain ⟨rfl, rfl, hq44_0, hq44_1, hq44_2⟩ := h44_
  refine jt_ite (fun c45_ => ?_) (fun c45_ => ?_)
  ·
    exact jt_rI ⟨rfl, rfl, (show (0 ≤ 1 ∧ 1 ≤ 1) from by omega), (by rw [← hq44_2]; unfold HAS; first | rw [if_pos (by assumption)] | rw [if_neg (by assumption), if_pos (by assumption)] | rw [if_neg (by assumption), if_neg (by assumption)])⟩
  ·
    refine jt_ite (fun c46_ => ?_) (fun c46_ => ?_)
    ·
      exact jt_rI ⟨rfl, rfl, (show (0 ≤ 1 ∧ 1 ≤ 1) from by omega), (by rw [← hq44_2]; unfold HAS; first | rw [if_pos (by assumption)] | rw [if_neg (by assumption), if_pos (by assumption)] | rw [if_neg (by assumption), if_neg (by assumption)])⟩
    ·
      exact jt_rI ⟨rfl, rfl, (show (0 ≤ 0 ∧ 0 ≤ 1) from by omega), (by rw [← hq44_2]; unfold HAS; first | rw [if_pos (by assumption)] | rw [if_neg (by assumption), if_pos (by assumption)] | rw [if_neg (by assumption), if_neg (by assumption)])⟩
abbrev jQ_X12_given (x1 : Int) (a0 b0 : Nat → Nat → Int) : List jxV → (Nat → Nat → Int) → (Nat → Nat → Int) → Prop := rI (fun r a b => (a0 = a) ∧ (b0 = b) ∧ (0 ≤ r) ∧ (r ≤ 300) ∧ (r = SUMN (gvF (cvR a0) (a0 146 0) x1) (a0 146 9).toNat))
theorem cp_X12_given_4 (E : jxE) (d : Nat) (hd : Nat.ble 5 (d + 1) = true) (x1 : Int) (a0 b0 : Nat → Nat → Int) (hv0 : iv a0) : ∀ n : Nat, (∀ (y1 y2 y3 : Int), (((300 - y3) * 1) + 0).toNat ≤ n → 0 ≤ y2 → y2 ≤ 300 → 0 ≤ y3 → y3 ≤ 299 → y2 ≤ y3 + 1 → y1 = x1 → 0 ≤ y3 → y3 < a0 146 9 → (y2 = SUMN (gvF (cvR a0) (a0 146 0) x1) (y3.toNat + 1)) → jt (jxX E d 241 38 [some (.inr (.inr (.inl 146))), some (.inl y1), some (.inl y2), some (.inl y3)] [] (jxSH, a0, b0)) (jQ_X12_given x1 a0 b0)) ∧ (∀ (y1 y2 y3 : Int), (((300 - y3) * 1) + 0).toNat ≤ n → 0 ≤ y2 → y2 ≤ 300 → 0 ≤ y3 → y3 ≤ 300 → y2 ≤ y3 → y1 = x1 → 0 ≤ y3 → y3 ≤ a0 146 9 → (y2 = SUMN (gvF (cvR a0) (a0 146 0) x1) y3.toNat) → jt (jxX E d 241 4 [some (.inr (.inr (.inl 146))), some (.inl y1), some (.inl y2), some (.inl y3)] [] (jxSH, a0, b0)) (jQ_X12_given x1 a0 b0)) := by
  refine jx_ind fun n ih => ?_
  have ih38 : ∀ (y1 y2 y3 : Int), (((300 - y3) * 1) + 0).toNat < n → 0 ≤ y2 → y2 ≤ 300 → 0 ≤ y3 → y3 ≤ 299 → y2 ≤ y3 + 1 → y1 = x1 → 0 ≤ y3 → y3 < a0 146 9 → (y2 = SUMN (gvF (cvR a0) (a0 146 0) x1) (y3.toNat + 1)) → jt (jxX E d 241 38 [some (.inr (.inr (.inl 146))), some (.inl y1), some (.inl y2), some (.inl y3)] [] (jxSH, a0, b0)) (jQ_X12_given x1 a0 b0) := fun y1 y2 y3 hlt i0 i1 i2 i3 i4 i5 i6 i7 i8 => (ih _ hlt).1 y1 y2 y3 (Nat.le_refl _) i0 i1 i2 i3 i4 i5 i6 i7 i8
  have ih4 : ∀ (y1 y2 y3 : Int), (((300 - y3) * 1) + 0).toNat < n → 0 ≤ y2 → y2 ≤ 300 → 0 ≤ y3 → y3 ≤ 300 → y2 ≤ y3 → y1 = x1 → 0 ≤ y3 → y3 ≤ a0 146 9 → (y2 = SUMN (gvF (cvR a0) (a0 146 0) x1) y3.toNat) → jt (jxX E d 241 4 [some (.inr (.inr (.inl 146))), some (.inl y1), some (.inl y2), some (.inl y3)] [] (jxSH, a0, b0)) (jQ_X12_given x1 a0 b0) := fun y1 y2 y3 hlt i0 i1 i2 i3 i4 i5 i6 i7 i8 => (ih _ hlt).2 y1 y2 y3 (Nat.le_refl _) i0 i1 i2 i3 i4 i5 i6 i7 i8
  have hc38 : ∀ (y1 y2 y3 : Int), (((300 - y3) * 1) + 0).toNat ≤ n → 0 ≤ y2 → y2 ≤ 300 → 0 ≤ y3 → y3 ≤ 299 → y2 ≤ y3 + 1 → y1 = x1 → 0 ≤ y3 → y3 < a0 146 9 → (y2 = SUMN (gvF (cvR a0) (a0 146 0) x1) (y3.toNat + 1)) → jt (jxX E d 241 38 [some (.inr (.inr (.inl 146))), some (.inl y1), some (.inl y2), some (.inl y3)] [] (jxSH, a0, b0)) (jQ_X12_given x1 a0 b0) := by
    intro y1 y2 y3 hm hi0 hi1 hi2 hi3 hi4 hi5 hi6 hi7 hs
    refine jt_eq (bq_X12_given_38 E d y1 y2 y3 a0 b0) ?_
    have h47_ := iv_get hv0 (k := 146) (j := 9) (l := 0) (u := 300) rfl
    have h48_ : jxw (y3 + 1) = y3 + 1 := jxw_id (by omega) (by omega)
    exact ih4 y1 y2 (jxw (y3 + 1)) (show (((300 - (jxw (y3 + 1))) * 1) + 0).toNat < n from by omega) (show 0 ≤ y2 from by omega) (show y2 ≤ 300 from by omega) (show 0 ≤ jxw (y3 + 1) from by omega) (show jxw (y3 + 1) ≤ 300 from by omega) (show y2 ≤ jxw (y3 + 1) from by omega) (show y1 = x1 from by omega) (show 0 ≤ jxw (y3 + 1) from by omega) (show jxw (y3 + 1) ≤ a0 146 9 from by omega) (by first | rfl | (rw [show (jxw (y3 + 1)).toNat = y3.toNat + 1 from by omega]; exact hs))
  have hc4 : ∀ (y1 y2 y3 : Int), (((300 - y3) * 1) + 0).toNat ≤ n → 0 ≤ y2 → y2 ≤ 300 → 0 ≤ y3 → y3 ≤ 300 → y2 ≤ y3 → y1 = x1 → 0 ≤ y3 → y3 ≤ a0 146 9 → (y2 = SUMN (gvF (cvR a0) (a0 146 0) x1) y3.toNat) → jt (jxX E d 241 4 [some (.inr (.inr (.inl 146))), some (.inl y1), some (.inl y2), some (.inl y3)] [] (jxSH, a0, b0)) (jQ_X12_given x1 a0 b0) := by
    intro y1 y2 y3 hm hi0 hi1 hi2 hi3 hi4 hi5 hi6 hi7 hs
    refine jt_eq (bq_X12_given_4 E d y1 y2 y3 a0 b0) ?_
    have h49_ := iv_get hv0 (k := 146) (j := 9) (l := 0) (u := 300) rfl
    have hrg := SUMN_bd (f := (gvF (cvR a0) (a0 146 0) x1)) (n := y3.toNat) (fun k _ => gvF_rg _ _ _ k)
    refine jt_ite (fun c50_ => ?_) (fun c50_ => ?_)
    ·
      refine jt_grd (by omega) ?_
      have h51_ := iv_get hv0 (k := 154) (j := y3.toNat) (l := 0) (u := 39) rfl
      refine jt_ite (fun c52_ => ?_) (fun c52_ => ?_)
      ·
        refine jt_bI (sp_X12_hasArrived E d (jd_le hd rfl) y3 a0 b0 hv0 (show (0 ≤ y3 ∧ y3 ≤ 299) from by omega)) (fun r53_ a53_ b53_ h53_ => ?_)
        obtain ⟨rfl, rfl, hq53_0, hq53_1⟩ := h53_
        refine jt_ite (fun c54_ => ?_) (fun c54_ => ?_)
        ·
          have h55_ : jxw (y2 + 0) = y2 + 0 := jxw_id (by omega) (by omega)
          exact hc38 y1 (jxw (y2 + 0)) y3 (show (((300 - y3) * 1) + 0).toNat ≤ n from by omega) (show 0 ≤ jxw (y2 + 0) from by omega) (show jxw (y2 + 0) ≤ 300 from by omega) (show 0 ≤ y3 from by omega) (show y3 ≤ 299 from by omega) (show jxw (y2 + 0) ≤ y3 + 1 from by omega) (show y1 = x1 from by omega) (show 0 ≤ y3 from by omega) (show y3 < a0 146 9 from by omega) (by show jxw (y2 + 0) = SUMN (gvF (cvR a0) (a0 146 0) x1) y3.toNat + (gvF (cvR a0) (a0 146 0) x1) y3.toNat; have e : (gvF (cvR a0) (a0 146 0) x1) y3.toNat = r53_ := (by show (if a0 154 y3.toNat = x1 then _ else _) = _; rw [if_pos (by omega)]; exact hq53_1.symm); omega)
        ·
          have h56_ : jxw (y2 + 1) = y2 + 1 := jxw_id (by omega) (by omega)
          exact hc38 y1 (jxw (y2 + 1)) y3 (show (((300 - y3) * 1) + 0).toNat ≤ n from by omega) (show 0 ≤ jxw (y2 + 1) from by omega) (show jxw (y2 + 1) ≤ 300 from by omega) (show 0 ≤ y3 from by omega) (show y3 ≤ 299 from by omega) (show jxw (y2 + 1) ≤ y3 + 1 from by omega) (show y1 = x1 from by omega) (show 0 ≤ y3 from by omega) (show y3 < a0 146 9 from by omega) (by show jxw (y2 + 1) = SUMN (gvF (cvR a0) (a0 146 0) x1) y3.toNat + (gvF (cvR a0) (a0 146 0) x1) y3.toNat; have e : (gvF (cvR a0) (a0 146 0) x1) y3.toNat = r53_ := (by show (if a0 154 y3.toNat = x1 then _ else _) = _; rw [if_pos (by omega)]; exact hq53_1.symm); omega)
      ·
        have h57_ : jxw (y2 + 0) = y2 + 0 := jxw_id (by omega) (by omega)
        exact hc38 y1 (jxw (y2 + 0)) y3 (show (((300 - y3) * 1) + 0).toNat ≤ n from by omega) (show 0 ≤ jxw (y2 + 0) from by omega) (show jxw (y2 + 0) ≤ 300 from by omega) (show 0 ≤ y3 from by omega) (show y3 ≤ 299 from by omega) (show jxw (y2 + 0) ≤ y3 + 1 from by omega) (show y1 = x1 from by omega) (show 0 ≤ y3 from by omega) (show y3 < a0 146 9 from by omega) (by show jxw (y2 + 0) = SUMN (gvF (cvR a0) (a0 146 0) x1) y3.toNat + (gvF (cvR a0) (a0 146 0) x1) y3.toNat; have e : (gvF (cvR a0) (a0 146 0) x1) y3.toNat = 0 := (by show (if a0 154 y3.toNat = x1 then _ else _) = _; rw [if_neg (by omega)]); omega)
    ·
      exact jt_rI ⟨rfl, rfl, (show 0 ≤ y2 from by omega), (show y2 ≤ 300 from by omega), (by rw [show (a0 146 9).toNat = y3.toNat from by omega]; exact hs)⟩
  exact ⟨hc38, hc4⟩
theorem sp_X12_given (E : jxE) (d : Nat) (hd : Nat.ble 5 d = true) (x1 : Int) (a0 b0 : Nat → Nat → Int) (hv0 : iv a0) : jt (jxC E d 241 [.inr (.inr (.inl 146)), .inl x1] (jxSH, a0, b0)) (jQ_X12_given x1 a0 b0) := by
  obtain ⟨d, rfl⟩ := jd_succ hd
  refine jt_eq (bq_X12_given E d x1 a0 b0) ?_
  have h58_ := iv_get hv0 (k := 146) (j := 9) (l := 0) (u := 300) rfl
  exact (cp_X12_given_4 E d hd x1 a0 b0 hv0 _).2 x1 0 0 (Nat.le_refl _) (show 0 ≤ 0 from by omega) (show 0 ≤ 300 from by omega) (show 0 ≤ 0 from by omega) (show 0 ≤ 300 from by omega) (show 0 ≤ 0 from by omega) (show x1 = x1 from by omega) (show 0 ≤ 0 from by omega) (show 0 ≤ a0 146 9 from by omega) (by first | rfl | (rw [show (jxw (y3 + 1)).toNat = y3.toNat + 1 from by omega]; exact hs))
abbrev jQ_X12_got (x1 : Int) (a0 b0 : Nat → Nat → Int) : List jxV → (Nat → Nat → Int) → (Nat → Nat → Int) → Prop := rI (fun r a b => (a0 = a) ∧ (b0 = b) ∧ (0 ≤ r) ∧ (r ≤ 300) ∧ (r = SUMN (gtF (cvR a0) (a0 146 0) x1) (a0 146 9).toNat))
theorem cp_X12_got_4 (E : jxE) (d : Nat) (hd : Nat.ble 5 (d + 1) = true) (x1 : Int) (a0 b0 : Nat → Nat → Int) (hv0 : iv a0) : ∀ n : Nat, (∀ (y1 y2 y3 : Int), (((300 - y3) * 1) + 0).toNat ≤ n → 0 ≤ y2 → y2 ≤ 300 → 0 ≤ y3 → y3 ≤ 299 → y2 ≤ y3 + 1 → y1 = x1 → 0 ≤ y3 → y3 < a0 146 9 → (y2 = SUMN (gtF (cvR a0) (a0 146 0) x1) (y3.toNat + 1)) → jt (jxX E d 242 38 [some (.inr (.inr (.inl 146))), some (.inl y1), some (.inl y2), some (.inl y3)] [] (jxSH, a0, b0)) (jQ_X12_got x1 a0 b0)) ∧ (∀ (y1 y2 y3 : Int), (((300 - y3) * 1) + 0).toNat ≤ n → 0 ≤ y2 → y2 ≤ 300 → 0 ≤ y3 → y3 ≤ 300 → y2 ≤ y3 → y1 = x1 → 0 ≤ y3 → y3 ≤ a0 146 9 → (y2 = SUMN (gtF (cvR a0) (a0 146 0) x1) y3.toNat) → jt (jxX E d 242 4 [some (.inr (.inr (.inl 146))), some (.inl y1), some (.inl y2), some (.inl y3)] [] (jxSH, a0, b0)) (jQ_X12_got x1 a0 b0)) := by
  refine jx_ind fun n ih => ?_
  have ih38 : ∀ (y1 y2 y3 : Int), (((300 - y3) * 1) + 0).toNat < n → 0 ≤ y2 → y2 ≤ 300 → 0 ≤ y3 → y3 ≤ 299 → y2 ≤ y3 + 1 → y1 = x1 → 0 ≤ y3 → y3 < a0 146 9 → (y2 = SUMN (gtF (cvR a0) (a0 146 0) x1) (y3.toNat + 1)) → jt (jxX E d 242 38 [some (.inr (.inr (.inl 146))), some (.inl y1), some (.inl y2), some (.inl y3)] [] (jxSH, a0, b0)) (jQ_X12_got x1 a0 b0) := fun y1 y2 y3 hlt i0 i1 i2 i3 i4 i5 i6 i7 i8 => (ih _ hlt).1 y1 y2 y3 (Nat.le_refl _) i0 i1 i2 i3 i4 i5 i6 i7 i8
  have ih4 : ∀ (y1 y2 y3 : Int), (((300 - y3) * 1) + 0).toNat < n → 0 ≤ y2 → y2 ≤ 300 → 0 ≤ y3 → y3 ≤ 300 → y2 ≤ y3 → y1 = x1 → 0 ≤ y3 → y3 ≤ a0 146 9 → (y2 = SUMN (gtF (cvR a0) (a0 146 0) x1) y3.toNat) → jt (jxX E d 242 4 [some (.inr (.inr (.inl 146))), some (.inl y1), some (.inl y2), some (.inl y3)] [] (jxSH, a0, b0)) (jQ_X12_got x1 a0 b0) := fun y1 y2 y3 hlt i0 i1 i2 i3 i4 i5 i6 i7 i8 => (ih _ hlt).2 y1 y2 y3 (Nat.le_refl _) i0 i1 i2 i3 i4 i5 i6 i7 i8
  have hc38 : ∀ (y1 y2 y3 : Int), (((300 - y3) * 1) + 0).toNat ≤ n → 0 ≤ y2 → y2 ≤ 300 → 0 ≤ y3 → y3 ≤ 299 → y2 ≤ y3 + 1 → y1 = x1 → 0 ≤ y3 → y3 < a0 146 9 → (y2 = SUMN (gtF (cvR a0) (a0 146 0) x1) (y3.toNat + 1)) → jt (jxX E d 242 38 [some (.inr (.inr (.inl 146))), some (.inl y1), some (.inl y2), some (.inl y3)] [] (jxSH, a0, b0)) (jQ_X12_got x1 a0 b0) := by
    intro y1 y2 y3 hm hi0 hi1 hi2 hi3 hi4 hi5 hi6 hi7 hs
    refine jt_eq (bq_X12_got_38 E d y1 y2 y3 a0 b0) ?_
    have h59_ := iv_get hv0 (k := 146) (j := 9) (l := 0) (u := 300) rfl
    have h60_ : jxw (y3 + 1) = y3 + 1 := jxw_id (by omega) (by omega)
    exact ih4 y1 y2 (jxw (y3 + 1)) (show (((300 - (jxw (y3 + 1))) * 1) + 0).toNat < n from by omega) (show 0 ≤ y2 from by omega) (show y2 ≤ 300 from by omega) (show 0 ≤ jxw (y3 + 1) from by omega) (show jxw (y3 + 1) ≤ 300 from by omega) (show y2 ≤ jxw (y3 + 1) from by omega) (show y1 = x1 from by omega) (show 0 ≤ jxw (y3 + 1) from by omega) (show jxw (y3 + 1) ≤ a0 146 9 from by omega) (by first | rfl | (rw [show (jxw (y3 + 1)).toNat = y3.toNat + 1 from by omega]; exact hs))
  have hc4 : ∀ (y1 y2 y3 : Int), (((300 - y3) * 1) + 0).toNat ≤ n → 0 ≤ y2 → y2 ≤ 300 → 0 ≤ y3 → y3 ≤ 300 → y2 ≤ y3 → y1 = x1 → 0 ≤ y3 → y3 ≤ a0 146 9 → (y2 = SUMN (gtF (cvR a0) (a0 146 0) x1) y3.toNat) → jt (jxX E d 242 4 [some (.inr (.inr (.inl 146))), some (.inl y1), some (.inl y2), some (.inl y3)] [] (jxSH, a0, b0)) (jQ_X12_got x1 a0 b0) := by
    intro y1 y2 y3 hm hi0 hi1 hi2 hi3 hi4 hi5 hi6 hi7 hs
    refine jt_eq (bq_X12_got_4 E d y1 y2 y3 a0 b0) ?_
    have h61_ := iv_get hv0 (k := 146) (j := 9) (l := 0) (u := 300) rfl
    have hrg := SUMN_bd (f := (gtF (cvR a0) (a0 146 0) x1)) (n := y3.toNat) (fun k _ => gtF_rg _ _ _ k)
    refine jt_ite (fun c62_ => ?_) (fun c62_ => ?_)
    ·
      refine jt_grd (by omega) ?_
      have h63_ := iv_get hv0 (k := 155) (j := y3.toNat) (l := 0) (u := 39) rfl
      refine jt_ite (fun c64_ => ?_) (fun c64_ => ?_)
      ·
        refine jt_bI (sp_X12_hasArrived E d (jd_le hd rfl) y3 a0 b0 hv0 (show (0 ≤ y3 ∧ y3 ≤ 299) from by omega)) (fun r65_ a65_ b65_ h65_ => ?_)
        obtain ⟨rfl, rfl, hq65_0, hq65_1⟩ := h65_
        refine jt_ite (fun c66_ => ?_) (fun c66_ => ?_)
        ·
          have h67_ : jxw (y2 + 0) = y2 + 0 := jxw_id (by omega) (by omega)
          exact hc38 y1 (jxw (y2 + 0)) y3 (show (((300 - y3) * 1) + 0).toNat ≤ n from by omega) (show 0 ≤ jxw (y2 + 0) from by omega) (show jxw (y2 + 0) ≤ 300 from by omega) (show 0 ≤ y3 from by omega) (show y3 ≤ 299 from by omega) (show jxw (y2 + 0) ≤ y3 + 1 from by omega) (show y1 = x1 from by omega) (show 0 ≤ y3 from by omega) (show y3 < a0 146 9 from by omega) (by show jxw (y2 + 0) = SUMN (gtF (cvR a0) (a0 146 0) x1) y3.toNat + (gtF (cvR a0) (a0 146 0) x1) y3.toNat; have e : (gtF (cvR a0) (a0 146 0) x1) y3.toNat = r65_ := (by show (if a0 155 y3.toNat = x1 then _ else _) = _; rw [if_pos (by omega)]; exact hq65_1.symm); omega)
        ·
          have h68_ : jxw (y2 + 1) = y2 + 1 := jxw_id (by omega) (by omega)
          exact hc38 y1 (jxw (y2 + 1)) y3 (show (((300 - y3) * 1) + 0).toNat ≤ n from by omega) (show 0 ≤ jxw (y2 + 1) from by omega) (show jxw (y2 + 1) ≤ 300 from by omega) (show 0 ≤ y3 from by omega) (show y3 ≤ 299 from by omega) (show jxw (y2 + 1) ≤ y3 + 1 from by omega) (show y1 = x1 from by omega) (show 0 ≤ y3 from by omega) (show y3 < a0 146 9 from by omega) (by show jxw (y2 + 1) = SUMN (gtF (cvR a0) (a0 146 0) x1) y3.toNat + (gtF (cvR a0) (a0 146 0) x1) y3.toNat; have e : (gtF (cvR a0) (a0 146 0) x1) y3.toNat = r65_ := (by show (if a0 155 y3.toNat = x1 then _ else _) = _; rw [if_pos (by omega)]; exact hq65_1.symm); omega)
      ·
        have h69_ : jxw (y2 + 0) = y2 + 0 := jxw_id (by omega) (by omega)
        exact hc38 y1 (jxw (y2 + 0)) y3 (show (((300 - y3) * 1) + 0).toNat ≤ n from by omega) (show 0 ≤ jxw (y2 + 0) from by omega) (show jxw (y2 + 0) ≤ 300 from by omega) (show 0 ≤ y3 from by omega) (show y3 ≤ 299 from by omega) (show jxw (y2 + 0) ≤ y3 + 1 from by omega) (show y1 = x1 from by omega) (show 0 ≤ y3 from by omega) (show y3 < a0 146 9 from by omega) (by show jxw (y2 + 0) = SUMN (gtF (cvR a0) (a0 146 0) x1) y3.toNat + (gtF (cvR a0) (a0 146 0) x1) y3.toNat; have e : (gtF (cvR a0) (a0 146 0) x1) y3.toNat = 0 := (by show (if a0 155 y3.toNat = x1 then _ else _) = _; rw [if_neg (by omega)]); omega)
    ·
      exact jt_rI ⟨rfl, rfl, (show 0 ≤ y2 from by omega), (show y2 ≤ 300 from by omega), (by rw [show (a0 146 9).toNat = y3.toNat from by omega]; exact hs)⟩
  exact ⟨hc38, hc4⟩
theorem sp_X12_got (E : jxE) (d : Nat) (hd : Nat.ble 5 d = true) (x1 : Int) (a0 b0 : Nat → Nat → Int) (hv0 : iv a0) : jt (jxC E d 242 [.inr (.inr (.inl 146)), .inl x1] (jxSH, a0, b0)) (jQ_X12_got x1 a0 b0) := by
  obtain ⟨d, rfl⟩ := jd_succ hd
  refine jt_eq (bq_X12_got E d x1 a0 b0) ?_
  have h70_ := iv_get hv0 (k := 146) (j := 9) (l := 0) (u := 300) rfl
  exact (cp_X12_got_4 E d hd x1 a0 b0 hv0 _).2 x1 0 0 (Nat.le_refl _) (show 0 ≤ 0 from by omega) (show 0 ≤ 300 from by omega) (show 0 ≤ 0 from by omega) (show 0 ≤ 300 from by omega) (show 0 ≤ 0 from by omega) (show x1 = x1 from by omega) (show 0 ≤ 0 from by omega) (show 0 ≤ a0 146 9 from by omega) (by first | rfl | (rw [show (jxw (y3 + 1)).toNat = y3.toNat + 1 from by omega]; exact hs))
abbrev jQ_X12_ofHis (x1 x2 : Int) (a0 b0 : Nat → Nat → Int) : List jxV → (Nat → Nat → Int) → (Nat → Nat → Int) → Prop := rI (fun r a b => (a0 = a) ∧ (b0 = b) ∧ (0 ≤ r) ∧ (r ≤ 300) ∧ (r = SUMN (ohF (cvR a0) (a0 146 0) x1 x2) (a0 146 9).toNat))
theorem cp_X12_ofHis_5 (E : jxE) (d : Nat) (hd : Nat.ble 4 (d + 1) = true) (x1 x2 : Int) (a0 b0 : Nat → Nat → Int) (hv0 : iv a0) : ∀ n : Nat, (∀ (y1 y2 y3 y4 : Int), (((300 - y4) * 1) + 0).toNat ≤ n → 0 ≤ y3 → y3 ≤ 300 → 0 ≤ y4 → y4 ≤ 299 → y3 ≤ y4 + 1 → y1 = x1 → 0 ≤ y4 → y2 = x2 → y4 < a0 146 9 → (y3 = SUMN (ohF (cvR a0) (a0 146 0) x1 x2) (y4.toNat + 1)) → jt (jxX E d 244 43 [some (.inr (.inr (.inl 146))), some (.inl y1), some (.inl y2), some (.inl y3), some (.inl y4)] [] (jxSH, a0, b0)) (jQ_X12_ofHis x1 x2 a0 b0)) ∧ (∀ (y1 y2 y3 y4 : Int), (((300 - y4) * 1) + 0).toNat ≤ n → 0 ≤ y3 → y3 ≤ 300 → 0 ≤ y4 → y4 ≤ 300 → y3 ≤ y4 → y1 = x1 → 0 ≤ y4 → y2 = x2 → y4 ≤ a0 146 9 → (y3 = SUMN (ohF (cvR a0) (a0 146 0) x1 x2) y4.toNat) → jt (jxX E d 244 5 [some (.inr (.inr (.inl 146))), some (.inl y1), some (.inl y2), some (.inl y3), some (.inl y4)] [] (jxSH, a0, b0)) (jQ_X12_ofHis x1 x2 a0 b0)) := by
  refine jx_ind fun n ih => ?_
  have ih43 : ∀ (y1 y2 y3 y4 : Int), (((300 - y4) * 1) + 0).toNat < n → 0 ≤ y3 → y3 ≤ 300 → 0 ≤ y4 → y4 ≤ 299 → y3 ≤ y4 + 1 → y1 = x1 → 0 ≤ y4 → y2 = x2 → y4 < a0 146 9 → (y3 = SUMN (ohF (cvR a0) (a0 146 0) x1 x2) (y4.toNat + 1)) → jt (jxX E d 244 43 [some (.inr (.inr (.inl 146))), some (.inl y1), some (.inl y2), some (.inl y3), some (.inl y4)] [] (jxSH, a0, b0)) (jQ_X12_ofHis x1 x2 a0 b0) := fun y1 y2 y3 y4 hlt i0 i1 i2 i3 i4 i5 i6 i7 i8 i9 => (ih _ hlt).1 y1 y2 y3 y4 (Nat.le_refl _) i0 i1 i2 i3 i4 i5 i6 i7 i8 i9
  have ih5 : ∀ (y1 y2 y3 y4 : Int), (((300 - y4) * 1) + 0).toNat < n → 0 ≤ y3 → y3 ≤ 300 → 0 ≤ y4 → y4 ≤ 300 → y3 ≤ y4 → y1 = x1 → 0 ≤ y4 → y2 = x2 → y4 ≤ a0 146 9 → (y3 = SUMN (ohF (cvR a0) (a0 146 0) x1 x2) y4.toNat) → jt (jxX E d 244 5 [some (.inr (.inr (.inl 146))), some (.inl y1), some (.inl y2), some (.inl y3), some (.inl y4)] [] (jxSH, a0, b0)) (jQ_X12_ofHis x1 x2 a0 b0) := fun y1 y2 y3 y4 hlt i0 i1 i2 i3 i4 i5 i6 i7 i8 i9 => (ih _ hlt).2 y1 y2 y3 y4 (Nat.le_refl _) i0 i1 i2 i3 i4 i5 i6 i7 i8 i9
  have hc43 : ∀ (y1 y2 y3 y4 : Int), (((300 - y4) * 1) + 0).toNat ≤ n → 0 ≤ y3 → y3 ≤ 300 → 0 ≤ y4 → y4 ≤ 299 → y3 ≤ y4 + 1 → y1 = x1 → 0 ≤ y4 → y2 = x2 → y4 < a0 146 9 → (y3 = SUMN (ohF (cvR a0) (a0 146 0) x1 x2) (y4.toNat + 1)) → jt (jxX E d 244 43 [some (.inr (.inr (.inl 146))), some (.inl y1), some (.inl y2), some (.inl y3), some (.inl y4)] [] (jxSH, a0, b0)) (jQ_X12_ofHis x1 x2 a0 b0) := by
    intro y1 y2 y3 y4 hm hi0 hi1 hi2 hi3 hi4 hi5 hi6 hi7 hi8 hs
    refine jt_eq (bq_X12_ofHis_43 E d y1 y2 y3 y4 a0 b0) ?_
    have h71_ := iv_get hv0 (k := 146) (j := 9) (l := 0) (u := 300) rfl
    have h72_ : jxw (y4 + 1) = y4 + 1 := jxw_id (by omega) (by omega)
    exact ih5 y1 y2 y3 (jxw (y4 + 1)) (show (((300 - (jxw (y4 + 1))) * 1) + 0).toNat < n from by omega) (show 0 ≤ y3 from by omega) (show y3 ≤ 300 from by omega) (show 0 ≤ jxw (y4 + 1) from by omega) (show jxw (y4 + 1) ≤ 300 from by omega) (show y3 ≤ jxw (y4 + 1) from by omega) (show y1 = x1 from by omega) (show 0 ≤ jxw (y4 + 1) from by omega) (show y2 = x2 from by omega) (show jxw (y4 + 1) ≤ a0 146 9 from by omega) (by first | rfl | (rw [show (jxw (y4 + 1)).toNat = y4.toNat + 1 from by omega]; exact hs))
  have hc5 : ∀ (y1 y2 y3 y4 : Int), (((300 - y4) * 1) + 0).toNat ≤ n → 0 ≤ y3 → y3 ≤ 300 → 0 ≤ y4 → y4 ≤ 300 → y3 ≤ y4 → y1 = x1 → 0 ≤ y4 → y2 = x2 → y4 ≤ a0 146 9 → (y3 = SUMN (ohF (cvR a0) (a0 146 0) x1 x2) y4.toNat) → jt (jxX E d 244 5 [some (.inr (.inr (.inl 146))), some (.inl y1), some (.inl y2), some (.inl y3), some (.inl y4)] [] (jxSH, a0, b0)) (jQ_X12_ofHis x1 x2 a0 b0) := by
    intro y1 y2 y3 y4 hm hi0 hi1 hi2 hi3 hi4 hi5 hi6 hi7 hi8 hs
    refine jt_eq (bq_X12_ofHis_5 E d y1 y2 y3 y4 a0 b0) ?_
    have h73_ := iv_get hv0 (k := 146) (j := 9) (l := 0) (u := 300) rfl
    have hrg := SUMN_bd (f := (ohF (cvR a0) (a0 146 0) x1 x2)) (n := y4.toNat) (fun k _ => ohF_rg _ _ _ _ k)
    refine jt_ite (fun c74_ => ?_) (fun c74_ => ?_)
    ·
      refine jt_grd (by omega) ?_
      have h75_ := iv_get hv0 (k := 154) (j := y4.toNat) (l := 0) (u := 39) rfl
      refine jt_ite (fun c76_ => ?_) (fun c76_ => ?_)
      ·
        refine jt_bI (sp_X12_stateNow E d (jd_le hd rfl) y4 a0 b0 hv0 (show (0 ≤ y4 ∧ y4 ≤ 299) from by omega)) (fun r77_ a77_ b77_ h77_ => ?_)
        obtain ⟨rfl, rfl, hq77_0, hq77_1, hq77_2⟩ := h77_
        refine jt_ite (fun c78_ => ?_) (fun c78_ => ?_)
        ·
          have h79_ : jxw (y3 + 1) = y3 + 1 := jxw_id (by omega) (by omega)
          exact hc43 y1 y2 (jxw (y3 + 1)) y4 (show (((300 - y4) * 1) + 0).toNat ≤ n from by omega) (show 0 ≤ jxw (y3 + 1) from by omega) (show jxw (y3 + 1) ≤ 300 from by omega) (show 0 ≤ y4 from by omega) (show y4 ≤ 299 from by omega) (show jxw (y3 + 1) ≤ y4 + 1 from by omega) (show y1 = x1 from by omega) (show 0 ≤ y4 from by omega) (show y2 = x2 from by omega) (show y4 < a0 146 9 from by omega) (by show jxw (y3 + 1) = SUMN (ohF (cvR a0) (a0 146 0) x1 x2) y4.toNat + (ohF (cvR a0) (a0 146 0) x1 x2) y4.toNat; have e : (ohF (cvR a0) (a0 146 0) x1 x2) y4.toNat = (if r77_ = x2 then 1 else 0) := (by show (if a0 154 y4.toNat = x1 then _ else _) = _; rw [if_pos (by omega), hq77_2]); rw [e]; first | (rw [if_pos (by omega)]; omega) | (rw [if_neg (by omega)]; omega))
        ·
          have h80_ : jxw (y3 + 0) = y3 + 0 := jxw_id (by omega) (by omega)
          exact hc43 y1 y2 (jxw (y3 + 0)) y4 (show (((300 - y4) * 1) + 0).toNat ≤ n from by omega) (show 0 ≤ jxw (y3 + 0) from by omega) (show jxw (y3 + 0) ≤ 300 from by omega) (show 0 ≤ y4 from by omega) (show y4 ≤ 299 from by omega) (show jxw (y3 + 0) ≤ y4 + 1 from by omega) (show y1 = x1 from by omega) (show 0 ≤ y4 from by omega) (show y2 = x2 from by omega) (show y4 < a0 146 9 from by omega) (by show jxw (y3 + 0) = SUMN (ohF (cvR a0) (a0 146 0) x1 x2) y4.toNat + (ohF (cvR a0) (a0 146 0) x1 x2) y4.toNat; have e : (ohF (cvR a0) (a0 146 0) x1 x2) y4.toNat = (if r77_ = x2 then 1 else 0) := (by show (if a0 154 y4.toNat = x1 then _ else _) = _; rw [if_pos (by omega), hq77_2]); rw [e]; first | (rw [if_pos (by omega)]; omega) | (rw [if_neg (by omega)]; omega))
      ·
        have h81_ : jxw (y3 + 0) = y3 + 0 := jxw_id (by omega) (by omega)
        exact hc43 y1 y2 (jxw (y3 + 0)) y4 (show (((300 - y4) * 1) + 0).toNat ≤ n from by omega) (show 0 ≤ jxw (y3 + 0) from by omega) (show jxw (y3 + 0) ≤ 300 from by omega) (show 0 ≤ y4 from by omega) (show y4 ≤ 299 from by omega) (show jxw (y3 + 0) ≤ y4 + 1 from by omega) (show y1 = x1 from by omega) (show 0 ≤ y4 from by omega) (show y2 = x2 from by omega) (show y4 < a0 146 9 from by omega) (by show jxw (y3 + 0) = SUMN (ohF (cvR a0) (a0 146 0) x1 x2) y4.toNat + (ohF (cvR a0) (a0 146 0) x1 x2) y4.toNat; have e : (ohF (cvR a0) (a0 146 0) x1 x2) y4.toNat = 0 := (by show (if a0 154 y4.toNat = x1 then _ else _) = _; rw [if_neg (by omega)]); omega)
    ·
      exact jt_rI ⟨rfl, rfl, (show 0 ≤ y3 from by omega), (show y3 ≤ 300 from by omega), (by rw [show (a0 146 9).toNat = y4.toNat from by omega]; exact hs)⟩
  exact ⟨hc43, hc5⟩
theorem sp_X12_ofHis (E : jxE) (d : Nat) (hd : Nat.ble 4 d = true) (x1 x2 : Int) (a0 b0 : Nat → Nat → Int) (hv0 : iv a0) : jt (jxC E d 244 [.inr (.inr (.inl 146)), .inl x1, .inl x2] (jxSH, a0, b0)) (jQ_X12_ofHis x1 x2 a0 b0) := by
  obtain ⟨d, rfl⟩ := jd_succ hd
  refine jt_eq (bq_X12_ofHis E d x1 x2 a0 b0) ?_
  have h82_ := iv_get hv0 (k := 146) (j := 9) (l := 0) (u := 300) rfl
  exact (cp_X12_ofHis_5 E d hd x1 x2 a0 b0 hv0 _).2 x1 x2 0 0 (Nat.le_refl _) (show 0 ≤ 0 from by omega) (show 0 ≤ 300 from by omega) (show 0 ≤ 0 from by omega) (show 0 ≤ 300 from by omega) (show 0 ≤ 0 from by omega) (show x1 = x1 from by omega) (show 0 ≤ 0 from by omega) (show x2 = x2 from by omega) (show 0 ≤ a0 146 9 from by omega) (by first | rfl | (rw [show (jxw (y4 + 1)).toNat = y4.toNat + 1 from by omega]; exact hs))
abbrev jQ_X12_mayAsk (x1 : Int) (a0 b0 : Nat → Nat → Int) : List jxV → (Nat → Nat → Int) → (Nat → Nat → Int) → Prop := rI (fun r a b => (a0 = a) ∧ (b0 = b) ∧ ((0 ≤ r ∧ r ≤ 1)) ∧ (r = vMay (a0 152 x1.toNat) (SUMN (ohF (cvR a0) (a0 146 0) x1 0) (a0 146 9).toNat) (SUMN (gvF (cvR a0) (a0 146 0) x1) (a0 146 9).toNat) (a0 171 0) (a0 171 1)))
theorem cp_X12_mayAsk_50 (E : jxE) (d : Nat) (hd : Nat.ble 6 (d + 1) = true) (x1 : Int) (a0 b0 : Nat → Nat → Int) (hv0 : iv a0) (hp0 : (0 ≤ x1 ∧ x1 ≤ 39)) : (vMay (a0 152 x1.toNat) (SUMN (ohF (cvR a0) (a0 146 0) x1 0) (a0 146 9).toNat) (SUMN (gvF (cvR a0) (a0 146 0) x1) (a0 146 9).toNat) (a0 171 0) (a0 171 1) = 1) → jt (jxX E d 246 50 [none, none] [] (jxSH, a0, b0)) (jQ_X12_mayAsk x1 a0 b0) := by
  intro hv
  refine jt_eq (bq_X12_mayAsk_50 E d a0 b0) ?_
  exact jt_rI ⟨rfl, rfl, (show (0 ≤ 1 ∧ 1 ≤ 1) from by omega), hv.symm⟩
theorem cp_X12_mayAsk_54 (E : jxE) (d : Nat) (hd : Nat.ble 6 (d + 1) = true) (x1 : Int) (a0 b0 : Nat → Nat → Int) (hv0 : iv a0) (hp0 : (0 ≤ x1 ∧ x1 ≤ 39)) : (vMay (a0 152 x1.toNat) (SUMN (ohF (cvR a0) (a0 146 0) x1 0) (a0 146 9).toNat) (SUMN (gvF (cvR a0) (a0 146 0) x1) (a0 146 9).toNat) (a0 171 0) (a0 171 1) = 0) → jt (jxX E d 246 54 [none, none] [] (jxSH, a0, b0)) (jQ_X12_mayAsk x1 a0 b0) := by
  intro hv
  refine jt_eq (bq_X12_mayAsk_54 E d a0 b0) ?_
  exact jt_rI ⟨rfl, rfl, (show (0 ≤ 0 ∧ 0 ≤ 1) from by omega), hv.symm⟩
theorem sp_X12_mayAsk (E : jxE) (d : Nat) (hd : Nat.ble 6 d = true) (x1 : Int) (a0 b0 : Nat → Nat → Int) (hv0 : iv a0) (hp0 : (0 ≤ x1 ∧ x1 ≤ 39)) : jt (jxC E d 246 [.inr (.inr (.inl 146)), .inl x1] (jxSH, a0, b0)) (jQ_X12_mayAsk x1 a0 b0) := by
  obtain ⟨d, rfl⟩ := jd_succ hd
  refine jt_eq (bq_X12_mayAsk E d x1 a0 b0) ?_
  refine jt_grd (by omega) ?_
  have h83_ := iv_get hv0 (k := 152) (j := x1.toNat) (l := 0) (u := 1) rfl
  refine jt_ite (fun c84_ => ?_) (fun c84_ => ?_)
  ·
    exact cp_X12_mayAsk_54 E d hd x1 a0 b0 hv0 hp0 (by unfold vMay; rw [if_pos (by assumption)])
  ·
    refine jt_bI (sp_X12_ofHis E d (jd_le hd rfl) x1 0 a0 b0 hv0) (fun r85_ a85_ b85_ h85_ => ?_)
    obtain ⟨rfl, rfl, hq85_0, hq85_1, hq85_2⟩ := h85_
    have ho_ := hq85_2
    refine jt_ite (fun c86_ => ?_) (fun c86_ => ?_)
    ·
      have h87_ := jxw_im ((a0 171 0) + 0)
      have h88_ := jxw_rg ((a0 171 0) + 0)
      refine jt_ite (fun c89_ => ?_) (fun c89_ => ?_)
      ·
        exact cp_X12_mayAsk_50 E d hd x1 a0 b0 hv0 hp0 (by unfold vMay; rw [if_neg (by assumption), ← ho_]; first | (rw [← hg_, if_neg (show ¬ a0 171 1 = 0 by assumption)]; first | rw [if_pos (by assumption)] | rw [if_neg (by assumption)]) | (rw [if_pos (show a0 171 1 = 0 by assumption)]; first | rw [if_pos (by assumption)] | rw [if_neg (by assumption)]))
      ·
        exact cp_X12_mayAsk_54 E d hd x1 a0 b0 hv0 hp0 (by unfold vMay; rw [if_neg (by assumption), ← ho_]; first | (rw [← hg_, if_neg (show ¬ a0 171 1 = 0 by assumption)]; first | rw [if_pos (by assumption)] | rw [if_neg (by assumption)]) | (rw [if_pos (show a0 171 1 = 0 by assumption)]; first | rw [if_pos (by assumption)] | rw [if_neg (by assumption)]))
    ·
      refine jt_bI (sp_X12_given E d (jd_le hd rfl) x1 a0 b0 hv0) (fun r90_ a90_ b90_ h90_ => ?_)
      obtain ⟨rfl, rfl, hq90_0, hq90_1, hq90_2⟩ := h90_
      have hg_ := hq90_2
      refine jt_dvd (by omega) ?_
      have h91_ := jxw_im (Int.tdiv r90_ (a0 171 1))
      have h92_ := jxw_rg (Int.tdiv r90_ (a0 171 1))
      have h93_ := jxw_im ((a0 171 0) + (jxw (Int.tdiv r90_ (a0 171 1))))
      have h94_ := jxw_rg ((a0 171 0) + (jxw (Int.tdiv r90_ (a0 171 1))))
      refine jt_ite (fun c95_ => ?_) (fun c95_ => ?_)
      ·
        exact cp_X12_mayAsk_50 E d hd x1 a0 b0 hv0 hp0 (by unfold vMay; rw [if_neg (by assumption), ← ho_]; first | (rw [← hg_, if_neg (show ¬ a0 171 1 = 0 by assumption)]; first | rw [if_pos (by assumption)] | rw [if_neg (by assumption)]) | (rw [if_pos (show a0 171 1 = 0 by assumption)]; first | rw [if_pos (by assumption)] | rw [if_neg (by assumption)]))
      ·
        exact cp_X12_mayAsk_54 E d hd x1 a0 b0 hv0 hp0 (by unfold vMay; rw [if_neg (by assumption), ← ho_]; first | (rw [← hg_, if_neg (show ¬ a0 171 1 = 0 by assumption)]; first | rw [if_pos (by assumption)] | rw [if_neg (by assumption)]) | (rw [if_pos (show a0 171 1 = 0 by assumption)]; first | rw [if_pos (by assumption)] | rw [if_neg (by assumption)]))
abbrev jQ_X12_owed (x1 : Int) (a0 b0 : Nat → Nat → Int) : List jxV → (Nat → Nat → Int) → (Nat → Nat → Int) → Prop := rI (fun r a b => (a0 = a) ∧ (b0 = b) ∧ (r = vOwed (cvR a0) (a0 146 0) (a0 153 x1.toNat) x1))
theorem sp_X12_owed (E : jxE) (d : Nat) (hd : Nat.ble 6 d = true) (x1 : Int) (a0 b0 : Nat → Nat → Int) (hv0 : iv a0) (hp0 : (0 ≤ x1 ∧ x1 ≤ 39)) : jt (jxC E d 245 [.inr (.inr (.inl 146)), .inl x1] (jxSH, a0, b0)) (jQ_X12_owed x1 a0 b0) := by
  obtain ⟨d, rfl⟩ := jd_succ hd
  refine jt_eq (bq_X12_owed E d x1 a0 b0) ?_
  refine jt_bI (sp_X12_given E d (jd_le hd rfl) x1 a0 b0 hv0) (fun r96_ a96_ b96_ h96_ => ?_)
  obtain ⟨rfl, rfl, hq96_0, hq96_1, hq96_2⟩ := h96_
  have hg_ := hq96_2
  refine jt_grd (by omega) ?_
  refine jt_bI (sp_X12_got E d (jd_le hd rfl) x1 a0 b0 hv0) (fun r97_ a97_ b97_ h97_ => ?_)
  obtain ⟨rfl, rfl, hq97_0, hq97_1, hq97_2⟩ := h97_
  have ht_ := hq97_2
  refine jt_bI (sp_X12_coming E d (jd_le hd rfl) x1 a0 b0 hv0) (fun r98_ a98_ b98_ h98_ => ?_)
  obtain ⟨rfl, rfl, hq98_0, hq98_1, hq98_2⟩ := h98_
  have hc_ := hq98_2
  have h99_ := jxw_im (r96_ + (a0 153 (x1.toNat)))
  have h100_ := jxw_rg (r96_ + (a0 153 (x1.toNat)))
  have h101_ := jxw_im ((jxw (r96_ + (a0 153 (x1.toNat)))) - r97_)
  have h102_ := jxw_rg ((jxw (r96_ + (a0 153 (x1.toNat)))) - r97_)
  have h103_ := jxw_im ((jxw ((jxw (r96_ + (a0 153 (x1.toNat)))) - r97_)) - r98_)
  have h104_ := jxw_rg ((jxw ((jxw (r96_ + (a0 153 (x1.toNat)))) - r97_)) - r98_)
  exact jt_rI ⟨rfl, rfl, (by unfold vOwed; rw [hg_, ht_, hc_]; rfl)⟩
abbrev jQ_X12_about (x1 x2 : Int) (a0 b0 : Nat → Nat → Int) : List jxV → (Nat → Nat → Int) → (Nat → Nat → Int) → Prop := rI (fun r a b => (a0 = a) ∧ (b0 = b) ∧ ((a0 146 2 = 0 → ((x2 = 5 ∧ r = 0 - 1000) ∨ (¬ x2 = 5 ∧ r = 0 - 1)))))
theorem sp_X12_about (E : jxE) (d : Nat) (hd : Nat.ble 7 d = true) (x1 x2 : Int) (a0 b0 : Nat → Nat → Int) (hv0 : iv a0) : jt (jxC E d 260 [.inr (.inr (.inl 146)), .inl x1, .inl x2] (jxSH, a0, b0)) (jQ_X12_about x1 x2 a0 b0) := by
  obtain ⟨d, rfl⟩ := jd_succ hd
  refine jt_eq (bq_X12_about E d x1 x2 a0 b0) ?_
  refine jt_eI (eq_X12_isMember E d (jd_le hd rfl) x1 a0 b0) ?_
  have h105_ := f_X12_isMember_eq a0 b0 x1
  have h106_ := iv_get hv0 (k := 146) (j := 2) (l := 0) (u := 40) rfl
  have h107_ : jxw ((a0 146 2) - 1) = (a0 146 2) - 1 := jxw_id (by omega) (by omega)
  have h108_ := f_X12_in_eq a0 b0 x1 0 (jxw ((a0 146 2) - 1))
  refine jt_ite (fun c109_ => ?_) (fun c109_ => ?_)
  ·
    refine jt_ite (fun c110_ => ?_) (fun c110_ => ?_)
    ·
      exact jt_rI ⟨rfl, rfl, (show (a0 146 2 = 0 → ((x2 = 5 ∧ (-1000) = 0 - 1000) ∨ (¬ x2 = 5 ∧ (-1000) = 0 - 1))) from by omega)⟩
    ·
      exact jt_rI ⟨rfl, rfl, (show (a0 146 2 = 0 → ((x2 = 5 ∧ (-1) = 0 - 1000) ∨ (¬ x2 = 5 ∧ (-1) = 0 - 1))) from by omega)⟩
  ·
    refine jt_ite (fun c111_ => ?_) (fun c111_ => ?_)
    ·
      exact jt_rI ⟨rfl, rfl, (show (a0 146 2 = 0 → ((x2 = 5 ∧ (-1) = 0 - 1000) ∨ (¬ x2 = 5 ∧ (-1) = 0 - 1))) from by omega)⟩
    ·
      refine jt_ite (fun c112_ => ?_) (fun c112_ => ?_)
      ·
        refine jt_bI (sp_X12_given E d (jd_le hd rfl) x1 a0 b0 hv0) (fun r113_ a113_ b113_ h113_ => ?_)
        obtain ⟨rfl, rfl, hq113_0, hq113_1, hq113_2⟩ := h113_
        exact jt_rI ⟨rfl, rfl, (show (a0 146 2 = 0 → ((x2 = 5 ∧ r113_ = 0 - 1000) ∨ (¬ x2 = 5 ∧ r113_ = 0 - 1))) from by omega)⟩
      ·
        refine jt_ite (fun c114_ => ?_) (fun c114_ => ?_)
        ·
          refine jt_bI (sp_X12_got E d (jd_le hd rfl) x1 a0 b0 hv0) (fun r115_ a115_ b115_ h115_ => ?_)
          obtain ⟨rfl, rfl, hq115_0, hq115_1, hq115_2⟩ := h115_
          exact jt_rI ⟨rfl, rfl, (show (a0 146 2 = 0 → ((x2 = 5 ∧ r115_ = 0 - 1000) ∨ (¬ x2 = 5 ∧ r115_ = 0 - 1))) from by omega)⟩
        ·
          refine jt_ite (fun c116_ => ?_) (fun c116_ => ?_)
          ·
            refine jt_bI (sp_X12_coming E d (jd_le hd rfl) x1 a0 b0 hv0) (fun r117_ a117_ b117_ h117_ => ?_)
            obtain ⟨rfl, rfl, hq117_0, hq117_1, hq117_2⟩ := h117_
            exact jt_rI ⟨rfl, rfl, (show (a0 146 2 = 0 → ((x2 = 5 ∧ r117_ = 0 - 1000) ∨ (¬ x2 = 5 ∧ r117_ = 0 - 1))) from by omega)⟩
          ·
            refine jt_ite (fun c118_ => ?_) (fun c118_ => ?_)
            ·
              refine jt_bI (sp_X12_ofHis E d (jd_le hd rfl) x1 0 a0 b0 hv0) (fun r119_ a119_ b119_ h119_ => ?_)
              obtain ⟨rfl, rfl, hq119_0, hq119_1, hq119_2⟩ := h119_
              exact jt_rI ⟨rfl, rfl, (show (a0 146 2 = 0 → ((x2 = 5 ∧ r119_ = 0 - 1000) ∨ (¬ x2 = 5 ∧ r119_ = 0 - 1))) from by omega)⟩
            ·
              refine jt_ite (fun c120_ => ?_) (fun c120_ => ?_)
              ·
                refine jt_grd (by omega) ?_
                exact jt_rI ⟨rfl, rfl, (show (a0 146 2 = 0 → ((x2 = 5 ∧ a0 153 (x1.toNat) = 0 - 1000) ∨ (¬ x2 = 5 ∧ a0 153 (x1.toNat) = 0 - 1))) from by omega)⟩
              ·
                refine jt_ite (fun c121_ => ?_) (fun c121_ => ?_)
                ·
                  refine jt_bI (sp_X12_owed E d (jd_le hd rfl) x1 a0 b0 hv0 (show (0 ≤ x1 ∧ x1 ≤ 39) from by omega)) (fun r122_ a122_ b122_ h122_ => ?_)
                  obtain ⟨rfl, rfl, hq122_0⟩ := h122_
                  exact jt_rI ⟨rfl, rfl, (show (a0 146 2 = 0 → ((x2 = 5 ∧ r122_ = 0 - 1000) ∨ (¬ x2 = 5 ∧ r122_ = 0 - 1))) from by omega)⟩
                ·
                  refine jt_ite (fun c123_ => ?_) (fun c123_ => ?_)
                  ·
                    refine jt_bI (sp_X12_mayAsk E d (jd_le hd rfl) x1 a0 b0 hv0 (show (0 ≤ x1 ∧ x1 ≤ 39) from by omega)) (fun r124_ a124_ b124_ h124_ => ?_)
                    obtain ⟨rfl, rfl, hq124_0, hq124_1⟩ := h124_
                    refine jt_ite (fun c125_ => ?_) (fun c125_ => ?_)
                    ·
                      exact jt_rI ⟨rfl, rfl, (show (a0 146 2 = 0 → ((x2 = 5 ∧ 0 = 0 - 1000) ∨ (¬ x2 = 5 ∧ 0 = 0 - 1))) from by omega)⟩
                    ·
                      exact jt_rI ⟨rfl, rfl, (show (a0 146 2 = 0 → ((x2 = 5 ∧ 1 = 0 - 1000) ∨ (¬ x2 = 5 ∧ 1 = 0 - 1))) from by omega)⟩
                  ·
                    refine jt_ite (fun c126_ => ?_) (fun c126_ => ?_)
                    ·
                      refine jt_grd (by omega) ?_
                      have h127_ := iv_get hv0 (k := 148) (j := x1.toNat) (l := 0) (u := 15) rfl
                      exact jt_rI ⟨rfl, rfl, (show (a0 146 2 = 0 → ((x2 = 5 ∧ a0 148 (x1.toNat) = 0 - 1000) ∨ (¬ x2 = 5 ∧ a0 148 (x1.toNat) = 0 - 1))) from by omega)⟩
                    ·
                      refine jt_ite (fun c128_ => ?_) (fun c128_ => ?_)
                      ·
                        refine jt_grd (by omega) ?_
                        have h129_ := iv_get hv0 (k := 152) (j := x1.toNat) (l := 0) (u := 1) rfl
                        refine jt_ite (fun c130_ => ?_) (fun c130_ => ?_)
                        ·
                          exact jt_rI ⟨rfl, rfl, (show (a0 146 2 = 0 → ((x2 = 5 ∧ 0 = 0 - 1000) ∨ (¬ x2 = 5 ∧ 0 = 0 - 1))) from by omega)⟩
                        ·
                          exact jt_rI ⟨rfl, rfl, (show (a0 146 2 = 0 → ((x2 = 5 ∧ 1 = 0 - 1000) ∨ (¬ x2 = 5 ∧ 1 = 0 - 1))) from by omega)⟩
                      ·
                        refine jt_ite (fun c131_ => ?_) (fun c131_ => ?_)
                        ·
                          refine jt_grd (by omega) ?_
                          exact jt_rI ⟨rfl, rfl, (show (a0 146 2 = 0 → ((x2 = 5 ∧ a0 151 (x1.toNat) = 0 - 1000) ∨ (¬ x2 = 5 ∧ a0 151 (x1.toNat) = 0 - 1))) from by omega)⟩
                        ·
                          refine jt_ite (fun c132_ => ?_) (fun c132_ => ?_)
                          ·
                            refine jt_bI (sp_X12_ofHis E d (jd_le hd rfl) x1 2 a0 b0 hv0) (fun r133_ a133_ b133_ h133_ => ?_)
                            obtain ⟨rfl, rfl, hq133_0, hq133_1, hq133_2⟩ := h133_
                            exact jt_rI ⟨rfl, rfl, (show (a0 146 2 = 0 → ((x2 = 5 ∧ r133_ = 0 - 1000) ∨ (¬ x2 = 5 ∧ r133_ = 0 - 1))) from by omega)⟩
                          ·
                            exact absurd (by omega : False) id
abbrev jQ_X12_album (x1 : Int) (a0 b0 : Nat → Nat → Int) : List jxV → (Nat → Nat → Int) → (Nat → Nat → Int) → Prop := rI (fun r a b => (a0 = a) ∧ (b0 = b) ∧ ((a0 146 2 = 0 → r = 0 - 1)))
theorem cp_X12_album_14 (E : jxE) (d : Nat) (hd : Nat.ble 5 (d + 1) = true) (x1 : Int) (a0 b0 : Nat → Nat → Int) (hv0 : iv a0) : ∀ n : Nat, (∀ (y1 y2 y3 : Int), (((300 - y3) * 1) + 0).toNat ≤ n → 0 ≤ y1 → y1 ≤ 39 → 0 ≤ y3 → y3 ≤ 299 → 1 ≤ a0 146 2 → jt (jxX E d 261 56 [some (.inr (.inr (.inl 146))), some (.inl y1), some (.inl y2), some (.inl y3)] [] (jxSH, a0, b0)) (jQ_X12_album x1 a0 b0)) ∧ (∀ (y1 y2 y3 : Int), (((300 - y3) * 1) + 0).toNat ≤ n → 0 ≤ y1 → y1 ≤ 39 → 0 ≤ y3 → y3 ≤ 299 → 1 ≤ a0 146 2 → jt (jxX E d 261 40 [some (.inr (.inr (.inl 146))), some (.inl y1), some (.inl y2), some (.inl y3)] [] (jxSH, a0, b0)) (jQ_X12_album x1 a0 b0)) ∧ (∀ (y1 y2 y3 : Int), (((300 - y3) * 1) + 0).toNat ≤ n → 0 ≤ y1 → y1 ≤ 39 → 0 ≤ y3 → y3 ≤ 300 → 1 ≤ a0 146 2 → jt (jxX E d 261 14 [some (.inr (.inr (.inl 146))), some (.inl y1), some (.inl y2), some (.inl y3)] [] (jxSH, a0, b0)) (jQ_X12_album x1 a0 b0)) := by
  refine jx_ind fun n ih => ?_
  have ih56 : ∀ (y1 y2 y3 : Int), (((300 - y3) * 1) + 0).toNat < n → 0 ≤ y1 → y1 ≤ 39 → 0 ≤ y3 → y3 ≤ 299 → 1 ≤ a0 146 2 → jt (jxX E d 261 56 [some (.inr (.inr (.inl 146))), some (.inl y1), some (.inl y2), some (.inl y3)] [] (jxSH, a0, b0)) (jQ_X12_album x1 a0 b0) := fun y1 y2 y3 hlt i0 i1 i2 i3 i4 => (ih _ hlt).1 y1 y2 y3 (Nat.le_refl _) i0 i1 i2 i3 i4
  have ih40 : ∀ (y1 y2 y3 : Int), (((300 - y3) * 1) + 0).toNat < n → 0 ≤ y1 → y1 ≤ 39 → 0 ≤ y3 → y3 ≤ 299 → 1 ≤ a0 146 2 → jt (jxX E d 261 40 [some (.inr (.inr (.inl 146))), some (.inl y1), some (.inl y2), some (.inl y3)] [] (jxSH, a0, b0)) (jQ_X12_album x1 a0 b0) := fun y1 y2 y3 hlt i0 i1 i2 i3 i4 => (ih _ hlt).2.1 y1 y2 y3 (Nat.le_refl _) i0 i1 i2 i3 i4
  have ih14 : ∀ (y1 y2 y3 : Int), (((300 - y3) * 1) + 0).toNat < n → 0 ≤ y1 → y1 ≤ 39 → 0 ≤ y3 → y3 ≤ 300 → 1 ≤ a0 146 2 → jt (jxX E d 261 14 [some (.inr (.inr (.inl 146))), some (.inl y1), some (.inl y2), some (.inl y3)] [] (jxSH, a0, b0)) (jQ_X12_album x1 a0 b0) := fun y1 y2 y3 hlt i0 i1 i2 i3 i4 => (ih _ hlt).2.2 y1 y2 y3 (Nat.le_refl _) i0 i1 i2 i3 i4
  have hc56 : ∀ (y1 y2 y3 : Int), (((300 - y3) * 1) + 0).toNat ≤ n → 0 ≤ y1 → y1 ≤ 39 → 0 ≤ y3 → y3 ≤ 299 → 1 ≤ a0 146 2 → jt (jxX E d 261 56 [some (.inr (.inr (.inl 146))), some (.inl y1), some (.inl y2), some (.inl y3)] [] (jxSH, a0, b0)) (jQ_X12_album x1 a0 b0) := by
    intro y1 y2 y3 hm hi0 hi1 hi2 hi3 hi4
    refine jt_eq (bq_X12_album_56 E d y1 y2 y3 a0 b0) ?_
    have h134_ := iv_get hv0 (k := 146) (j := 2) (l := 0) (u := 40) rfl
    have h135_ : jxw (y3 + 1) = y3 + 1 := jxw_id (by omega) (by omega)
    exact ih14 y1 y2 (jxw (y3 + 1)) (show (((300 - (jxw (y3 + 1))) * 1) + 0).toNat < n from by omega) (show 0 ≤ y1 from by omega) (show y1 ≤ 39 from by omega) (show 0 ≤ jxw (y3 + 1) from by omega) (show jxw (y3 + 1) ≤ 300 from by omega) (show 1 ≤ a0 146 2 from by omega)
  have hc40 : ∀ (y1 y2 y3 : Int), (((300 - y3) * 1) + 0).toNat ≤ n → 0 ≤ y1 → y1 ≤ 39 → 0 ≤ y3 → y3 ≤ 299 → 1 ≤ a0 146 2 → jt (jxX E d 261 40 [some (.inr (.inr (.inl 146))), some (.inl y1), some (.inl y2), some (.inl y3)] [] (jxSH, a0, b0)) (jQ_X12_album x1 a0 b0) := by
    intro y1 y2 y3 hm hi0 hi1 hi2 hi3 hi4
    refine jt_eq (bq_X12_album_40 E d y1 y2 y3 a0 b0) ?_
    have h136_ := iv_get hv0 (k := 146) (j := 2) (l := 0) (u := 40) rfl
    refine jt_grd (by omega) ?_
    have h137_ := iv_get hv0 (k := 154) (j := y3.toNat) (l := 0) (u := 39) rfl
    refine jt_grd (by omega) ?_
    exact hc56 y1 (jxor y2 (jxshl 1 (a0 148 ((a0 154 (y3.toNat)).toNat)))) y3 (show (((300 - y3) * 1) + 0).toNat ≤ n from by omega) (show 0 ≤ y1 from by omega) (show y1 ≤ 39 from by omega) (show 0 ≤ y3 from by omega) (show y3 ≤ 299 from by omega) (show 1 ≤ a0 146 2 from by omega)
  have hc14 : ∀ (y1 y2 y3 : Int), (((300 - y3) * 1) + 0).toNat ≤ n → 0 ≤ y1 → y1 ≤ 39 → 0 ≤ y3 → y3 ≤ 300 → 1 ≤ a0 146 2 → jt (jxX E d 261 14 [some (.inr (.inr (.inl 146))), some (.inl y1), some (.inl y2), some (.inl y3)] [] (jxSH, a0, b0)) (jQ_X12_album x1 a0 b0) := by
    intro y1 y2 y3 hm hi0 hi1 hi2 hi3 hi4
    refine jt_eq (bq_X12_album_14 E d y1 y2 y3 a0 b0) ?_
    have h138_ := iv_get hv0 (k := 146) (j := 2) (l := 0) (u := 40) rfl
    have h139_ := iv_get hv0 (k := 146) (j := 9) (l := 0) (u := 300) rfl
    refine jt_ite (fun c140_ => ?_) (fun c140_ => ?_)
    ·
      refine jt_grd (by omega) ?_
      have h141_ := iv_get hv0 (k := 155) (j := y3.toNat) (l := 0) (u := 39) rfl
      refine jt_ite (fun c142_ => ?_) (fun c142_ => ?_)
      ·
        refine jt_bI (sp_X12_hasArrived E d (jd_le hd rfl) y3 a0 b0 hv0 (show (0 ≤ y3 ∧ y3 ≤ 299) from by omega)) (fun r143_ a143_ b143_ h143_ => ?_)
        obtain ⟨rfl, rfl, hq143_0, hq143_1⟩ := h143_
        refine jt_ite (fun c144_ => ?_) (fun c144_ => ?_)
        ·
          exact hc56 y1 y2 y3 (show (((300 - y3) * 1) + 0).toNat ≤ n from by omega) (show 0 ≤ y1 from by omega) (show y1 ≤ 39 from by omega) (show 0 ≤ y3 from by omega) (show y3 ≤ 299 from by omega) (show 1 ≤ a0 146 2 from by omega)
        ·
          exact hc40 y1 y2 y3 (show (((300 - y3) * 1) + 0).toNat ≤ n from by omega) (show 0 ≤ y1 from by omega) (show y1 ≤ 39 from by omega) (show 0 ≤ y3 from by omega) (show y3 ≤ 299 from by omega) (show 1 ≤ a0 146 2 from by omega)
      ·
        exact hc56 y1 y2 y3 (show (((300 - y3) * 1) + 0).toNat ≤ n from by omega) (show 0 ≤ y1 from by omega) (show y1 ≤ 39 from by omega) (show 0 ≤ y3 from by omega) (show y3 ≤ 299 from by omega) (show 1 ≤ a0 146 2 from by omega)
    ·
      exact jt_rI ⟨rfl, rfl, (show (a0 146 2 = 0 → y2 = 0 - 1) from by omega)⟩
  exact ⟨hc56, hc40, hc14⟩
theorem sp_X12_album (E : jxE) (d : Nat) (hd : Nat.ble 5 d = true) (x1 : Int) (a0 b0 : Nat → Nat → Int) (hv0 : iv a0) : jt (jxC E d 261 [.inr (.inr (.inl 146)), .inl x1] (jxSH, a0, b0)) (jQ_X12_album x1 a0 b0) := by
  obtain ⟨d, rfl⟩ := jd_succ hd
  refine jt_eq (bq_X12_album E d x1 a0 b0) ?_
  refine jt_eI (eq_X12_isMember E d (jd_le hd rfl) x1 a0 b0) ?_
  have h145_ := f_X12_isMember_eq a0 b0 x1
  have h146_ := iv_get hv0 (k := 146) (j := 2) (l := 0) (u := 40) rfl
  have h147_ : jxw ((a0 146 2) - 1) = (a0 146 2) - 1 := jxw_id (by omega) (by omega)
  have h148_ := f_X12_in_eq a0 b0 x1 0 (jxw ((a0 146 2) - 1))
  refine jt_ite (fun c149_ => ?_) (fun c149_ => ?_)
  ·
    exact jt_rI ⟨rfl, rfl, (show (a0 146 2 = 0 → (-1) = 0 - 1) from by omega)⟩
  ·
    exact (cp_X12_album_14 E d hd x1 a0 b0 hv0 _).2.2 x1 0 0 (Nat.le_refl _) (show 0 ≤ x1 from by omega) (show x1 ≤ 39 from by omega) (show 0 ≤ 0 from by omega) (show 0 ≤ 300 from by omega) (show 1 ≤ a0 146 2 from by omega)
def jWts : List (Nat × Nat) := [(161, 9999), (162, 9999), (163, 9999)]
def jW_X12_tells : List (Nat × Nat) := [(146, 17), (160, 9999), (161, 9999), (162, 9999), (163, 9999)]
abbrev jQ_X12_tells (x1 x2 : Int) (a0 b0 : Nat → Nat → Int) : List jxV → (Nat → Nat → Int) → (Nat → Nat → Int) → Prop := rV (fun a b => (iv a) ∧ (jfr jW_X12_tells a0 a) ∧ (b0 = b) ∧ (cvR a = vTell (cvR a0) x1 x2 (a0 146 0)))
theorem cp_X12_tells_33 (E : jxE) (d : Nat) (hd : Nat.ble 1 (d + 1) = true) (x1 x2 : Int) (a0 b0 : Nat → Nat → Int) (hv0 : iv a0) (hp0 : (0 ≤ x1 ∧ x1 ≤ 299)) (hp1 : a0 146 17 ≤ 599) : ∀ (y1 : Int) (a : Nat → Nat → Int), iv a → jfr jW_X12_tells a0 a → 0 ≤ y1 → y1 ≤ 299 → (jfr jWts a0 a) → (y1 = x1) → (a 161 = rup (a0 161) (a0 146 17).toNat x1 ∧ a 162 = rup (a0 162) (a0 146 17).toNat x2 ∧ a 163 = rup (a0 163) (a0 146 17).toNat (a0 146 0)) → a 146 17 ≤ 599 → jt (jxX E d 256 33 [some (.inr (.inr (.inl 146))), some (.inl y1), none] [] (jxSH, a, b0)) (jQ_X12_tells x1 x2 a0 b0) := by
  intro y1 a hv hf hi0 hi1 hfa hy1 hr1 hi5
  refine jt_eq (bq_X12_tells_33 E d y1 a b0) ?_
  have h150_ := iv_get hv (k := 146) (j := 17) (l := 0) (u := 600) rfl
  have e17 := hfa 146 17 rfl
  refine jt_grd (by omega) ?_
  have hv151_ : iv (jxu a 160 (y1.toNat) (a 146 17)) := iv_put hv (l := (-1)) (u := 599) rfl (by omega) (by omega)
  have h153_ : jxw ((a 146 17) + 1) = (a 146 17) + 1 := jxw_id (by omega) (by omega)
  have hv152_ : iv (jxu (jxu a 160 (y1.toNat) (a 146 17)) 146 17 (jxw ((a 146 17) + 1))) := iv_put hv151_ (l := 0) (u := 600) rfl (by omega) (by omega)
  have hf154_ : jfr jW_X12_tells a0 (jxu a 160 (y1.toNat) (a 146 17)) := jfr_put hf rfl
  have hf155_ : jfr jW_X12_tells a0 (jxu (jxu a 160 (y1.toNat) (a 146 17)) 146 17 (jxw ((a 146 17) + 1))) := jfr_put hf154_ rfl
  exact jt_rV ⟨hv152_, hf155_, rfl, (mkCV_eq (hfa 146 9 rfl) (show jxw ((a 146 17) + 1) = a0 146 17 + 1 from by omega) (funext fun j => hfa 154 j rfl) (funext fun j => hfa 155 j rfl) (funext fun j => hfa 156 j rfl) (funext fun j => hfa 157 j rfl) (funext fun j => hfa 158 j rfl) (funext fun j => hfa 159 j rfl) (funext fun j => by show (if j = y1.toNat then a 146 17 else a 160 j) = (if j = x1.toNat then a0 146 17 else a0 160 j); rw [show y1.toNat = x1.toNat from by omega, hfa 160 j rfl, show a 146 17 = a0 146 17 from by omega]) hr1.1 hr1.2.1 hr1.2.2)⟩
theorem sp_X12_tells (E : jxE) (d : Nat) (hd : Nat.ble 1 d = true) (x1 x2 : Int) (a0 b0 : Nat → Nat → Int) (hv0 : iv a0) (hp0 : (0 ≤ x1 ∧ x1 ≤ 299)) (hp1 : a0 146 17 ≤ 599) : jt (jxC E d 256 [.inr (.inr (.inl 146)), .inl x1, .inl x2] (jxSH, a0, b0)) (jQ_X12_tells x1 x2 a0 b0) := by
  obtain ⟨d, rfl⟩ := jd_succ hd
  refine jt_eq (bq_X12_tells E d x1 x2 a0 b0) ?_
  have h156_ := iv_get hv0 (k := 146) (j := 17) (l := 0) (u := 600) rfl
  refine jt_grd (by omega) ?_
  refine jt_grd (by omega) ?_
  refine jt_grd (by omega) ?_
  have hv157_ : iv (jxu a0 161 ((a0 146 17).toNat) x1) := iv_put hv0 (l := 0) (u := 299) rfl (by omega) (by omega)
  have hv158_ : iv (jxu (jxu a0 161 ((a0 146 17).toNat) x1) 162 ((a0 146 17).toNat) x2) := iv_putf hv157_ rfl
  have hv159_ : iv (jxu (jxu (jxu a0 161 ((a0 146 17).toNat) x1) 162 ((a0 146 17).toNat) x2) 163 ((a0 146 17).toNat) (a0 146 0)) := iv_putf hv158_ rfl
  have hf160_ : jfr jW_X12_tells a0 (jxu a0 161 ((a0 146 17).toNat) x1) := jfr_put (jfr_rf _ _) rfl
  have hf161_ : jfr jW_X12_tells a0 (jxu (jxu a0 161 ((a0 146 17).toNat) x1) 162 ((a0 146 17).toNat) x2) := jfr_put hf160_ rfl
  have hf162_ : jfr jW_X12_tells a0 (jxu (jxu (jxu a0 161 ((a0 146 17).toNat) x1) 162 ((a0 146 17).toNat) x2) 163 ((a0 146 17).toNat) (a0 146 0)) := jfr_put hf161_ rfl
  have hf163_ : jfr jWts a0 (jxu a0 161 ((a0 146 17).toNat) x1) := jfr_put (jfr_rf _ _) rfl
  have hf164_ : jfr jWts a0 (jxu (jxu a0 161 ((a0 146 17).toNat) x1) 162 ((a0 146 17).toNat) x2) := jfr_put hf163_ rfl
  have hf165_ : jfr jWts a0 (jxu (jxu (jxu a0 161 ((a0 146 17).toNat) x1) 162 ((a0 146 17).toNat) x2) 163 ((a0 146 17).toNat) (a0 146 0)) := jfr_put hf164_ rfl
  exact cp_X12_tells_33 E d hd x1 x2 a0 b0 hv0 hp0 hp1 x1 (jxu (jxu (jxu a0 161 ((a0 146 17).toNat) x1) 162 ((a0 146 17).toNat) x2) 163 ((a0 146 17).toNat) (a0 146 0)) hv159_ hf162_ (show 0 ≤ x1 from by omega) (show x1 ≤ 299 from by omega) hf165_ (by first | rfl | assumption) ⟨rfl, rfl, rfl⟩ (show a0 146 17 ≤ 599 from by omega)
def jWre : List (Nat × Nat) := []
def jW_X12_arrive : List (Nat × Nat) := [(146, 17), (160, 9999), (161, 9999), (162, 9999), (163, 9999)]
abbrev jQ_X12_arrive (x1 x2 : Int) (a0 b0 : Nat → Nat → Int) : List jxV → (Nat → Nat → Int) → (Nat → Nat → Int) → Prop := rI (fun r a b => (iv a) ∧ (jfr jW_X12_arrive a0 a) ∧ (b0 = b) ∧ ((0 ≤ r ∧ r ≤ 1)) ∧ ((a0 146 9 = 0 → r = 0)) ∧ ((((((((r = 1 ∧ 0 ≤ x1) ∧ x1 < a0 146 9) ∧ a0 159 (x1.toNat) = 0 - 1) ∧ ¬ a0 146 17 = 600) ∧ a0 156 (x1.toNat) ≤ x2) ∧ x2 ≤ a0 146 0) ∨ (r = 0 ∧ (((((x1 < 0 ∨ a0 146 9 ≤ x1) ∨ ¬ a0 159 (x1.toNat) = 0 - 1) ∨ a0 146 17 = 600) ∨ x2 < a0 156 (x1.toNat)) ∨ a0 146 0 < x2)))) ∧ (r = 1 → cvR a = vTell (cvR a0) x1 x2 (a0 146 0)) ∧ (r = 0 → cvR a = cvR a0))
theorem cp_X12_arrive_59 (E : jxE) (d : Nat) (hd : Nat.ble 2 (d + 1) = true) (x1 x2 : Int) (a0 b0 : Nat → Nat → Int) (hv0 : iv a0) : ∀ (a : Nat → Nat → Int), iv a → jfr jW_X12_arrive a0 a → 1 ≤ a0 146 9 → (((((0 ≤ x1 ∧ x1 < a0 146 9) ∧ a0 159 (x1.toNat) = 0 - 1) ∧ ¬ a0 146 17 = 600) ∧ a0 156 (x1.toNat) ≤ x2) ∧ x2 ≤ a0 146 0) → (cvR a = vTell (cvR a0) x1 x2 (a0 146 0)) → jt (jxX E d 257 59 [none, none, none] [] (jxSH, a, b0)) (jQ_X12_arrive x1 x2 a0 b0) := by
  intro a hv hf hi0 hi1 hcv
  refine jt_eq (bq_X12_arrive_59 E d a b0) ?_
  have h166_ := iv_get hv0 (k := 146) (j := 9) (l := 0) (u := 300) rfl
  have h167_ := iv_get hv0 (k := 146) (j := 17) (l := 0) (u := 600) rfl
  have h168_ := iv_get hv0 (k := 156) (j := x1.toNat) (l := 0) (u := 1999) rfl
  have h169_ := iv_get hv0 (k := 146) (j := 0) (l := 0) (u := 1999) rfl
  exact jt_rI ⟨hv, hf, rfl, (show (0 ≤ 1 ∧ 1 ≤ 1) from by omega), (show (a0 146 9 = 0 → 1 = 0) from by omega), (show (((((((1 = 1 ∧ 0 ≤ x1) ∧ x1 < a0 146 9) ∧ a0 159 (x1.toNat) = 0 - 1) ∧ ¬ a0 146 17 = 600) ∧ a0 156 (x1.toNat) ≤ x2) ∧ x2 ≤ a0 146 0) ∨ (1 = 0 ∧ (((((x1 < 0 ∨ a0 146 9 ≤ x1) ∨ ¬ a0 159 (x1.toNat) = 0 - 1) ∨ a0 146 17 = 600) ∨ x2 < a0 156 (x1.toNat)) ∨ a0 146 0 < x2))) from by omega), (fun _ => hcv), (fun h => absurd h (by decide))⟩
theorem cp_X12_arrive_51 (E : jxE) (d : Nat) (hd : Nat.ble 2 (d + 1) = true) (x1 x2 : Int) (a0 b0 : Nat → Nat → Int) (hv0 : iv a0) : ∀ (a : Nat → Nat → Int), iv a → jfr jW_X12_arrive a0 a → (jfr jWre a0 a) → (((((x1 < 0 ∨ a0 146 9 ≤ x1) ∨ ¬ a0 159 (x1.toNat) = 0 - 1) ∨ a0 146 17 = 600) ∨ x2 < a0 156 (x1.toNat)) ∨ a0 146 0 < x2) → jt (jxX E d 257 51 [none, none, none] [] (jxSH, a, b0)) (jQ_X12_arrive x1 x2 a0 b0) := by
  intro a hv hf hfe hi1
  refine jt_eq (bq_X12_arrive_51 E d a b0) ?_
  have h170_ := iv_get hv0 (k := 146) (j := 9) (l := 0) (u := 300) rfl
  have h171_ := iv_get hv0 (k := 146) (j := 17) (l := 0) (u := 600) rfl
  have h172_ := iv_get hv0 (k := 156) (j := x1.toNat) (l := 0) (u := 1999) rfl
  have h173_ := iv_get hv0 (k := 146) (j := 0) (l := 0) (u := 1999) rfl
  exact jt_rI ⟨hv, hf, rfl, (show (0 ≤ 0 ∧ 0 ≤ 1) from by omega), (show (a0 146 9 = 0 → 0 = 0) from by omega), (show (((((((0 = 1 ∧ 0 ≤ x1) ∧ x1 < a0 146 9) ∧ a0 159 (x1.toNat) = 0 - 1) ∧ ¬ a0 146 17 = 600) ∧ a0 156 (x1.toNat) ≤ x2) ∧ x2 ≤ a0 146 0) ∨ (0 = 0 ∧ (((((x1 < 0 ∨ a0 146 9 ≤ x1) ∨ ¬ a0 159 (x1.toNat) = 0 - 1) ∨ a0 146 17 = 600) ∨ x2 < a0 156 (x1.toNat)) ∨ a0 146 0 < x2))) from by omega), (fun h => absurd h (by decide)), (fun _ => cvR_fr hfe rfl)⟩
theorem cp_X12_arrive_24 (E : jxE) (d : Nat) (hd : Nat.ble 2 (d + 1) = true) (x1 x2 : Int) (a0 b0 : Nat → Nat → Int) (hv0 : iv a0) : ∀ (y1 y2 : Int) (a : Nat → Nat → Int), iv a → jfr jW_X12_arrive a0 a → 0 ≤ y1 → y1 ≤ 299 → 1 ≤ a0 146 9 → (jfr jWre a0 a) → (y1 = x1) → (y2 = x2) → ((0 ≤ x1 ∧ x1 < a0 146 9) ∧ a0 159 (x1.toNat) = 0 - 1) → jt (jxX E d 257 24 [some (.inr (.inr (.inl 146))), some (.inl y1), some (.inl y2)] [] (jxSH, a, b0)) (jQ_X12_arrive x1 x2 a0 b0) := by
  intro y1 y2 a hv hf hi0 hi1 hi2 hfe hy1 hy2 hi6
  refine jt_eq (bq_X12_arrive_24 E d y1 y2 a b0) ?_
  have h174_ := iv_get hv0 (k := 146) (j := 9) (l := 0) (u := 300) rfl
  have e17 := hfe 146 17 rfl
  have e56 : a0 156 (y1.toNat) = a0 156 (x1.toNat) := by rw [hy1]
  have h175_ := iv_get hv (k := 146) (j := 17) (l := 0) (u := 600) rfl
  refine jt_ite (fun c176_ => ?_) (fun c176_ => ?_)
  ·
    have h177_ := iv_get hv0 (k := 146) (j := 17) (l := 0) (u := 600) rfl
    have h178_ := iv_get hv0 (k := 156) (j := x1.toNat) (l := 0) (u := 1999) rfl
    have h179_ := iv_get hv0 (k := 146) (j := 0) (l := 0) (u := 1999) rfl
    exact cp_X12_arrive_51 E d hd x1 x2 a0 b0 hv0 a hv hf hfe (show (((((x1 < 0 ∨ a0 146 9 ≤ x1) ∨ ¬ a0 159 (x1.toNat) = 0 - 1) ∨ a0 146 17 = 600) ∨ x2 < a0 156 (x1.toNat)) ∨ a0 146 0 < x2) from by omega)
  ·
    refine jt_grd (by omega) ?_
    refine jt_eI (eq_X12_in E d (jd_le hd rfl) y2 (a 156 (y1.toNat)) (a 146 0) a b0) ?_
    have h180_ := iv_get hv (k := 156) (j := y1.toNat) (l := 0) (u := 1999) rfl
    have h181_ : a 156 (y1.toNat) = a0 156 (y1.toNat) := hf 156 (y1.toNat) rfl
    have h182_ := iv_get hv0 (k := 156) (j := y1.toNat) (l := 0) (u := 1999) rfl
    have h183_ := iv_get hv (k := 146) (j := 0) (l := 0) (u := 1999) rfl
    have h184_ : a 146 0 = a0 146 0 := hf 146 0 rfl
    have h185_ := iv_get hv0 (k := 146) (j := 0) (l := 0) (u := 1999) rfl
    have h186_ := f_X12_in_eq a b0 y2 (a 156 (y1.toNat)) (a 146 0)
    refine jt_ite (fun c187_ => ?_) (fun c187_ => ?_)
    ·
      have h188_ := iv_get hv0 (k := 146) (j := 17) (l := 0) (u := 600) rfl
      have h189_ := iv_get hv0 (k := 156) (j := x1.toNat) (l := 0) (u := 1999) rfl
      exact cp_X12_arrive_51 E d hd x1 x2 a0 b0 hv0 a hv hf hfe (show (((((x1 < 0 ∨ a0 146 9 ≤ x1) ∨ ¬ a0 159 (x1.toNat) = 0 - 1) ∨ a0 146 17 = 600) ∨ x2 < a0 156 (x1.toNat)) ∨ a0 146 0 < x2) from by omega)
    ·
      refine jt_bV (sp_X12_tells E d (jd_le hd rfl) y1 y2 a b0 hv (show (0 ≤ y1 ∧ y1 ≤ 299) from by omega) (show a 146 17 ≤ 599 from by omega)) (fun a190_ b190_ h190_ => ?_)
      obtain ⟨hv190_, hf190_, rfl, hq190_0⟩ := h190_
      have hf191_ : jfr jW_X12_arrive a0 a190_ := jfr_tr hf hf190_ rfl
      have h192_ := iv_get hv0 (k := 146) (j := 17) (l := 0) (u := 600) rfl
      have h193_ := iv_get hv0 (k := 156) (j := x1.toNat) (l := 0) (u := 1999) rfl
      exact cp_X12_arrive_59 E d hd x1 x2 a0 b0 hv0 a190_ hv190_ hf191_ (show 1 ≤ a0 146 9 from by omega) (show (((((0 ≤ x1 ∧ x1 < a0 146 9) ∧ a0 159 (x1.toNat) = 0 - 1) ∧ ¬ a0 146 17 = 600) ∧ a0 156 (x1.toNat) ≤ x2) ∧ x2 ≤ a0 146 0) from by omega) (by have q := hq190_0; rw [hy1, hy2, hfe 146 0 rfl, show cvR a = cvR a0 from cvR_fr hfe rfl] at q; exact q)
theorem sp_X12_arrive (E : jxE) (d : Nat) (hd : Nat.ble 2 d = true) (x1 x2 : Int) (a0 b0 : Nat → Nat → Int) (hv0 : iv a0) : jt (jxC E d 257 [.inr (.inr (.inl 146)), .inl x1, .inl x2] (jxSH, a0, b0)) (jQ_X12_arrive x1 x2 a0 b0) := by
  obtain ⟨d, rfl⟩ := jd_succ hd
  refine jt_eq (bq_X12_arrive E d x1 x2 a0 b0) ?_
  refine jt_eI (eq_X12_in E d (jd_le hd rfl) x1 0 (jxw ((a0 146 9) - 1)) a0 b0) ?_
  have h194_ := iv_get hv0 (k := 146) (j := 9) (l := 0) (u := 300) rfl
  have h195_ : jxw ((a0 146 9) - 1) = (a0 146 9) - 1 := jxw_id (by omega) (by omega)
  have h196_ := f_X12_in_eq a0 b0 x1 0 (jxw ((a0 146 9) - 1))
  refine jt_ite (fun c197_ => ?_) (fun c197_ => ?_)
  ·
    have h198_ := iv_get hv0 (k := 146) (j := 17) (l := 0) (u := 600) rfl
    have h199_ := iv_get hv0 (k := 156) (j := x1.toNat) (l := 0) (u := 1999) rfl
    have h200_ := iv_get hv0 (k := 146) (j := 0) (l := 0) (u := 1999) rfl
    exact cp_X12_arrive_51 E d hd x1 x2 a0 b0 hv0 a0 hv0 (jfr_rf _ _) (jfr_rf _ _) (show (((((x1 < 0 ∨ a0 146 9 ≤ x1) ∨ ¬ a0 159 (x1.toNat) = 0 - 1) ∨ a0 146 17 = 600) ∨ x2 < a0 156 (x1.toNat)) ∨ a0 146 0 < x2) from by omega)
  ·
    refine jt_grd (by omega) ?_
    refine jt_ite (fun c201_ => ?_) (fun c201_ => ?_)
    ·
      exact cp_X12_arrive_24 E d hd x1 x2 a0 b0 hv0 x1 x2 a0 hv0 (jfr_rf _ _) (show 0 ≤ x1 from by omega) (show x1 ≤ 299 from by omega) (show 1 ≤ a0 146 9 from by omega) (jfr_rf _ _) (by first | rfl | assumption) (by first | rfl | assumption) (show ((0 ≤ x1 ∧ x1 < a0 146 9) ∧ a0 159 (x1.toNat) = 0 - 1) from by omega)
    ·
      have h202_ := iv_get hv0 (k := 146) (j := 17) (l := 0) (u := 600) rfl
      have h203_ := iv_get hv0 (k := 156) (j := x1.toNat) (l := 0) (u := 1999) rfl
      have h204_ := iv_get hv0 (k := 146) (j := 0) (l := 0) (u := 1999) rfl
      exact cp_X12_arrive_51 E d hd x1 x2 a0 b0 hv0 a0 hv0 (jfr_rf _ _) (jfr_rf _ _) (show (((((x1 < 0 ∨ a0 146 9 ≤ x1) ∨ ¬ a0 159 (x1.toNat) = 0 - 1) ∨ a0 146 17 = 600) ∨ x2 < a0 156 (x1.toNat)) ∨ a0 146 0 < x2) from by omega)
abbrev jQ_X12_lastSentTo (x1 : Int) (a0 b0 : Nat → Nat → Int) : List jxV → (Nat → Nat → Int) → (Nat → Nat → Int) → Prop := rI (fun r a b => (a0 = a) ∧ (b0 = b) ∧ (r = lsF (cvR a0) x1 (a0 146 9).toNat))
theorem cp_X12_lastSentTo_4 (E : jxE) (d : Nat) (hd : Nat.ble 1 (d + 1) = true) (x1 : Int) (a0 b0 : Nat → Nat → Int) (hv0 : iv a0) : ∀ n : Nat, (∀ (y1 y2 y3 : Int), (((300 - y3) * 1) + 0).toNat ≤ n → 0 - 1 ≤ y2 → y2 ≤ 1999 → 0 ≤ y3 → y3 ≤ 299 → 0 ≤ y3 → y1 = x1 → y3 < a0 146 9 → (y2 = lsF (cvR a0) x1 (y3.toNat + 1)) → jt (jxX E d 250 39 [some (.inr (.inr (.inl 146))), some (.inl y1), some (.inl y2), some (.inl y3)] [] (jxSH, a0, b0)) (jQ_X12_lastSentTo x1 a0 b0)) ∧ (∀ (y1 y3 : Int), (((300 - y3) * 1) + 0).toNat ≤ n → 0 ≤ y1 → y1 ≤ 39 → 0 ≤ y3 → y3 ≤ 299 → 0 ≤ y3 → y1 = x1 → y3 < a0 146 9 → (a0 156 y3.toNat = lsF (cvR a0) x1 (y3.toNat + 1)) → jt (jxX E d 250 32 [some (.inr (.inr (.inl 146))), some (.inl y1), none, some (.inl y3)] [] (jxSH, a0, b0)) (jQ_X12_lastSentTo x1 a0 b0)) ∧ (∀ (y1 y2 y3 : Int), (((300 - y3) * 1) + 0).toNat ≤ n → 0 - 1 ≤ y2 → y2 ≤ 1999 → 0 ≤ y3 → y3 ≤ 300 → 0 ≤ y3 → y1 = x1 → y3 ≤ a0 146 9 → (y2 = lsF (cvR a0) x1 y3.toNat) → jt (jxX E d 250 4 [some (.inr (.inr (.inl 146))), some (.inl y1), some (.inl y2), some (.inl y3)] [] (jxSH, a0, b0)) (jQ_X12_lastSentTo x1 a0 b0)) := by
  refine jx_ind fun n ih => ?_
  have ih39 : ∀ (y1 y2 y3 : Int), (((300 - y3) * 1) + 0).toNat < n → 0 - 1 ≤ y2 → y2 ≤ 1999 → 0 ≤ y3 → y3 ≤ 299 → 0 ≤ y3 → y1 = x1 → y3 < a0 146 9 → (y2 = lsF (cvR a0) x1 (y3.toNat + 1)) → jt (jxX E d 250 39 [some (.inr (.inr (.inl 146))), some (.inl y1), some (.inl y2), some (.inl y3)] [] (jxSH, a0, b0)) (jQ_X12_lastSentTo x1 a0 b0) := fun y1 y2 y3 hlt i0 i1 i2 i3 i4 i5 i6 i7 => (ih _ hlt).1 y1 y2 y3 (Nat.le_refl _) i0 i1 i2 i3 i4 i5 i6 i7
  have ih32 : ∀ (y1 y3 : Int), (((300 - y3) * 1) + 0).toNat < n → 0 ≤ y1 → y1 ≤ 39 → 0 ≤ y3 → y3 ≤ 299 → 0 ≤ y3 → y1 = x1 → y3 < a0 146 9 → (a0 156 y3.toNat = lsF (cvR a0) x1 (y3.toNat + 1)) → jt (jxX E d 250 32 [some (.inr (.inr (.inl 146))), some (.inl y1), none, some (.inl y3)] [] (jxSH, a0, b0)) (jQ_X12_lastSentTo x1 a0 b0) := fun y1 y3 hlt i0 i1 i2 i3 i4 i5 i6 i7 => (ih _ hlt).2.1 y1 y3 (Nat.le_refl _) i0 i1 i2 i3 i4 i5 i6 i7
  have ih4 : ∀ (y1 y2 y3 : Int), (((300 - y3) * 1) + 0).toNat < n → 0 - 1 ≤ y2 → y2 ≤ 1999 → 0 ≤ y3 → y3 ≤ 300 → 0 ≤ y3 → y1 = x1 → y3 ≤ a0 146 9 → (y2 = lsF (cvR a0) x1 y3.toNat) → jt (jxX E d 250 4 [some (.inr (.inr (.inl 146))), some (.inl y1), some (.inl y2), some (.inl y3)] [] (jxSH, a0, b0)) (jQ_X12_lastSentTo x1 a0 b0) := fun y1 y2 y3 hlt i0 i1 i2 i3 i4 i5 i6 i7 => (ih _ hlt).2.2 y1 y2 y3 (Nat.le_refl _) i0 i1 i2 i3 i4 i5 i6 i7
  have hc39 : ∀ (y1 y2 y3 : Int), (((300 - y3) * 1) + 0).toNat ≤ n → 0 - 1 ≤ y2 → y2 ≤ 1999 → 0 ≤ y3 → y3 ≤ 299 → 0 ≤ y3 → y1 = x1 → y3 < a0 146 9 → (y2 = lsF (cvR a0) x1 (y3.toNat + 1)) → jt (jxX E d 250 39 [some (.inr (.inr (.inl 146))), some (.inl y1), some (.inl y2), some (.inl y3)] [] (jxSH, a0, b0)) (jQ_X12_lastSentTo x1 a0 b0) := by
    intro y1 y2 y3 hm hi0 hi1 hi2 hi3 hi4 hi5 hi6 hl
    refine jt_eq (bq_X12_lastSentTo_39 E d y1 y2 y3 a0 b0) ?_
    have h205_ := iv_get hv0 (k := 146) (j := 9) (l := 0) (u := 300) rfl
    have h206_ : jxw (y3 + 1) = y3 + 1 := jxw_id (by omega) (by omega)
    exact ih4 y1 y2 (jxw (y3 + 1)) (show (((300 - (jxw (y3 + 1))) * 1) + 0).toNat < n from by omega) (show 0 - 1 ≤ y2 from by omega) (show y2 ≤ 1999 from by omega) (show 0 ≤ jxw (y3 + 1) from by omega) (show jxw (y3 + 1) ≤ 300 from by omega) (show 0 ≤ jxw (y3 + 1) from by omega) (show y1 = x1 from by omega) (show jxw (y3 + 1) ≤ a0 146 9 from by omega) (by first | rfl | (rw [show (jxw (y3 + 1)).toNat = y3.toNat + 1 from by omega]; exact hl))
  have hc32 : ∀ (y1 y3 : Int), (((300 - y3) * 1) + 0).toNat ≤ n → 0 ≤ y1 → y1 ≤ 39 → 0 ≤ y3 → y3 ≤ 299 → 0 ≤ y3 → y1 = x1 → y3 < a0 146 9 → (a0 156 y3.toNat = lsF (cvR a0) x1 (y3.toNat + 1)) → jt (jxX E d 250 32 [some (.inr (.inr (.inl 146))), some (.inl y1), none, some (.inl y3)] [] (jxSH, a0, b0)) (jQ_X12_lastSentTo x1 a0 b0) := by
    intro y1 y3 hm hi0 hi1 hi2 hi3 hi4 hi5 hi6 hl
    refine jt_eq (bq_X12_lastSentTo_32 E d y1 y3 a0 b0) ?_
    have h207_ := iv_get hv0 (k := 146) (j := 9) (l := 0) (u := 300) rfl
    refine jt_grd (by omega) ?_
    have h208_ := iv_get hv0 (k := 156) (j := y3.toNat) (l := 0) (u := 1999) rfl
    exact hc39 y1 (a0 156 (y3.toNat)) y3 (show (((300 - y3) * 1) + 0).toNat ≤ n from by omega) (show 0 - 1 ≤ a0 156 (y3.toNat) from by omega) (show a0 156 (y3.toNat) ≤ 1999 from by omega) (show 0 ≤ y3 from by omega) (show y3 ≤ 299 from by omega) (show 0 ≤ y3 from by omega) (show y1 = x1 from by omega) (show y3 < a0 146 9 from by omega) (by first | exact hl | (rw [hls, ← hl, if_neg (fun q => by omega)]))
  have hc4 : ∀ (y1 y2 y3 : Int), (((300 - y3) * 1) + 0).toNat ≤ n → 0 - 1 ≤ y2 → y2 ≤ 1999 → 0 ≤ y3 → y3 ≤ 300 → 0 ≤ y3 → y1 = x1 → y3 ≤ a0 146 9 → (y2 = lsF (cvR a0) x1 y3.toNat) → jt (jxX E d 250 4 [some (.inr (.inr (.inl 146))), some (.inl y1), some (.inl y2), some (.inl y3)] [] (jxSH, a0, b0)) (jQ_X12_lastSentTo x1 a0 b0) := by
    intro y1 y2 y3 hm hi0 hi1 hi2 hi3 hi4 hi5 hi6 hl
    refine jt_eq (bq_X12_lastSentTo_4 E d y1 y2 y3 a0 b0) ?_
    have h209_ := iv_get hv0 (k := 146) (j := 9) (l := 0) (u := 300) rfl
    have hls : lsF (cvR a0) x1 (y3.toNat + 1) = if a0 155 y3.toNat = x1 ∧ lsF (cvR a0) x1 y3.toNat < a0 156 y3.toNat then a0 156 y3.toNat else lsF (cvR a0) x1 y3.toNat := rfl
    refine jt_ite (fun c210_ => ?_) (fun c210_ => ?_)
    ·
      refine jt_grd (by omega) ?_
      have h211_ := iv_get hv0 (k := 155) (j := y3.toNat) (l := 0) (u := 39) rfl
      refine jt_ite (fun c212_ => ?_) (fun c212_ => ?_)
      ·
        refine jt_grd (by omega) ?_
        have h213_ := iv_get hv0 (k := 156) (j := y3.toNat) (l := 0) (u := 1999) rfl
        refine jt_ite (fun c214_ => ?_) (fun c214_ => ?_)
        ·
          exact hc32 y1 y3 (show (((300 - y3) * 1) + 0).toNat ≤ n from by omega) (show 0 ≤ y1 from by omega) (show y1 ≤ 39 from by omega) (show 0 ≤ y3 from by omega) (show y3 ≤ 299 from by omega) (show 0 ≤ y3 from by omega) (show y1 = x1 from by omega) (show y3 < a0 146 9 from by omega) (by rw [hls, ← hl, if_pos ⟨by omega, by omega⟩])
        ·
          exact hc39 y1 y2 y3 (show (((300 - y3) * 1) + 0).toNat ≤ n from by omega) (show 0 - 1 ≤ y2 from by omega) (show y2 ≤ 1999 from by omega) (show 0 ≤ y3 from by omega) (show y3 ≤ 299 from by omega) (show 0 ≤ y3 from by omega) (show y1 = x1 from by omega) (show y3 < a0 146 9 from by omega) (by first | exact hl | (rw [hls, ← hl, if_neg (fun q => by omega)]))
      ·
        exact hc39 y1 y2 y3 (show (((300 - y3) * 1) + 0).toNat ≤ n from by omega) (show 0 - 1 ≤ y2 from by omega) (show y2 ≤ 1999 from by omega) (show 0 ≤ y3 from by omega) (show y3 ≤ 299 from by omega) (show 0 ≤ y3 from by omega) (show y1 = x1 from by omega) (show y3 < a0 146 9 from by omega) (by first | exact hl | (rw [hls, ← hl, if_neg (fun q => by omega)]))
    ·
      exact jt_rI ⟨rfl, rfl, (by rw [show (a0 146 9).toNat = y3.toNat from by omega]; exact hl)⟩
  exact ⟨hc39, hc32, hc4⟩
theorem sp_X12_lastSentTo (E : jxE) (d : Nat) (hd : Nat.ble 1 d = true) (x1 : Int) (a0 b0 : Nat → Nat → Int) (hv0 : iv a0) : jt (jxC E d 250 [.inr (.inr (.inl 146)), .inl x1] (jxSH, a0, b0)) (jQ_X12_lastSentTo x1 a0 b0) := by
  obtain ⟨d, rfl⟩ := jd_succ hd
  refine jt_eq (bq_X12_lastSentTo E d x1 a0 b0) ?_
  have h215_ := iv_get hv0 (k := 146) (j := 9) (l := 0) (u := 300) rfl
  exact (cp_X12_lastSentTo_4 E d hd x1 a0 b0 hv0 _).2.2 x1 (-1) 0 (Nat.le_refl _) (show 0 - 1 ≤ (-1) from by omega) (show (-1) ≤ 1999 from by omega) (show 0 ≤ 0 from by omega) (show 0 ≤ 300 from by omega) (show 0 ≤ 0 from by omega) (show x1 = x1 from by omega) (show 0 ≤ a0 146 9 from by omega) (by first | rfl | (rw [show (jxw (y3 + 1)).toNat = y3.toNat + 1 from by omega]; exact hl))
def jW_X12_spans : List (Nat × Nat) := [(146, 39), (146, 40), (146, 41)]
abbrev jQ_X12_spans (x1 x2 : Int) (a0 b0 : Nat → Nat → Int) : List jxV → (Nat → Nat → Int) → (Nat → Nat → Int) → Prop := rV (fun a b => (iv a) ∧ (jfr jW_X12_spans a0 a) ∧ (b0 = b) ∧ ((a0 146 17 = 0 → a 146 39 = 0)) ∧ ((a 146 39, a 146 40, a 146 41) = SPR a0 x1 x2))
theorem cp_X12_spans_24 (E : jxE) (d : Nat) (hd : Nat.ble 1 (d + 1) = true) (x1 x2 : Int) (a0 b0 : Nat → Nat → Int) (hv0 : iv a0) : ∀ n : Nat, (∀ (y1 y2 y3 : Int) (a : Nat → Nat → Int), (((y3 + 1) * 1) + 0).toNat ≤ n → iv a → jfr jW_X12_spans a0 a → 0 ≤ y3 → y3 ≤ 599 → 1 ≤ a0 146 17 → y1 = x1 → y2 = x2 → 0 ≤ y3 → y3 < a0 146 17 → y3 ≤ 599 → (SPN (pR a0 x1 x2) (dR a0) 1 y3.toNat (a 146 39, a 146 40, a 146 41) = SPR a0 x1 x2) → jt (jxX E d 238 182 [some (.inr (.inr (.inl 146))), some (.inl y1), some (.inl y2), some (.inl y3), none, none] [] (jxSH, a, b0)) (jQ_X12_spans x1 x2 a0 b0)) ∧ (∀ (y1 y2 y3 s1 : Int) (a : Nat → Nat → Int), (((y3 + 1) * 1) + 0).toNat ≤ n → iv a → jfr jW_X12_spans a0 a → 0 ≤ y1 → y1 ≤ 15 → 0 ≤ y2 → y2 ≤ 15 → 0 ≤ y3 → y3 ≤ 599 → a 146 39 ≤ 9 → 1 ≤ a0 146 17 → y1 = x1 → y2 = x2 → 0 ≤ y3 → y3 < a0 146 17 → y3 ≤ 599 → a 146 39 < 10 → (SPN (pR a0 x1 x2) (dR a0) 1 y3.toNat (a 146 39 + 1, a 146 40, s1) = SPR a0 x1 x2) → jt (jxX E d 238 169 [some (.inr (.inr (.inl 146))), some (.inl y1), some (.inl y2), some (.inl y3), none, none] [.inl s1, .inr (.inr (.inl 146))] (jxSH, a, b0)) (jQ_X12_spans x1 x2 a0 b0)) ∧ (∀ (y1 y2 y3 y5 s1 : Int) (a : Nat → Nat → Int), (((y3 + 1) * 1) + 0).toNat ≤ n → iv a → jfr jW_X12_spans a0 a → 0 ≤ y1 → y1 ≤ 15 → 0 ≤ y2 → y2 ≤ 15 → 0 ≤ y3 → y3 ≤ 599 → a 146 39 ≤ 9 → 1 ≤ a0 146 17 → y1 = x1 → y2 = x2 → 0 ≤ y3 → y3 < a0 146 17 → y3 ≤ 599 → a 146 39 < 10 → (SPN (pR a0 x1 x2) (dR a0) 1 (y3.toNat + 1) (a 146 39, a 146 40, a 146 41) = SPR a0 x1 x2) → (pR a0 x1 x2 y3.toNat = 1) → (y5 = dR a0 y3.toNat) → (s1 = if y5 < a 146 40 then y5 else a 146 40) → jt (jxX E d 238 147 [some (.inr (.inr (.inl 146))), some (.inl y1), some (.inl y2), some (.inl y3), none, some (.inl y5)] [.inl s1, .inr (.inr (.inl 146))] (jxSH, a, b0)) (jQ_X12_spans x1 x2 a0 b0)) ∧ (∀ (y1 y2 y3 y5 : Int) (a : Nat → Nat → Int), (((y3 + 1) * 1) + 0).toNat ≤ n → iv a → jfr jW_X12_spans a0 a → 0 ≤ y1 → y1 ≤ 15 → 0 ≤ y2 → y2 ≤ 15 → 0 ≤ y3 → y3 ≤ 599 → a 146 39 ≤ 9 → 1 ≤ a0 146 17 → y1 = x1 → y2 = x2 → 0 ≤ y3 → y3 < a0 146 17 → y3 ≤ 599 → a 146 39 < 10 → (SPN (pR a0 x1 x2) (dR a0) 1 (y3.toNat + 1) (a 146 39, a 146 40, a 146 41) = SPR a0 x1 x2) → (pR a0 x1 x2 y3.toNat = 1) → (y5 = dR a0 y3.toNat) → jt (jxX E d 238 128 [some (.inr (.inr (.inl 146))), some (.inl y1), some (.inl y2), some (.inl y3), none, some (.inl y5)] [] (jxSH, a, b0)) (jQ_X12_spans x1 x2 a0 b0)) ∧ (∀ (y1 y2 y3 y4 : Int) (a : Nat → Nat → Int), (((y3 + 1) * 1) + 0).toNat ≤ n → iv a → jfr jW_X12_spans a0 a → 0 ≤ y1 → y1 ≤ 15 → 0 ≤ y3 → y3 ≤ 599 → 0 ≤ y4 → y4 ≤ 299 → a 146 39 ≤ 9 → 1 ≤ a0 146 17 → y1 = x1 → y2 = x2 → 0 ≤ y3 → y3 < a0 146 17 → y3 ≤ 599 → a 146 39 < 10 → (SPN (pR a0 x1 x2) (dR a0) 1 (y3.toNat + 1) (a 146 39, a 146 40, a 146 41) = SPR a0 x1 x2) → (y4 = a0 161 y3.toNat) → (a0 160 y4.toNat = y3) → (¬ a0 162 y3.toNat = -1 ∧ a0 159 y4.toNat = -1 ∧ a0 148 (a0 154 y4.toNat).toNat = x1) → jt (jxX E d 238 93 [some (.inr (.inr (.inl 146))), some (.inl y1), some (.inl y2), some (.inl y3), some (.inl y4), none] [] (jxSH, a, b0)) (jQ_X12_spans x1 x2 a0 b0)) ∧ (∀ (y1 y2 y3 y4 : Int) (a : Nat → Nat → Int), (((y3 + 1) * 1) + 0).toNat ≤ n → iv a → jfr jW_X12_spans a0 a → 0 ≤ y3 → y3 ≤ 599 → 0 ≤ y4 → y4 ≤ 299 → a 146 39 ≤ 9 → 1 ≤ a0 146 17 → y1 = x1 → y2 = x2 → 0 ≤ y3 → y3 < a0 146 17 → y3 ≤ 599 → a 146 39 < 10 → (SPN (pR a0 x1 x2) (dR a0) 1 (y3.toNat + 1) (a 146 39, a 146 40, a 146 41) = SPR a0 x1 x2) → (y4 = a0 161 y3.toNat) → (a0 160 y4.toNat = y3) → jt (jxX E d 238 56 [some (.inr (.inr (.inl 146))), some (.inl y1), some (.inl y2), some (.inl y3), some (.inl y4), none] [] (jxSH, a, b0)) (jQ_X12_spans x1 x2 a0 b0)) ∧ (∀ (y1 y2 y3 : Int) (a : Nat → Nat → Int), (((y3 + 1) * 1) + 0).toNat ≤ n → iv a → jfr jW_X12_spans a0 a → 0 - 1 ≤ y3 → y3 ≤ 599 → (a0 146 17 = 0 → (y3 < 0 ∧ a 146 39 = 0)) → y1 = x1 → y2 = x2 → 0 - 1 ≤ y3 → y3 < a0 146 17 → (SPN (pR a0 x1 x2) (dR a0) 1 (y3 + 1).toNat (a 146 39, a 146 40, a 146 41) = SPR a0 x1 x2) → jt (jxX E d 238 24 [some (.inr (.inr (.inl 146))), some (.inl y1), some (.inl y2), some (.inl y3), none, none] [] (jxSH, a, b0)) (jQ_X12_spans x1 x2 a0 b0)) := by
  refine jx_ind fun n ih => ?_
  have ih182 : ∀ (y1 y2 y3 : Int) (a : Nat → Nat → Int), (((y3 + 1) * 1) + 0).toNat < n → iv a → jfr jW_X12_spans a0 a → 0 ≤ y3 → y3 ≤ 599 → 1 ≤ a0 146 17 → y1 = x1 → y2 = x2 → 0 ≤ y3 → y3 < a0 146 17 → y3 ≤ 599 → (SPN (pR a0 x1 x2) (dR a0) 1 y3.toNat (a 146 39, a 146 40, a 146 41) = SPR a0 x1 x2) → jt (jxX E d 238 182 [some (.inr (.inr (.inl 146))), some (.inl y1), some (.inl y2), some (.inl y3), none, none] [] (jxSH, a, b0)) (jQ_X12_spans x1 x2 a0 b0) := fun y1 y2 y3 a hlt i0 i1 i2 i3 i4 i5 i6 i7 i8 i9 i10 => (ih _ hlt).1 y1 y2 y3 a (Nat.le_refl _) i0 i1 i2 i3 i4 i5 i6 i7 i8 i9 i10
  have ih169 : ∀ (y1 y2 y3 s1 : Int) (a : Nat → Nat → Int), (((y3 + 1) * 1) + 0).toNat < n → iv a → jfr jW_X12_spans a0 a → 0 ≤ y1 → y1 ≤ 15 → 0 ≤ y2 → y2 ≤ 15 → 0 ≤ y3 → y3 ≤ 599 → a 146 39 ≤ 9 → 1 ≤ a0 146 17 → y1 = x1 → y2 = x2 → 0 ≤ y3 → y3 < a0 146 17 → y3 ≤ 599 → a 146 39 < 10 → (SPN (pR a0 x1 x2) (dR a0) 1 y3.toNat (a 146 39 + 1, a 146 40, s1) = SPR a0 x1 x2) → jt (jxX E d 238 169 [some (.inr (.inr (.inl 146))), some (.inl y1), some (.inl y2), some (.inl y3), none, none] [.inl s1, .inr (.inr (.inl 146))] (jxSH, a, b0)) (jQ_X12_spans x1 x2 a0 b0) := fun y1 y2 y3 s1 a hlt i0 i1 i2 i3 i4 i5 i6 i7 i8 i9 i10 i11 i12 i13 i14 i15 i16 => (ih _ hlt).2.1 y1 y2 y3 s1 a (Nat.le_refl _) i0 i1 i2 i3 i4 i5 i6 i7 i8 i9 i10 i11 i12 i13 i14 i15 i16
  have ih147 : ∀ (y1 y2 y3 y5 s1 : Int) (a : Nat → Nat → Int), (((y3 + 1) * 1) + 0).toNat < n → iv a → jfr jW_X12_spans a0 a → 0 ≤ y1 → y1 ≤ 15 → 0 ≤ y2 → y2 ≤ 15 → 0 ≤ y3 → y3 ≤ 599 → a 146 39 ≤ 9 → 1 ≤ a0 146 17 → y1 = x1 → y2 = x2 → 0 ≤ y3 → y3 < a0 146 17 → y3 ≤ 599 → a 146 39 < 10 → (SPN (pR a0 x1 x2) (dR a0) 1 (y3.toNat + 1) (a 146 39, a 146 40, a 146 41) = SPR a0 x1 x2) → (pR a0 x1 x2 y3.toNat = 1) → (y5 = dR a0 y3.toNat) → (s1 = if y5 < a 146 40 then y5 else a 146 40) → jt (jxX E d 238 147 [some (.inr (.inr (.inl 146))), some (.inl y1), some (.inl y2), some (.inl y3), none, some (.inl y5)] [.inl s1, .inr (.inr (.inl 146))] (jxSH, a, b0)) (jQ_X12_spans x1 x2 a0 b0) := fun y1 y2 y3 y5 s1 a hlt i0 i1 i2 i3 i4 i5 i6 i7 i8 i9 i10 i11 i12 i13 i14 i15 i16 i17 i18 i19 => (ih _ hlt).2.2.1 y1 y2 y3 y5 s1 a (Nat.le_refl _) i0 i1 i2 i3 i4 i5 i6 i7 i8 i9 i10 i11 i12 i13 i14 i15 i16 i17 i18 i19
  have ih128 : ∀ (y1 y2 y3 y5 : Int) (a : Nat → Nat → Int), (((y3 + 1) * 1) + 0).toNat < n → iv a → jfr jW_X12_spans a0 a → 0 ≤ y1 → y1 ≤ 15 → 0 ≤ y2 → y2 ≤ 15 → 0 ≤ y3 → y3 ≤ 599 → a 146 39 ≤ 9 → 1 ≤ a0 146 17 → y1 = x1 → y2 = x2 → 0 ≤ y3 → y3 < a0 146 17 → y3 ≤ 599 → a 146 39 < 10 → (SPN (pR a0 x1 x2) (dR a0) 1 (y3.toNat + 1) (a 146 39, a 146 40, a 146 41) = SPR a0 x1 x2) → (pR a0 x1 x2 y3.toNat = 1) → (y5 = dR a0 y3.toNat) → jt (jxX E d 238 128 [some (.inr (.inr (.inl 146))), some (.inl y1), some (.inl y2), some (.inl y3), none, some (.inl y5)] [] (jxSH, a, b0)) (jQ_X12_spans x1 x2 a0 b0) := fun y1 y2 y3 y5 a hlt i0 i1 i2 i3 i4 i5 i6 i7 i8 i9 i10 i11 i12 i13 i14 i15 i16 i17 i18 => (ih _ hlt).2.2.2.1 y1 y2 y3 y5 a (Nat.le_refl _) i0 i1 i2 i3 i4 i5 i6 i7 i8 i9 i10 i11 i12 i13 i14 i15 i16 i17 i18
  have ih93 : ∀ (y1 y2 y3 y4 : Int) (a : Nat → Nat → Int), (((y3 + 1) * 1) + 0).toNat < n → iv a → jfr jW_X12_spans a0 a → 0 ≤ y1 → y1 ≤ 15 → 0 ≤ y3 → y3 ≤ 599 → 0 ≤ y4 → y4 ≤ 299 → a 146 39 ≤ 9 → 1 ≤ a0 146 17 → y1 = x1 → y2 = x2 → 0 ≤ y3 → y3 < a0 146 17 → y3 ≤ 599 → a 146 39 < 10 → (SPN (pR a0 x1 x2) (dR a0) 1 (y3.toNat + 1) (a 146 39, a 146 40, a 146 41) = SPR a0 x1 x2) → (y4 = a0 161 y3.toNat) → (a0 160 y4.toNat = y3) → (¬ a0 162 y3.toNat = -1 ∧ a0 159 y4.toNat = -1 ∧ a0 148 (a0 154 y4.toNat).toNat = x1) → jt (jxX E d 238 93 [some (.inr (.inr (.inl 146))), some (.inl y1), some (.inl y2), some (.inl y3), some (.inl y4), none] [] (jxSH, a, b0)) (jQ_X12_spans x1 x2 a0 b0) := fun y1 y2 y3 y4 a hlt i0 i1 i2 i3 i4 i5 i6 i7 i8 i9 i10 i11 i12 i13 i14 i15 i16 i17 i18 i19 => (ih _ hlt).2.2.2.2.1 y1 y2 y3 y4 a (Nat.le_refl _) i0 i1 i2 i3 i4 i5 i6 i7 i8 i9 i10 i11 i12 i13 i14 i15 i16 i17 i18 i19
  have ih56 : ∀ (y1 y2 y3 y4 : Int) (a : Nat → Nat → Int), (((y3 + 1) * 1) + 0).toNat < n → iv a → jfr jW_X12_spans a0 a → 0 ≤ y3 → y3 ≤ 599 → 0 ≤ y4 → y4 ≤ 299 → a 146 39 ≤ 9 → 1 ≤ a0 146 17 → y1 = x1 → y2 = x2 → 0 ≤ y3 → y3 < a0 146 17 → y3 ≤ 599 → a 146 39 < 10 → (SPN (pR a0 x1 x2) (dR a0) 1 (y3.toNat + 1) (a 146 39, a 146 40, a 146 41) = SPR a0 x1 x2) → (y4 = a0 161 y3.toNat) → (a0 160 y4.toNat = y3) → jt (jxX E d 238 56 [some (.inr (.inr (.inl 146))), some (.inl y1), some (.inl y2), some (.inl y3), some (.inl y4), none] [] (jxSH, a, b0)) (jQ_X12_spans x1 x2 a0 b0) := fun y1 y2 y3 y4 a hlt i0 i1 i2 i3 i4 i5 i6 i7 i8 i9 i10 i11 i12 i13 i14 i15 i16 => (ih _ hlt).2.2.2.2.2.1 y1 y2 y3 y4 a (Nat.le_refl _) i0 i1 i2 i3 i4 i5 i6 i7 i8 i9 i10 i11 i12 i13 i14 i15 i16
  have ih24 : ∀ (y1 y2 y3 : Int) (a : Nat → Nat → Int), (((y3 + 1) * 1) + 0).toNat < n → iv a → jfr jW_X12_spans a0 a → 0 - 1 ≤ y3 → y3 ≤ 599 → (a0 146 17 = 0 → (y3 < 0 ∧ a 146 39 = 0)) → y1 = x1 → y2 = x2 → 0 - 1 ≤ y3 → y3 < a0 146 17 → (SPN (pR a0 x1 x2) (dR a0) 1 (y3 + 1).toNat (a 146 39, a 146 40, a 146 41) = SPR a0 x1 x2) → jt (jxX E d 238 24 [some (.inr (.inr (.inl 146))), some (.inl y1), some (.inl y2), some (.inl y3), none, none] [] (jxSH, a, b0)) (jQ_X12_spans x1 x2 a0 b0) := fun y1 y2 y3 a hlt i0 i1 i2 i3 i4 i5 i6 i7 i8 i9 => (ih _ hlt).2.2.2.2.2.2 y1 y2 y3 a (Nat.le_refl _) i0 i1 i2 i3 i4 i5 i6 i7 i8 i9
  have hc182 : ∀ (y1 y2 y3 : Int) (a : Nat → Nat → Int), (((y3 + 1) * 1) + 0).toNat ≤ n → iv a → jfr jW_X12_spans a0 a → 0 ≤ y3 → y3 ≤ 599 → 1 ≤ a0 146 17 → y1 = x1 → y2 = x2 → 0 ≤ y3 → y3 < a0 146 17 → y3 ≤ 599 → (SPN (pR a0 x1 x2) (dR a0) 1 y3.toNat (a 146 39, a 146 40, a 146 41) = SPR a0 x1 x2) → jt (jxX E d 238 182 [some (.inr (.inr (.inl 146))), some (.inl y1), some (.inl y2), some (.inl y3), none, none] [] (jxSH, a, b0)) (jQ_X12_spans x1 x2 a0 b0) := by
    intro y1 y2 y3 a hm hv hf hi0 hi1 hi2 hi3 hi4 hi5 hi6 hi7 hm
    refine jt_eq (bq_X12_spans_182 E d y1 y2 y3 a b0) ?_
    have h216_ := iv_get hv0 (k := 146) (j := 17) (l := 0) (u := 600) rfl
    have h217_ : jxw (y3 + (-1)) = y3 + (-1) := jxw_id (by omega) (by omega)
    have h218_ := iv_get hv (k := 146) (j := 39) (l := 0) (u := 10) rfl
    exact ih24 y1 y2 (jxw (y3 + (-1))) a (show ((((jxw (y3 + (-1))) + 1) * 1) + 0).toNat < n from by omega) hv hf (show 0 - 1 ≤ jxw (y3 + (-1)) from by omega) (show jxw (y3 + (-1)) ≤ 599 from by omega) (show (a0 146 17 = 0 → (jxw (y3 + (-1)) < 0 ∧ a 146 39 = 0)) from by omega) (show y1 = x1 from by omega) (show y2 = x2 from by omega) (show 0 - 1 ≤ jxw (y3 + (-1)) from by omega) (show jxw (y3 + (-1)) < a0 146 17 from by omega) (by rw [show (jxw (y3 + (-1)) + 1).toNat = y3.toNat from by omega]; exact hm)
  have hc169 : ∀ (y1 y2 y3 s1 : Int) (a : Nat → Nat → Int), (((y3 + 1) * 1) + 0).toNat ≤ n → iv a → jfr jW_X12_spans a0 a → 0 ≤ y1 → y1 ≤ 15 → 0 ≤ y2 → y2 ≤ 15 → 0 ≤ y3 → y3 ≤ 599 → a 146 39 ≤ 9 → 1 ≤ a0 146 17 → y1 = x1 → y2 = x2 → 0 ≤ y3 → y3 < a0 146 17 → y3 ≤ 599 → a 146 39 < 10 → (SPN (pR a0 x1 x2) (dR a0) 1 y3.toNat (a 146 39 + 1, a 146 40, s1) = SPR a0 x1 x2) → jt (jxX E d 238 169 [some (.inr (.inr (.inl 146))), some (.inl y1), some (.inl y2), some (.inl y3), none, none] [.inl s1, .inr (.inr (.inl 146))] (jxSH, a, b0)) (jQ_X12_spans x1 x2 a0 b0) := by
    intro y1 y2 y3 s1 a hm hv hf hi0 hi1 hi2 hi3 hi4 hi5 hi6 hi7 hi8 hi9 hi10 hi11 hi12 hi13 hm
    refine jt_eq (bq_X12_spans_169 E d y1 y2 y3 s1 a b0) ?_
    have h219_ := iv_get hv (k := 146) (j := 39) (l := 0) (u := 10) rfl
    have h220_ := iv_get hv0 (k := 146) (j := 17) (l := 0) (u := 600) rfl
    have hv221_ : iv (jxu a 146 41 s1) := iv_putf hv rfl
    have h223_ : jxw ((a 146 39) + 1) = (a 146 39) + 1 := jxw_id (by omega) (by omega)
    have hv222_ : iv (jxu (jxu a 146 41 s1) 146 39 (jxw ((a 146 39) + 1))) := iv_put hv221_ (l := 0) (u := 10) rfl (by omega) (by omega)
    have hf224_ : jfr jW_X12_spans a0 (jxu a 146 41 s1) := jfr_put hf rfl
    have hf225_ : jfr jW_X12_spans a0 (jxu (jxu a 146 41 s1) 146 39 (jxw ((a 146 39) + 1))) := jfr_put hf224_ rfl
    exact hc182 y1 y2 y3 (jxu (jxu a 146 41 s1) 146 39 (jxw ((a 146 39) + 1))) (show (((y3 + 1) * 1) + 0).toNat ≤ n from by omega) hv222_ hf225_ (show 0 ≤ y3 from by omega) (show y3 ≤ 599 from by omega) (show 1 ≤ a0 146 17 from by omega) (show y1 = x1 from by omega) (show y2 = x2 from by omega) (show 0 ≤ y3 from by omega) (show y3 < a0 146 17 from by omega) (show y3 ≤ 599 from by omega) (by show SPN _ _ 1 y3.toNat (jxw ((a 146 39) + 1), a 146 40, s1) = _; rw [show jxw ((a 146 39) + 1) = a 146 39 + 1 from by omega]; exact hm)
  have hc147 : ∀ (y1 y2 y3 y5 s1 : Int) (a : Nat → Nat → Int), (((y3 + 1) * 1) + 0).toNat ≤ n → iv a → jfr jW_X12_spans a0 a → 0 ≤ y1 → y1 ≤ 15 → 0 ≤ y2 → y2 ≤ 15 → 0 ≤ y3 → y3 ≤ 599 → a 146 39 ≤ 9 → 1 ≤ a0 146 17 → y1 = x1 → y2 = x2 → 0 ≤ y3 → y3 < a0 146 17 → y3 ≤ 599 → a 146 39 < 10 → (SPN (pR a0 x1 x2) (dR a0) 1 (y3.toNat + 1) (a 146 39, a 146 40, a 146 41) = SPR a0 x1 x2) → (pR a0 x1 x2 y3.toNat = 1) → (y5 = dR a0 y3.toNat) → (s1 = if y5 < a 146 40 then y5 else a 146 40) → jt (jxX E d 238 147 [some (.inr (.inr (.inl 146))), some (.inl y1), some (.inl y2), some (.inl y3), none, some (.inl y5)] [.inl s1, .inr (.inr (.inl 146))] (jxSH, a, b0)) (jQ_X12_spans x1 x2 a0 b0) := by
    intro y1 y2 y3 y5 s1 a hm hv hf hi0 hi1 hi2 hi3 hi4 hi5 hi6 hi7 hi8 hi9 hi10 hi11 hi12 hi13 hm hp hy5 hs1
    refine jt_eq (bq_X12_spans_147 E d y1 y2 y3 y5 s1 a b0) ?_
    have h226_ := iv_get hv (k := 146) (j := 39) (l := 0) (u := 10) rfl
    have h227_ := iv_get hv0 (k := 146) (j := 17) (l := 0) (u := 600) rfl
    refine jt_ite (fun c228_ => ?_) (fun c228_ => ?_)
    ·
      have hv229_ : iv (jxu a 146 40 s1) := iv_putf hv rfl
      have hf230_ : jfr jW_X12_spans a0 (jxu a 146 40 s1) := jfr_put hf rfl
      exact hc169 y1 y2 y3 y5 (jxu a 146 40 s1) (show (((y3 + 1) * 1) + 0).toNat ≤ n from by omega) hv229_ hf230_ (show 0 ≤ y1 from by omega) (show y1 ≤ 15 from by omega) (show 0 ≤ y2 from by omega) (show y2 ≤ 15 from by omega) (show 0 ≤ y3 from by omega) (show y3 ≤ 599 from by omega) (show a 146 39 ≤ 9 from by omega) (show 1 ≤ a0 146 17 from by omega) (show y1 = x1 from by omega) (show y2 = x2 from by omega) (show 0 ≤ y3 from by omega) (show y3 < a0 146 17 from by omega) (show y3 ≤ 599 from by omega) (show a 146 39 < 10 from by omega) (by have q := hm; rw [SPN_yes (by omega) hp, if_neg (fun z => absurd z.2 (by decide)), ← hy5, ← hs1] at q; first | (rw [if_pos (by assumption)] at q; exact q) | (rw [if_neg (by assumption)] at q; exact q))
    ·
      have hv231_ : iv (jxu a 146 40 s1) := iv_putf hv rfl
      have hf232_ : jfr jW_X12_spans a0 (jxu a 146 40 s1) := jfr_put hf rfl
      exact hc169 y1 y2 y3 (a 146 41) (jxu a 146 40 s1) (show (((y3 + 1) * 1) + 0).toNat ≤ n from by omega) hv231_ hf232_ (show 0 ≤ y1 from by omega) (show y1 ≤ 15 from by omega) (show 0 ≤ y2 from by omega) (show y2 ≤ 15 from by omega) (show 0 ≤ y3 from by omega) (show y3 ≤ 599 from by omega) (show a 146 39 ≤ 9 from by omega) (show 1 ≤ a0 146 17 from by omega) (show y1 = x1 from by omega) (show y2 = x2 from by omega) (show 0 ≤ y3 from by omega) (show y3 < a0 146 17 from by omega) (show y3 ≤ 599 from by omega) (show a 146 39 < 10 from by omega) (by have q := hm; rw [SPN_yes (by omega) hp, if_neg (fun z => absurd z.2 (by decide)), ← hy5, ← hs1] at q; first | (rw [if_pos (by assumption)] at q; exact q) | (rw [if_neg (by assumption)] at q; exact q))
  have hc128 : ∀ (y1 y2 y3 y5 : Int) (a : Nat → Nat → Int), (((y3 + 1) * 1) + 0).toNat ≤ n → iv a → jfr jW_X12_spans a0 a → 0 ≤ y1 → y1 ≤ 15 → 0 ≤ y2 → y2 ≤ 15 → 0 ≤ y3 → y3 ≤ 599 → a 146 39 ≤ 9 → 1 ≤ a0 146 17 → y1 = x1 → y2 = x2 → 0 ≤ y3 → y3 < a0 146 17 → y3 ≤ 599 → a 146 39 < 10 → (SPN (pR a0 x1 x2) (dR a0) 1 (y3.toNat + 1) (a 146 39, a 146 40, a 146 41) = SPR a0 x1 x2) → (pR a0 x1 x2 y3.toNat = 1) → (y5 = dR a0 y3.toNat) → jt (jxX E d 238 128 [some (.inr (.inr (.inl 146))), some (.inl y1), some (.inl y2), some (.inl y3), none, some (.inl y5)] [] (jxSH, a, b0)) (jQ_X12_spans x1 x2 a0 b0) := by
    intro y1 y2 y3 y5 a hm hv hf hi0 hi1 hi2 hi3 hi4 hi5 hi6 hi7 hi8 hi9 hi10 hi11 hi12 hi13 hm hp hy5
    refine jt_eq (bq_X12_spans_128 E d y1 y2 y3 y5 a b0) ?_
    have h233_ := iv_get hv (k := 146) (j := 39) (l := 0) (u := 10) rfl
    have h234_ := iv_get hv0 (k := 146) (j := 17) (l := 0) (u := 600) rfl
    refine jt_ite (fun c235_ => ?_) (fun c235_ => ?_)
    ·
      exact hc147 y1 y2 y3 y5 y5 a (show (((y3 + 1) * 1) + 0).toNat ≤ n from by omega) hv hf (show 0 ≤ y1 from by omega) (show y1 ≤ 15 from by omega) (show 0 ≤ y2 from by omega) (show y2 ≤ 15 from by omega) (show 0 ≤ y3 from by omega) (show y3 ≤ 599 from by omega) (show a 146 39 ≤ 9 from by omega) (show 1 ≤ a0 146 17 from by omega) (show y1 = x1 from by omega) (show y2 = x2 from by omega) (show 0 ≤ y3 from by omega) (show y3 < a0 146 17 from by omega) (show y3 ≤ 599 from by omega) (show a 146 39 < 10 from by omega) hm hp hy5 (by first | rw [if_pos (by assumption)] | rw [if_neg (by assumption)])
    ·
      exact hc147 y1 y2 y3 y5 (a 146 40) a (show (((y3 + 1) * 1) + 0).toNat ≤ n from by omega) hv hf (show 0 ≤ y1 from by omega) (show y1 ≤ 15 from by omega) (show 0 ≤ y2 from by omega) (show y2 ≤ 15 from by omega) (show 0 ≤ y3 from by omega) (show y3 ≤ 599 from by omega) (show a 146 39 ≤ 9 from by omega) (show 1 ≤ a0 146 17 from by omega) (show y1 = x1 from by omega) (show y2 = x2 from by omega) (show 0 ≤ y3 from by omega) (show y3 < a0 146 17 from by omega) (show y3 ≤ 599 from by omega) (show a 146 39 < 10 from by omega) hm hp hy5 (by first | rw [if_pos (by assumption)] | rw [if_neg (by assumption)])
  have hc93 : ∀ (y1 y2 y3 y4 : Int) (a : Nat → Nat → Int), (((y3 + 1) * 1) + 0).toNat ≤ n → iv a → jfr jW_X12_spans a0 a → 0 ≤ y1 → y1 ≤ 15 → 0 ≤ y3 → y3 ≤ 599 → 0 ≤ y4 → y4 ≤ 299 → a 146 39 ≤ 9 → 1 ≤ a0 146 17 → y1 = x1 → y2 = x2 → 0 ≤ y3 → y3 < a0 146 17 → y3 ≤ 599 → a 146 39 < 10 → (SPN (pR a0 x1 x2) (dR a0) 1 (y3.toNat + 1) (a 146 39, a 146 40, a 146 41) = SPR a0 x1 x2) → (y4 = a0 161 y3.toNat) → (a0 160 y4.toNat = y3) → (¬ a0 162 y3.toNat = -1 ∧ a0 159 y4.toNat = -1 ∧ a0 148 (a0 154 y4.toNat).toNat = x1) → jt (jxX E d 238 93 [some (.inr (.inr (.inl 146))), some (.inl y1), some (.inl y2), some (.inl y3), some (.inl y4), none] [] (jxSH, a, b0)) (jQ_X12_spans x1 x2 a0 b0) := by
    intro y1 y2 y3 y4 a hm hv hf hi0 hi1 hi2 hi3 hi4 hi5 hi6 hi7 hi8 hi9 hi10 hi11 hi12 hi13 hm hy4 hlt hq93
    refine jt_eq (bq_X12_spans_93 E d y1 y2 y3 y4 a b0) ?_
    have h236_ := iv_get hv (k := 146) (j := 39) (l := 0) (u := 10) rfl
    have h237_ := iv_get hv0 (k := 146) (j := 17) (l := 0) (u := 600) rfl
    refine jt_grd (by omega) ?_
    have h238_ := iv_get hv (k := 155) (j := y4.toNat) (l := 0) (u := 39) rfl
    have h239_ : a 155 (y4.toNat) = a0 155 (y4.toNat) := hf 155 (y4.toNat) rfl
    have h240_ := iv_get hv0 (k := 155) (j := y4.toNat) (l := 0) (u := 39) rfl
    refine jt_grd (by omega) ?_
    have h241_ := iv_get hv (k := 148) (j := (a 155 (y4.toNat)).toNat) (l := 0) (u := 15) rfl
    have h242_ : a 148 ((a 155 (y4.toNat)).toNat) = a0 148 ((a 155 (y4.toNat)).toNat) := hf 148 ((a 155 (y4.toNat)).toNat) rfl
    have h243_ := iv_get hv0 (k := 148) (j := (a 155 (y4.toNat)).toNat) (l := 0) (u := 15) rfl
    refine jt_ite (fun c244_ => ?_) (fun c244_ => ?_)
    ·
      refine jt_grd (by omega) ?_
      refine jt_grd (by omega) ?_
      have h245_ : a 162 (y3.toNat) = a0 162 (y3.toNat) := hf 162 (y3.toNat) rfl
      have h246_ := iv_get hv (k := 156) (j := y4.toNat) (l := 0) (u := 1999) rfl
      have h247_ : a 156 (y4.toNat) = a0 156 (y4.toNat) := hf 156 (y4.toNat) rfl
      have h248_ := iv_get hv0 (k := 156) (j := y4.toNat) (l := 0) (u := 1999) rfl
      have h249_ := jxw_im ((a 162 (y3.toNat)) - (a 156 (y4.toNat)))
      have h250_ := jxw_rg ((a 162 (y3.toNat)) - (a 156 (y4.toNat)))
      exact hc128 y1 y2 y3 (jxw ((a 162 (y3.toNat)) - (a 156 (y4.toNat)))) a (show (((y3 + 1) * 1) + 0).toNat ≤ n from by omega) hv hf (show 0 ≤ y1 from by omega) (show y1 ≤ 15 from by omega) (show 0 ≤ y2 from by omega) (show y2 ≤ 15 from by omega) (show 0 ≤ y3 from by omega) (show y3 ≤ 599 from by omega) (show a 146 39 ≤ 9 from by omega) (show 1 ≤ a0 146 17 from by omega) (show y1 = x1 from by omega) (show y2 = x2 from by omega) (show 0 ≤ y3 from by omega) (show y3 < a0 146 17 from by omega) (show y3 ≤ 599 from by omega) (show a 146 39 < 10 from by omega) hm (pR_iff.2 (by rw [← hy4]; have e3 := hf 155 (y4.toNat) rfl; have e4 := hf 148 ((a 155 (y4.toNat)).toNat) rfl; rw [e3] at e4; exact ⟨by rw [hlt]; omega, hq93.1, hq93.2.1, hq93.2.2, by rw [← e4, ← e3]; omega⟩)) (by show _ = jxw (a0 162 y3.toNat - a0 156 (a0 161 y3.toNat).toNat); rw [← hy4, hf 162 _ rfl, hf 156 _ rfl])
    ·
      exact hc182 y1 y2 y3 a (show (((y3 + 1) * 1) + 0).toNat ≤ n from by omega) hv hf (show 0 ≤ y3 from by omega) (show y3 ≤ 599 from by omega) (show 1 ≤ a0 146 17 from by omega) (show y1 = x1 from by omega) (show y2 = x2 from by omega) (show 0 ≤ y3 from by omega) (show y3 < a0 146 17 from by omega) (show y3 ≤ 599 from by omega) (by have q := hm; rw [SPN_no (by omega) (fun h => by have z := pR_iff.1 h; rw [← hy4] at z; have e1 := hf 162 (y3.toNat) rfl; have e2 := hf 159 (y4.toNat) rfl; have e3 := hf 154 (y4.toNat) rfl; have e4 := hf 148 ((a 154 (y4.toNat)).toNat) rfl; have e5 := hf 155 (y4.toNat) rfl; have e6 := hf 148 ((a 155 (y4.toNat)).toNat) rfl; rw [← e3, ← e5, ← e4, ← e6] at z; omega)] at q; exact q)
  have hc56 : ∀ (y1 y2 y3 y4 : Int) (a : Nat → Nat → Int), (((y3 + 1) * 1) + 0).toNat ≤ n → iv a → jfr jW_X12_spans a0 a → 0 ≤ y3 → y3 ≤ 599 → 0 ≤ y4 → y4 ≤ 299 → a 146 39 ≤ 9 → 1 ≤ a0 146 17 → y1 = x1 → y2 = x2 → 0 ≤ y3 → y3 < a0 146 17 → y3 ≤ 599 → a 146 39 < 10 → (SPN (pR a0 x1 x2) (dR a0) 1 (y3.toNat + 1) (a 146 39, a 146 40, a 146 41) = SPR a0 x1 x2) → (y4 = a0 161 y3.toNat) → (a0 160 y4.toNat = y3) → jt (jxX E d 238 56 [some (.inr (.inr (.inl 146))), some (.inl y1), some (.inl y2), some (.inl y3), some (.inl y4), none] [] (jxSH, a, b0)) (jQ_X12_spans x1 x2 a0 b0) := by
    intro y1 y2 y3 y4 a hm hv hf hi0 hi1 hi2 hi3 hi4 hi5 hi6 hi7 hi8 hi9 hi10 hi11 hm hy4 hlt
    refine jt_eq (bq_X12_spans_56 E d y1 y2 y3 y4 a b0) ?_
    have h251_ := iv_get hv (k := 146) (j := 39) (l := 0) (u := 10) rfl
    have h252_ := iv_get hv0 (k := 146) (j := 17) (l := 0) (u := 600) rfl
    refine jt_grd (by omega) ?_
    have h253_ : a 162 (y3.toNat) = a0 162 (y3.toNat) := hf 162 (y3.toNat) rfl
    refine jt_ite (fun c254_ => ?_) (fun c254_ => ?_)
    ·
      exact hc182 y1 y2 y3 a (show (((y3 + 1) * 1) + 0).toNat ≤ n from by omega) hv hf (show 0 ≤ y3 from by omega) (show y3 ≤ 599 from by omega) (show 1 ≤ a0 146 17 from by omega) (show y1 = x1 from by omega) (show y2 = x2 from by omega) (show 0 ≤ y3 from by omega) (show y3 < a0 146 17 from by omega) (show y3 ≤ 599 from by omega) (by have q := hm; rw [SPN_no (by omega) (fun h => by have z := pR_iff.1 h; rw [← hy4] at z; have e1 := hf 162 (y3.toNat) rfl; have e2 := hf 159 (y4.toNat) rfl; have e3 := hf 154 (y4.toNat) rfl; have e4 := hf 148 ((a 154 (y4.toNat)).toNat) rfl; have e5 := hf 155 (y4.toNat) rfl; have e6 := hf 148 ((a 155 (y4.toNat)).toNat) rfl; rw [← e3, ← e5, ← e4, ← e6] at z; omega)] at q; exact q)
    ·
      refine jt_grd (by omega) ?_
      have h255_ : a 159 (y4.toNat) = a0 159 (y4.toNat) := hf 159 (y4.toNat) rfl
      refine jt_ite (fun c256_ => ?_) (fun c256_ => ?_)
      ·
        refine jt_grd (by omega) ?_
        have h257_ := iv_get hv (k := 154) (j := y4.toNat) (l := 0) (u := 39) rfl
        have h258_ : a 154 (y4.toNat) = a0 154 (y4.toNat) := hf 154 (y4.toNat) rfl
        have h259_ := iv_get hv0 (k := 154) (j := y4.toNat) (l := 0) (u := 39) rfl
        refine jt_grd (by omega) ?_
        have h260_ := iv_get hv (k := 148) (j := (a 154 (y4.toNat)).toNat) (l := 0) (u := 15) rfl
        have h261_ : a 148 ((a 154 (y4.toNat)).toNat) = a0 148 ((a 154 (y4.toNat)).toNat) := hf 148 ((a 154 (y4.toNat)).toNat) rfl
        have h262_ := iv_get hv0 (k := 148) (j := (a 154 (y4.toNat)).toNat) (l := 0) (u := 15) rfl
        refine jt_ite (fun c263_ => ?_) (fun c263_ => ?_)
        ·
          exact hc93 y1 y2 y3 y4 a (show (((y3 + 1) * 1) + 0).toNat ≤ n from by omega) hv hf (show 0 ≤ y1 from by omega) (show y1 ≤ 15 from by omega) (show 0 ≤ y3 from by omega) (show y3 ≤ 599 from by omega) (show 0 ≤ y4 from by omega) (show y4 ≤ 299 from by omega) (show a 146 39 ≤ 9 from by omega) (show 1 ≤ a0 146 17 from by omega) (show y1 = x1 from by omega) (show y2 = x2 from by omega) (show 0 ≤ y3 from by omega) (show y3 < a0 146 17 from by omega) (show y3 ≤ 599 from by omega) (show a 146 39 < 10 from by omega) hm (by first | assumption | exact hf 161 _ rfl) (by first | assumption | (rw [← hf 160 _ rfl]; assumption)) (by have e1 := hf 162 (y3.toNat) rfl; have e2 := hf 159 (y4.toNat) rfl; have e3 := hf 154 (y4.toNat) rfl; have e4 := hf 148 ((a 154 (y4.toNat)).toNat) rfl; rw [← e3, ← e4]; exact ⟨by omega, by omega, by omega⟩)
        ·
          exact hc182 y1 y2 y3 a (show (((y3 + 1) * 1) + 0).toNat ≤ n from by omega) hv hf (show 0 ≤ y3 from by omega) (show y3 ≤ 599 from by omega) (show 1 ≤ a0 146 17 from by omega) (show y1 = x1 from by omega) (show y2 = x2 from by omega) (show 0 ≤ y3 from by omega) (show y3 < a0 146 17 from by omega) (show y3 ≤ 599 from by omega) (by have q := hm; rw [SPN_no (by omega) (fun h => by have z := pR_iff.1 h; rw [← hy4] at z; have e1 := hf 162 (y3.toNat) rfl; have e2 := hf 159 (y4.toNat) rfl; have e3 := hf 154 (y4.toNat) rfl; have e4 := hf 148 ((a 154 (y4.toNat)).toNat) rfl; have e5 := hf 155 (y4.toNat) rfl; have e6 := hf 148 ((a 155 (y4.toNat)).toNat) rfl; rw [← e3, ← e5, ← e4, ← e6] at z; omega)] at q; exact q)
      ·
        exact hc182 y1 y2 y3 a (show (((y3 + 1) * 1) + 0).toNat ≤ n from by omega) hv hf (show 0 ≤ y3 from by omega) (show y3 ≤ 599 from by omega) (show 1 ≤ a0 146 17 from by omega) (show y1 = x1 from by omega) (show y2 = x2 from by omega) (show 0 ≤ y3 from by omega) (show y3 < a0 146 17 from by omega) (show y3 ≤ 599 from by omega) (by have q := hm; rw [SPN_no (by omega) (fun h => by have z := pR_iff.1 h; rw [← hy4] at z; have e1 := hf 162 (y3.toNat) rfl; have e2 := hf 159 (y4.toNat) rfl; have e3 := hf 154 (y4.toNat) rfl; have e4 := hf 148 ((a 154 (y4.toNat)).toNat) rfl; have e5 := hf 155 (y4.toNat) rfl; have e6 := hf 148 ((a 155 (y4.toNat)).toNat) rfl; rw [← e3, ← e5, ← e4, ← e6] at z; omega)] at q; exact q)
  have hc24 : ∀ (y1 y2 y3 : Int) (a : Nat → Nat → Int), (((y3 + 1) * 1) + 0).toNat ≤ n → iv a → jfr jW_X12_spans a0 a → 0 - 1 ≤ y3 → y3 ≤ 599 → (a0 146 17 = 0 → (y3 < 0 ∧ a 146 39 = 0)) → y1 = x1 → y2 = x2 → 0 - 1 ≤ y3 → y3 < a0 146 17 → (SPN (pR a0 x1 x2) (dR a0) 1 (y3 + 1).toNat (a 146 39, a 146 40, a 146 41) = SPR a0 x1 x2) → jt (jxX E d 238 24 [some (.inr (.inr (.inl 146))), some (.inl y1), some (.inl y2), some (.inl y3), none, none] [] (jxSH, a, b0)) (jQ_X12_spans x1 x2 a0 b0) := by
    intro y1 y2 y3 a hm hv hf hi0 hi1 hi2 hi3 hi4 hi5 hi6 hm
    refine jt_eq (bq_X12_spans_24 E d y1 y2 y3 a b0) ?_
    have h264_ := iv_get hv0 (k := 146) (j := 17) (l := 0) (u := 600) rfl
    have h265_ := iv_get hv (k := 146) (j := 39) (l := 0) (u := 10) rfl
    refine jt_ite (fun c266_ => ?_) (fun c266_ => ?_)
    ·
      exact jt_rV ⟨hv, hf, rfl, (show (a0 146 17 = 0 → a 146 39 = 0) from by omega), (by first | (have q := hm; rw [show (y3 + 1).toNat = 0 from by omega] at q; exact q) | (have q := hm; rw [SPN_stop (by omega)] at q; exact q))⟩
    ·
      refine jt_ite (fun c267_ => ?_) (fun c267_ => ?_)
      ·
        refine jt_grd (by omega) ?_
        have h268_ := iv_get hv (k := 161) (j := y3.toNat) (l := 0) (u := 299) rfl
        have h269_ : a 161 (y3.toNat) = a0 161 (y3.toNat) := hf 161 (y3.toNat) rfl
        have h270_ := iv_get hv0 (k := 161) (j := y3.toNat) (l := 0) (u := 299) rfl
        refine jt_grd (by omega) ?_
        have h271_ := iv_get hv (k := 160) (j := (a 161 (y3.toNat)).toNat) (l := (-1)) (u := 599) rfl
        have h272_ : a 160 ((a 161 (y3.toNat)).toNat) = a0 160 ((a 161 (y3.toNat)).toNat) := hf 160 ((a 161 (y3.toNat)).toNat) rfl
        have h273_ := iv_get hv0 (k := 160) (j := (a 161 (y3.toNat)).toNat) (l := (-1)) (u := 599) rfl
        refine jt_ite (fun c274_ => ?_) (fun c274_ => ?_)
        ·
          exact hc56 y1 y2 y3 (a 161 (y3.toNat)) a (show (((y3 + 1) * 1) + 0).toNat ≤ n from by omega) hv hf (show 0 ≤ y3 from by omega) (show y3 ≤ 599 from by omega) (show 0 ≤ a 161 (y3.toNat) from by omega) (show a 161 (y3.toNat) ≤ 299 from by omega) (show a 146 39 ≤ 9 from by omega) (show 1 ≤ a0 146 17 from by omega) (show y1 = x1 from by omega) (show y2 = x2 from by omega) (show 0 ≤ y3 from by omega) (show y3 < a0 146 17 from by omega) (show y3 ≤ 599 from by omega) (show a 146 39 < 10 from by omega) (by have q := hm; rw [show (y3 + 1).toNat = y3.toNat + 1 from by omega] at q; exact q) (by first | assumption | exact hf 161 _ rfl) (by first | assumption | (rw [← hf 160 _ rfl]; assumption))
        ·
          exact hc182 y1 y2 y3 a (show (((y3 + 1) * 1) + 0).toNat ≤ n from by omega) hv hf (show 0 ≤ y3 from by omega) (show y3 ≤ 599 from by omega) (show 1 ≤ a0 146 17 from by omega) (show y1 = x1 from by omega) (show y2 = x2 from by omega) (show 0 ≤ y3 from by omega) (show y3 < a0 146 17 from by omega) (show y3 ≤ 599 from by omega) (by have q := hm; rw [show (y3 + 1).toNat = y3.toNat + 1 from by omega] at q; rw [SPN_no (by omega) (fun h => by have z := pR_iff.1 h; have e1 := hf 160 ((a 161 (y3.toNat)).toNat) rfl; have e2 := hf 161 (y3.toNat) rfl; rw [← e2] at z; omega)] at q; exact q)
      ·
        exact jt_rV ⟨hv, hf, rfl, (show (a0 146 17 = 0 → a 146 39 = 0) from by omega), (by first | (have q := hm; rw [show (y3 + 1).toNat = 0 from by omega] at q; exact q) | (have q := hm; rw [SPN_stop (by omega)] at q; exact q))⟩
  exact ⟨hc182, hc169, hc147, hc128, hc93, hc56, hc24⟩
theorem sp_X12_spans (E : jxE) (d : Nat) (hd : Nat.ble 1 d = true) (x1 x2 : Int) (a0 b0 : Nat → Nat → Int) (hv0 : iv a0) : jt (jxC E d 238 [.inr (.inr (.inl 146)), .inl x1, .inl x2] (jxSH, a0, b0)) (jQ_X12_spans x1 x2 a0 b0) := by
  obtain ⟨d, rfl⟩ := jd_succ hd
  refine jt_eq (bq_X12_spans E d x1 x2 a0 b0) ?_
  have hv275_ : iv (jxu a0 146 39 0) := iv_put hv0 (l := 0) (u := 10) rfl (by omega) (by omega)
  have hv276_ : iv (jxu (jxu a0 146 39 0) 146 40 1000000) := iv_putf hv275_ rfl
  have hv277_ : iv (jxu (jxu (jxu a0 146 39 0) 146 40 1000000) 146 41 0) := iv_putf hv276_ rfl
  have hf278_ : jfr jW_X12_spans a0 (jxu a0 146 39 0) := jfr_put (jfr_rf _ _) rfl
  have hf279_ : jfr jW_X12_spans a0 (jxu (jxu a0 146 39 0) 146 40 1000000) := jfr_put hf278_ rfl
  have hf280_ : jfr jW_X12_spans a0 (jxu (jxu (jxu a0 146 39 0) 146 40 1000000) 146 41 0) := jfr_put hf279_ rfl
  have h281_ := iv_get hv0 (k := 146) (j := 17) (l := 0) (u := 600) rfl
  have h282_ : jxw ((a0 146 17) - 1) = (a0 146 17) - 1 := jxw_id (by omega) (by omega)
  exact (cp_X12_spans_24 E d hd x1 x2 a0 b0 hv0 _).2.2.2.2.2.2 x1 x2 (jxw ((a0 146 17) - 1)) (jxu (jxu (jxu a0 146 39 0) 146 40 1000000) 146 41 0) (Nat.le_refl _) hv277_ hf280_ (show 0 - 1 ≤ jxw ((a0 146 17) - 1) from by omega) (show jxw ((a0 146 17) - 1) ≤ 599 from by omega) (show (a0 146 17 = 0 → (jxw ((a0 146 17) - 1) < 0 ∧ 0 = 0)) from by omega) (show x1 = x1 from by omega) (show x2 = x2 from by omega) (show 0 - 1 ≤ jxw ((a0 146 17) - 1) from by omega) (show jxw ((a0 146 17) - 1) < a0 146 17 from by omega) (by show SPN _ _ 1 (jxw ((a0 146 17) - 1) + 1).toNat (0, 1000000, 0) = _; rw [show (jxw ((a0 146 17) - 1) + 1).toNat = (a0 146 17).toNat from by omega]; rfl)
def jWse1 : List (Nat × Nat) := [(146, 39), (146, 40), (146, 41)]
def jWse2 : List (Nat × Nat) := [(146, 39), (146, 40), (146, 41), (154, 9999), (155, 9999), (156, 9999)]
def jWse3 : List (Nat × Nat) := [(146, 39), (146, 40), (146, 41), (154, 9999), (155, 9999), (156, 9999), (157, 9999), (158, 9999), (159, 9999)]
def jW_X12_sends : List (Nat × Nat) := [(146, 9), (146, 39), (146, 40), (146, 41), (154, 9999), (155, 9999), (156, 9999), (157, 9999), (158, 9999), (159, 9999), (160, 9999)]
abbrev jQ_X12_sends (x1 x2 x3 : Int) (a0 b0 : Nat → Nat → Int) : List jxV → (Nat → Nat → Int) → (Nat → Nat → Int) → Prop := rI (fun r a b => (iv a) ∧ (jfr jW_X12_sends a0 a) ∧ (b0 = b) ∧ (a 146 9 = (a0 146 9) + 1) ∧ (a 154 (a0 146 9).toNat = x1 ∧ a 158 (a0 146 9).toNat = x3) ∧ (∀ c : Nat, (c : Int) < a0 146 9 → a 154 c = a0 154 c ∧ a 158 c = a0 158 c) ∧ (cvR a = vAdd (cvR a0) x1 x2 (a0 146 0) (BNR a0 (a0 148 x1.toNat) (a0 148 x2.toNat)) x3) ∧ (r = a0 146 9))
theorem cp_X12_sends_125 (E : jxE) (d : Nat) (hd : Nat.ble 2 (d + 1) = true) (x1 x2 x3 : Int) (a0 b0 : Nat → Nat → Int) (hv0 : iv a0) (hp0 : (0 ≤ x1 ∧ x1 ≤ 39)) (hp1 : (0 ≤ x2 ∧ x2 ≤ 39)) (hp2 : a0 146 9 ≤ 299) : ∀ (a : Nat → Nat → Int), iv a → jfr jW_X12_sends a0 a → (a 154 (a0 146 9).toNat = x1) → (a 158 (a0 146 9).toNat = x3) → (jfr jWse3 a0 a) → (a 154 = rup (a0 154) (a0 146 9).toNat x1 ∧ a 155 = rup (a0 155) (a0 146 9).toNat x2 ∧ a 156 = rup (a0 156) (a0 146 9).toNat (a0 146 0) ∧ a 157 = rup (a0 157) (a0 146 9).toNat (BNR a0 (a0 148 x1.toNat) (a0 148 x2.toNat)) ∧ a 158 = rup (a0 158) (a0 146 9).toNat x3 ∧ a 159 = rup (a0 159) (a0 146 9).toNat (-1)) → a 146 9 = a0 146 9 → (∀ c : Nat, (c : Int) < a0 146 9 → a 154 c = a0 154 c ∧ a 158 c = a0 158 c) → jt (jxX E d 240 125 [some (.inr (.inr (.inl 146))), none, none, none, none] [] (jxSH, a, b0)) (jQ_X12_sends x1 x2 x3 a0 b0) := by
  intro a hv hf hi0 hi1 hfe hr1 hi4 hol
  refine jt_eq (bq_X12_sends_125 E d a b0) ?_
  have h283_ := iv_get hv (k := 146) (j := 9) (l := 0) (u := 300) rfl
  have h284_ := iv_get hv0 (k := 146) (j := 9) (l := 0) (u := 300) rfl
  refine jt_grd (by omega) ?_
  have hv285_ : iv (jxu a 160 ((a 146 9).toNat) (-1)) := iv_put hv (l := (-1)) (u := 599) rfl (by omega) (by omega)
  have h287_ : jxw ((a 146 9) + 1) = (a 146 9) + 1 := jxw_id (by omega) (by omega)
  have hv286_ : iv (jxu (jxu a 160 ((a 146 9).toNat) (-1)) 146 9 (jxw ((a 146 9) + 1))) := iv_put hv285_ (l := 0) (u := 300) rfl (by omega) (by omega)
  have hf288_ : jfr jW_X12_sends a0 (jxu a 160 ((a 146 9).toNat) (-1)) := jfr_put hf rfl
  have hf289_ : jfr jW_X12_sends a0 (jxu (jxu a 160 ((a 146 9).toNat) (-1)) 146 9 (jxw ((a 146 9) + 1))) := jfr_put hf288_ rfl
  have h290_ : jxw ((jxw ((a 146 9) + 1)) - 1) = (jxw ((a 146 9) + 1)) - 1 := jxw_id (by omega) (by omega)
  exact jt_rI ⟨hv286_, hf289_, rfl, (show jxw ((a 146 9) + 1) = (a0 146 9) + 1 from by omega), (by constructor <;> simp [jxu] <;> omega), (by intro c hc; have hne : ¬ c = (a 146 9).toNat := (by omega); have h9 := hol c hc; simp [jxu, hne, h9]), (mkCV_eq (show jxw ((a 146 9) + 1) = a0 146 9 + 1 from by omega) (hfe 146 17 rfl) hr1.1 hr1.2.1 hr1.2.2.1 hr1.2.2.2.1 hr1.2.2.2.2.1 hr1.2.2.2.2.2 (funext fun j => by show (if j = (a 146 9).toNat then (-1) else a 160 j) = (if j = (a0 146 9).toNat then (-1) else a0 160 j); rw [show (a 146 9).toNat = (a0 146 9).toNat from by omega, hfe 160 j rfl]; first | done | (rw [show (-1) = (-1) from by first | omega | assumption | exact hfe 146 0 rfl])) (funext fun j => hfe 161 j rfl) (funext fun j => hfe 162 j rfl) (funext fun j => hfe 163 j rfl)), (show jxw ((jxw ((a 146 9) + 1)) - 1) = a0 146 9 from by omega)⟩
theorem cp_X12_sends_94 (E : jxE) (d : Nat) (hd : Nat.ble 2 (d + 1) = true) (x1 x2 x3 : Int) (a0 b0 : Nat → Nat → Int) (hv0 : iv a0) (hp0 : (0 ≤ x1 ∧ x1 ≤ 39)) (hp1 : (0 ≤ x2 ∧ x2 ≤ 39)) (hp2 : a0 146 9 ≤ 299) : ∀ (y3 y4 : Int) (a : Nat → Nat → Int), iv a → jfr jW_X12_sends a0 a → y3 = x3 → (a 154 (a0 146 9).toNat = x1) → (jfr jWse2 a0 a) → (a 154 = rup (a0 154) (a0 146 9).toNat x1 ∧ a 155 = rup (a0 155) (a0 146 9).toNat x2 ∧ a 156 = rup (a0 156) (a0 146 9).toNat (a0 146 0)) → (y4 = BNR a0 (a0 148 x1.toNat) (a0 148 x2.toNat)) → a 146 9 = a0 146 9 → (∀ c : Nat, (c : Int) < a0 146 9 → a 154 c = a0 154 c ∧ a 158 c = a0 158 c) → jt (jxX E d 240 94 [some (.inr (.inr (.inl 146))), none, none, some (.inl y3), some (.inl y4)] [] (jxSH, a, b0)) (jQ_X12_sends x1 x2 x3 a0 b0) := by
  intro y3 y4 a hv hf hi0 hi1 hfe hr1 hy4 hi5 hol
  refine jt_eq (bq_X12_sends_94 E d y3 y4 a b0) ?_
  have h291_ := iv_get hv (k := 146) (j := 9) (l := 0) (u := 300) rfl
  have h292_ := iv_get hv0 (k := 146) (j := 9) (l := 0) (u := 300) rfl
  refine jt_grd (by omega) ?_
  refine jt_grd (by omega) ?_
  refine jt_grd (by omega) ?_
  have hv293_ : iv (jxu a 157 ((a 146 9).toNat) y4) := iv_putf hv rfl
  have hv294_ : iv (jxu (jxu a 157 ((a 146 9).toNat) y4) 158 ((a 146 9).toNat) y3) := iv_putf hv293_ rfl
  have hv295_ : iv (jxu (jxu (jxu a 157 ((a 146 9).toNat) y4) 158 ((a 146 9).toNat) y3) 159 ((a 146 9).toNat) (-1)) := iv_putf hv294_ rfl
  have hf296_ : jfr jW_X12_sends a0 (jxu a 157 ((a 146 9).toNat) y4) := jfr_put hf rfl
  have hf297_ : jfr jW_X12_sends a0 (jxu (jxu a 157 ((a 146 9).toNat) y4) 158 ((a 146 9).toNat) y3) := jfr_put hf296_ rfl
  have hf298_ : jfr jW_X12_sends a0 (jxu (jxu (jxu a 157 ((a 146 9).toNat) y4) 158 ((a 146 9).toNat) y3) 159 ((a 146 9).toNat) (-1)) := jfr_put hf297_ rfl
  have hf299_ : jfr jWse3 a0 (jxu a 157 ((a 146 9).toNat) y4) := jfr_put (jfr_tr (jfr_rf _ _) hfe rfl) rfl
  have hf300_ : jfr jWse3 a0 (jxu (jxu a 157 ((a 146 9).toNat) y4) 158 ((a 146 9).toNat) y3) := jfr_put hf299_ rfl
  have hf301_ : jfr jWse3 a0 (jxu (jxu (jxu a 157 ((a 146 9).toNat) y4) 158 ((a 146 9).toNat) y3) 159 ((a 146 9).toNat) (-1)) := jfr_put hf300_ rfl
  exact cp_X12_sends_125 E d hd x1 x2 x3 a0 b0 hv0 hp0 hp1 hp2 (jxu (jxu (jxu a 157 ((a 146 9).toNat) y4) 158 ((a 146 9).toNat) y3) 159 ((a 146 9).toNat) (-1)) hv295_ hf298_ (by simp [jxu]; omega) (by rw [show (a0 146 9).toNat = (a 146 9).toNat from (by omega)]; simp [jxu]; omega) hf301_ ⟨hr1.1, hr1.2.1, hr1.2.2, (funext fun j => by show (if j = (a 146 9).toNat then y4 else a 157 j) = (if j = (a0 146 9).toNat then BNR a0 (a0 148 x1.toNat) (a0 148 x2.toNat) else a0 157 j); rw [show (a 146 9).toNat = (a0 146 9).toNat from by omega, hfe 157 j rfl]; first | done | (rw [show y4 = BNR a0 (a0 148 x1.toNat) (a0 148 x2.toNat) from by first | omega | assumption | exact hfe 146 0 rfl])), (funext fun j => by show (if j = (a 146 9).toNat then y3 else a 158 j) = (if j = (a0 146 9).toNat then x3 else a0 158 j); rw [show (a 146 9).toNat = (a0 146 9).toNat from by omega, hfe 158 j rfl]; first | done | (rw [show y3 = x3 from by first | omega | assumption | exact hfe 146 0 rfl])), (funext fun j => by show (if j = (a 146 9).toNat then (-1) else a 159 j) = (if j = (a0 146 9).toNat then (-1) else a0 159 j); rw [show (a 146 9).toNat = (a0 146 9).toNat from by omega, hfe 159 j rfl]; first | done | (rw [show (-1) = (-1) from by first | omega | assumption | exact hfe 146 0 rfl]))⟩ (show a 146 9 = a0 146 9 from by omega) (by intro c hc; have hne : ¬ c = (a 146 9).toNat := (by omega); have h9 := hol c hc; simp [jxu, hne, h9])
theorem cp_X12_sends_59 (E : jxE) (d : Nat) (hd : Nat.ble 2 (d + 1) = true) (x1 x2 x3 : Int) (a0 b0 : Nat → Nat → Int) (hv0 : iv a0) (hp0 : (0 ≤ x1 ∧ x1 ≤ 39)) (hp1 : (0 ≤ x2 ∧ x2 ≤ 39)) (hp2 : a0 146 9 ≤ 299) : ∀ (y1 y2 y3 s0 : Int) (a : Nat → Nat → Int), iv a → jfr jW_X12_sends a0 a → 0 ≤ y1 → y1 ≤ 39 → 0 ≤ y2 → y2 ≤ 39 → y1 = x1 → y2 = x2 → y3 = x3 → (jfr jWse1 a0 a) → (s0 = BNR a0 (a0 148 x1.toNat) (a0 148 x2.toNat)) → a 146 9 = a0 146 9 → (∀ c : Nat, (c : Int) < a0 146 9 → a 154 c = a0 154 c ∧ a 158 c = a0 158 c) → jt (jxX E d 240 59 [some (.inr (.inr (.inl 146))), some (.inl y1), some (.inl y2), some (.inl y3), none] [.inl s0] (jxSH, a, b0)) (jQ_X12_sends x1 x2 x3 a0 b0) := by
  intro y1 y2 y3 s0 a hv hf hi0 hi1 hi2 hi3 hi4 hi5 hi6 hfe hs0 hi9 hol
  refine jt_eq (bq_X12_sends_59 E d y1 y2 y3 s0 a b0) ?_
  have h302_ := iv_get hv (k := 146) (j := 9) (l := 0) (u := 300) rfl
  have h303_ := iv_get hv0 (k := 146) (j := 9) (l := 0) (u := 300) rfl
  refine jt_grd (by omega) ?_
  refine jt_grd (by omega) ?_
  refine jt_grd (by omega) ?_
  have hv304_ : iv (jxu a 154 ((a 146 9).toNat) y1) := iv_put hv (l := 0) (u := 39) rfl (by omega) (by omega)
  have hv305_ : iv (jxu (jxu a 154 ((a 146 9).toNat) y1) 155 ((a 146 9).toNat) y2) := iv_put hv304_ (l := 0) (u := 39) rfl (by omega) (by omega)
  have h307_ := iv_get hv (k := 146) (j := 0) (l := 0) (u := 1999) rfl
  have h308_ : a 146 0 = a0 146 0 := hf 146 0 rfl
  have h309_ := iv_get hv0 (k := 146) (j := 0) (l := 0) (u := 1999) rfl
  have hv306_ : iv (jxu (jxu (jxu a 154 ((a 146 9).toNat) y1) 155 ((a 146 9).toNat) y2) 156 ((a 146 9).toNat) (a 146 0)) := iv_put hv305_ (l := 0) (u := 1999) rfl (by omega) (by omega)
  have hf310_ : jfr jW_X12_sends a0 (jxu a 154 ((a 146 9).toNat) y1) := jfr_put hf rfl
  have hf311_ : jfr jW_X12_sends a0 (jxu (jxu a 154 ((a 146 9).toNat) y1) 155 ((a 146 9).toNat) y2) := jfr_put hf310_ rfl
  have hf312_ : jfr jW_X12_sends a0 (jxu (jxu (jxu a 154 ((a 146 9).toNat) y1) 155 ((a 146 9).toNat) y2) 156 ((a 146 9).toNat) (a 146 0)) := jfr_put hf311_ rfl
  have hf313_ : jfr jWse2 a0 (jxu a 154 ((a 146 9).toNat) y1) := jfr_put (jfr_tr (jfr_rf _ _) hfe rfl) rfl
  have hf314_ : jfr jWse2 a0 (jxu (jxu a 154 ((a 146 9).toNat) y1) 155 ((a 146 9).toNat) y2) := jfr_put hf313_ rfl
  have hf315_ : jfr jWse2 a0 (jxu (jxu (jxu a 154 ((a 146 9).toNat) y1) 155 ((a 146 9).toNat) y2) 156 ((a 146 9).toNat) (a 146 0)) := jfr_put hf314_ rfl
  exact cp_X12_sends_94 E d hd x1 x2 x3 a0 b0 hv0 hp0 hp1 hp2 y3 s0 (jxu (jxu (jxu a 154 ((a 146 9).toNat) y1) 155 ((a 146 9).toNat) y2) 156 ((a 146 9).toNat) (a 146 0)) hv306_ hf312_ (show y3 = x3 from by omega) (by rw [show (a0 146 9).toNat = (a 146 9).toNat from (by omega)]; simp [jxu]; omega) hf315_ ⟨(funext fun j => by show (if j = (a 146 9).toNat then y1 else a 154 j) = (if j = (a0 146 9).toNat then x1 else a0 154 j); rw [show (a 146 9).toNat = (a0 146 9).toNat from by omega, hfe 154 j rfl]; first | done | (rw [show y1 = x1 from by first | omega | assumption | exact hfe 146 0 rfl])), (funext fun j => by show (if j = (a 146 9).toNat then y2 else a 155 j) = (if j = (a0 146 9).toNat then x2 else a0 155 j); rw [show (a 146 9).toNat = (a0 146 9).toNat from by omega, hfe 155 j rfl]; first | done | (rw [show y2 = x2 from by first | omega | assumption | exact hfe 146 0 rfl])), (funext fun j => by show (if j = (a 146 9).toNat then a 146 0 else a 156 j) = (if j = (a0 146 9).toNat then a0 146 0 else a0 156 j); rw [show (a 146 9).toNat = (a0 146 9).toNat from by omega, hfe 156 j rfl]; first | done | (rw [show a 146 0 = a0 146 0 from by first | omega | assumption | exact hfe 146 0 rfl]))⟩ hs0 (show a 146 9 = a0 146 9 from by omega) (by intro c hc; have hne : ¬ c = (a 146 9).toNat := (by omega); have h9 := hol c hc; simp [jxu, hne, h9])
theorem cp_X12_sends_41 (E : jxE) (d : Nat) (hd : Nat.ble 2 (d + 1) = true) (x1 x2 x3 : Int) (a0 b0 : Nat → Nat → Int) (hv0 : iv a0) (hp0 : (0 ≤ x1 ∧ x1 ≤ 39)) (hp1 : (0 ≤ x2 ∧ x2 ≤ 39)) (hp2 : a0 146 9 ≤ 299) : ∀ (y1 y2 y3 : Int) (a : Nat → Nat → Int), iv a → jfr jW_X12_sends a0 a → 0 ≤ y1 → y1 ≤ 39 → 0 ≤ y2 → y2 ≤ 39 → y1 = x1 → y2 = x2 → y3 = x3 → (jfr jWse1 a0 a) → (BNR a0 (a0 148 x1.toNat) (a0 148 x2.toNat) = a0 171 3) → a 146 9 = a0 146 9 → (∀ c : Nat, (c : Int) < a0 146 9 → a 154 c = a0 154 c ∧ a 158 c = a0 158 c) → jt (jxX E d 240 41 [some (.inr (.inr (.inl 146))), some (.inl y1), some (.inl y2), some (.inl y3), none] [] (jxSH, a, b0)) (jQ_X12_sends x1 x2 x3 a0 b0) := by
  intro y1 y2 y3 a hv hf hi0 hi1 hi2 hi3 hi4 hi5 hi6 hfe hbn hi9 hol
  refine jt_eq (bq_X12_sends_41 E d y1 y2 y3 a b0) ?_
  have h316_ := iv_get hv (k := 146) (j := 9) (l := 0) (u := 300) rfl
  have h317_ := iv_get hv0 (k := 146) (j := 9) (l := 0) (u := 300) rfl
  have h318_ : a 171 3 = a0 171 3 := hf 171 3 rfl
  exact cp_X12_sends_59 E d hd x1 x2 x3 a0 b0 hv0 hp0 hp1 hp2 y1 y2 y3 (a 171 3) a hv hf (show 0 ≤ y1 from by omega) (show y1 ≤ 39 from by omega) (show 0 ≤ y2 from by omega) (show y2 ≤ 39 from by omega) (show y1 = x1 from by omega) (show y2 = x2 from by omega) (show y3 = x3 from by omega) hfe (by first | exact hbn.symm | exact (hfe 171 3 rfl).trans hbn.symm) (show a 146 9 = a0 146 9 from by omega) hol
theorem cp_X12_sends_50 (E : jxE) (d : Nat) (hd : Nat.ble 2 (d + 1) = true) (x1 x2 x3 : Int) (a0 b0 : Nat → Nat → Int) (hv0 : iv a0) (hp0 : (0 ≤ x1 ∧ x1 ≤ 39)) (hp1 : (0 ≤ x2 ∧ x2 ≤ 39)) (hp2 : a0 146 9 ≤ 299) : ∀ (y1 y2 y3 : Int) (a : Nat → Nat → Int), iv a → jfr jW_X12_sends a0 a → 0 ≤ y1 → y1 ≤ 39 → 0 ≤ y2 → y2 ≤ 39 → 1 ≤ a 146 39 → y1 = x1 → y2 = x2 → y3 = x3 → (jfr jWse1 a0 a) → (BNR a0 (a0 148 x1.toNat) (a0 148 x2.toNat) = jxw ((jxw (2 * (a 146 41))) + 7)) → a 146 9 = a0 146 9 → (∀ c : Nat, (c : Int) < a0 146 9 → a 154 c = a0 154 c ∧ a 158 c = a0 158 c) → jt (jxX E d 240 50 [some (.inr (.inr (.inl 146))), some (.inl y1), some (.inl y2), some (.inl y3), none] [] (jxSH, a, b0)) (jQ_X12_sends x1 x2 x3 a0 b0) := by
  intro y1 y2 y3 a hv hf hi0 hi1 hi2 hi3 hi4 hi5 hi6 hi7 hfe hbn hi10 hol
  refine jt_eq (bq_X12_sends_50 E d y1 y2 y3 a b0) ?_
  have h319_ := iv_get hv (k := 146) (j := 39) (l := 0) (u := 10) rfl
  have h320_ := iv_get hv (k := 146) (j := 9) (l := 0) (u := 300) rfl
  have h321_ := iv_get hv0 (k := 146) (j := 9) (l := 0) (u := 300) rfl
  have h322_ := jxw_im (2 * (a 146 41))
  have h323_ := jxw_rg (2 * (a 146 41))
  have h324_ := jxw_im ((jxw (2 * (a 146 41))) + 7)
  have h325_ := jxw_rg ((jxw (2 * (a 146 41))) + 7)
  exact cp_X12_sends_59 E d hd x1 x2 x3 a0 b0 hv0 hp0 hp1 hp2 y1 y2 y3 (jxw ((jxw (2 * (a 146 41))) + 7)) a hv hf (show 0 ≤ y1 from by omega) (show y1 ≤ 39 from by omega) (show 0 ≤ y2 from by omega) (show y2 ≤ 39 from by omega) (show y1 = x1 from by omega) (show y2 = x2 from by omega) (show y3 = x3 from by omega) hfe (by first | exact hbn.symm | exact (hfe 171 3 rfl).trans hbn.symm) (show a 146 9 = a0 146 9 from by omega) hol
theorem sp_X12_sends (E : jxE) (d : Nat) (hd : Nat.ble 2 d = true) (x1 x2 x3 : Int) (a0 b0 : Nat → Nat → Int) (hv0 : iv a0) (hp0 : (0 ≤ x1 ∧ x1 ≤ 39)) (hp1 : (0 ≤ x2 ∧ x2 ≤ 39)) (hp2 : a0 146 9 ≤ 299) : jt (jxC E d 240 [.inr (.inr (.inl 146)), .inl x1, .inl x2, .inl x3] (jxSH, a0, b0)) (jQ_X12_sends x1 x2 x3 a0 b0) := by
  obtain ⟨d, rfl⟩ := jd_succ hd
  refine jt_eq (bq_X12_sends E d x1 x2 x3 a0 b0) ?_
  have h326_ := iv_get hv0 (k := 146) (j := 9) (l := 0) (u := 300) rfl
  refine jt_grd (by omega) ?_
  refine jt_grd (by omega) ?_
  refine jt_bV (sp_X12_spans E d (jd_le hd rfl) (a0 148 (x1.toNat)) (a0 148 (x2.toNat)) a0 b0 hv0) (fun a327_ b327_ h327_ => ?_)
  obtain ⟨hv327_, hf327_, rfl, hq327_0, hq327_1⟩ := h327_
  have h328_ := iv_get hv0 (k := 146) (j := 17) (l := 0) (u := 600) rfl
  have h329_ := iv_get hv327_ (k := 146) (j := 39) (l := 0) (u := 10) rfl
  refine jt_ite (fun c330_ => ?_) (fun c330_ => ?_)
  ·
    have hf331_ : jfr jW_X12_sends a0 a327_ := jfr_tr (jfr_rf _ _) hf327_ rfl
    have hf332_ : jfr jWse1 a0 a327_ := jfr_tr (jfr_rf _ _) hf327_ rfl
    have h333_ := iv_get hv327_ (k := 146) (j := 9) (l := 0) (u := 300) rfl
    have h334_ : a327_ 146 9 = a0 146 9 := hf327_ 146 9 rfl
    exact cp_X12_sends_41 E d hd x1 x2 x3 a0 b0 hv0 hp0 hp1 hp2 x1 x2 x3 a327_ hv327_ hf331_ (show 0 ≤ x1 from by omega) (show x1 ≤ 39 from by omega) (show 0 ≤ x2 from by omega) (show x2 ≤ 39 from by omega) (show x1 = x1 from by omega) (show x2 = x2 from by omega) (show x3 = x3 from by omega) hf332_ (by unfold BNR; rw [← hq327_1]; show (if a327_ 146 39 = 0 then _ else if _ < jxw ((jxw (2 * (a327_ 146 41))) + 7) then _ else jxw ((jxw (2 * (a327_ 146 41))) + 7)) = _; first | rw [if_pos (by assumption)] | (rw [if_neg (by assumption)]; have e3 := hf327_ 171 3 rfl; first | rw [if_pos (by omega)] | rw [if_neg (by omega)])) (show a327_ 146 9 = a0 146 9 from by omega) (by intro c hc; exact ⟨hf327_ 154 c rfl, hf327_ 158 c rfl⟩)
  ·
    have h335_ : a327_ 171 3 = a0 171 3 := hf327_ 171 3 rfl
    have h336_ := jxw_im (2 * (a327_ 146 41))
    have h337_ := jxw_rg (2 * (a327_ 146 41))
    have h338_ := jxw_im ((jxw (2 * (a327_ 146 41))) + 7)
    have h339_ := jxw_rg ((jxw (2 * (a327_ 146 41))) + 7)
    refine jt_ite (fun c340_ => ?_) (fun c340_ => ?_)
    ·
      have hf341_ : jfr jW_X12_sends a0 a327_ := jfr_tr (jfr_rf _ _) hf327_ rfl
      have hf342_ : jfr jWse1 a0 a327_ := jfr_tr (jfr_rf _ _) hf327_ rfl
      have h343_ := iv_get hv327_ (k := 146) (j := 9) (l := 0) (u := 300) rfl
      have h344_ : a327_ 146 9 = a0 146 9 := hf327_ 146 9 rfl
      exact cp_X12_sends_41 E d hd x1 x2 x3 a0 b0 hv0 hp0 hp1 hp2 x1 x2 x3 a327_ hv327_ hf341_ (show 0 ≤ x1 from by omega) (show x1 ≤ 39 from by omega) (show 0 ≤ x2 from by omega) (show x2 ≤ 39 from by omega) (show x1 = x1 from by omega) (show x2 = x2 from by omega) (show x3 = x3 from by omega) hf342_ (by unfold BNR; rw [← hq327_1]; show (if a327_ 146 39 = 0 then _ else if _ < jxw ((jxw (2 * (a327_ 146 41))) + 7) then _ else jxw ((jxw (2 * (a327_ 146 41))) + 7)) = _; first | rw [if_pos (by assumption)] | (rw [if_neg (by assumption)]; have e3 := hf327_ 171 3 rfl; first | rw [if_pos (by omega)] | rw [if_neg (by omega)])) (show a327_ 146 9 = a0 146 9 from by omega) (by intro c hc; exact ⟨hf327_ 154 c rfl, hf327_ 158 c rfl⟩)
    ·
      have hf345_ : jfr jW_X12_sends a0 a327_ := jfr_tr (jfr_rf _ _) hf327_ rfl
      have hf346_ : jfr jWse1 a0 a327_ := jfr_tr (jfr_rf _ _) hf327_ rfl
      have h347_ := iv_get hv327_ (k := 146) (j := 9) (l := 0) (u := 300) rfl
      have h348_ : a327_ 146 9 = a0 146 9 := hf327_ 146 9 rfl
      exact cp_X12_sends_50 E d hd x1 x2 x3 a0 b0 hv0 hp0 hp1 hp2 x1 x2 x3 a327_ hv327_ hf345_ (show 0 ≤ x1 from by omega) (show x1 ≤ 39 from by omega) (show 0 ≤ x2 from by omega) (show x2 ≤ 39 from by omega) (show 1 ≤ a327_ 146 39 from by omega) (show x1 = x1 from by omega) (show x2 = x2 from by omega) (show x3 = x3 from by omega) hf346_ (by unfold BNR; rw [← hq327_1]; show (if a327_ 146 39 = 0 then _ else if _ < jxw ((jxw (2 * (a327_ 146 41))) + 7) then _ else jxw ((jxw (2 * (a327_ 146 41))) + 7)) = _; first | rw [if_pos (by assumption)] | (rw [if_neg (by assumption)]; have e3 := hf327_ 171 3 rfl; first | rw [if_pos (by omega)] | rw [if_neg (by omega)])) (show a327_ 146 9 = a0 146 9 from by omega) (by intro c hc; exact ⟨hf327_ 154 c rfl, hf327_ 158 c rfl⟩)
def jWrb : List (Nat × Nat) := []
def jW_X12_back : List (Nat × Nat) := [(146, 17), (160, 9999), (161, 9999), (162, 9999), (163, 9999)]
abbrev jQ_X12_back (x1 : Int) (a0 b0 : Nat → Nat → Int) : List jxV → (Nat → Nat → Int) → (Nat → Nat → Int) → Prop := rI (fun r a b => (iv a) ∧ (jfr jW_X12_back a0 a) ∧ (b0 = b) ∧ ((0 ≤ r ∧ r ≤ 1)) ∧ ((a0 146 9 = 0 → r = 0)) ∧ (r = 1 → 0 ≤ x1 ∧ x1 < a0 146 9 ∧ a0 159 x1.toNat = -1 ∧ ¬ a0 146 17 = 600 ∧ ¬ a0 160 x1.toNat < 0 ∧ ¬ a0 162 (a0 160 x1.toNat).toNat = -1) ∧ (r = 0 → ¬ (0 ≤ x1 ∧ x1 < a0 146 9 ∧ a0 159 x1.toNat = -1 ∧ ¬ a0 146 17 = 600 ∧ ¬ a0 160 x1.toNat < 0 ∧ ¬ a0 162 (a0 160 x1.toNat).toNat = -1)) ∧ (r = 1 → cvR a = vTell (cvR a0) x1 (-1) (a0 146 0)) ∧ (r = 0 → cvR a = cvR a0))
theorem cp_X12_back_58 (E : jxE) (d : Nat) (hd : Nat.ble 2 (d + 1) = true) (x1 : Int) (a0 b0 : Nat → Nat → Int) (hv0 : iv a0) : ∀ (a : Nat → Nat → Int), iv a → jfr jW_X12_back a0 a → (jfr jWrb a0 a) → (¬ (0 ≤ x1 ∧ x1 < a0 146 9 ∧ a0 159 x1.toNat = -1 ∧ ¬ a0 146 17 = 600 ∧ ¬ a0 160 x1.toNat < 0 ∧ ¬ a0 162 (a0 160 x1.toNat).toNat = -1)) → jt (jxX E d 258 58 [none, none] [] (jxSH, a, b0)) (jQ_X12_back x1 a0 b0) := by
  intro a hv hf hfe hno
  refine jt_eq (bq_X12_back_58 E d a b0) ?_
  have h349_ := iv_get hv0 (k := 146) (j := 9) (l := 0) (u := 300) rfl
  exact jt_rI ⟨hv, hf, rfl, (show (0 ≤ 0 ∧ 0 ≤ 1) from by omega), (show (a0 146 9 = 0 → 0 = 0) from by omega), (fun h => absurd h (by decide)), (fun _ => hno), (fun h => absurd h (by decide)), (fun _ => cvR_fr hfe rfl)⟩
theorem cp_X12_back_60 (E : jxE) (d : Nat) (hd : Nat.ble 2 (d + 1) = true) (x1 : Int) (a0 b0 : Nat → Nat → Int) (hv0 : iv a0) : ∀ (y1 : Int) (a : Nat → Nat → Int), iv a → jfr jW_X12_back a0 a → 0 ≤ y1 → y1 ≤ 299 → a 146 17 ≤ 599 → 1 ≤ a0 146 9 → (jfr jWrb a0 a) → (y1 = x1) → (0 ≤ x1 ∧ x1 < a0 146 9 ∧ a0 159 x1.toNat = -1 ∧ ¬ a0 146 17 = 600 ∧ ¬ a0 160 x1.toNat < 0 ∧ ¬ a0 162 (a0 160 x1.toNat).toNat = -1) → jt (jxX E d 258 60 [some (.inr (.inr (.inl 146))), some (.inl y1)] [] (jxSH, a, b0)) (jQ_X12_back x1 a0 b0) := by
  intro y1 a hv hf hi0 hi1 hi2 hi3 hfe hy1 hyes
  refine jt_eq (bq_X12_back_60 E d y1 a b0) ?_
  have h350_ := iv_get hv (k := 146) (j := 17) (l := 0) (u := 600) rfl
  have h351_ := iv_get hv0 (k := 146) (j := 9) (l := 0) (u := 300) rfl
  refine jt_bV (sp_X12_tells E d (jd_le hd rfl) y1 (-1) a b0 hv (show (0 ≤ y1 ∧ y1 ≤ 299) from by omega) (show a 146 17 ≤ 599 from by omega)) (fun a352_ b352_ h352_ => ?_)
  obtain ⟨hv352_, hf352_, rfl, hq352_0⟩ := h352_
  have hf353_ : jfr jW_X12_back a0 a352_ := jfr_tr hf hf352_ rfl
  exact jt_rI ⟨hv352_, hf353_, rfl, (show (0 ≤ 1 ∧ 1 ≤ 1) from by omega), (show (a0 146 9 = 0 → 1 = 0) from by omega), (fun _ => hyes), (fun h => absurd h (by decide)), (fun _ => by have q := hq352_0; rw [hy1, hfe 146 0 rfl, show cvR a = cvR a0 from cvR_fr hfe rfl] at q; exact q), (fun h => absurd h (by decide))⟩
theorem cp_X12_back_24 (E : jxE) (d : Nat) (hd : Nat.ble 2 (d + 1) = true) (x1 : Int) (a0 b0 : Nat → Nat → Int) (hv0 : iv a0) : ∀ (y1 : Int) (a : Nat → Nat → Int), iv a → jfr jW_X12_back a0 a → 0 ≤ y1 → y1 ≤ 299 → 1 ≤ a0 146 9 → (jfr jWrb a0 a) → (y1 = x1) → ((0 ≤ x1 ∧ x1 < a0 146 9) ∧ a0 159 (x1.toNat) = 0 - 1) → jt (jxX E d 258 24 [some (.inr (.inr (.inl 146))), some (.inl y1)] [] (jxSH, a, b0)) (jQ_X12_back x1 a0 b0) := by
  intro y1 a hv hf hi0 hi1 hi2 hfe hy1 hi5
  refine jt_eq (bq_X12_back_24 E d y1 a b0) ?_
  have h354_ := iv_get hv0 (k := 146) (j := 9) (l := 0) (u := 300) rfl
  have h355_ := iv_get hv (k := 146) (j := 17) (l := 0) (u := 600) rfl
  refine jt_ite (fun c356_ => ?_) (fun c356_ => ?_)
  ·
    exact cp_X12_back_58 E d hd x1 a0 b0 hv0 a hv hf hfe (fun q => by have e17 := hfe 146 17 rfl; have e1 := hfe 160 (y1.toNat) rfl; have e2 := hfe 162 ((a 160 (y1.toNat)).toNat) rfl; have e3 : a0 160 (y1.toNat) = a0 160 (x1.toNat) := (by rw [hy1]); have e4 : a0 162 ((a 160 (y1.toNat)).toNat) = a0 162 ((a0 160 (x1.toNat)).toNat) := (by rw [e1, e3]); omega)
  ·
    refine jt_grd (by omega) ?_
    have h357_ := iv_get hv (k := 160) (j := y1.toNat) (l := (-1)) (u := 599) rfl
    refine jt_ite (fun c358_ => ?_) (fun c358_ => ?_)
    ·
      exact cp_X12_back_58 E d hd x1 a0 b0 hv0 a hv hf hfe (fun q => by have e17 := hfe 146 17 rfl; have e1 := hfe 160 (y1.toNat) rfl; have e2 := hfe 162 ((a 160 (y1.toNat)).toNat) rfl; have e3 : a0 160 (y1.toNat) = a0 160 (x1.toNat) := (by rw [hy1]); have e4 : a0 162 ((a 160 (y1.toNat)).toNat) = a0 162 ((a0 160 (x1.toNat)).toNat) := (by rw [e1, e3]); omega)
    ·
      refine jt_grd (by omega) ?_
      refine jt_grd (by omega) ?_
      refine jt_ite (fun c359_ => ?_) (fun c359_ => ?_)
      ·
        exact cp_X12_back_58 E d hd x1 a0 b0 hv0 a hv hf hfe (fun q => by have e17 := hfe 146 17 rfl; have e1 := hfe 160 (y1.toNat) rfl; have e2 := hfe 162 ((a 160 (y1.toNat)).toNat) rfl; have e3 : a0 160 (y1.toNat) = a0 160 (x1.toNat) := (by rw [hy1]); have e4 : a0 162 ((a 160 (y1.toNat)).toNat) = a0 162 ((a0 160 (x1.toNat)).toNat) := (by rw [e1, e3]); omega)
      ·
        exact cp_X12_back_60 E d hd x1 a0 b0 hv0 y1 a hv hf (show 0 ≤ y1 from by omega) (show y1 ≤ 299 from by omega) (show a 146 17 ≤ 599 from by omega) (show 1 ≤ a0 146 9 from by omega) hfe (by first | rfl | assumption) (by have e17 := hfe 146 17 rfl; have e1 := hfe 160 (y1.toNat) rfl; have e2 := hfe 162 ((a 160 (y1.toNat)).toNat) rfl; have e3 : a0 160 (y1.toNat) = a0 160 (x1.toNat) := (by rw [hy1]); have e4 : a0 162 ((a 160 (y1.toNat)).toNat) = a0 162 ((a0 160 (x1.toNat)).toNat) := (by rw [e1, e3]); omega)
theorem sp_X12_back (E : jxE) (d : Nat) (hd : Nat.ble 2 d = true) (x1 : Int) (a0 b0 : Nat → Nat → Int) (hv0 : iv a0) : jt (jxC E d 258 [.inr (.inr (.inl 146)), .inl x1] (jxSH, a0, b0)) (jQ_X12_back x1 a0 b0) := by
  obtain ⟨d, rfl⟩ := jd_succ hd
  refine jt_eq (bq_X12_back E d x1 a0 b0) ?_
  refine jt_eI (eq_X12_in E d (jd_le hd rfl) x1 0 (jxw ((a0 146 9) - 1)) a0 b0) ?_
  have h360_ := iv_get hv0 (k := 146) (j := 9) (l := 0) (u := 300) rfl
  have h361_ : jxw ((a0 146 9) - 1) = (a0 146 9) - 1 := jxw_id (by omega) (by omega)
  have h362_ := f_X12_in_eq a0 b0 x1 0 (jxw ((a0 146 9) - 1))
  refine jt_ite (fun c363_ => ?_) (fun c363_ => ?_)
  ·
    exact cp_X12_back_58 E d hd x1 a0 b0 hv0 a0 hv0 (jfr_rf _ _) (jfr_rf _ _) (fun q => by omega)
  ·
    refine jt_grd (by omega) ?_
    refine jt_ite (fun c364_ => ?_) (fun c364_ => ?_)
    ·
      exact cp_X12_back_24 E d hd x1 a0 b0 hv0 x1 a0 hv0 (jfr_rf _ _) (show 0 ≤ x1 from by omega) (show x1 ≤ 299 from by omega) (show 1 ≤ a0 146 9 from by omega) (jfr_rf _ _) (by first | rfl | assumption) (show ((0 ≤ x1 ∧ x1 < a0 146 9) ∧ a0 159 (x1.toNat) = 0 - 1) from by omega)
    ·
      exact cp_X12_back_58 E d hd x1 a0 b0 hv0 a0 hv0 (jfr_rf _ _) (jfr_rf _ _) (fun q => by omega)
abbrev jQ_X12_best (x1 x2 : Int) (a0 b0 : Nat → Nat → Int) : List jxV → (Nat → Nat → Int) → (Nat → Nat → Int) → Prop := rJ (fun r a b => (a0 = a))
theorem cp_X12_best_49 (E : jxE) (d : Nat) (hd : Nat.ble 1 (d + 1) = true) (x1 x2 : Int) (a0 b0 : Nat → Nat → Int) (hv0 : iv a0) (hp0 : (0 ≤ x1 ∧ x1 ≤ 255)) : ∀ n : Nat, (∀ (y1 y2 y4 y5 y6 y7 y9 : Int) (b : Nat → Nat → Int), (((((((y5 + 1) * 5677) + 0) + ((256 - y6) * 22)) + 0) + ((8 - y9) * 1)) + 0).toNat ≤ n → 0 ≤ y1 → y1 ≤ 255 → 1 ≤ y4 → y4 ≤ 256 → 0 ≤ y5 → y5 ≤ 39 → 0 ≤ y6 → y6 ≤ 255 → 0 ≤ y9 → y9 ≤ 7 → jt (jxX E d 253 192 [some (.inr (.inr (.inl 146))), some (.inl y1), some (.inr (.inl y2)), none, some (.inl y4), some (.inl y5), some (.inl y6), some (.inr (.inl y7)), none, some (.inl y9), none, none] [] (jxSH, a0, b)) (jQ_X12_best x1 x2 a0 b0)) ∧ (∀ (y1 y2 y4 y5 y6 y7 y9 y10 : Int) (b : Nat → Nat → Int), (((((((y5 + 1) * 5677) + 0) + ((256 - y6) * 22)) + 0) + ((8 - y9) * 1)) + 0).toNat ≤ n → 0 ≤ y1 → y1 ≤ 255 → 1 ≤ y4 → y4 ≤ 256 → 0 ≤ y5 → y5 ≤ 39 → 0 ≤ y6 → y6 ≤ 255 → 0 ≤ y9 → y9 ≤ 7 → jt (jxX E d 253 175 [some (.inr (.inr (.inl 146))), some (.inl y1), some (.inr (.inl y2)), none, some (.inl y4), some (.inl y5), some (.inl y6), some (.inr (.inl y7)), none, some (.inl y9), some (.inr (.inl y10)), none] [] (jxSH, a0, b)) (jQ_X12_best x1 x2 a0 b0)) ∧ (∀ (y1 y2 y4 y5 y6 y7 y9 : Int) (b : Nat → Nat → Int), (((((((y5 + 1) * 5677) + 0) + ((256 - y6) * 22)) + 0) + ((8 - y9) * 1)) + 0).toNat ≤ n → 0 ≤ y1 → y1 ≤ 255 → 1 ≤ y4 → y4 ≤ 256 → 0 ≤ y5 → y5 ≤ 39 → 0 ≤ y6 → y6 ≤ 255 → 0 ≤ y9 → y9 ≤ 7 → jt (jxX E d 253 115 [some (.inr (.inr (.inl 146))), some (.inl y1), some (.inr (.inl y2)), none, some (.inl y4), some (.inl y5), some (.inl y6), some (.inr (.inl y7)), none, some (.inl y9), none, none] [] (jxSH, a0, b)) (jQ_X12_best x1 x2 a0 b0)) ∧ (∀ (y1 y2 y4 y5 y6 : Int) (b : Nat → Nat → Int), (((((y5 + 1) * 5677) + 0) + ((256 - y6) * 22)) + 11).toNat ≤ n → 0 ≤ y1 → y1 ≤ 255 → 1 ≤ y4 → y4 ≤ 256 → 0 ≤ y5 → y5 ≤ 39 → 1 ≤ y6 → y6 ≤ 256 → jt (jxX E d 253 217 [some (.inr (.inr (.inl 146))), some (.inl y1), some (.inr (.inl y2)), none, some (.inl y4), some (.inl y5), some (.inl y6), none, none, none, none, none] [] (jxSH, a0, b)) (jQ_X12_best x1 x2 a0 b0)) ∧ (∀ (y1 y2 y4 y5 y6 y7 y9 : Int) (b : Nat → Nat → Int), (((((((y5 + 1) * 5677) + 0) + ((256 - y6) * 22)) + 0) + ((8 - y9) * 1)) + 0).toNat ≤ n → 0 ≤ y1 → y1 ≤ 255 → 1 ≤ y4 → y4 ≤ 256 → 0 ≤ y5 → y5 ≤ 39 → 0 ≤ y6 → y6 ≤ 255 → 0 ≤ y9 → y9 ≤ 8 → jt (jxX E d 253 85 [some (.inr (.inr (.inl 146))), some (.inl y1), some (.inr (.inl y2)), none, some (.inl y4), some (.inl y5), some (.inl y6), some (.inr (.inl y7)), none, some (.inl y9), none, none] [] (jxSH, a0, b)) (jQ_X12_best x1 x2 a0 b0)) ∧ (∀ (y1 y2 y4 y5 y6 y7 : Int) (b : Nat → Nat → Int), (((((y5 + 1) * 5677) + 0) + ((256 - y6) * 22)) + 10).toNat ≤ n → 0 ≤ y1 → y1 ≤ 255 → 1 ≤ y4 → y4 ≤ 256 → 0 ≤ y5 → y5 ≤ 39 → 0 ≤ y6 → y6 ≤ 255 → jt (jxX E d 253 82 [some (.inr (.inr (.inl 146))), some (.inl y1), some (.inr (.inl y2)), none, some (.inl y4), some (.inl y5), some (.inl y6), some (.inr (.inl y7)), none, none, none, none] [] (jxSH, a0, b)) (jQ_X12_best x1 x2 a0 b0)) ∧ (∀ (y1 y2 y4 y5 y6 : Int) (b : Nat → Nat → Int), (((((y5 + 1) * 5677) + 0) + ((256 - y6) * 22)) + 10).toNat ≤ n → 0 ≤ y1 → y1 ≤ 255 → 1 ≤ y4 → y4 ≤ 256 → 0 ≤ y5 → y5 ≤ 39 → 0 ≤ y6 → y6 ≤ 256 → jt (jxX E d 253 57 [some (.inr (.inr (.inl 146))), some (.inl y1), some (.inr (.inl y2)), none, some (.inl y4), some (.inl y5), some (.inl y6), none, none, none, none, none] [] (jxSH, a0, b)) (jQ_X12_best x1 x2 a0 b0)) ∧ (∀ (y1 y2 y4 y5 : Int) (b : Nat → Nat → Int), (((y5 + 1) * 5677) + 5676).toNat ≤ n → 0 ≤ y1 → y1 ≤ 255 → 1 ≤ y4 → y4 ≤ 256 → 0 - 1 ≤ y5 → y5 ≤ 39 → jt (jxX E d 253 49 [some (.inr (.inr (.inl 146))), some (.inl y1), some (.inr (.inl y2)), none, some (.inl y4), some (.inl y5), none, none, none, none, none, none] [] (jxSH, a0, b)) (jQ_X12_best x1 x2 a0 b0)) := by
  refine jx_ind fun n ih => ?_
  have ih192 : ∀ (y1 y2 y4 y5 y6 y7 y9 : Int) (b : Nat → Nat → Int), (((((((y5 + 1) * 5677) + 0) + ((256 - y6) * 22)) + 0) + ((8 - y9) * 1)) + 0).toNat < n → 0 ≤ y1 → y1 ≤ 255 → 1 ≤ y4 → y4 ≤ 256 → 0 ≤ y5 → y5 ≤ 39 → 0 ≤ y6 → y6 ≤ 255 → 0 ≤ y9 → y9 ≤ 7 → jt (jxX E d 253 192 [some (.inr (.inr (.inl 146))), some (.inl y1), some (.inr (.inl y2)), none, some (.inl y4), some (.inl y5), some (.inl y6), some (.inr (.inl y7)), none, some (.inl y9), none, none] [] (jxSH, a0, b)) (jQ_X12_best x1 x2 a0 b0) := fun y1 y2 y4 y5 y6 y7 y9 b hlt i0 i1 i2 i3 i4 i5 i6 i7 i8 i9 => (ih _ hlt).1 y1 y2 y4 y5 y6 y7 y9 b (Nat.le_refl _) i0 i1 i2 i3 i4 i5 i6 i7 i8 i9
  have ih175 : ∀ (y1 y2 y4 y5 y6 y7 y9 y10 : Int) (b : Nat → Nat → Int), (((((((y5 + 1) * 5677) + 0) + ((256 - y6) * 22)) + 0) + ((8 - y9) * 1)) + 0).toNat < n → 0 ≤ y1 → y1 ≤ 255 → 1 ≤ y4 → y4 ≤ 256 → 0 ≤ y5 → y5 ≤ 39 → 0 ≤ y6 → y6 ≤ 255 → 0 ≤ y9 → y9 ≤ 7 → jt (jxX E d 253 175 [some (.inr (.inr (.inl 146))), some (.inl y1), some (.inr (.inl y2)), none, some (.inl y4), some (.inl y5), some (.inl y6), some (.inr (.inl y7)), none, some (.inl y9), some (.inr (.inl y10)), none] [] (jxSH, a0, b)) (jQ_X12_best x1 x2 a0 b0) := fun y1 y2 y4 y5 y6 y7 y9 y10 b hlt i0 i1 i2 i3 i4 i5 i6 i7 i8 i9 => (ih _ hlt).2.1 y1 y2 y4 y5 y6 y7 y9 y10 b (Nat.le_refl _) i0 i1 i2 i3 i4 i5 i6 i7 i8 i9
  have ih115 : ∀ (y1 y2 y4 y5 y6 y7 y9 : Int) (b : Nat → Nat → Int), (((((((y5 + 1) * 5677) + 0) + ((256 - y6) * 22)) + 0) + ((8 - y9) * 1)) + 0).toNat < n → 0 ≤ y1 → y1 ≤ 255 → 1 ≤ y4 → y4 ≤ 256 → 0 ≤ y5 → y5 ≤ 39 → 0 ≤ y6 → y6 ≤ 255 → 0 ≤ y9 → y9 ≤ 7 → jt (jxX E d 253 115 [some (.inr (.inr (.inl 146))), some (.inl y1), some (.inr (.inl y2)), none, some (.inl y4), some (.inl y5), some (.inl y6), some (.inr (.inl y7)), none, some (.inl y9), none, none] [] (jxSH, a0, b)) (jQ_X12_best x1 x2 a0 b0) := fun y1 y2 y4 y5 y6 y7 y9 b hlt i0 i1 i2 i3 i4 i5 i6 i7 i8 i9 => (ih _ hlt).2.2.1 y1 y2 y4 y5 y6 y7 y9 b (Nat.le_refl _) i0 i1 i2 i3 i4 i5 i6 i7 i8 i9
  have ih217 : ∀ (y1 y2 y4 y5 y6 : Int) (b : Nat → Nat → Int), (((((y5 + 1) * 5677) + 0) + ((256 - y6) * 22)) + 11).toNat < n → 0 ≤ y1 → y1 ≤ 255 → 1 ≤ y4 → y4 ≤ 256 → 0 ≤ y5 → y5 ≤ 39 → 1 ≤ y6 → y6 ≤ 256 → jt (jxX E d 253 217 [some (.inr (.inr (.inl 146))), some (.inl y1), some (.inr (.inl y2)), none, some (.inl y4), some (.inl y5), some (.inl y6), none, none, none, none, none] [] (jxSH, a0, b)) (jQ_X12_best x1 x2 a0 b0) := fun y1 y2 y4 y5 y6 b hlt i0 i1 i2 i3 i4 i5 i6 i7 => (ih _ hlt).2.2.2.1 y1 y2 y4 y5 y6 b (Nat.le_refl _) i0 i1 i2 i3 i4 i5 i6 i7
  have ih85 : ∀ (y1 y2 y4 y5 y6 y7 y9 : Int) (b : Nat → Nat → Int), (((((((y5 + 1) * 5677) + 0) + ((256 - y6) * 22)) + 0) + ((8 - y9) * 1)) + 0).toNat < n → 0 ≤ y1 → y1 ≤ 255 → 1 ≤ y4 → y4 ≤ 256 → 0 ≤ y5 → y5 ≤ 39 → 0 ≤ y6 → y6 ≤ 255 → 0 ≤ y9 → y9 ≤ 8 → jt (jxX E d 253 85 [some (.inr (.inr (.inl 146))), some (.inl y1), some (.inr (.inl y2)), none, some (.inl y4), some (.inl y5), some (.inl y6), some (.inr (.inl y7)), none, some (.inl y9), none, none] [] (jxSH, a0, b)) (jQ_X12_best x1 x2 a0 b0) := fun y1 y2 y4 y5 y6 y7 y9 b hlt i0 i1 i2 i3 i4 i5 i6 i7 i8 i9 => (ih _ hlt).2.2.2.2.1 y1 y2 y4 y5 y6 y7 y9 b (Nat.le_refl _) i0 i1 i2 i3 i4 i5 i6 i7 i8 i9
  have ih82 : ∀ (y1 y2 y4 y5 y6 y7 : Int) (b : Nat → Nat → Int), (((((y5 + 1) * 5677) + 0) + ((256 - y6) * 22)) + 10).toNat < n → 0 ≤ y1 → y1 ≤ 255 → 1 ≤ y4 → y4 ≤ 256 → 0 ≤ y5 → y5 ≤ 39 → 0 ≤ y6 → y6 ≤ 255 → jt (jxX E d 253 82 [some (.inr (.inr (.inl 146))), some (.inl y1), some (.inr (.inl y2)), none, some (.inl y4), some (.inl y5), some (.inl y6), some (.inr (.inl y7)), none, none, none, none] [] (jxSH, a0, b)) (jQ_X12_best x1 x2 a0 b0) := fun y1 y2 y4 y5 y6 y7 b hlt i0 i1 i2 i3 i4 i5 i6 i7 => (ih _ hlt).2.2.2.2.2.1 y1 y2 y4 y5 y6 y7 b (Nat.le_refl _) i0 i1 i2 i3 i4 i5 i6 i7
  have ih57 : ∀ (y1 y2 y4 y5 y6 : Int) (b : Nat → Nat → Int), (((((y5 + 1) * 5677) + 0) + ((256 - y6) * 22)) + 10).toNat < n → 0 ≤ y1 → y1 ≤ 255 → 1 ≤ y4 → y4 ≤ 256 → 0 ≤ y5 → y5 ≤ 39 → 0 ≤ y6 → y6 ≤ 256 → jt (jxX E d 253 57 [some (.inr (.inr (.inl 146))), some (.inl y1), some (.inr (.inl y2)), none, some (.inl y4), some (.inl y5), some (.inl y6), none, none, none, none, none] [] (jxSH, a0, b)) (jQ_X12_best x1 x2 a0 b0) := fun y1 y2 y4 y5 y6 b hlt i0 i1 i2 i3 i4 i5 i6 i7 => (ih _ hlt).2.2.2.2.2.2.1 y1 y2 y4 y5 y6 b (Nat.le_refl _) i0 i1 i2 i3 i4 i5 i6 i7
  have ih49 : ∀ (y1 y2 y4 y5 : Int) (b : Nat → Nat → Int), (((y5 + 1) * 5677) + 5676).toNat < n → 0 ≤ y1 → y1 ≤ 255 → 1 ≤ y4 → y4 ≤ 256 → 0 - 1 ≤ y5 → y5 ≤ 39 → jt (jxX E d 253 49 [some (.inr (.inr (.inl 146))), some (.inl y1), some (.inr (.inl y2)), none, some (.inl y4), some (.inl y5), none, none, none, none, none, none] [] (jxSH, a0, b)) (jQ_X12_best x1 x2 a0 b0) := fun y1 y2 y4 y5 b hlt i0 i1 i2 i3 i4 i5 => (ih _ hlt).2.2.2.2.2.2.2 y1 y2 y4 y5 b (Nat.le_refl _) i0 i1 i2 i3 i4 i5
  have hc192 : ∀ (y1 y2 y4 y5 y6 y7 y9 : Int) (b : Nat → Nat → Int), (((((((y5 + 1) * 5677) + 0) + ((256 - y6) * 22)) + 0) + ((8 - y9) * 1)) + 0).toNat ≤ n → 0 ≤ y1 → y1 ≤ 255 → 1 ≤ y4 → y4 ≤ 256 → 0 ≤ y5 → y5 ≤ 39 → 0 ≤ y6 → y6 ≤ 255 → 0 ≤ y9 → y9 ≤ 7 → jt (jxX E d 253 192 [some (.inr (.inr (.inl 146))), some (.inl y1), some (.inr (.inl y2)), none, some (.inl y4), some (.inl y5), some (.inl y6), some (.inr (.inl y7)), none, some (.inl y9), none, none] [] (jxSH, a0, b)) (jQ_X12_best x1 x2 a0 b0) := by
    intro y1 y2 y4 y5 y6 y7 y9 b hm hi0 hi1 hi2 hi3 hi4 hi5 hi6 hi7 hi8 hi9
    refine jt_eq (bq_X12_best_192 E d y1 y2 y4 y5 y6 y7 y9 a0 b) ?_
    have h365_ : jxw (y9 + 1) = y9 + 1 := jxw_id (by omega) (by omega)
    exact ih85 y1 y2 y4 y5 y6 y7 (jxw (y9 + 1)) b (show (((((((y5 + 1) * 5677) + 0) + ((256 - y6) * 22)) + 0) + ((8 - (jxw (y9 + 1))) * 1)) + 0).toNat < n from by omega) (show 0 ≤ y1 from by omega) (show y1 ≤ 255 from by omega) (show 1 ≤ y4 from by omega) (show y4 ≤ 256 from by omega) (show 0 ≤ y5 from by omega) (show y5 ≤ 39 from by omega) (show 0 ≤ y6 from by omega) (show y6 ≤ 255 from by omega) (show 0 ≤ jxw (y9 + 1) from by omega) (show jxw (y9 + 1) ≤ 8 from by omega)
  have hc175 : ∀ (y1 y2 y4 y5 y6 y7 y9 y10 : Int) (b : Nat → Nat → Int), (((((((y5 + 1) * 5677) + 0) + ((256 - y6) * 22)) + 0) + ((8 - y9) * 1)) + 0).toNat ≤ n → 0 ≤ y1 → y1 ≤ 255 → 1 ≤ y4 → y4 ≤ 256 → 0 ≤ y5 → y5 ≤ 39 → 0 ≤ y6 → y6 ≤ 255 → 0 ≤ y9 → y9 ≤ 7 → jt (jxX E d 253 175 [some (.inr (.inr (.inl 146))), some (.inl y1), some (.inr (.inl y2)), none, some (.inl y4), some (.inl y5), some (.inl y6), some (.inr (.inl y7)), none, some (.inl y9), some (.inr (.inl y10)), none] [] (jxSH, a0, b)) (jQ_X12_best x1 x2 a0 b0) := by
    intro y1 y2 y4 y5 y6 y7 y9 y10 b hm hi0 hi1 hi2 hi3 hi4 hi5 hi6 hi7 hi8 hi9
    refine jt_eq (bq_X12_best_175 E d y1 y2 y4 y5 y6 y7 y9 y10 a0 b) ?_
    have h366_ := jxlcmp_b y10 y7
    refine jt_ite (fun c367_ => ?_) (fun c367_ => ?_)
    ·
      exact hc192 y1 y2 y4 y5 y6 y10 y9 b (show (((((((y5 + 1) * 5677) + 0) + ((256 - y6) * 22)) + 0) + ((8 - y9) * 1)) + 0).toNat ≤ n from by omega) (show 0 ≤ y1 from by omega) (show y1 ≤ 255 from by omega) (show 1 ≤ y4 from by omega) (show y4 ≤ 256 from by omega) (show 0 ≤ y5 from by omega) (show y5 ≤ 39 from by omega) (show 0 ≤ y6 from by omega) (show y6 ≤ 255 from by omega) (show 0 ≤ y9 from by omega) (show y9 ≤ 7 from by omega)
    ·
      exact hc192 y1 y2 y4 y5 y6 y7 y9 b (show (((((((y5 + 1) * 5677) + 0) + ((256 - y6) * 22)) + 0) + ((8 - y9) * 1)) + 0).toNat ≤ n from by omega) (show 0 ≤ y1 from by omega) (show y1 ≤ 255 from by omega) (show 1 ≤ y4 from by omega) (show y4 ≤ 256 from by omega) (show 0 ≤ y5 from by omega) (show y5 ≤ 39 from by omega) (show 0 ≤ y6 from by omega) (show y6 ≤ 255 from by omega) (show 0 ≤ y9 from by omega) (show y9 ≤ 7 from by omega)
  have hc115 : ∀ (y1 y2 y4 y5 y6 y7 y9 : Int) (b : Nat → Nat → Int), (((((((y5 + 1) * 5677) + 0) + ((256 - y6) * 22)) + 0) + ((8 - y9) * 1)) + 0).toNat ≤ n → 0 ≤ y1 → y1 ≤ 255 → 1 ≤ y4 → y4 ≤ 256 → 0 ≤ y5 → y5 ≤ 39 → 0 ≤ y6 → y6 ≤ 255 → 0 ≤ y9 → y9 ≤ 7 → jt (jxX E d 253 115 [some (.inr (.inr (.inl 146))), some (.inl y1), some (.inr (.inl y2)), none, some (.inl y4), some (.inl y5), some (.inl y6), some (.inr (.inl y7)), none, some (.inl y9), none, none] [] (jxSH, a0, b)) (jQ_X12_best x1 x2 a0 b0) := by
    intro y1 y2 y4 y5 y6 y7 y9 b hm hi0 hi1 hi2 hi3 hi4 hi5 hi6 hi7 hi8 hi9
    refine jt_eq (bq_X12_best_115 E d y1 y2 y4 y5 y6 y7 y9 a0 b) ?_
    have h368_ : jxw (40 * y9) = 40 * y9 := jxw_id (by omega) (by omega)
    have h369_ : jxw ((jxw (40 * y9)) + y5) = (jxw (40 * y9)) + y5 := jxw_id (by omega) (by omega)
    refine jt_grd (by omega) ?_
    have h370_ := jxlcmp_b (b 175 ((jxw ((jxw (40 * y9)) + y5)).toNat)) (-4000000000000000000)
    refine jt_ite (fun c371_ => ?_) (fun c371_ => ?_)
    ·
      exact hc192 y1 y2 y4 y5 y6 y7 y9 b (show (((((((y5 + 1) * 5677) + 0) + ((256 - y6) * 22)) + 0) + ((8 - y9) * 1)) + 0).toNat ≤ n from by omega) (show 0 ≤ y1 from by omega) (show y1 ≤ 255 from by omega) (show 1 ≤ y4 from by omega) (show y4 ≤ 256 from by omega) (show 0 ≤ y5 from by omega) (show y5 ≤ 39 from by omega) (show 0 ≤ y6 from by omega) (show y6 ≤ 255 from by omega) (show 0 ≤ y9 from by omega) (show y9 ≤ 7 from by omega)
    ·
      refine jt_grd (by omega) ?_
      have h372_ : jxw (y5 + 1) = y5 + 1 := jxw_id (by omega) (by omega)
      have h373_ : jxw (256 * (jxw (y5 + 1))) = 256 * (jxw (y5 + 1)) := jxw_id (by omega) (by omega)
      have h374_ := jxshl1_b y9
      have h375_ := jxxor_b y6 (jxshl 1 y9)
      have h376_ : jxw ((jxw (256 * (jxw (y5 + 1)))) + (jxxor y6 (jxshl 1 y9))) = (jxw (256 * (jxw (y5 + 1)))) + (jxxor y6 (jxshl 1 y9)) := jxw_id (by omega) (by omega)
      refine jt_grd (by omega) ?_
      exact hc175 y1 y2 y4 y5 y6 y7 y9 (jxwl ((b 175 ((jxw ((jxw (40 * y9)) + y5)).toNat)) + (b 177 ((jxw ((jxw (256 * (jxw (y5 + 1)))) + (jxxor y6 (jxshl 1 y9)))).toNat)))) b (show (((((((y5 + 1) * 5677) + 0) + ((256 - y6) * 22)) + 0) + ((8 - y9) * 1)) + 0).toNat ≤ n from by omega) (show 0 ≤ y1 from by omega) (show y1 ≤ 255 from by omega) (show 1 ≤ y4 from by omega) (show y4 ≤ 256 from by omega) (show 0 ≤ y5 from by omega) (show y5 ≤ 39 from by omega) (show 0 ≤ y6 from by omega) (show y6 ≤ 255 from by omega) (show 0 ≤ y9 from by omega) (show y9 ≤ 7 from by omega)
  have hc217 : ∀ (y1 y2 y4 y5 y6 : Int) (b : Nat → Nat → Int), (((((y5 + 1) * 5677) + 0) + ((256 - y6) * 22)) + 11).toNat ≤ n → 0 ≤ y1 → y1 ≤ 255 → 1 ≤ y4 → y4 ≤ 256 → 0 ≤ y5 → y5 ≤ 39 → 1 ≤ y6 → y6 ≤ 256 → jt (jxX E d 253 217 [some (.inr (.inr (.inl 146))), some (.inl y1), some (.inr (.inl y2)), none, some (.inl y4), some (.inl y5), some (.inl y6), none, none, none, none, none] [] (jxSH, a0, b)) (jQ_X12_best x1 x2 a0 b0) := by
    intro y1 y2 y4 y5 y6 b hm hi0 hi1 hi2 hi3 hi4 hi5 hi6 hi7
    refine jt_eq (bq_X12_best_217 E d y1 y2 y4 y5 y6 a0 b) ?_
    exact ih57 y1 y2 y4 y5 y6 b (show (((((y5 + 1) * 5677) + 0) + ((256 - y6) * 22)) + 10).toNat < n from by omega) (show 0 ≤ y1 from by omega) (show y1 ≤ 255 from by omega) (show 1 ≤ y4 from by omega) (show y4 ≤ 256 from by omega) (show 0 ≤ y5 from by omega) (show y5 ≤ 39 from by omega) (show 0 ≤ y6 from by omega) (show y6 ≤ 256 from by omega)
  have hc85 : ∀ (y1 y2 y4 y5 y6 y7 y9 : Int) (b : Nat → Nat → Int), (((((((y5 + 1) * 5677) + 0) + ((256 - y6) * 22)) + 0) + ((8 - y9) * 1)) + 0).toNat ≤ n → 0 ≤ y1 → y1 ≤ 255 → 1 ≤ y4 → y4 ≤ 256 → 0 ≤ y5 → y5 ≤ 39 → 0 ≤ y6 → y6 ≤ 255 → 0 ≤ y9 → y9 ≤ 8 → jt (jxX E d 253 85 [some (.inr (.inr (.inl 146))), some (.inl y1), some (.inr (.inl y2)), none, some (.inl y4), some (.inl y5), some (.inl y6), some (.inr (.inl y7)), none, some (.inl y9), none, none] [] (jxSH, a0, b)) (jQ_X12_best x1 x2 a0 b0) := by
    intro y1 y2 y4 y5 y6 y7 y9 b hm hi0 hi1 hi2 hi3 hi4 hi5 hi6 hi7 hi8 hi9
    refine jt_eq (bq_X12_best_85 E d y1 y2 y4 y5 y6 y7 y9 a0 b) ?_
    have h377_ := iv_get hv0 (k := 146) (j := 44) (l := 0) (u := 8) rfl
    refine jt_ite (fun c378_ => ?_) (fun c378_ => ?_)
    ·
      have h379_ := jxshr_b y6 y9
      have h380_ := jxand_r (jxshr y6 y9) 1 (by decide) (by decide)
      refine jt_ite (fun c381_ => ?_) (fun c381_ => ?_)
      ·
        exact hc192 y1 y2 y4 y5 y6 y7 y9 b (show (((((((y5 + 1) * 5677) + 0) + ((256 - y6) * 22)) + 0) + ((8 - y9) * 1)) + 0).toNat ≤ n from by omega) (show 0 ≤ y1 from by omega) (show y1 ≤ 255 from by omega) (show 1 ≤ y4 from by omega) (show y4 ≤ 256 from by omega) (show 0 ≤ y5 from by omega) (show y5 ≤ 39 from by omega) (show 0 ≤ y6 from by omega) (show y6 ≤ 255 from by omega) (show 0 ≤ y9 from by omega) (show y9 ≤ 7 from by omega)
      ·
        have h382_ := jxlcmp_b (jxandl (jxshrl y2 y5) 1) 1
        refine jt_ite (fun c383_ => ?_) (fun c383_ => ?_)
        ·
          exact hc192 y1 y2 y4 y5 y6 y7 y9 b (show (((((((y5 + 1) * 5677) + 0) + ((256 - y6) * 22)) + 0) + ((8 - y9) * 1)) + 0).toNat ≤ n from by omega) (show 0 ≤ y1 from by omega) (show y1 ≤ 255 from by omega) (show 1 ≤ y4 from by omega) (show y4 ≤ 256 from by omega) (show 0 ≤ y5 from by omega) (show y5 ≤ 39 from by omega) (show 0 ≤ y6 from by omega) (show y6 ≤ 255 from by omega) (show 0 ≤ y9 from by omega) (show y9 ≤ 7 from by omega)
        ·
          exact hc115 y1 y2 y4 y5 y6 y7 y9 b (show (((((((y5 + 1) * 5677) + 0) + ((256 - y6) * 22)) + 0) + ((8 - y9) * 1)) + 0).toNat ≤ n from by omega) (show 0 ≤ y1 from by omega) (show y1 ≤ 255 from by omega) (show 1 ≤ y4 from by omega) (show y4 ≤ 256 from by omega) (show 0 ≤ y5 from by omega) (show y5 ≤ 39 from by omega) (show 0 ≤ y6 from by omega) (show y6 ≤ 255 from by omega) (show 0 ≤ y9 from by omega) (show y9 ≤ 7 from by omega)
    ·
      have h384_ : jxw (256 * y5) = 256 * y5 := jxw_id (by omega) (by omega)
      have h385_ : jxw ((jxw (256 * y5)) + y6) = (jxw (256 * y5)) + y6 := jxw_id (by omega) (by omega)
      refine jt_grd (by omega) ?_
      have h386_ : jxw (y6 + 1) = y6 + 1 := jxw_id (by omega) (by omega)
      exact hc217 y1 y2 y4 y5 (jxw (y6 + 1)) (jxu b 177 ((jxw ((jxw (256 * y5)) + y6)).toNat) y7) (show (((((y5 + 1) * 5677) + 0) + ((256 - (jxw (y6 + 1))) * 22)) + 11).toNat ≤ n from by omega) (show 0 ≤ y1 from by omega) (show y1 ≤ 255 from by omega) (show 1 ≤ y4 from by omega) (show y4 ≤ 256 from by omega) (show 0 ≤ y5 from by omega) (show y5 ≤ 39 from by omega) (show 1 ≤ jxw (y6 + 1) from by omega) (show jxw (y6 + 1) ≤ 256 from by omega)
  have hc82 : ∀ (y1 y2 y4 y5 y6 y7 : Int) (b : Nat → Nat → Int), (((((y5 + 1) * 5677) + 0) + ((256 - y6) * 22)) + 10).toNat ≤ n → 0 ≤ y1 → y1 ≤ 255 → 1 ≤ y4 → y4 ≤ 256 → 0 ≤ y5 → y5 ≤ 39 → 0 ≤ y6 → y6 ≤ 255 → jt (jxX E d 253 82 [some (.inr (.inr (.inl 146))), some (.inl y1), some (.inr (.inl y2)), none, some (.inl y4), some (.inl y5), some (.inl y6), some (.inr (.inl y7)), none, none, none, none] [] (jxSH, a0, b)) (jQ_X12_best x1 x2 a0 b0) := by
    intro y1 y2 y4 y5 y6 y7 b hm hi0 hi1 hi2 hi3 hi4 hi5 hi6 hi7
    refine jt_eq (bq_X12_best_82 E d y1 y2 y4 y5 y6 y7 a0 b) ?_
    exact hc85 y1 y2 y4 y5 y6 y7 0 b (show (((((((y5 + 1) * 5677) + 0) + ((256 - y6) * 22)) + 0) + ((8 - 0) * 1)) + 0).toNat ≤ n from by omega) (show 0 ≤ y1 from by omega) (show y1 ≤ 255 from by omega) (show 1 ≤ y4 from by omega) (show y4 ≤ 256 from by omega) (show 0 ≤ y5 from by omega) (show y5 ≤ 39 from by omega) (show 0 ≤ y6 from by omega) (show y6 ≤ 255 from by omega) (show 0 ≤ 0 from by omega) (show 0 ≤ 8 from by omega)
  have hc57 : ∀ (y1 y2 y4 y5 y6 : Int) (b : Nat → Nat → Int), (((((y5 + 1) * 5677) + 0) + ((256 - y6) * 22)) + 10).toNat ≤ n → 0 ≤ y1 → y1 ≤ 255 → 1 ≤ y4 → y4 ≤ 256 → 0 ≤ y5 → y5 ≤ 39 → 0 ≤ y6 → y6 ≤ 256 → jt (jxX E d 253 57 [some (.inr (.inr (.inl 146))), some (.inl y1), some (.inr (.inl y2)), none, some (.inl y4), some (.inl y5), some (.inl y6), none, none, none, none, none] [] (jxSH, a0, b)) (jQ_X12_best x1 x2 a0 b0) := by
    intro y1 y2 y4 y5 y6 b hm hi0 hi1 hi2 hi3 hi4 hi5 hi6 hi7
    refine jt_eq (bq_X12_best_57 E d y1 y2 y4 y5 y6 a0 b) ?_
    refine jt_ite (fun c387_ => ?_) (fun c387_ => ?_)
    ·
      have h388_ : jxw (y5 + 1) = y5 + 1 := jxw_id (by omega) (by omega)
      have h389_ : jxw (256 * (jxw (y5 + 1))) = 256 * (jxw (y5 + 1)) := jxw_id (by omega) (by omega)
      have h390_ : jxw ((jxw (256 * (jxw (y5 + 1)))) + y6) = (jxw (256 * (jxw (y5 + 1)))) + y6 := jxw_id (by omega) (by omega)
      refine jt_grd (by omega) ?_
      exact hc82 y1 y2 y4 y5 y6 (b 177 ((jxw ((jxw (256 * (jxw (y5 + 1)))) + y6)).toNat)) b (show (((((y5 + 1) * 5677) + 0) + ((256 - y6) * 22)) + 10).toNat ≤ n from by omega) (show 0 ≤ y1 from by omega) (show y1 ≤ 255 from by omega) (show 1 ≤ y4 from by omega) (show y4 ≤ 256 from by omega) (show 0 ≤ y5 from by omega) (show y5 ≤ 39 from by omega) (show 0 ≤ y6 from by omega) (show y6 ≤ 255 from by omega)
    ·
      have h391_ : jxw (y5 + (-1)) = y5 + (-1) := jxw_id (by omega) (by omega)
      exact ih49 y1 y2 y4 (jxw (y5 + (-1))) b (show ((((jxw (y5 + (-1))) + 1) * 5677) + 5676).toNat < n from by omega) (show 0 ≤ y1 from by omega) (show y1 ≤ 255 from by omega) (show 1 ≤ y4 from by omega) (show y4 ≤ 256 from by omega) (show 0 - 1 ≤ jxw (y5 + (-1)) from by omega) (show jxw (y5 + (-1)) ≤ 39 from by omega)
  have hc49 : ∀ (y1 y2 y4 y5 : Int) (b : Nat → Nat → Int), (((y5 + 1) * 5677) + 5676).toNat ≤ n → 0 ≤ y1 → y1 ≤ 255 → 1 ≤ y4 → y4 ≤ 256 → 0 - 1 ≤ y5 → y5 ≤ 39 → jt (jxX E d 253 49 [some (.inr (.inr (.inl 146))), some (.inl y1), some (.inr (.inl y2)), none, some (.inl y4), some (.inl y5), none, none, none, none, none, none] [] (jxSH, a0, b)) (jQ_X12_best x1 x2 a0 b0) := by
    intro y1 y2 y4 y5 b hm hi0 hi1 hi2 hi3 hi4 hi5
    refine jt_eq (bq_X12_best_49 E d y1 y2 y4 y5 a0 b) ?_
    refine jt_ite (fun c392_ => ?_) (fun c392_ => ?_)
    ·
      refine jt_grd (by omega) ?_
      exact jt_rJ rfl
    ·
      exact hc57 y1 y2 y4 y5 0 b (show (((((y5 + 1) * 5677) + 0) + ((256 - 0) * 22)) + 10).toNat ≤ n from by omega) (show 0 ≤ y1 from by omega) (show y1 ≤ 255 from by omega) (show 1 ≤ y4 from by omega) (show y4 ≤ 256 from by omega) (show 0 ≤ y5 from by omega) (show y5 ≤ 39 from by omega) (show 0 ≤ 0 from by omega) (show 0 ≤ 256 from by omega)
  exact ⟨hc192, hc175, hc115, hc217, hc85, hc82, hc57, hc49⟩
theorem cp_X12_best_11 (E : jxE) (d : Nat) (hd : Nat.ble 1 (d + 1) = true) (x1 x2 : Int) (a0 b0 : Nat → Nat → Int) (hv0 : iv a0) (hp0 : (0 ≤ x1 ∧ x1 ≤ 255)) : ∀ n : Nat, (∀ (y1 y2 y4 y5 : Int) (b : Nat → Nat → Int), (((256 - y5) * 2) + 1).toNat ≤ n → 0 ≤ y1 → y1 ≤ 255 → 1 ≤ y4 → y4 ≤ 256 → 1 ≤ y5 → y5 ≤ 256 → jt (jxX E d 253 38 [some (.inr (.inr (.inl 146))), some (.inl y1), some (.inr (.inl y2)), none, some (.inl y4), some (.inl y5), none, none, none, none, none, none] [] (jxSH, a0, b)) (jQ_X12_best x1 x2 a0 b0)) ∧ (∀ (y1 y2 y4 y5 : Int) (b : Nat → Nat → Int), (((256 - y5) * 2) + 0).toNat ≤ n → 0 ≤ y1 → y1 ≤ 255 → 1 ≤ y4 → y4 ≤ 256 → 0 ≤ y5 → y5 ≤ 256 → jt (jxX E d 253 11 [some (.inr (.inr (.inl 146))), some (.inl y1), some (.inr (.inl y2)), none, some (.inl y4), some (.inl y5), none, none, none, none, none, none] [] (jxSH, a0, b)) (jQ_X12_best x1 x2 a0 b0)) := by
  refine jx_ind fun n ih => ?_
  have ih38 : ∀ (y1 y2 y4 y5 : Int) (b : Nat → Nat → Int), (((256 - y5) * 2) + 1).toNat < n → 0 ≤ y1 → y1 ≤ 255 → 1 ≤ y4 → y4 ≤ 256 → 1 ≤ y5 → y5 ≤ 256 → jt (jxX E d 253 38 [some (.inr (.inr (.inl 146))), some (.inl y1), some (.inr (.inl y2)), none, some (.inl y4), some (.inl y5), none, none, none, none, none, none] [] (jxSH, a0, b)) (jQ_X12_best x1 x2 a0 b0) := fun y1 y2 y4 y5 b hlt i0 i1 i2 i3 i4 i5 => (ih _ hlt).1 y1 y2 y4 y5 b (Nat.le_refl _) i0 i1 i2 i3 i4 i5
  have ih11 : ∀ (y1 y2 y4 y5 : Int) (b : Nat → Nat → Int), (((256 - y5) * 2) + 0).toNat < n → 0 ≤ y1 → y1 ≤ 255 → 1 ≤ y4 → y4 ≤ 256 → 0 ≤ y5 → y5 ≤ 256 → jt (jxX E d 253 11 [some (.inr (.inr (.inl 146))), some (.inl y1), some (.inr (.inl y2)), none, some (.inl y4), some (.inl y5), none, none, none, none, none, none] [] (jxSH, a0, b)) (jQ_X12_best x1 x2 a0 b0) := fun y1 y2 y4 y5 b hlt i0 i1 i2 i3 i4 i5 => (ih _ hlt).2 y1 y2 y4 y5 b (Nat.le_refl _) i0 i1 i2 i3 i4 i5
  have hc38 : ∀ (y1 y2 y4 y5 : Int) (b : Nat → Nat → Int), (((256 - y5) * 2) + 1).toNat ≤ n → 0 ≤ y1 → y1 ≤ 255 → 1 ≤ y4 → y4 ≤ 256 → 1 ≤ y5 → y5 ≤ 256 → jt (jxX E d 253 38 [some (.inr (.inr (.inl 146))), some (.inl y1), some (.inr (.inl y2)), none, some (.inl y4), some (.inl y5), none, none, none, none, none, none] [] (jxSH, a0, b)) (jQ_X12_best x1 x2 a0 b0) := by
    intro y1 y2 y4 y5 b hm hi0 hi1 hi2 hi3 hi4 hi5
    refine jt_eq (bq_X12_best_38 E d y1 y2 y4 y5 a0 b) ?_
    exact ih11 y1 y2 y4 y5 b (show (((256 - y5) * 2) + 0).toNat < n from by omega) (show 0 ≤ y1 from by omega) (show y1 ≤ 255 from by omega) (show 1 ≤ y4 from by omega) (show y4 ≤ 256 from by omega) (show 0 ≤ y5 from by omega) (show y5 ≤ 256 from by omega)
  have hc11 : ∀ (y1 y2 y4 y5 : Int) (b : Nat → Nat → Int), (((256 - y5) * 2) + 0).toNat ≤ n → 0 ≤ y1 → y1 ≤ 255 → 1 ≤ y4 → y4 ≤ 256 → 0 ≤ y5 → y5 ≤ 256 → jt (jxX E d 253 11 [some (.inr (.inr (.inl 146))), some (.inl y1), some (.inr (.inl y2)), none, some (.inl y4), some (.inl y5), none, none, none, none, none, none] [] (jxSH, a0, b)) (jQ_X12_best x1 x2 a0 b0) := by
    intro y1 y2 y4 y5 b hm hi0 hi1 hi2 hi3 hi4 hi5
    refine jt_eq (bq_X12_best_11 E d y1 y2 y4 y5 a0 b) ?_
    refine jt_ite (fun c393_ => ?_) (fun c393_ => ?_)
    ·
      have h394_ := iv_get hv0 (k := 146) (j := 2) (l := 0) (u := 40) rfl
      have h395_ : jxw (256 * (a0 146 2)) = 256 * (a0 146 2) := jxw_id (by omega) (by omega)
      have h396_ : jxw ((jxw (256 * (a0 146 2))) + y5) = (jxw (256 * (a0 146 2))) + y5 := jxw_id (by omega) (by omega)
      refine jt_grd (by omega) ?_
      have h397_ : jxw (y5 + 1) = y5 + 1 := jxw_id (by omega) (by omega)
      exact hc38 y1 y2 y4 (jxw (y5 + 1)) (jxu b 177 ((jxw ((jxw (256 * (a0 146 2))) + y5)).toNat) 0) (show (((256 - (jxw (y5 + 1))) * 2) + 1).toNat ≤ n from by omega) (show 0 ≤ y1 from by omega) (show y1 ≤ 255 from by omega) (show 1 ≤ y4 from by omega) (show y4 ≤ 256 from by omega) (show 1 ≤ jxw (y5 + 1) from by omega) (show jxw (y5 + 1) ≤ 256 from by omega)
    ·
      have h398_ := iv_get hv0 (k := 146) (j := 2) (l := 0) (u := 40) rfl
      have h399_ : jxw ((a0 146 2) - 1) = (a0 146 2) - 1 := jxw_id (by omega) (by omega)
      exact (cp_X12_best_49 E d hd x1 x2 a0 b0 hv0 hp0 _).2.2.2.2.2.2.2 y1 y2 y4 (jxw ((a0 146 2) - 1)) b (Nat.le_refl _) (show 0 ≤ y1 from by omega) (show y1 ≤ 255 from by omega) (show 1 ≤ y4 from by omega) (show y4 ≤ 256 from by omega) (show 0 - 1 ≤ jxw ((a0 146 2) - 1) from by omega) (show jxw ((a0 146 2) - 1) ≤ 39 from by omega)
  exact ⟨hc38, hc11⟩
theorem sp_X12_best (E : jxE) (d : Nat) (hd : Nat.ble 1 d = true) (x1 x2 : Int) (a0 b0 : Nat → Nat → Int) (hv0 : iv a0) (hp0 : (0 ≤ x1 ∧ x1 ≤ 255)) : jt (jxC E d 253 [.inr (.inr (.inl 146)), .inl x1, .inr (.inl x2)] (jxSH, a0, b0)) (jQ_X12_best x1 x2 a0 b0) := by
  obtain ⟨d, rfl⟩ := jd_succ hd
  refine jt_eq (bq_X12_best E d x1 x2 a0 b0) ?_
  have h400_ := iv_get hv0 (k := 146) (j := 44) (l := 0) (u := 8) rfl
  have h401_ := jxshl1_b (a0 146 44)
  exact (cp_X12_best_11 E d hd x1 x2 a0 b0 hv0 hp0 _).2 x1 x2 (jxshl 1 (a0 146 44)) 0 b0 (Nat.le_refl _) (show 0 ≤ x1 from by omega) (show x1 ≤ 255 from by omega) (show 1 ≤ jxshl 1 (a0 146 44) from by omega) (show jxshl 1 (a0 146 44) ≤ 256 from by omega) (show 0 ≤ 0 from by omega) (show 0 ≤ 256 from by omega)
abbrev jQ_X12_card (x1 x2 : Int) (a0 b0 : Nat → Nat → Int) : List jxV → (Nat → Nat → Int) → (Nat → Nat → Int) → Prop := rI (fun r a b => (a0 = a) ∧ (b0 = b) ∧ ((a0 146 9 = 0 → r = 0 - 1)) ∧ (0 ≤ x1 ∧ x1 < a0 146 9 → r = if x2 = 0 then a0 154 x1.toNat else if x2 = 1 then a0 155 x1.toNat else if x2 = 2 then a0 156 x1.toNat else if x2 = 3 then a0 157 x1.toNat else if x2 = 4 then vArr (cvR a0) x1.toNat else if x2 = 5 then a0 158 x1.toNat else if x2 = 6 then a0 159 x1.toNat else -1) ∧ (¬ (0 ≤ x1 ∧ x1 < a0 146 9) → r = -1))
theorem sp_X12_card (E : jxE) (d : Nat) (hd : Nat.ble 2 d = true) (x1 x2 : Int) (a0 b0 : Nat → Nat → Int) (hv0 : iv a0) : jt (jxC E d 259 [.inr (.inr (.inl 146)), .inl x1, .inl x2] (jxSH, a0, b0)) (jQ_X12_card x1 x2 a0 b0) := by
  obtain ⟨d, rfl⟩ := jd_succ hd
  refine jt_eq (bq_X12_card E d x1 x2 a0 b0) ?_
  refine jt_eI (eq_X12_in E d (jd_le hd rfl) x1 0 (jxw ((a0 146 9) - 1)) a0 b0) ?_
  have h402_ := iv_get hv0 (k := 146) (j := 9) (l := 0) (u := 300) rfl
  have h403_ : jxw ((a0 146 9) - 1) = (a0 146 9) - 1 := jxw_id (by omega) (by omega)
  have h404_ := f_X12_in_eq a0 b0 x1 0 (jxw ((a0 146 9) - 1))
  refine jt_ite (fun c405_ => ?_) (fun c405_ => ?_)
  ·
    exact jt_rI ⟨rfl, rfl, (show (a0 146 9 = 0 → (-1) = 0 - 1) from by omega), (fun h => by first | (exfalso; omega) | (repeat (first | rw [if_pos (by assumption)] | rw [if_neg (by omega)]))), (fun _ => rfl)⟩
  ·
    refine jt_ite (fun c406_ => ?_) (fun c406_ => ?_)
    ·
      exact jt_rI ⟨rfl, rfl, (show (a0 146 9 = 0 → (-1) = 0 - 1) from by omega), (fun h => by first | (exfalso; omega) | (repeat (first | rw [if_pos (by assumption)] | rw [if_neg (by omega)]))), (fun _ => rfl)⟩
    ·
      refine jt_ite (fun c407_ => ?_) (fun c407_ => ?_)
      ·
        refine jt_grd (by omega) ?_
        have h408_ := iv_get hv0 (k := 154) (j := x1.toNat) (l := 0) (u := 39) rfl
        exact jt_rI ⟨rfl, rfl, (show (a0 146 9 = 0 → a0 154 (x1.toNat) = 0 - 1) from by omega), (fun h => by first | (exfalso; omega) | (repeat (first | rw [if_pos (by assumption)] | rw [if_neg (by omega)]))), (fun h => absurd (by omega) h)⟩
      ·
        refine jt_ite (fun c409_ => ?_) (fun c409_ => ?_)
        ·
          refine jt_grd (by omega) ?_
          have h410_ := iv_get hv0 (k := 155) (j := x1.toNat) (l := 0) (u := 39) rfl
          exact jt_rI ⟨rfl, rfl, (show (a0 146 9 = 0 → a0 155 (x1.toNat) = 0 - 1) from by omega), (fun h => by first | (exfalso; omega) | (repeat (first | rw [if_pos (by assumption)] | rw [if_neg (by omega)]))), (fun h => absurd (by omega) h)⟩
        ·
          refine jt_ite (fun c411_ => ?_) (fun c411_ => ?_)
          ·
            refine jt_grd (by omega) ?_
            have h412_ := iv_get hv0 (k := 156) (j := x1.toNat) (l := 0) (u := 1999) rfl
            exact jt_rI ⟨rfl, rfl, (show (a0 146 9 = 0 → a0 156 (x1.toNat) = 0 - 1) from by omega), (fun h => by first | (exfalso; omega) | (repeat (first | rw [if_pos (by assumption)] | rw [if_neg (by omega)]))), (fun h => absurd (by omega) h)⟩
          ·
            refine jt_ite (fun c413_ => ?_) (fun c413_ => ?_)
            ·
              refine jt_grd (by omega) ?_
              exact jt_rI ⟨rfl, rfl, (show (a0 146 9 = 0 → a0 157 (x1.toNat) = 0 - 1) from by omega), (fun h => by first | (exfalso; omega) | (repeat (first | rw [if_pos (by assumption)] | rw [if_neg (by omega)]))), (fun h => absurd (by omega) h)⟩
            ·
              refine jt_ite (fun c414_ => ?_) (fun c414_ => ?_)
              ·
                refine jt_bI (sp_X12_arrival E d (jd_le hd rfl) x1 (a0 146 0) a0 b0 hv0 (show (0 ≤ x1 ∧ x1 ≤ 299) from by omega)) (fun r415_ a415_ b415_ h415_ => ?_)
                obtain ⟨rfl, rfl, hq415_0⟩ := h415_
                exact jt_rI ⟨rfl, rfl, (show (a0 146 9 = 0 → r415_ = 0 - 1) from by omega), (fun _ => by have q := hq415_0; rw [if_pos (Int.le_refl _)] at q; rw [if_neg (by omega), if_neg (by omega), if_neg (by omega), if_neg (by omega), if_pos (by assumption)]; exact q), (fun h => absurd (by omega) h)⟩
              ·
                refine jt_ite (fun c416_ => ?_) (fun c416_ => ?_)
                ·
                  refine jt_grd (by omega) ?_
                  exact jt_rI ⟨rfl, rfl, (show (a0 146 9 = 0 → a0 158 (x1.toNat) = 0 - 1) from by omega), (fun h => by first | (exfalso; omega) | (repeat (first | rw [if_pos (by assumption)] | rw [if_neg (by omega)]))), (fun h => absurd (by omega) h)⟩
                ·
                  refine jt_ite (fun c417_ => ?_) (fun c417_ => ?_)
                  ·
                    refine jt_grd (by omega) ?_
                    exact jt_rI ⟨rfl, rfl, (show (a0 146 9 = 0 → a0 159 (x1.toNat) = 0 - 1) from by omega), (fun h => by first | (exfalso; omega) | (repeat (first | rw [if_pos (by assumption)] | rw [if_neg (by omega)]))), (fun h => absurd (by omega) h)⟩
                  ·
                    exact absurd (by omega : False) id
abbrev jQ_X12_cardOf (x1 x2 : Int) (a0 b0 : Nat → Nat → Int) : List jxV → (Nat → Nat → Int) → (Nat → Nat → Int) → Prop := rI (fun r a b => (a0 = a) ∧ (b0 = b) ∧ (0 - 1 ≤ r) ∧ (r ≤ 299) ∧ (r < a0 146 9) ∧ ((∃ c : Nat, (c : Int) < a0 146 9 ∧ a0 158 c = x1 ∧ a0 154 c = x2) → 0 ≤ r))
theorem cp_X12_cardOf_30 (E : jxE) (d : Nat) (hd : Nat.ble 1 (d + 1) = true) (x1 x2 : Int) (a0 b0 : Nat → Nat → Int) (hv0 : iv a0) : ∀ (y3 : Int), 0 ≤ y3 → y3 ≤ 299 → 0 ≤ y3 → y3 < a0 146 9 → jt (jxX E d 275 30 [none, none, none, some (.inl y3)] [] (jxSH, a0, b0)) (jQ_X12_cardOf x1 x2 a0 b0) := by
  intro y3 hi0 hi1 hi2 hi3
  refine jt_eq (bq_X12_cardOf_30 E d y3 a0 b0) ?_
  have h418_ := iv_get hv0 (k := 146) (j := 9) (l := 0) (u := 300) rfl
  exact jt_rI ⟨rfl, rfl, (show 0 - 1 ≤ y3 from by omega), (show y3 ≤ 299 from by omega), (show y3 < a0 146 9 from by omega), (by first | (rintro ⟨c, h1, h2, h3⟩; exact absurd ⟨h2, h3⟩ (hne c (by omega))) | (intro _; omega))⟩
theorem cp_X12_cardOf_2 (E : jxE) (d : Nat) (hd : Nat.ble 1 (d + 1) = true) (x1 x2 : Int) (a0 b0 : Nat → Nat → Int) (hv0 : iv a0) : ∀ n : Nat, (∀ (y1 y2 y3 : Int), (((300 - y3) * 1) + 0).toNat ≤ n → 0 ≤ y3 → y3 ≤ 299 → y1 = x1 → y2 = x2 → 0 ≤ y3 → y3 < a0 146 9 → (∀ c : Nat, (c : Int) ≤ y3 → ¬ (a0 158 c = x1 ∧ a0 154 c = x2)) → jt (jxX E d 275 32 [some (.inr (.inr (.inl 146))), some (.inl y1), some (.inl y2), some (.inl y3)] [] (jxSH, a0, b0)) (jQ_X12_cardOf x1 x2 a0 b0)) ∧ (∀ (y1 y2 y3 : Int), (((300 - y3) * 1) + 0).toNat ≤ n → 0 ≤ y3 → y3 ≤ 300 → y1 = x1 → y2 = x2 → 0 ≤ y3 → (∀ c : Nat, (c : Int) < y3 → ¬ (a0 158 c = x1 ∧ a0 154 c = x2)) → jt (jxX E d 275 2 [some (.inr (.inr (.inl 146))), some (.inl y1), some (.inl y2), some (.inl y3)] [] (jxSH, a0, b0)) (jQ_X12_cardOf x1 x2 a0 b0)) := by
  refine jx_ind fun n ih => ?_
  have ih32 : ∀ (y1 y2 y3 : Int), (((300 - y3) * 1) + 0).toNat < n → 0 ≤ y3 → y3 ≤ 299 → y1 = x1 → y2 = x2 → 0 ≤ y3 → y3 < a0 146 9 → (∀ c : Nat, (c : Int) ≤ y3 → ¬ (a0 158 c = x1 ∧ a0 154 c = x2)) → jt (jxX E d 275 32 [some (.inr (.inr (.inl 146))), some (.inl y1), some (.inl y2), some (.inl y3)] [] (jxSH, a0, b0)) (jQ_X12_cardOf x1 x2 a0 b0) := fun y1 y2 y3 hlt i0 i1 i2 i3 i4 i5 i6 => (ih _ hlt).1 y1 y2 y3 (Nat.le_refl _) i0 i1 i2 i3 i4 i5 i6
  have ih2 : ∀ (y1 y2 y3 : Int), (((300 - y3) * 1) + 0).toNat < n → 0 ≤ y3 → y3 ≤ 300 → y1 = x1 → y2 = x2 → 0 ≤ y3 → (∀ c : Nat, (c : Int) < y3 → ¬ (a0 158 c = x1 ∧ a0 154 c = x2)) → jt (jxX E d 275 2 [some (.inr (.inr (.inl 146))), some (.inl y1), some (.inl y2), some (.inl y3)] [] (jxSH, a0, b0)) (jQ_X12_cardOf x1 x2 a0 b0) := fun y1 y2 y3 hlt i0 i1 i2 i3 i4 i5 => (ih _ hlt).2 y1 y2 y3 (Nat.le_refl _) i0 i1 i2 i3 i4 i5
  have hc32 : ∀ (y1 y2 y3 : Int), (((300 - y3) * 1) + 0).toNat ≤ n → 0 ≤ y3 → y3 ≤ 299 → y1 = x1 → y2 = x2 → 0 ≤ y3 → y3 < a0 146 9 → (∀ c : Nat, (c : Int) ≤ y3 → ¬ (a0 158 c = x1 ∧ a0 154 c = x2)) → jt (jxX E d 275 32 [some (.inr (.inr (.inl 146))), some (.inl y1), some (.inl y2), some (.inl y3)] [] (jxSH, a0, b0)) (jQ_X12_cardOf x1 x2 a0 b0) := by
    intro y1 y2 y3 hm hi0 hi1 hi2 hi3 hi4 hi5 hne
    refine jt_eq (bq_X12_cardOf_32 E d y1 y2 y3 a0 b0) ?_
    have h419_ := iv_get hv0 (k := 146) (j := 9) (l := 0) (u := 300) rfl
    have h420_ : jxw (y3 + 1) = y3 + 1 := jxw_id (by omega) (by omega)
    exact ih2 y1 y2 (jxw (y3 + 1)) (show (((300 - (jxw (y3 + 1))) * 1) + 0).toNat < n from by omega) (show 0 ≤ jxw (y3 + 1) from by omega) (show jxw (y3 + 1) ≤ 300 from by omega) (show y1 = x1 from by omega) (show y2 = x2 from by omega) (show 0 ≤ jxw (y3 + 1) from by omega) (by first | (intro c hc; exact hne c (by omega)) | (intro c hc; omega))
  have hc2 : ∀ (y1 y2 y3 : Int), (((300 - y3) * 1) + 0).toNat ≤ n → 0 ≤ y3 → y3 ≤ 300 → y1 = x1 → y2 = x2 → 0 ≤ y3 → (∀ c : Nat, (c : Int) < y3 → ¬ (a0 158 c = x1 ∧ a0 154 c = x2)) → jt (jxX E d 275 2 [some (.inr (.inr (.inl 146))), some (.inl y1), some (.inl y2), some (.inl y3)] [] (jxSH, a0, b0)) (jQ_X12_cardOf x1 x2 a0 b0) := by
    intro y1 y2 y3 hm hi0 hi1 hi2 hi3 hi4 hne
    refine jt_eq (bq_X12_cardOf_2 E d y1 y2 y3 a0 b0) ?_
    have h421_ := iv_get hv0 (k := 146) (j := 9) (l := 0) (u := 300) rfl
    refine jt_ite (fun c422_ => ?_) (fun c422_ => ?_)
    ·
      refine jt_grd (by omega) ?_
      refine jt_ite (fun c423_ => ?_) (fun c423_ => ?_)
      ·
        refine jt_grd (by omega) ?_
        have h424_ := iv_get hv0 (k := 154) (j := y3.toNat) (l := 0) (u := 39) rfl
        refine jt_ite (fun c425_ => ?_) (fun c425_ => ?_)
        ·
          exact cp_X12_cardOf_30 E d hd x1 x2 a0 b0 hv0 y3 (show 0 ≤ y3 from by omega) (show y3 ≤ 299 from by omega) (show 0 ≤ y3 from by omega) (show y3 < a0 146 9 from by omega)
        ·
          exact hc32 y1 y2 y3 (show (((300 - y3) * 1) + 0).toNat ≤ n from by omega) (show 0 ≤ y3 from by omega) (show y3 ≤ 299 from by omega) (show y1 = x1 from by omega) (show y2 = x2 from by omega) (show 0 ≤ y3 from by omega) (show y3 < a0 146 9 from by omega) (by intro c hc hh; rcases Int.lt_or_le (c : Int) y3 with h | h <;> first | exact hne c h hh | (obtain rfl : c = y3.toNat := (by omega); omega))
      ·
        exact hc32 y1 y2 y3 (show (((300 - y3) * 1) + 0).toNat ≤ n from by omega) (show 0 ≤ y3 from by omega) (show y3 ≤ 299 from by omega) (show y1 = x1 from by omega) (show y2 = x2 from by omega) (show 0 ≤ y3 from by omega) (show y3 < a0 146 9 from by omega) (by intro c hc hh; rcases Int.lt_or_le (c : Int) y3 with h | h <;> first | exact hne c h hh | (obtain rfl : c = y3.toNat := (by omega); omega))
    ·
      exact jt_rI ⟨rfl, rfl, (show 0 - 1 ≤ (-1) from by omega), (show (-1) ≤ 299 from by omega), (show (-1) < a0 146 9 from by omega), (by first | (rintro ⟨c, h1, h2, h3⟩; exact absurd ⟨h2, h3⟩ (hne c (by omega))) | (intro _; omega))⟩
  exact ⟨hc32, hc2⟩
theorem sp_X12_cardOf (E : jxE) (d : Nat) (hd : Nat.ble 1 d = true) (x1 x2 : Int) (a0 b0 : Nat → Nat → Int) (hv0 : iv a0) : jt (jxC E d 275 [.inr (.inr (.inl 146)), .inl x1, .inl x2] (jxSH, a0, b0)) (jQ_X12_cardOf x1 x2 a0 b0) := by
  obtain ⟨d, rfl⟩ := jd_succ hd
  refine jt_eq (bq_X12_cardOf E d x1 x2 a0 b0) ?_
  exact (cp_X12_cardOf_2 E d hd x1 x2 a0 b0 hv0 _).2 x1 x2 0 (Nat.le_refl _) (show 0 ≤ 0 from by omega) (show 0 ≤ 300 from by omega) (show x1 = x1 from by omega) (show x2 = x2 from by omega) (show 0 ≤ 0 from by omega) (by first | (intro c hc; exact hne c (by omega)) | (intro c hc; omega))
def jW_X12_clock : List (Nat × Nat) := [(146, 0)]
abbrev jQ_X12_clock (x1 : Int) (a0 b0 : Nat → Nat → Int) : List jxV → (Nat → Nat → Int) → (Nat → Nat → Int) → Prop := rI (fun r a b => (iv a) ∧ (jfr jW_X12_clock a0 a) ∧ (b0 = b) ∧ ((0 ≤ r ∧ r ≤ 1)) ∧ (((((r = 1 ∧ a0 146 0 ≤ x1) ∧ x1 ≤ 1999) ∧ a 146 0 = x1) ∨ ((r = 0 ∧ (x1 < a0 146 0 ∨ 1999 < x1)) ∧ a 146 0 = a0 146 0))))
theorem sp_X12_clock (E : jxE) (d : Nat) (hd : Nat.ble 2 d = true) (x1 : Int) (a0 b0 : Nat → Nat → Int) (hv0 : iv a0) : jt (jxC E d 208 [.inr (.inr (.inl 146)), .inl x1] (jxSH, a0, b0)) (jQ_X12_clock x1 a0 b0) := by
  obtain ⟨d, rfl⟩ := jd_succ hd
  refine jt_eq (bq_X12_clock E d x1 a0 b0) ?_
  refine jt_eI (eq_X12_in E d (jd_le hd rfl) x1 (a0 146 0) 1999 a0 b0) ?_
  have h426_ := iv_get hv0 (k := 146) (j := 0) (l := 0) (u := 1999) rfl
  have h427_ := f_X12_in_eq a0 b0 x1 (a0 146 0) 1999
  refine jt_ite (fun c428_ => ?_) (fun c428_ => ?_)
  ·
    exact jt_rI ⟨hv0, (jfr_rf _ _), rfl, (show (0 ≤ 0 ∧ 0 ≤ 1) from by omega), (show ((((0 = 1 ∧ a0 146 0 ≤ x1) ∧ x1 ≤ 1999) ∧ a0 146 0 = x1) ∨ ((0 = 0 ∧ (x1 < a0 146 0 ∨ 1999 < x1)) ∧ a0 146 0 = a0 146 0)) from by omega)⟩
  ·
    have hv429_ : iv (jxu a0 146 0 x1) := iv_put hv0 (l := 0) (u := 1999) rfl (by omega) (by omega)
    have hf430_ : jfr jW_X12_clock a0 (jxu a0 146 0 x1) := jfr_put (jfr_rf _ _) rfl
    exact jt_rI ⟨hv429_, hf430_, rfl, (show (0 ≤ 1 ∧ 1 ≤ 1) from by omega), (show ((((1 = 1 ∧ a0 146 0 ≤ x1) ∧ x1 ≤ 1999) ∧ x1 = x1) ∨ ((1 = 0 ∧ (x1 < a0 146 0 ∨ 1999 < x1)) ∧ x1 = a0 146 0)) from by omega)⟩
abbrev jQ_X12_count (x1 : Int) (a0 b0 : Nat → Nat → Int) : List jxV → (Nat → Nat → Int) → (Nat → Nat → Int) → Prop := rI (fun r a b => (a0 = a) ∧ (b0 = b) ∧ ((x1 = 0 → r = a0 146 0)) ∧ ((x1 = 1 → r = a0 146 2)) ∧ ((x1 = 3 → r = a0 146 9)) ∧ ((x1 = 4 → r = a0 146 17)) ∧ ((x1 = 5 → r = a0 146 49)) ∧ ((x1 = 6 → r = a0 146 55)) ∧ ((x1 = 7 → r = a0 146 68)) ∧ ((x1 = 8 → r = a0 146 22)) ∧ ((x1 = 9 → r = a0 146 42)) ∧ (((x1 = 2 ∧ a0 146 2 = 0) → r = 0)) ∧ (10 ≤ x1 ∧ x1 ≤ 14 → r = a0 171 (jxw (x1 - 10)).toNat) ∧ (20 ≤ x1 ∧ x1 ≤ 27 → r = a0 197 (jxw (x1 - 20)).toNat) ∧ (30 ≤ x1 ∧ x1 ≤ 37 → r = a0 196 (jxw (x1 - 30)).toNat) ∧ (((((x1 < 0 ∨ (14 < x1 ∧ x1 < 20)) ∨ (27 < x1 ∧ x1 < 30)) ∨ 37 < x1) → r = 0 - 1)))
theorem cp_X12_count_68 (E : jxE) (d : Nat) (hd : Nat.ble 2 (d + 1) = true) (x1 : Int) (a0 b0 : Nat → Nat → Int) (hv0 : iv a0) : ∀ n : Nat, (∀ (y2 y3 : Int), (((40 - y3) * 1) + 0).toNat ≤ n → 0 ≤ y3 → y3 ≤ 39 → x1 = 2 → (a0 146 2 = 0 → y2 = 0) → jt (jxX E d 289 93 [some (.inr (.inr (.inl 146))), none, some (.inl y2), some (.inl y3)] [] (jxSH, a0, b0)) (jQ_X12_count x1 a0 b0)) ∧ (∀ (y2 y3 : Int), (((40 - y3) * 1) + 0).toNat ≤ n → 0 ≤ y3 → y3 ≤ 40 → x1 = 2 → (a0 146 2 = 0 → y2 = 0) → jt (jxX E d 289 68 [some (.inr (.inr (.inl 146))), none, some (.inl y2), some (.inl y3)] [] (jxSH, a0, b0)) (jQ_X12_count x1 a0 b0)) := by
  refine jx_ind fun n ih => ?_
  have ih93 : ∀ (y2 y3 : Int), (((40 - y3) * 1) + 0).toNat < n → 0 ≤ y3 → y3 ≤ 39 → x1 = 2 → (a0 146 2 = 0 → y2 = 0) → jt (jxX E d 289 93 [some (.inr (.inr (.inl 146))), none, some (.inl y2), some (.inl y3)] [] (jxSH, a0, b0)) (jQ_X12_count x1 a0 b0) := fun y2 y3 hlt i0 i1 i2 i3 => (ih _ hlt).1 y2 y3 (Nat.le_refl _) i0 i1 i2 i3
  have ih68 : ∀ (y2 y3 : Int), (((40 - y3) * 1) + 0).toNat < n → 0 ≤ y3 → y3 ≤ 40 → x1 = 2 → (a0 146 2 = 0 → y2 = 0) → jt (jxX E d 289 68 [some (.inr (.inr (.inl 146))), none, some (.inl y2), some (.inl y3)] [] (jxSH, a0, b0)) (jQ_X12_count x1 a0 b0) := fun y2 y3 hlt i0 i1 i2 i3 => (ih _ hlt).2 y2 y3 (Nat.le_refl _) i0 i1 i2 i3
  have hc93 : ∀ (y2 y3 : Int), (((40 - y3) * 1) + 0).toNat ≤ n → 0 ≤ y3 → y3 ≤ 39 → x1 = 2 → (a0 146 2 = 0 → y2 = 0) → jt (jxX E d 289 93 [some (.inr (.inr (.inl 146))), none, some (.inl y2), some (.inl y3)] [] (jxSH, a0, b0)) (jQ_X12_count x1 a0 b0) := by
    intro y2 y3 hm hi0 hi1 hi2 hi3
    refine jt_eq (bq_X12_count_93 E d y2 y3 a0 b0) ?_
    have h431_ := iv_get hv0 (k := 146) (j := 2) (l := 0) (u := 40) rfl
    have h432_ : jxw (y3 + 1) = y3 + 1 := jxw_id (by omega) (by omega)
    exact ih68 y2 (jxw (y3 + 1)) (show (((40 - (jxw (y3 + 1))) * 1) + 0).toNat < n from by omega) (show 0 ≤ jxw (y3 + 1) from by omega) (show jxw (y3 + 1) ≤ 40 from by omega) (show x1 = 2 from by omega) (show (a0 146 2 = 0 → y2 = 0) from by omega)
  have hc68 : ∀ (y2 y3 : Int), (((40 - y3) * 1) + 0).toNat ≤ n → 0 ≤ y3 → y3 ≤ 40 → x1 = 2 → (a0 146 2 = 0 → y2 = 0) → jt (jxX E d 289 68 [some (.inr (.inr (.inl 146))), none, some (.inl y2), some (.inl y3)] [] (jxSH, a0, b0)) (jQ_X12_count x1 a0 b0) := by
    intro y2 y3 hm hi0 hi1 hi2 hi3
    refine jt_eq (bq_X12_count_68 E d y2 y3 a0 b0) ?_
    have h433_ := iv_get hv0 (k := 146) (j := 2) (l := 0) (u := 40) rfl
    refine jt_ite (fun c434_ => ?_) (fun c434_ => ?_)
    ·
      refine jt_grd (by omega) ?_
      have h435_ := iv_get hv0 (k := 152) (j := y3.toNat) (l := 0) (u := 1) rfl
      refine jt_ite (fun c436_ => ?_) (fun c436_ => ?_)
      ·
        have h437_ := jxw_im (y2 + 0)
        have h438_ := jxw_rg (y2 + 0)
        exact hc93 (jxw (y2 + 0)) y3 (show (((40 - y3) * 1) + 0).toNat ≤ n from by omega) (show 0 ≤ y3 from by omega) (show y3 ≤ 39 from by omega) (show x1 = 2 from by omega) (show (a0 146 2 = 0 → jxw (y2 + 0) = 0) from by omega)
      ·
        have h439_ := jxw_im (y2 + 1)
        have h440_ := jxw_rg (y2 + 1)
        exact hc93 (jxw (y2 + 1)) y3 (show (((40 - y3) * 1) + 0).toNat ≤ n from by omega) (show 0 ≤ y3 from by omega) (show y3 ≤ 39 from by omega) (show x1 = 2 from by omega) (show (a0 146 2 = 0 → jxw (y2 + 1) = 0) from by omega)
    ·
      have h441_ := iv_get hv0 (k := 146) (j := 0) (l := 0) (u := 1999) rfl
      have h442_ := iv_get hv0 (k := 146) (j := 9) (l := 0) (u := 300) rfl
      have h443_ := iv_get hv0 (k := 146) (j := 17) (l := 0) (u := 600) rfl
      have h444_ := iv_get hv0 (k := 146) (j := 49) (l := 0) (u := 20) rfl
      have h445_ := iv_get hv0 (k := 146) (j := 68) (l := 0) (u := 10) rfl
      have h446_ := iv_get hv0 (k := 146) (j := 22) (l := 0) (u := 200) rfl
      have h447_ := iv_get hv0 (k := 146) (j := 42) (l := 0) (u := 8) rfl
      exact jt_rI ⟨rfl, rfl, (show (x1 = 0 → y2 = a0 146 0) from by omega), (show (x1 = 1 → y2 = a0 146 2) from by omega), (show (x1 = 3 → y2 = a0 146 9) from by omega), (show (x1 = 4 → y2 = a0 146 17) from by omega), (show (x1 = 5 → y2 = a0 146 49) from by omega), (show (x1 = 6 → y2 = a0 146 55) from by omega), (show (x1 = 7 → y2 = a0 146 68) from by omega), (show (x1 = 8 → y2 = a0 146 22) from by omega), (show (x1 = 9 → y2 = a0 146 42) from by omega), (show ((x1 = 2 ∧ a0 146 2 = 0) → y2 = 0) from by omega), (by first | omega | (rw [← hyx]; omega)), (by first | omega | (rw [← hyx]; omega)), (by first | omega | (rw [← hyx]; omega)), (show ((((x1 < 0 ∨ (14 < x1 ∧ x1 < 20)) ∨ (27 < x1 ∧ x1 < 30)) ∨ 37 < x1) → y2 = 0 - 1) from by omega)⟩
  exact ⟨hc93, hc68⟩
theorem cp_X12_count_168 (E : jxE) (d : Nat) (hd : Nat.ble 2 (d + 1) = true) (x1 : Int) (a0 b0 : Nat → Nat → Int) (hv0 : iv a0) : ∀ (y1 : Int), 20 ≤ y1 → y1 ≤ 27 → (y1 = x1) → (20 ≤ x1 ∧ x1 ≤ 27) → jt (jxX E d 289 168 [some (.inr (.inr (.inl 146))), some (.inl y1), none, none] [] (jxSH, a0, b0)) (jQ_X12_count x1 a0 b0) := by
  intro y1 hi0 hi1 hyx hi3
  refine jt_eq (bq_X12_count_168 E d y1 a0 b0) ?_
  have h448_ : jxw (y1 - 20) = y1 - 20 := jxw_id (by omega) (by omega)
  refine jt_grd (by omega) ?_
  have h449_ := iv_get hv0 (k := 197) (j := (jxw (y1 - 20)).toNat) (l := 0) (u := 50) rfl
  have h450_ := iv_get hv0 (k := 146) (j := 0) (l := 0) (u := 1999) rfl
  have h451_ := iv_get hv0 (k := 146) (j := 2) (l := 0) (u := 40) rfl
  have h452_ := iv_get hv0 (k := 146) (j := 9) (l := 0) (u := 300) rfl
  have h453_ := iv_get hv0 (k := 146) (j := 17) (l := 0) (u := 600) rfl
  have h454_ := iv_get hv0 (k := 146) (j := 49) (l := 0) (u := 20) rfl
  have h455_ := iv_get hv0 (k := 146) (j := 68) (l := 0) (u := 10) rfl
  have h456_ := iv_get hv0 (k := 146) (j := 22) (l := 0) (u := 200) rfl
  have h457_ := iv_get hv0 (k := 146) (j := 42) (l := 0) (u := 8) rfl
  exact jt_rI ⟨rfl, rfl, (show (x1 = 0 → a0 197 ((jxw (y1 - 20)).toNat) = a0 146 0) from by omega), (show (x1 = 1 → a0 197 ((jxw (y1 - 20)).toNat) = a0 146 2) from by omega), (show (x1 = 3 → a0 197 ((jxw (y1 - 20)).toNat) = a0 146 9) from by omega), (show (x1 = 4 → a0 197 ((jxw (y1 - 20)).toNat) = a0 146 17) from by omega), (show (x1 = 5 → a0 197 ((jxw (y1 - 20)).toNat) = a0 146 49) from by omega), (show (x1 = 6 → a0 197 ((jxw (y1 - 20)).toNat) = a0 146 55) from by omega), (show (x1 = 7 → a0 197 ((jxw (y1 - 20)).toNat) = a0 146 68) from by omega), (show (x1 = 8 → a0 197 ((jxw (y1 - 20)).toNat) = a0 146 22) from by omega), (show (x1 = 9 → a0 197 ((jxw (y1 - 20)).toNat) = a0 146 42) from by omega), (show ((x1 = 2 ∧ a0 146 2 = 0) → a0 197 ((jxw (y1 - 20)).toNat) = 0) from by omega), (by first | omega | (rw [← hyx]; omega)), (by first | omega | (rw [← hyx]; omega)), (by first | omega | (rw [← hyx]; omega)), (show ((((x1 < 0 ∨ (14 < x1 ∧ x1 < 20)) ∨ (27 < x1 ∧ x1 < 30)) ∨ 37 < x1) → a0 197 ((jxw (y1 - 20)).toNat) = 0 - 1) from by omega)⟩
theorem cp_X12_count_178 (E : jxE) (d : Nat) (hd : Nat.ble 2 (d + 1) = true) (x1 : Int) (a0 b0 : Nat → Nat → Int) (hv0 : iv a0) : ∀ (y1 : Int), (y1 = x1) → (x1 < 0 ∨ 14 < x1) → (x1 < 20 ∨ 27 < x1) → jt (jxX E d 289 178 [some (.inr (.inr (.inl 146))), some (.inl y1), none, none] [] (jxSH, a0, b0)) (jQ_X12_count x1 a0 b0) := by
  intro y1 hyx hi1 hi2
  refine jt_eq (bq_X12_count_178 E d y1 a0 b0) ?_
  refine jt_eI (eq_X12_in E d (jd_le hd rfl) y1 30 37 a0 b0) ?_
  have h458_ := f_X12_in_eq a0 b0 y1 30 37
  refine jt_ite (fun c459_ => ?_) (fun c459_ => ?_)
  ·
    have h460_ := iv_get hv0 (k := 146) (j := 0) (l := 0) (u := 1999) rfl
    have h461_ := iv_get hv0 (k := 146) (j := 2) (l := 0) (u := 40) rfl
    have h462_ := iv_get hv0 (k := 146) (j := 9) (l := 0) (u := 300) rfl
    have h463_ := iv_get hv0 (k := 146) (j := 17) (l := 0) (u := 600) rfl
    have h464_ := iv_get hv0 (k := 146) (j := 49) (l := 0) (u := 20) rfl
    have h465_ := iv_get hv0 (k := 146) (j := 68) (l := 0) (u := 10) rfl
    have h466_ := iv_get hv0 (k := 146) (j := 22) (l := 0) (u := 200) rfl
    have h467_ := iv_get hv0 (k := 146) (j := 42) (l := 0) (u := 8) rfl
    exact jt_rI ⟨rfl, rfl, (show (x1 = 0 → (-1) = a0 146 0) from by omega), (show (x1 = 1 → (-1) = a0 146 2) from by omega), (show (x1 = 3 → (-1) = a0 146 9) from by omega), (show (x1 = 4 → (-1) = a0 146 17) from by omega), (show (x1 = 5 → (-1) = a0 146 49) from by omega), (show (x1 = 6 → (-1) = a0 146 55) from by omega), (show (x1 = 7 → (-1) = a0 146 68) from by omega), (show (x1 = 8 → (-1) = a0 146 22) from by omega), (show (x1 = 9 → (-1) = a0 146 42) from by omega), (show ((x1 = 2 ∧ a0 146 2 = 0) → (-1) = 0) from by omega), (by first | omega | (rw [← hyx]; omega)), (by first | omega | (rw [← hyx]; omega)), (by first | omega | (rw [← hyx]; omega)), (show ((((x1 < 0 ∨ (14 < x1 ∧ x1 < 20)) ∨ (27 < x1 ∧ x1 < 30)) ∨ 37 < x1) → (-1) = 0 - 1) from by omega)⟩
  ·
    have h468_ : jxw (y1 - 30) = y1 - 30 := jxw_id (by omega) (by omega)
    refine jt_grd (by omega) ?_
    have h469_ := iv_get hv0 (k := 196) (j := (jxw (y1 - 30)).toNat) (l := (-1)) (u := 500) rfl
    have h470_ := iv_get hv0 (k := 146) (j := 0) (l := 0) (u := 1999) rfl
    have h471_ := iv_get hv0 (k := 146) (j := 2) (l := 0) (u := 40) rfl
    have h472_ := iv_get hv0 (k := 146) (j := 9) (l := 0) (u := 300) rfl
    have h473_ := iv_get hv0 (k := 146) (j := 17) (l := 0) (u := 600) rfl
    have h474_ := iv_get hv0 (k := 146) (j := 49) (l := 0) (u := 20) rfl
    have h475_ := iv_get hv0 (k := 146) (j := 68) (l := 0) (u := 10) rfl
    have h476_ := iv_get hv0 (k := 146) (j := 22) (l := 0) (u := 200) rfl
    have h477_ := iv_get hv0 (k := 146) (j := 42) (l := 0) (u := 8) rfl
    exact jt_rI ⟨rfl, rfl, (show (x1 = 0 → a0 196 ((jxw (y1 - 30)).toNat) = a0 146 0) from by omega), (show (x1 = 1 → a0 196 ((jxw (y1 - 30)).toNat) = a0 146 2) from by omega), (show (x1 = 3 → a0 196 ((jxw (y1 - 30)).toNat) = a0 146 9) from by omega), (show (x1 = 4 → a0 196 ((jxw (y1 - 30)).toNat) = a0 146 17) from by omega), (show (x1 = 5 → a0 196 ((jxw (y1 - 30)).toNat) = a0 146 49) from by omega), (show (x1 = 6 → a0 196 ((jxw (y1 - 30)).toNat) = a0 146 55) from by omega), (show (x1 = 7 → a0 196 ((jxw (y1 - 30)).toNat) = a0 146 68) from by omega), (show (x1 = 8 → a0 196 ((jxw (y1 - 30)).toNat) = a0 146 22) from by omega), (show (x1 = 9 → a0 196 ((jxw (y1 - 30)).toNat) = a0 146 42) from by omega), (show ((x1 = 2 ∧ a0 146 2 = 0) → a0 196 ((jxw (y1 - 30)).toNat) = 0) from by omega), (by first | omega | (rw [← hyx]; omega)), (by first | omega | (rw [← hyx]; omega)), (by first | omega | (rw [← hyx]; omega)), (show ((((x1 < 0 ∨ (14 < x1 ∧ x1 < 20)) ∨ (27 < x1 ∧ x1 < 30)) ∨ 37 < x1) → a0 196 ((jxw (y1 - 30)).toNat) = 0 - 1) from by omega)⟩
theorem sp_X12_count (E : jxE) (d : Nat) (hd : Nat.ble 2 d = true) (x1 : Int) (a0 b0 : Nat → Nat → Int) (hv0 : iv a0) : jt (jxC E d 289 [.inr (.inr (.inl 146)), .inl x1] (jxSH, a0, b0)) (jQ_X12_count x1 a0 b0) := by
  obtain ⟨d, rfl⟩ := jd_succ hd
  refine jt_eq (bq_X12_count E d x1 a0 b0) ?_
  refine jt_ite (fun c478_ => ?_) (fun c478_ => ?_)
  ·
    refine jt_eI (eq_X12_in E d (jd_le hd rfl) x1 10 14 a0 b0) ?_
    have h479_ := f_X12_in_eq a0 b0 x1 10 14
    refine jt_ite (fun c480_ => ?_) (fun c480_ => ?_)
    ·
      refine jt_eI (eq_X12_in E d (jd_le hd rfl) x1 20 27 a0 b0) ?_
      have h481_ := f_X12_in_eq a0 b0 x1 20 27
      refine jt_ite (fun c482_ => ?_) (fun c482_ => ?_)
      ·
        exact cp_X12_count_178 E d hd x1 a0 b0 hv0 x1 (by first | rfl | assumption) (show (x1 < 0 ∨ 14 < x1) from by omega) (show (x1 < 20 ∨ 27 < x1) from by omega)
      ·
        exact cp_X12_count_168 E d hd x1 a0 b0 hv0 x1 (show 20 ≤ x1 from by omega) (show x1 ≤ 27 from by omega) (by first | rfl | assumption) (show (20 ≤ x1 ∧ x1 ≤ 27) from by omega)
    ·
      have h483_ : jxw (x1 - 10) = x1 - 10 := jxw_id (by omega) (by omega)
      refine jt_grd (by omega) ?_
      have h484_ := iv_get hv0 (k := 146) (j := 0) (l := 0) (u := 1999) rfl
      have h485_ := iv_get hv0 (k := 146) (j := 2) (l := 0) (u := 40) rfl
      have h486_ := iv_get hv0 (k := 146) (j := 9) (l := 0) (u := 300) rfl
      have h487_ := iv_get hv0 (k := 146) (j := 17) (l := 0) (u := 600) rfl
      have h488_ := iv_get hv0 (k := 146) (j := 49) (l := 0) (u := 20) rfl
      have h489_ := iv_get hv0 (k := 146) (j := 68) (l := 0) (u := 10) rfl
      have h490_ := iv_get hv0 (k := 146) (j := 22) (l := 0) (u := 200) rfl
      have h491_ := iv_get hv0 (k := 146) (j := 42) (l := 0) (u := 8) rfl
      exact jt_rI ⟨rfl, rfl, (show (x1 = 0 → a0 171 ((jxw (x1 - 10)).toNat) = a0 146 0) from by omega), (show (x1 = 1 → a0 171 ((jxw (x1 - 10)).toNat) = a0 146 2) from by omega), (show (x1 = 3 → a0 171 ((jxw (x1 - 10)).toNat) = a0 146 9) from by omega), (show (x1 = 4 → a0 171 ((jxw (x1 - 10)).toNat) = a0 146 17) from by omega), (show (x1 = 5 → a0 171 ((jxw (x1 - 10)).toNat) = a0 146 49) from by omega), (show (x1 = 6 → a0 171 ((jxw (x1 - 10)).toNat) = a0 146 55) from by omega), (show (x1 = 7 → a0 171 ((jxw (x1 - 10)).toNat) = a0 146 68) from by omega), (show (x1 = 8 → a0 171 ((jxw (x1 - 10)).toNat) = a0 146 22) from by omega), (show (x1 = 9 → a0 171 ((jxw (x1 - 10)).toNat) = a0 146 42) from by omega), (show ((x1 = 2 ∧ a0 146 2 = 0) → a0 171 ((jxw (x1 - 10)).toNat) = 0) from by omega), (by first | omega | (rw [← hyx]; omega)), (by first | omega | (rw [← hyx]; omega)), (by first | omega | (rw [← hyx]; omega)), (show ((((x1 < 0 ∨ (14 < x1 ∧ x1 < 20)) ∨ (27 < x1 ∧ x1 < 30)) ∨ 37 < x1) → a0 171 ((jxw (x1 - 10)).toNat) = 0 - 1) from by omega)⟩
  ·
    refine jt_ite (fun c492_ => ?_) (fun c492_ => ?_)
    ·
      have h493_ := iv_get hv0 (k := 146) (j := 0) (l := 0) (u := 1999) rfl
      have h494_ := iv_get hv0 (k := 146) (j := 2) (l := 0) (u := 40) rfl
      have h495_ := iv_get hv0 (k := 146) (j := 9) (l := 0) (u := 300) rfl
      have h496_ := iv_get hv0 (k := 146) (j := 17) (l := 0) (u := 600) rfl
      have h497_ := iv_get hv0 (k := 146) (j := 49) (l := 0) (u := 20) rfl
      have h498_ := iv_get hv0 (k := 146) (j := 68) (l := 0) (u := 10) rfl
      have h499_ := iv_get hv0 (k := 146) (j := 22) (l := 0) (u := 200) rfl
      have h500_ := iv_get hv0 (k := 146) (j := 42) (l := 0) (u := 8) rfl
      exact jt_rI ⟨rfl, rfl, (show (x1 = 0 → a0 146 0 = a0 146 0) from by omega), (show (x1 = 1 → a0 146 0 = a0 146 2) from by omega), (show (x1 = 3 → a0 146 0 = a0 146 9) from by omega), (show (x1 = 4 → a0 146 0 = a0 146 17) from by omega), (show (x1 = 5 → a0 146 0 = a0 146 49) from by omega), (show (x1 = 6 → a0 146 0 = a0 146 55) from by omega), (show (x1 = 7 → a0 146 0 = a0 146 68) from by omega), (show (x1 = 8 → a0 146 0 = a0 146 22) from by omega), (show (x1 = 9 → a0 146 0 = a0 146 42) from by omega), (show ((x1 = 2 ∧ a0 146 2 = 0) → a0 146 0 = 0) from by omega), (by first | omega | (rw [← hyx]; omega)), (by first | omega | (rw [← hyx]; omega)), (by first | omega | (rw [← hyx]; omega)), (show ((((x1 < 0 ∨ (14 < x1 ∧ x1 < 20)) ∨ (27 < x1 ∧ x1 < 30)) ∨ 37 < x1) → a0 146 0 = 0 - 1) from by omega)⟩
    ·
      refine jt_ite (fun c501_ => ?_) (fun c501_ => ?_)
      ·
        have h502_ := iv_get hv0 (k := 146) (j := 2) (l := 0) (u := 40) rfl
        have h503_ := iv_get hv0 (k := 146) (j := 0) (l := 0) (u := 1999) rfl
        have h504_ := iv_get hv0 (k := 146) (j := 9) (l := 0) (u := 300) rfl
        have h505_ := iv_get hv0 (k := 146) (j := 17) (l := 0) (u := 600) rfl
        have h506_ := iv_get hv0 (k := 146) (j := 49) (l := 0) (u := 20) rfl
        have h507_ := iv_get hv0 (k := 146) (j := 68) (l := 0) (u := 10) rfl
        have h508_ := iv_get hv0 (k := 146) (j := 22) (l := 0) (u := 200) rfl
        have h509_ := iv_get hv0 (k := 146) (j := 42) (l := 0) (u := 8) rfl
        exact jt_rI ⟨rfl, rfl, (show (x1 = 0 → a0 146 2 = a0 146 0) from by omega), (show (x1 = 1 → a0 146 2 = a0 146 2) from by omega), (show (x1 = 3 → a0 146 2 = a0 146 9) from by omega), (show (x1 = 4 → a0 146 2 = a0 146 17) from by omega), (show (x1 = 5 → a0 146 2 = a0 146 49) from by omega), (show (x1 = 6 → a0 146 2 = a0 146 55) from by omega), (show (x1 = 7 → a0 146 2 = a0 146 68) from by omega), (show (x1 = 8 → a0 146 2 = a0 146 22) from by omega), (show (x1 = 9 → a0 146 2 = a0 146 42) from by omega), (show ((x1 = 2 ∧ a0 146 2 = 0) → a0 146 2 = 0) from by omega), (by first | omega | (rw [← hyx]; omega)), (by first | omega | (rw [← hyx]; omega)), (by first | omega | (rw [← hyx]; omega)), (show ((((x1 < 0 ∨ (14 < x1 ∧ x1 < 20)) ∨ (27 < x1 ∧ x1 < 30)) ∨ 37 < x1) → a0 146 2 = 0 - 1) from by omega)⟩
      ·
        refine jt_ite (fun c510_ => ?_) (fun c510_ => ?_)
        ·
          have h511_ := iv_get hv0 (k := 146) (j := 2) (l := 0) (u := 40) rfl
          exact (cp_X12_count_68 E d hd x1 a0 b0 hv0 _).2 0 0 (Nat.le_refl _) (show 0 ≤ 0 from by omega) (show 0 ≤ 40 from by omega) (show x1 = 2 from by omega) (show (a0 146 2 = 0 → 0 = 0) from by omega)
        ·
          refine jt_ite (fun c512_ => ?_) (fun c512_ => ?_)
          ·
            have h513_ := iv_get hv0 (k := 146) (j := 9) (l := 0) (u := 300) rfl
            have h514_ := iv_get hv0 (k := 146) (j := 0) (l := 0) (u := 1999) rfl
            have h515_ := iv_get hv0 (k := 146) (j := 2) (l := 0) (u := 40) rfl
            have h516_ := iv_get hv0 (k := 146) (j := 17) (l := 0) (u := 600) rfl
            have h517_ := iv_get hv0 (k := 146) (j := 49) (l := 0) (u := 20) rfl
            have h518_ := iv_get hv0 (k := 146) (j := 68) (l := 0) (u := 10) rfl
            have h519_ := iv_get hv0 (k := 146) (j := 22) (l := 0) (u := 200) rfl
            have h520_ := iv_get hv0 (k := 146) (j := 42) (l := 0) (u := 8) rfl
            exact jt_rI ⟨rfl, rfl, (show (x1 = 0 → a0 146 9 = a0 146 0) from by omega), (show (x1 = 1 → a0 146 9 = a0 146 2) from by omega), (show (x1 = 3 → a0 146 9 = a0 146 9) from by omega), (show (x1 = 4 → a0 146 9 = a0 146 17) from by omega), (show (x1 = 5 → a0 146 9 = a0 146 49) from by omega), (show (x1 = 6 → a0 146 9 = a0 146 55) from by omega), (show (x1 = 7 → a0 146 9 = a0 146 68) from by omega), (show (x1 = 8 → a0 146 9 = a0 146 22) from by omega), (show (x1 = 9 → a0 146 9 = a0 146 42) from by omega), (show ((x1 = 2 ∧ a0 146 2 = 0) → a0 146 9 = 0) from by omega), (by first | omega | (rw [← hyx]; omega)), (by first | omega | (rw [← hyx]; omega)), (by first | omega | (rw [← hyx]; omega)), (show ((((x1 < 0 ∨ (14 < x1 ∧ x1 < 20)) ∨ (27 < x1 ∧ x1 < 30)) ∨ 37 < x1) → a0 146 9 = 0 - 1) from by omega)⟩
          ·
            refine jt_ite (fun c521_ => ?_) (fun c521_ => ?_)
            ·
              have h522_ := iv_get hv0 (k := 146) (j := 17) (l := 0) (u := 600) rfl
              have h523_ := iv_get hv0 (k := 146) (j := 0) (l := 0) (u := 1999) rfl
              have h524_ := iv_get hv0 (k := 146) (j := 2) (l := 0) (u := 40) rfl
              have h525_ := iv_get hv0 (k := 146) (j := 9) (l := 0) (u := 300) rfl
              have h526_ := iv_get hv0 (k := 146) (j := 49) (l := 0) (u := 20) rfl
              have h527_ := iv_get hv0 (k := 146) (j := 68) (l := 0) (u := 10) rfl
              have h528_ := iv_get hv0 (k := 146) (j := 22) (l := 0) (u := 200) rfl
              have h529_ := iv_get hv0 (k := 146) (j := 42) (l := 0) (u := 8) rfl
              exact jt_rI ⟨rfl, rfl, (show (x1 = 0 → a0 146 17 = a0 146 0) from by omega), (show (x1 = 1 → a0 146 17 = a0 146 2) from by omega), (show (x1 = 3 → a0 146 17 = a0 146 9) from by omega), (show (x1 = 4 → a0 146 17 = a0 146 17) from by omega), (show (x1 = 5 → a0 146 17 = a0 146 49) from by omega), (show (x1 = 6 → a0 146 17 = a0 146 55) from by omega), (show (x1 = 7 → a0 146 17 = a0 146 68) from by omega), (show (x1 = 8 → a0 146 17 = a0 146 22) from by omega), (show (x1 = 9 → a0 146 17 = a0 146 42) from by omega), (show ((x1 = 2 ∧ a0 146 2 = 0) → a0 146 17 = 0) from by omega), (by first | omega | (rw [← hyx]; omega)), (by first | omega | (rw [← hyx]; omega)), (by first | omega | (rw [← hyx]; omega)), (show ((((x1 < 0 ∨ (14 < x1 ∧ x1 < 20)) ∨ (27 < x1 ∧ x1 < 30)) ∨ 37 < x1) → a0 146 17 = 0 - 1) from by omega)⟩
            ·
              refine jt_ite (fun c530_ => ?_) (fun c530_ => ?_)
              ·
                have h531_ := iv_get hv0 (k := 146) (j := 49) (l := 0) (u := 20) rfl
                have h532_ := iv_get hv0 (k := 146) (j := 0) (l := 0) (u := 1999) rfl
                have h533_ := iv_get hv0 (k := 146) (j := 2) (l := 0) (u := 40) rfl
                have h534_ := iv_get hv0 (k := 146) (j := 9) (l := 0) (u := 300) rfl
                have h535_ := iv_get hv0 (k := 146) (j := 17) (l := 0) (u := 600) rfl
                have h536_ := iv_get hv0 (k := 146) (j := 68) (l := 0) (u := 10) rfl
                have h537_ := iv_get hv0 (k := 146) (j := 22) (l := 0) (u := 200) rfl
                have h538_ := iv_get hv0 (k := 146) (j := 42) (l := 0) (u := 8) rfl
                exact jt_rI ⟨rfl, rfl, (show (x1 = 0 → a0 146 49 = a0 146 0) from by omega), (show (x1 = 1 → a0 146 49 = a0 146 2) from by omega), (show (x1 = 3 → a0 146 49 = a0 146 9) from by omega), (show (x1 = 4 → a0 146 49 = a0 146 17) from by omega), (show (x1 = 5 → a0 146 49 = a0 146 49) from by omega), (show (x1 = 6 → a0 146 49 = a0 146 55) from by omega), (show (x1 = 7 → a0 146 49 = a0 146 68) from by omega), (show (x1 = 8 → a0 146 49 = a0 146 22) from by omega), (show (x1 = 9 → a0 146 49 = a0 146 42) from by omega), (show ((x1 = 2 ∧ a0 146 2 = 0) → a0 146 49 = 0) from by omega), (by first | omega | (rw [← hyx]; omega)), (by first | omega | (rw [← hyx]; omega)), (by first | omega | (rw [← hyx]; omega)), (show ((((x1 < 0 ∨ (14 < x1 ∧ x1 < 20)) ∨ (27 < x1 ∧ x1 < 30)) ∨ 37 < x1) → a0 146 49 = 0 - 1) from by omega)⟩
              ·
                refine jt_ite (fun c539_ => ?_) (fun c539_ => ?_)
                ·
                  have h540_ := iv_get hv0 (k := 146) (j := 0) (l := 0) (u := 1999) rfl
                  have h541_ := iv_get hv0 (k := 146) (j := 2) (l := 0) (u := 40) rfl
                  have h542_ := iv_get hv0 (k := 146) (j := 9) (l := 0) (u := 300) rfl
                  have h543_ := iv_get hv0 (k := 146) (j := 17) (l := 0) (u := 600) rfl
                  have h544_ := iv_get hv0 (k := 146) (j := 49) (l := 0) (u := 20) rfl
                  have h545_ := iv_get hv0 (k := 146) (j := 68) (l := 0) (u := 10) rfl
                  have h546_ := iv_get hv0 (k := 146) (j := 22) (l := 0) (u := 200) rfl
                  have h547_ := iv_get hv0 (k := 146) (j := 42) (l := 0) (u := 8) rfl
                  exact jt_rI ⟨rfl, rfl, (show (x1 = 0 → a0 146 55 = a0 146 0) from by omega), (show (x1 = 1 → a0 146 55 = a0 146 2) from by omega), (show (x1 = 3 → a0 146 55 = a0 146 9) from by omega), (show (x1 = 4 → a0 146 55 = a0 146 17) from by omega), (show (x1 = 5 → a0 146 55 = a0 146 49) from by omega), (show (x1 = 6 → a0 146 55 = a0 146 55) from by omega), (show (x1 = 7 → a0 146 55 = a0 146 68) from by omega), (show (x1 = 8 → a0 146 55 = a0 146 22) from by omega), (show (x1 = 9 → a0 146 55 = a0 146 42) from by omega), (show ((x1 = 2 ∧ a0 146 2 = 0) → a0 146 55 = 0) from by omega), (by first | omega | (rw [← hyx]; omega)), (by first | omega | (rw [← hyx]; omega)), (by first | omega | (rw [← hyx]; omega)), (show ((((x1 < 0 ∨ (14 < x1 ∧ x1 < 20)) ∨ (27 < x1 ∧ x1 < 30)) ∨ 37 < x1) → a0 146 55 = 0 - 1) from by omega)⟩
                ·
                  refine jt_ite (fun c548_ => ?_) (fun c548_ => ?_)
                  ·
                    have h549_ := iv_get hv0 (k := 146) (j := 68) (l := 0) (u := 10) rfl
                    have h550_ := iv_get hv0 (k := 146) (j := 0) (l := 0) (u := 1999) rfl
                    have h551_ := iv_get hv0 (k := 146) (j := 2) (l := 0) (u := 40) rfl
                    have h552_ := iv_get hv0 (k := 146) (j := 9) (l := 0) (u := 300) rfl
                    have h553_ := iv_get hv0 (k := 146) (j := 17) (l := 0) (u := 600) rfl
                    have h554_ := iv_get hv0 (k := 146) (j := 49) (l := 0) (u := 20) rfl
                    have h555_ := iv_get hv0 (k := 146) (j := 22) (l := 0) (u := 200) rfl
                    have h556_ := iv_get hv0 (k := 146) (j := 42) (l := 0) (u := 8) rfl
                    exact jt_rI ⟨rfl, rfl, (show (x1 = 0 → a0 146 68 = a0 146 0) from by omega), (show (x1 = 1 → a0 146 68 = a0 146 2) from by omega), (show (x1 = 3 → a0 146 68 = a0 146 9) from by omega), (show (x1 = 4 → a0 146 68 = a0 146 17) from by omega), (show (x1 = 5 → a0 146 68 = a0 146 49) from by omega), (show (x1 = 6 → a0 146 68 = a0 146 55) from by omega), (show (x1 = 7 → a0 146 68 = a0 146 68) from by omega), (show (x1 = 8 → a0 146 68 = a0 146 22) from by omega), (show (x1 = 9 → a0 146 68 = a0 146 42) from by omega), (show ((x1 = 2 ∧ a0 146 2 = 0) → a0 146 68 = 0) from by omega), (by first | omega | (rw [← hyx]; omega)), (by first | omega | (rw [← hyx]; omega)), (by first | omega | (rw [← hyx]; omega)), (show ((((x1 < 0 ∨ (14 < x1 ∧ x1 < 20)) ∨ (27 < x1 ∧ x1 < 30)) ∨ 37 < x1) → a0 146 68 = 0 - 1) from by omega)⟩
                  ·
                    refine jt_ite (fun c557_ => ?_) (fun c557_ => ?_)
                    ·
                      have h558_ := iv_get hv0 (k := 146) (j := 22) (l := 0) (u := 200) rfl
                      have h559_ := iv_get hv0 (k := 146) (j := 0) (l := 0) (u := 1999) rfl
                      have h560_ := iv_get hv0 (k := 146) (j := 2) (l := 0) (u := 40) rfl
                      have h561_ := iv_get hv0 (k := 146) (j := 9) (l := 0) (u := 300) rfl
                      have h562_ := iv_get hv0 (k := 146) (j := 17) (l := 0) (u := 600) rfl
                      have h563_ := iv_get hv0 (k := 146) (j := 49) (l := 0) (u := 20) rfl
                      have h564_ := iv_get hv0 (k := 146) (j := 68) (l := 0) (u := 10) rfl
                      have h565_ := iv_get hv0 (k := 146) (j := 42) (l := 0) (u := 8) rfl
                      exact jt_rI ⟨rfl, rfl, (show (x1 = 0 → a0 146 22 = a0 146 0) from by omega), (show (x1 = 1 → a0 146 22 = a0 146 2) from by omega), (show (x1 = 3 → a0 146 22 = a0 146 9) from by omega), (show (x1 = 4 → a0 146 22 = a0 146 17) from by omega), (show (x1 = 5 → a0 146 22 = a0 146 49) from by omega), (show (x1 = 6 → a0 146 22 = a0 146 55) from by omega), (show (x1 = 7 → a0 146 22 = a0 146 68) from by omega), (show (x1 = 8 → a0 146 22 = a0 146 22) from by omega), (show (x1 = 9 → a0 146 22 = a0 146 42) from by omega), (show ((x1 = 2 ∧ a0 146 2 = 0) → a0 146 22 = 0) from by omega), (by first | omega | (rw [← hyx]; omega)), (by first | omega | (rw [← hyx]; omega)), (by first | omega | (rw [← hyx]; omega)), (show ((((x1 < 0 ∨ (14 < x1 ∧ x1 < 20)) ∨ (27 < x1 ∧ x1 < 30)) ∨ 37 < x1) → a0 146 22 = 0 - 1) from by omega)⟩
                    ·
                      refine jt_ite (fun c566_ => ?_) (fun c566_ => ?_)
                      ·
                        have h567_ := iv_get hv0 (k := 146) (j := 42) (l := 0) (u := 8) rfl
                        have h568_ := iv_get hv0 (k := 146) (j := 0) (l := 0) (u := 1999) rfl
                        have h569_ := iv_get hv0 (k := 146) (j := 2) (l := 0) (u := 40) rfl
                        have h570_ := iv_get hv0 (k := 146) (j := 9) (l := 0) (u := 300) rfl
                        have h571_ := iv_get hv0 (k := 146) (j := 17) (l := 0) (u := 600) rfl
                        have h572_ := iv_get hv0 (k := 146) (j := 49) (l := 0) (u := 20) rfl
                        have h573_ := iv_get hv0 (k := 146) (j := 68) (l := 0) (u := 10) rfl
                        have h574_ := iv_get hv0 (k := 146) (j := 22) (l := 0) (u := 200) rfl
                        exact jt_rI ⟨rfl, rfl, (show (x1 = 0 → a0 146 42 = a0 146 0) from by omega), (show (x1 = 1 → a0 146 42 = a0 146 2) from by omega), (show (x1 = 3 → a0 146 42 = a0 146 9) from by omega), (show (x1 = 4 → a0 146 42 = a0 146 17) from by omega), (show (x1 = 5 → a0 146 42 = a0 146 49) from by omega), (show (x1 = 6 → a0 146 42 = a0 146 55) from by omega), (show (x1 = 7 → a0 146 42 = a0 146 68) from by omega), (show (x1 = 8 → a0 146 42 = a0 146 22) from by omega), (show (x1 = 9 → a0 146 42 = a0 146 42) from by omega), (show ((x1 = 2 ∧ a0 146 2 = 0) → a0 146 42 = 0) from by omega), (by first | omega | (rw [← hyx]; omega)), (by first | omega | (rw [← hyx]; omega)), (by first | omega | (rw [← hyx]; omega)), (show ((((x1 < 0 ∨ (14 < x1 ∧ x1 < 20)) ∨ (27 < x1 ∧ x1 < 30)) ∨ 37 < x1) → a0 146 42 = 0 - 1) from by omega)⟩
                      ·
                        exact absurd (by omega : False) id
abbrev jQ_X12_offerIn (x1 x2 : Int) (a0 b0 : Nat → Nat → Int) : List jxV → (Nat → Nat → Int) → (Nat → Nat → Int) → Prop := rI (fun r a b => (a0 = a) ∧ (b0 = b) ∧ (0 - 1 ≤ r) ∧ (r ≤ 19) ∧ (r < a0 146 49) ∧ ((0 ≤ r → (a0 181 (r.toNat) = 1 ∧ a0 182 (r.toNat) = x1))))
theorem cp_X12_offerIn_2 (E : jxE) (d : Nat) (hd : Nat.ble 1 (d + 1) = true) (x1 x2 : Int) (a0 b0 : Nat → Nat → Int) (hv0 : iv a0) : ∀ n : Nat, (∀ (y1 y2 y3 : Int), (((20 - y3) * 1) + 0).toNat ≤ n → 0 ≤ y3 → y3 ≤ 19 → y1 = x1 → jt (jxX E d 276 42 [some (.inr (.inr (.inl 146))), some (.inl y1), some (.inl y2), some (.inl y3)] [] (jxSH, a0, b0)) (jQ_X12_offerIn x1 x2 a0 b0)) ∧ (∀ (y1 y2 y3 : Int), (((20 - y3) * 1) + 0).toNat ≤ n → 0 ≤ y3 → y3 ≤ 19 → y3 < a0 146 49 → a0 181 (y3.toNat) = 1 → a0 182 (y3.toNat) = x1 → y1 = x1 → jt (jxX E d 276 30 [some (.inr (.inr (.inl 146))), some (.inl y1), some (.inl y2), some (.inl y3)] [] (jxSH, a0, b0)) (jQ_X12_offerIn x1 x2 a0 b0)) ∧ (∀ (y1 y2 y3 : Int), (((20 - y3) * 1) + 0).toNat ≤ n → 0 ≤ y3 → y3 ≤ 20 → y1 = x1 → jt (jxX E d 276 2 [some (.inr (.inr (.inl 146))), some (.inl y1), some (.inl y2), some (.inl y3)] [] (jxSH, a0, b0)) (jQ_X12_offerIn x1 x2 a0 b0)) := by
  refine jx_ind fun n ih => ?_
  have ih42 : ∀ (y1 y2 y3 : Int), (((20 - y3) * 1) + 0).toNat < n → 0 ≤ y3 → y3 ≤ 19 → y1 = x1 → jt (jxX E d 276 42 [some (.inr (.inr (.inl 146))), some (.inl y1), some (.inl y2), some (.inl y3)] [] (jxSH, a0, b0)) (jQ_X12_offerIn x1 x2 a0 b0) := fun y1 y2 y3 hlt i0 i1 i2 => (ih _ hlt).1 y1 y2 y3 (Nat.le_refl _) i0 i1 i2
  have ih30 : ∀ (y1 y2 y3 : Int), (((20 - y3) * 1) + 0).toNat < n → 0 ≤ y3 → y3 ≤ 19 → y3 < a0 146 49 → a0 181 (y3.toNat) = 1 → a0 182 (y3.toNat) = x1 → y1 = x1 → jt (jxX E d 276 30 [some (.inr (.inr (.inl 146))), some (.inl y1), some (.inl y2), some (.inl y3)] [] (jxSH, a0, b0)) (jQ_X12_offerIn x1 x2 a0 b0) := fun y1 y2 y3 hlt i0 i1 i2 i3 i4 i5 => (ih _ hlt).2.1 y1 y2 y3 (Nat.le_refl _) i0 i1 i2 i3 i4 i5
  have ih2 : ∀ (y1 y2 y3 : Int), (((20 - y3) * 1) + 0).toNat < n → 0 ≤ y3 → y3 ≤ 20 → y1 = x1 → jt (jxX E d 276 2 [some (.inr (.inr (.inl 146))), some (.inl y1), some (.inl y2), some (.inl y3)] [] (jxSH, a0, b0)) (jQ_X12_offerIn x1 x2 a0 b0) := fun y1 y2 y3 hlt i0 i1 i2 => (ih _ hlt).2.2 y1 y2 y3 (Nat.le_refl _) i0 i1 i2
  have hc42 : ∀ (y1 y2 y3 : Int), (((20 - y3) * 1) + 0).toNat ≤ n → 0 ≤ y3 → y3 ≤ 19 → y1 = x1 → jt (jxX E d 276 42 [some (.inr (.inr (.inl 146))), some (.inl y1), some (.inl y2), some (.inl y3)] [] (jxSH, a0, b0)) (jQ_X12_offerIn x1 x2 a0 b0) := by
    intro y1 y2 y3 hm hi0 hi1 hi2
    refine jt_eq (bq_X12_offerIn_42 E d y1 y2 y3 a0 b0) ?_
    have h575_ : jxw (y3 + 1) = y3 + 1 := jxw_id (by omega) (by omega)
    exact ih2 y1 y2 (jxw (y3 + 1)) (show (((20 - (jxw (y3 + 1))) * 1) + 0).toNat < n from by omega) (show 0 ≤ jxw (y3 + 1) from by omega) (show jxw (y3 + 1) ≤ 20 from by omega) (show y1 = x1 from by omega)
  have hc30 : ∀ (y1 y2 y3 : Int), (((20 - y3) * 1) + 0).toNat ≤ n → 0 ≤ y3 → y3 ≤ 19 → y3 < a0 146 49 → a0 181 (y3.toNat) = 1 → a0 182 (y3.toNat) = x1 → y1 = x1 → jt (jxX E d 276 30 [some (.inr (.inr (.inl 146))), some (.inl y1), some (.inl y2), some (.inl y3)] [] (jxSH, a0, b0)) (jQ_X12_offerIn x1 x2 a0 b0) := by
    intro y1 y2 y3 hm hi0 hi1 hi2 hi3 hi4 hi5
    refine jt_eq (bq_X12_offerIn_30 E d y1 y2 y3 a0 b0) ?_
    have h576_ := iv_get hv0 (k := 146) (j := 49) (l := 0) (u := 20) rfl
    have h577_ := iv_get hv0 (k := 181) (j := y3.toNat) (l := 0) (u := 2) rfl
    refine jt_grd (by omega) ?_
    have h578_ := iv_get hv0 (k := 178) (j := y3.toNat) (l := 0) (u := 39) rfl
    refine jt_ite (fun c579_ => ?_) (fun c579_ => ?_)
    ·
      exact jt_rI ⟨rfl, rfl, (show 0 - 1 ≤ y3 from by omega), (show y3 ≤ 19 from by omega), (show y3 < a0 146 49 from by omega), (show (0 ≤ y3 → (a0 181 (y3.toNat) = 1 ∧ a0 182 (y3.toNat) = x1)) from by omega)⟩
    ·
      exact hc42 y1 y2 y3 (show (((20 - y3) * 1) + 0).toNat ≤ n from by omega) (show 0 ≤ y3 from by omega) (show y3 ≤ 19 from by omega) (show y1 = x1 from by omega)
  have hc2 : ∀ (y1 y2 y3 : Int), (((20 - y3) * 1) + 0).toNat ≤ n → 0 ≤ y3 → y3 ≤ 20 → y1 = x1 → jt (jxX E d 276 2 [some (.inr (.inr (.inl 146))), some (.inl y1), some (.inl y2), some (.inl y3)] [] (jxSH, a0, b0)) (jQ_X12_offerIn x1 x2 a0 b0) := by
    intro y1 y2 y3 hm hi0 hi1 hi2
    refine jt_eq (bq_X12_offerIn_2 E d y1 y2 y3 a0 b0) ?_
    have h580_ := iv_get hv0 (k := 146) (j := 49) (l := 0) (u := 20) rfl
    refine jt_ite (fun c581_ => ?_) (fun c581_ => ?_)
    ·
      refine jt_grd (by omega) ?_
      have h582_ := iv_get hv0 (k := 181) (j := y3.toNat) (l := 0) (u := 2) rfl
      refine jt_ite (fun c583_ => ?_) (fun c583_ => ?_)
      ·
        refine jt_grd (by omega) ?_
        refine jt_ite (fun c584_ => ?_) (fun c584_ => ?_)
        ·
          exact hc30 y1 y2 y3 (show (((20 - y3) * 1) + 0).toNat ≤ n from by omega) (show 0 ≤ y3 from by omega) (show y3 ≤ 19 from by omega) (show y3 < a0 146 49 from by omega) (show a0 181 (y3.toNat) = 1 from by omega) (show a0 182 (y3.toNat) = x1 from by omega) (show y1 = x1 from by omega)
        ·
          exact hc42 y1 y2 y3 (show (((20 - y3) * 1) + 0).toNat ≤ n from by omega) (show 0 ≤ y3 from by omega) (show y3 ≤ 19 from by omega) (show y1 = x1 from by omega)
      ·
        exact hc42 y1 y2 y3 (show (((20 - y3) * 1) + 0).toNat ≤ n from by omega) (show 0 ≤ y3 from by omega) (show y3 ≤ 19 from by omega) (show y1 = x1 from by omega)
    ·
      have h585_ := iv_get hv0 (k := 181) (j := (-1 : Int).toNat) (l := 0) (u := 2) rfl
      exact jt_rI ⟨rfl, rfl, (show 0 - 1 ≤ (-1) from by omega), (show (-1) ≤ 19 from by omega), (show (-1) < a0 146 49 from by omega), (show (0 ≤ (-1) → (a0 181 ((-1 : Int).toNat) = 1 ∧ a0 182 ((-1 : Int).toNat) = x1)) from by omega)⟩
  exact ⟨hc42, hc30, hc2⟩
theorem sp_X12_offerIn (E : jxE) (d : Nat) (hd : Nat.ble 1 d = true) (x1 x2 : Int) (a0 b0 : Nat → Nat → Int) (hv0 : iv a0) : jt (jxC E d 276 [.inr (.inr (.inl 146)), .inl x1, .inl x2] (jxSH, a0, b0)) (jQ_X12_offerIn x1 x2 a0 b0) := by
  obtain ⟨d, rfl⟩ := jd_succ hd
  refine jt_eq (bq_X12_offerIn E d x1 x2 a0 b0) ?_
  exact (cp_X12_offerIn_2 E d hd x1 x2 a0 b0 hv0 _).2.2 x1 x2 0 (Nat.le_refl _) (show 0 ≤ 0 from by omega) (show 0 ≤ 20 from by omega) (show x1 = x1 from by omega)
def jW_X12_end : List (Nat × Nat) := [(146, 22)]
abbrev jQ_X12_end (x1 : Int) (a0 b0 : Nat → Nat → Int) : List jxV → (Nat → Nat → Int) → (Nat → Nat → Int) → Prop := rI (fun r a b => (iv a) ∧ (jfr jW_X12_end a0 a) ∧ (b0 = b) ∧ (((((0 ≤ x1 ∧ x1 ≤ a0 146 22) ∧ r = x1) ∧ a 146 22 = x1) ∨ (((x1 < 0 ∨ a0 146 22 < x1) ∧ r = 0 - 1) ∧ a 146 22 = a0 146 22))))
theorem sp_X12_end (E : jxE) (d : Nat) (hd : Nat.ble 1 d = true) (x1 : Int) (a0 b0 : Nat → Nat → Int) (hv0 : iv a0) : jt (jxC E d 213 [.inr (.inr (.inl 146)), .inl x1] (jxSH, a0, b0)) (jQ_X12_end x1 a0 b0) := by
  obtain ⟨d, rfl⟩ := jd_succ hd
  refine jt_eq (bq_X12_end E d x1 a0 b0) ?_
  refine jt_ite (fun c586_ => ?_) (fun c586_ => ?_)
  ·
    have h587_ := iv_get hv0 (k := 146) (j := 22) (l := 0) (u := 200) rfl
    exact jt_rI ⟨hv0, (jfr_rf _ _), rfl, (show ((((0 ≤ x1 ∧ x1 ≤ a0 146 22) ∧ (-1) = x1) ∧ a0 146 22 = x1) ∨ (((x1 < 0 ∨ a0 146 22 < x1) ∧ (-1) = 0 - 1) ∧ a0 146 22 = a0 146 22)) from by omega)⟩
  ·
    have h588_ := iv_get hv0 (k := 146) (j := 22) (l := 0) (u := 200) rfl
    refine jt_ite (fun c589_ => ?_) (fun c589_ => ?_)
    ·
      exact jt_rI ⟨hv0, (jfr_rf _ _), rfl, (show ((((0 ≤ x1 ∧ x1 ≤ a0 146 22) ∧ (-1) = x1) ∧ a0 146 22 = x1) ∨ (((x1 < 0 ∨ a0 146 22 < x1) ∧ (-1) = 0 - 1) ∧ a0 146 22 = a0 146 22)) from by omega)⟩
    ·
      have hv590_ : iv (jxu a0 146 22 x1) := iv_put hv0 (l := 0) (u := 200) rfl (by omega) (by omega)
      have hf591_ : jfr jW_X12_end a0 (jxu a0 146 22 x1) := jfr_put (jfr_rf _ _) rfl
      exact jt_rI ⟨hv590_, hf591_, rfl, (show ((((0 ≤ x1 ∧ x1 ≤ a0 146 22) ∧ x1 = x1) ∧ x1 = x1) ∨ (((x1 < 0 ∨ a0 146 22 < x1) ∧ x1 = 0 - 1) ∧ x1 = a0 146 22)) from by omega)⟩
def jWe_X12_far : List (Nat × Nat) := []
def jW_X12_far : List (Nat × Nat) := [(147, 9999)]
abbrev jQ_X12_far (x1 x2 x3 : Int) (a0 b0 : Nat → Nat → Int) : List jxV → (Nat → Nat → Int) → (Nat → Nat → Int) → Prop := rI (fun r a b => (iv a) ∧ (jfr jW_X12_far a0 a) ∧ (b0 = b) ∧ (FarP (a0 147) (a 147) x1 x2 x3 r))
theorem cp_X12_far_29 (E : jxE) (d : Nat) (hd : Nat.ble 3 (d + 1) = true) (x1 x2 x3 : Int) (a0 b0 : Nat → Nat → Int) (hv0 : iv a0) : ∀ (a : Nat → Nat → Int), iv a → jfr jW_X12_far a0 a → ((((((x1 < 0 ∨ 15 < x1) ∨ x2 < 0) ∨ 15 < x2) ∨ x1 = x2) ∨ x3 < 0) ∨ 99 < x3) → (jfr jWe_X12_far a0 a) → jt (jxX E d 209 29 [none, none, none, none, none] [] (jxSH, a, b0)) (jQ_X12_far x1 x2 x3 a0 b0) := by
  intro a hv hf hi0 hfe
  refine jt_eq (bq_X12_far_29 E d a b0) ?_
  exact jt_rI ⟨hv, hf, rfl, (Or.inr ⟨by omega, rfl, fun j => hfe 147 j rfl⟩)⟩
theorem cp_X12_far_56 (E : jxE) (d : Nat) (hd : Nat.ble 3 (d + 1) = true) (x1 x2 x3 : Int) (a0 b0 : Nat → Nat → Int) (hv0 : iv a0) : ∀ (y1 y2 y3 y4 : Int) (a : Nat → Nat → Int), iv a → jfr jW_X12_far a0 a → 0 ≤ y1 → y1 ≤ 15 → 0 ≤ y2 → y2 ≤ 15 → 0 ≤ y3 → y3 ≤ 99 → 0 ≤ y4 → y4 ≤ 99 → y1 = x1 → y2 = x2 → y3 = x3 → ((((((0 ≤ x1 ∧ x1 ≤ 15) ∧ 0 ≤ x2) ∧ x2 ≤ 15) ∧ ¬ x1 = x2) ∧ 0 ≤ x3) ∧ x3 ≤ 99) → (∀ j, a 147 j = if j = (16 * x1 + x2).toNat then x3 else a0 147 j) → (y4 = a0 147 (16 * x1 + x2).toNat) → jt (jxX E d 209 56 [some (.inr (.inr (.inl 146))), some (.inl y1), some (.inl y2), some (.inl y3), some (.inl y4)] [] (jxSH, a, b0)) (jQ_X12_far x1 x2 x3 a0 b0) := by
  intro y1 y2 y3 y4 a hv hf hi0 hi1 hi2 hi3 hi4 hi5 hi6 hi7 hi8 hi9 hi10 hi11 hf56 hy4
  refine jt_eq (bq_X12_far_56 E d y1 y2 y3 y4 a b0) ?_
  have hix2 : (jxw ((jxw (16 * y2)) + y1)).toNat = (16 * x2 + x1).toNat := by rw [jxw_id (x := 16 * y2) (by omega) (by omega), jxw_id (by omega) (by omega)]; omega
  have h592_ : jxw (16 * y2) = 16 * y2 := jxw_id (by omega) (by omega)
  have h593_ : jxw ((jxw (16 * y2)) + y1) = (jxw (16 * y2)) + y1 := jxw_id (by omega) (by omega)
  refine jt_grd (by omega) ?_
  have hv594_ : iv (jxu a 147 ((jxw ((jxw (16 * y2)) + y1)).toNat) y3) := iv_put hv (l := 0) (u := 99) rfl (by omega) (by omega)
  have hf595_ : jfr jW_X12_far a0 (jxu a 147 ((jxw ((jxw (16 * y2)) + y1)).toNat) y3) := jfr_put hf rfl
  exact jt_rI ⟨hv594_, hf595_, rfl, (Or.inl ⟨by omega, by omega, by omega, by omega, by omega, by omega, by omega, hy4, fun j => by rw [hix2]; simp only [jxu]; rw [hf56 j, show y3 = x3 from (by omega)]; simp⟩)⟩
theorem cp_X12_far_31 (E : jxE) (d : Nat) (hd : Nat.ble 3 (d + 1) = true) (x1 x2 x3 : Int) (a0 b0 : Nat → Nat → Int) (hv0 : iv a0) : ∀ (y1 y2 y3 : Int) (a : Nat → Nat → Int), iv a → jfr jW_X12_far a0 a → 0 ≤ y1 → y1 ≤ 15 → 0 ≤ y2 → y2 ≤ 15 → 0 ≤ y3 → y3 ≤ 99 → y1 = x1 → y2 = x2 → y3 = x3 → ((((((0 ≤ x1 ∧ x1 ≤ 15) ∧ 0 ≤ x2) ∧ x2 ≤ 15) ∧ ¬ x1 = x2) ∧ 0 ≤ x3) ∧ x3 ≤ 99) → (jfr jWe_X12_far a0 a) → jt (jxX E d 209 31 [some (.inr (.inr (.inl 146))), some (.inl y1), some (.inl y2), some (.inl y3), none] [] (jxSH, a, b0)) (jQ_X12_far x1 x2 x3 a0 b0) := by
  intro y1 y2 y3 a hv hf hi0 hi1 hi2 hi3 hi4 hi5 hi6 hi7 hi8 hi9 hfe
  refine jt_eq (bq_X12_far_31 E d y1 y2 y3 a b0) ?_
  have hix : (jxw ((jxw (16 * y1)) + y2)).toNat = (16 * x1 + x2).toNat := by rw [jxw_id (x := 16 * y1) (by omega) (by omega), jxw_id (by omega) (by omega)]; omega
  have h596_ : jxw (16 * y1) = 16 * y1 := jxw_id (by omega) (by omega)
  have h597_ : jxw ((jxw (16 * y1)) + y2) = (jxw (16 * y1)) + y2 := jxw_id (by omega) (by omega)
  refine jt_grd (by omega) ?_
  refine jt_grd (by omega) ?_
  have hv598_ : iv (jxu a 147 ((jxw ((jxw (16 * y1)) + y2)).toNat) y3) := iv_put hv (l := 0) (u := 99) rfl (by omega) (by omega)
  have hf599_ : jfr jW_X12_far a0 (jxu a 147 ((jxw ((jxw (16 * y1)) + y2)).toNat) y3) := jfr_put hf rfl
  have h600_ := iv_get hv (k := 147) (j := (jxw ((jxw (16 * y1)) + y2)).toNat) (l := 0) (u := 99) rfl
  exact cp_X12_far_56 E d hd x1 x2 x3 a0 b0 hv0 y1 y2 y3 (a 147 ((jxw ((jxw (16 * y1)) + y2)).toNat)) (jxu a 147 ((jxw ((jxw (16 * y1)) + y2)).toNat) y3) hv598_ hf599_ (show 0 ≤ y1 from by omega) (show y1 ≤ 15 from by omega) (show 0 ≤ y2 from by omega) (show y2 ≤ 15 from by omega) (show 0 ≤ y3 from by omega) (show y3 ≤ 99 from by omega) (show 0 ≤ a 147 ((jxw ((jxw (16 * y1)) + y2)).toNat) from by omega) (show a 147 ((jxw ((jxw (16 * y1)) + y2)).toNat) ≤ 99 from by omega) (show y1 = x1 from by omega) (show y2 = x2 from by omega) (show y3 = x3 from by omega) (show ((((((0 ≤ x1 ∧ x1 ≤ 15) ∧ 0 ≤ x2) ∧ x2 ≤ 15) ∧ ¬ x1 = x2) ∧ 0 ≤ x3) ∧ x3 ≤ 99) from by omega) (by intro j; rw [hix]; simp only [jxu]; rw [hfe 147 j rfl, show y3 = x3 from (by omega)]; simp) (by rw [hix]; exact hfe 147 _ rfl)
theorem sp_X12_far (E : jxE) (d : Nat) (hd : Nat.ble 3 d = true) (x1 x2 x3 : Int) (a0 b0 : Nat → Nat → Int) (hv0 : iv a0) : jt (jxC E d 209 [.inr (.inr (.inl 146)), .inl x1, .inl x2, .inl x3] (jxSH, a0, b0)) (jQ_X12_far x1 x2 x3 a0 b0) := by
  obtain ⟨d, rfl⟩ := jd_succ hd
  refine jt_eq (bq_X12_far E d x1 x2 x3 a0 b0) ?_
  refine jt_eI (eq_X12_isLand E d (jd_le hd rfl) x1 a0 b0) ?_
  have h601_ := f_X12_isLand_eq a0 b0 x1
  have h602_ := f_X12_in_eq a0 b0 x1 0 15
  refine jt_ite (fun c603_ => ?_) (fun c603_ => ?_)
  ·
    exact cp_X12_far_29 E d hd x1 x2 x3 a0 b0 hv0 a0 hv0 (jfr_rf _ _) (show ((((((x1 < 0 ∨ 15 < x1) ∨ x2 < 0) ∨ 15 < x2) ∨ x1 = x2) ∨ x3 < 0) ∨ 99 < x3) from by omega) (jfr_rf _ _)
  ·
    refine jt_eI (eq_X12_isLand E d (jd_le hd rfl) x2 a0 b0) ?_
    have h604_ := f_X12_isLand_eq a0 b0 x2
    have h605_ := f_X12_in_eq a0 b0 x2 0 15
    refine jt_ite (fun c606_ => ?_) (fun c606_ => ?_)
    ·
      exact cp_X12_far_29 E d hd x1 x2 x3 a0 b0 hv0 a0 hv0 (jfr_rf _ _) (show ((((((x1 < 0 ∨ 15 < x1) ∨ x2 < 0) ∨ 15 < x2) ∨ x1 = x2) ∨ x3 < 0) ∨ 99 < x3) from by omega) (jfr_rf _ _)
    ·
      refine jt_ite (fun c607_ => ?_) (fun c607_ => ?_)
      ·
        exact cp_X12_far_29 E d hd x1 x2 x3 a0 b0 hv0 a0 hv0 (jfr_rf _ _) (show ((((((x1 < 0 ∨ 15 < x1) ∨ x2 < 0) ∨ 15 < x2) ∨ x1 = x2) ∨ x3 < 0) ∨ 99 < x3) from by omega) (jfr_rf _ _)
      ·
        refine jt_eI (eq_X12_in E d (jd_le hd rfl) x3 0 99 a0 b0) ?_
        have h608_ := f_X12_in_eq a0 b0 x3 0 99
        refine jt_ite (fun c609_ => ?_) (fun c609_ => ?_)
        ·
          exact cp_X12_far_29 E d hd x1 x2 x3 a0 b0 hv0 a0 hv0 (jfr_rf _ _) (show ((((((x1 < 0 ∨ 15 < x1) ∨ x2 < 0) ∨ 15 < x2) ∨ x1 = x2) ∨ x3 < 0) ∨ 99 < x3) from by omega) (jfr_rf _ _)
        ·
          exact cp_X12_far_31 E d hd x1 x2 x3 a0 b0 hv0 x1 x2 x3 a0 hv0 (jfr_rf _ _) (show 0 ≤ x1 from by omega) (show x1 ≤ 15 from by omega) (show 0 ≤ x2 from by omega) (show x2 ≤ 15 from by omega) (show 0 ≤ x3 from by omega) (show x3 ≤ 99 from by omega) (show x1 = x1 from by omega) (show x2 = x2 from by omega) (show x3 = x3 from by omega) (show ((((((0 ≤ x1 ∧ x1 ≤ 15) ∧ 0 ≤ x2) ∧ x2 ≤ 15) ∧ ¬ x1 = x2) ∧ 0 ≤ x3) ∧ x3 ≤ 99) from by omega) (jfr_rf _ _)
def jW_X12_four : List (Nat × Nat) := [(146, 22), (164, 9999)]
abbrev jQ_X12_four (x1 : Int) (a0 b0 : Nat → Nat → Int) : List jxV → (Nat → Nat → Int) → (Nat → Nat → Int) → Prop := rV (fun a b => (iv a) ∧ (jfr jW_X12_four a0 a) ∧ (b0 = b) ∧ (a 146 22 = (a0 146 22) + 4) ∧ (APP (UB (a0 164)) (UB (a 164)) (a0 146 22) x1 (a0 146 22 + 4)))
theorem cp_X12_four_3 (E : jxE) (d : Nat) (hd : Nat.ble 1 (d + 1) = true) (x1 : Int) (a0 b0 : Nat → Nat → Int) (hv0 : iv a0) (hp0 : a0 146 22 ≤ 196) : ∀ n : Nat, (∀ (y1 y2 : Int) (a : Nat → Nat → Int), (((y2 + 8) * 1) + 0).toNat ≤ n → iv a → jfr jW_X12_four a0 a → 0 ≤ y2 → y2 ≤ 24 → (8 * (a 146 22)) + y2 = (8 * (a0 146 22)) + 32 → (y1 = x1) → (APP (UB (a0 164)) (UB (a 164)) (a0 146 22) x1 (a 146 22)) → jt (jxX E d 211 30 [some (.inr (.inr (.inl 146))), some (.inl y1), some (.inl y2)] [] (jxSH, a, b0)) (jQ_X12_four x1 a0 b0)) ∧ (∀ (y1 y2 : Int) (a : Nat → Nat → Int), (((y2 + 8) * 1) + 0).toNat ≤ n → iv a → jfr jW_X12_four a0 a → 0 - 8 ≤ y2 → y2 ≤ 24 → (8 * (a 146 22)) + y2 = (8 * (a0 146 22)) + 24 → (y1 = x1) → (APP (UB (a0 164)) (UB (a 164)) (a0 146 22) x1 (a 146 22)) → jt (jxX E d 211 3 [some (.inr (.inr (.inl 146))), some (.inl y1), some (.inl y2)] [] (jxSH, a, b0)) (jQ_X12_four x1 a0 b0)) := by
  refine jx_ind fun n ih => ?_
  have ih30 : ∀ (y1 y2 : Int) (a : Nat → Nat → Int), (((y2 + 8) * 1) + 0).toNat < n → iv a → jfr jW_X12_four a0 a → 0 ≤ y2 → y2 ≤ 24 → (8 * (a 146 22)) + y2 = (8 * (a0 146 22)) + 32 → (y1 = x1) → (APP (UB (a0 164)) (UB (a 164)) (a0 146 22) x1 (a 146 22)) → jt (jxX E d 211 30 [some (.inr (.inr (.inl 146))), some (.inl y1), some (.inl y2)] [] (jxSH, a, b0)) (jQ_X12_four x1 a0 b0) := fun y1 y2 a hlt i0 i1 i2 i3 i4 i5 i6 => (ih _ hlt).1 y1 y2 a (Nat.le_refl _) i0 i1 i2 i3 i4 i5 i6
  have ih3 : ∀ (y1 y2 : Int) (a : Nat → Nat → Int), (((y2 + 8) * 1) + 0).toNat < n → iv a → jfr jW_X12_four a0 a → 0 - 8 ≤ y2 → y2 ≤ 24 → (8 * (a 146 22)) + y2 = (8 * (a0 146 22)) + 24 → (y1 = x1) → (APP (UB (a0 164)) (UB (a 164)) (a0 146 22) x1 (a 146 22)) → jt (jxX E d 211 3 [some (.inr (.inr (.inl 146))), some (.inl y1), some (.inl y2)] [] (jxSH, a, b0)) (jQ_X12_four x1 a0 b0) := fun y1 y2 a hlt i0 i1 i2 i3 i4 i5 i6 => (ih _ hlt).2 y1 y2 a (Nat.le_refl _) i0 i1 i2 i3 i4 i5 i6
  have hc30 : ∀ (y1 y2 : Int) (a : Nat → Nat → Int), (((y2 + 8) * 1) + 0).toNat ≤ n → iv a → jfr jW_X12_four a0 a → 0 ≤ y2 → y2 ≤ 24 → (8 * (a 146 22)) + y2 = (8 * (a0 146 22)) + 32 → (y1 = x1) → (APP (UB (a0 164)) (UB (a 164)) (a0 146 22) x1 (a 146 22)) → jt (jxX E d 211 30 [some (.inr (.inr (.inl 146))), some (.inl y1), some (.inl y2)] [] (jxSH, a, b0)) (jQ_X12_four x1 a0 b0) := by
    intro y1 y2 a hm hv hf hi0 hi1 hi2 hy1 hap
    refine jt_eq (bq_X12_four_30 E d y1 y2 a b0) ?_
    have h610_ := iv_get hv (k := 146) (j := 22) (l := 0) (u := 200) rfl
    have h611_ := iv_get hv0 (k := 146) (j := 22) (l := 0) (u := 200) rfl
    have h612_ : jxw (y2 + (-8)) = y2 + (-8) := jxw_id (by omega) (by omega)
    exact ih3 y1 (jxw (y2 + (-8))) a (show ((((jxw (y2 + (-8))) + 8) * 1) + 0).toNat < n from by omega) hv hf (show 0 - 8 ≤ jxw (y2 + (-8)) from by omega) (show jxw (y2 + (-8)) ≤ 24 from by omega) (show (8 * (a 146 22)) + (jxw (y2 + (-8))) = (8 * (a0 146 22)) + 24 from by omega) (by first | rfl | assumption) hap
  have hc3 : ∀ (y1 y2 : Int) (a : Nat → Nat → Int), (((y2 + 8) * 1) + 0).toNat ≤ n → iv a → jfr jW_X12_four a0 a → 0 - 8 ≤ y2 → y2 ≤ 24 → (8 * (a 146 22)) + y2 = (8 * (a0 146 22)) + 24 → (y1 = x1) → (APP (UB (a0 164)) (UB (a 164)) (a0 146 22) x1 (a 146 22)) → jt (jxX E d 211 3 [some (.inr (.inr (.inl 146))), some (.inl y1), some (.inl y2)] [] (jxSH, a, b0)) (jQ_X12_four x1 a0 b0) := by
    intro y1 y2 a hm hv hf hi0 hi1 hi2 hy1 hap
    refine jt_eq (bq_X12_four_3 E d y1 y2 a b0) ?_
    have h613_ := iv_get hv (k := 146) (j := 22) (l := 0) (u := 200) rfl
    have h614_ := iv_get hv0 (k := 146) (j := 22) (l := 0) (u := 200) rfl
    refine jt_ite (fun c615_ => ?_) (fun c615_ => ?_)
    ·
      exact jt_rV ⟨hv, hf, rfl, (show a 146 22 = (a0 146 22) + 4 from by omega), (by rw [show a0 146 22 + 4 = a 146 22 from by omega]; exact hap)⟩
    ·
      refine jt_grd (by omega) ?_
      have h616_ := jxshr_b y1 y2
      have h617_ := jxi2b_b (jxshr y1 y2)
      refine jt_grd (by omega) ?_
      have hv618_ : iv (jxu a 164 ((a 146 22).toNat) (jxi2b (jxshr y1 y2))) := iv_put hv (l := (-128)) (u := 127) rfl (by omega) (by omega)
      have h620_ : jxw ((a 146 22) + 1) = (a 146 22) + 1 := jxw_id (by omega) (by omega)
      have hv619_ : iv (jxu (jxu a 164 ((a 146 22).toNat) (jxi2b (jxshr y1 y2))) 146 22 (jxw ((a 146 22) + 1))) := iv_put hv618_ (l := 0) (u := 200) rfl (by omega) (by omega)
      have hf621_ : jfr jW_X12_four a0 (jxu a 164 ((a 146 22).toNat) (jxi2b (jxshr y1 y2))) := jfr_put hf rfl
      have hf622_ : jfr jW_X12_four a0 (jxu (jxu a 164 ((a 146 22).toNat) (jxi2b (jxshr y1 y2))) 146 22 (jxw ((a 146 22) + 1))) := jfr_put hf621_ rfl
      exact hc30 y1 y2 (jxu (jxu a 164 ((a 146 22).toNat) (jxi2b (jxshr y1 y2))) 146 22 (jxw ((a 146 22) + 1))) (show (((y2 + 8) * 1) + 0).toNat ≤ n from by omega) hv619_ hf622_ (show 0 ≤ y2 from by omega) (show y2 ≤ 24 from by omega) (show (8 * (jxw ((a 146 22) + 1))) + y2 = (8 * (a0 146 22)) + 32 from by omega) (by first | rfl | assumption) (by rw [show jxu (jxu a 164 ((a 146 22).toNat) (jxi2b (jxshr y1 y2))) 146 22 (jxw ((a 146 22) + 1)) 146 22 = a 146 22 + 1 from (show jxw ((a 146 22) + 1) = _ from by omega)]; exact APP_s (s := y2) hap (UP_UB (UP_put (fun _ => rfl)) (i2b_and _)) (by omega) (by omega) (by omega) (by rw [← hy1]))
  exact ⟨hc30, hc3⟩
theorem sp_X12_four (E : jxE) (d : Nat) (hd : Nat.ble 1 d = true) (x1 : Int) (a0 b0 : Nat → Nat → Int) (hv0 : iv a0) (hp0 : a0 146 22 ≤ 196) : jt (jxC E d 211 [.inr (.inr (.inl 146)), .inl x1] (jxSH, a0, b0)) (jQ_X12_four x1 a0 b0) := by
  obtain ⟨d, rfl⟩ := jd_succ hd
  refine jt_eq (bq_X12_four E d x1 a0 b0) ?_
  have h623_ := iv_get hv0 (k := 146) (j := 22) (l := 0) (u := 200) rfl
  exact (cp_X12_four_3 E d hd x1 a0 b0 hv0 hp0 _).2 x1 24 a0 (Nat.le_refl _) hv0 (jfr_rf _ _) (show 0 - 8 ≤ 24 from by omega) (show 24 ≤ 24 from by omega) (show (8 * (a0 146 22)) + 24 = (8 * (a0 146 22)) + 24 from by omega) (by first | rfl | assumption) (APP_0 _ _ _)
def jW_X12_feed : List (Nat × Nat) := [(146, 22), (164, 9999)]
abbrev jQ_X12_feed (x1 x2 x3 x4 x5 : Int) (a0 b0 : Nat → Nat → Int) : List jxV → (Nat → Nat → Int) → (Nat → Nat → Int) → Prop := rI (fun r a b => (iv a) ∧ (jfr jW_X12_feed a0 a) ∧ (b0 = b) ∧ ((((a0 146 22 ≤ 180 ∧ r = (a0 146 22) + 20) ∧ a 146 22 = (a0 146 22) + 20) ∨ ((180 < a0 146 22 ∧ r = 0 - 1) ∧ a 146 22 = a0 146 22))) ∧ (a0 146 22 ≤ 180 → FED (UB (a0 164)) (UB (a 164)) (a0 146 22) x1 x2 x3 x4 x5) ∧ (180 < a0 146 22 → ∀ j, a 164 j = a0 164 j))
theorem cp_X12_feed_30 (E : jxE) (d : Nat) (hd : Nat.ble 2 (d + 1) = true) (x1 x2 x3 x4 x5 : Int) (a0 b0 : Nat → Nat → Int) (hv0 : iv a0) : ∀ (y4 y5 : Int) (a : Nat → Nat → Int), iv a → jfr jW_X12_feed a0 a → a 146 22 = (a0 146 22) + 12 → a0 146 22 ≤ 180 → (∃ g1 g2 : Nat → Int, APP (UB (a0 164)) g1 (a0 146 22) x1 ((a0 146 22) + 4) ∧ APP g1 g2 ((a0 146 22) + 4) x2 ((a0 146 22) + 8) ∧ APP g2 (UB (a 164)) ((a0 146 22) + 8) x3 ((a0 146 22) + 12)) → (y4 = x4) → (y5 = x5) → jt (jxX E d 212 30 [some (.inr (.inr (.inl 146))), none, none, none, some (.inl y4), some (.inl y5)] [] (jxSH, a, b0)) (jQ_X12_feed x1 x2 x3 x4 x5 a0 b0) := by
  intro y4 y5 a hv hf hi0 hi1 hfd hy4 hy5
  refine jt_eq (bq_X12_feed_30 E d y4 y5 a b0) ?_
  have h624_ := iv_get hv (k := 146) (j := 22) (l := 0) (u := 200) rfl
  have h625_ := iv_get hv0 (k := 146) (j := 22) (l := 0) (u := 200) rfl
  refine jt_bV (sp_X12_four E d (jd_le hd rfl) y4 a b0 hv (show a 146 22 ≤ 196 from by omega)) (fun a626_ b626_ h626_ => ?_)
  obtain ⟨hv626_, hf626_, rfl, hq626_0, hq626_1⟩ := h626_
  have h627_ := iv_get hv626_ (k := 146) (j := 22) (l := 0) (u := 200) rfl
  refine jt_bV (sp_X12_four E d (jd_le hd rfl) y5 a626_ b0 hv626_ (show a626_ 146 22 ≤ 196 from by omega)) (fun a628_ b628_ h628_ => ?_)
  obtain ⟨hv628_, hf628_, rfl, hq628_0, hq628_1⟩ := h628_
  have h629_ := iv_get hv628_ (k := 146) (j := 22) (l := 0) (u := 200) rfl
  have hf630_ : jfr jW_X12_feed a0 a626_ := jfr_tr hf hf626_ rfl
  have hf631_ : jfr jW_X12_feed a0 a628_ := jfr_tr hf630_ hf628_ rfl
  exact jt_rI ⟨hv628_, hf631_, rfl, (show (((a0 146 22 ≤ 180 ∧ a628_ 146 22 = (a0 146 22) + 20) ∧ a628_ 146 22 = (a0 146 22) + 20) ∨ ((180 < a0 146 22 ∧ a628_ 146 22 = 0 - 1) ∧ a628_ 146 22 = a0 146 22)) from by omega), (fun _ => by obtain ⟨g1, g2, p1, p2, p3⟩ := hfd; subst hy4; subst hy5; exact ⟨g1, g2, (UB (a 164)), (UB (a626_ 164)), p1, p2, p3, APP_c (hq626_1) (by omega) (by omega), APP_c (hq628_1) (by omega) (by omega)⟩), (fun h => absurd h (by omega))⟩
theorem sp_X12_feed (E : jxE) (d : Nat) (hd : Nat.ble 2 d = true) (x1 x2 x3 x4 x5 : Int) (a0 b0 : Nat → Nat → Int) (hv0 : iv a0) : jt (jxC E d 212 [.inr (.inr (.inl 146)), .inl x1, .inl x2, .inl x3, .inl x4, .inl x5] (jxSH, a0, b0)) (jQ_X12_feed x1 x2 x3 x4 x5 a0 b0) := by
  obtain ⟨d, rfl⟩ := jd_succ hd
  refine jt_eq (bq_X12_feed E d x1 x2 x3 x4 x5 a0 b0) ?_
  have h632_ := iv_get hv0 (k := 146) (j := 22) (l := 0) (u := 200) rfl
  have h633_ : jxw ((a0 146 22) + 20) = (a0 146 22) + 20 := jxw_id (by omega) (by omega)
  refine jt_ite (fun c634_ => ?_) (fun c634_ => ?_)
  ·
    exact jt_rI ⟨hv0, (jfr_rf _ _), rfl, (show (((a0 146 22 ≤ 180 ∧ (-1) = (a0 146 22) + 20) ∧ a0 146 22 = (a0 146 22) + 20) ∨ ((180 < a0 146 22 ∧ (-1) = 0 - 1) ∧ a0 146 22 = a0 146 22)) from by omega), (fun h => absurd h (by omega)), (fun _ _ => rfl)⟩
  ·
    refine jt_bV (sp_X12_four E d (jd_le hd rfl) x1 a0 b0 hv0 (show a0 146 22 ≤ 196 from by omega)) (fun a635_ b635_ h635_ => ?_)
    obtain ⟨hv635_, hf635_, rfl, hq635_0, hq635_1⟩ := h635_
    have h636_ := iv_get hv635_ (k := 146) (j := 22) (l := 0) (u := 200) rfl
    refine jt_bV (sp_X12_four E d (jd_le hd rfl) x2 a635_ b0 hv635_ (show a635_ 146 22 ≤ 196 from by omega)) (fun a637_ b637_ h637_ => ?_)
    obtain ⟨hv637_, hf637_, rfl, hq637_0, hq637_1⟩ := h637_
    have h638_ := iv_get hv637_ (k := 146) (j := 22) (l := 0) (u := 200) rfl
    refine jt_bV (sp_X12_four E d (jd_le hd rfl) x3 a637_ b0 hv637_ (show a637_ 146 22 ≤ 196 from by omega)) (fun a639_ b639_ h639_ => ?_)
    obtain ⟨hv639_, hf639_, rfl, hq639_0, hq639_1⟩ := h639_
    have h640_ := iv_get hv639_ (k := 146) (j := 22) (l := 0) (u := 200) rfl
    have hf641_ : jfr jW_X12_feed a0 a635_ := jfr_tr (jfr_rf _ _) hf635_ rfl
    have hf642_ : jfr jW_X12_feed a0 a637_ := jfr_tr hf641_ hf637_ rfl
    have hf643_ : jfr jW_X12_feed a0 a639_ := jfr_tr hf642_ hf639_ rfl
    exact cp_X12_feed_30 E d hd x1 x2 x3 x4 x5 a0 b0 hv0 x4 x5 a639_ hv639_ hf643_ (show a639_ 146 22 = (a0 146 22) + 12 from by omega) (show a0 146 22 ≤ 180 from by omega) ⟨_, _, hq635_1, APP_c (hq637_1) (by omega) (by omega), APP_c (hq639_1) (by omega) (by omega)⟩ rfl rfl
def jW_X12_list : List (Nat × Nat) := [(146, 42), (173, 9999)]
abbrev jQ_X12_list (x1 : Int) (a0 b0 : Nat → Nat → Int) : List jxV → (Nat → Nat → Int) → (Nat → Nat → Int) → Prop := rI (fun r a b => (iv a) ∧ (jfr jW_X12_list a0 a) ∧ (b0 = b) ∧ ((a0 146 2 = 0 → r = 0 - 1)))
theorem cp_X12_list_67 (E : jxE) (d : Nat) (hd : Nat.ble 3 (d + 1) = true) (x1 : Int) (a0 b0 : Nat → Nat → Int) (hv0 : iv a0) : ∀ (a : Nat → Nat → Int), iv a → jfr jW_X12_list a0 a → 1 ≤ a 146 42 → 1 ≤ a0 146 2 → jt (jxX E d 252 67 [some (.inr (.inr (.inl 146))), none, none] [] (jxSH, a, b0)) (jQ_X12_list x1 a0 b0) := by
  intro a hv hf hi0 hi1
  refine jt_eq (bq_X12_list_67 E d a b0) ?_
  have h644_ := iv_get hv (k := 146) (j := 42) (l := 0) (u := 8) rfl
  have h645_ := iv_get hv0 (k := 146) (j := 2) (l := 0) (u := 40) rfl
  exact jt_rI ⟨hv, hf, rfl, (show (a0 146 2 = 0 → a 146 42 = 0 - 1) from by omega)⟩
theorem cp_X12_list_21 (E : jxE) (d : Nat) (hd : Nat.ble 3 (d + 1) = true) (x1 : Int) (a0 b0 : Nat → Nat → Int) (hv0 : iv a0) : ∀ n : Nat, (∀ (y1 y2 : Int) (a : Nat → Nat → Int), (((7 - y2) * 1) + 0).toNat ≤ n → iv a → jfr jW_X12_list a0 a → 0 ≤ y1 → y1 ≤ 39 → 0 ≤ y2 → y2 ≤ 7 → a 146 42 ≤ 7 → 1 ≤ a0 146 2 → jt (jxX E d 252 21 [some (.inr (.inr (.inl 146))), some (.inl y1), some (.inl y2)] [] (jxSH, a, b0)) (jQ_X12_list x1 a0 b0)) := by
  refine jx_ind fun n ih => ?_
  have ih21 : ∀ (y1 y2 : Int) (a : Nat → Nat → Int), (((7 - y2) * 1) + 0).toNat < n → iv a → jfr jW_X12_list a0 a → 0 ≤ y1 → y1 ≤ 39 → 0 ≤ y2 → y2 ≤ 7 → a 146 42 ≤ 7 → 1 ≤ a0 146 2 → jt (jxX E d 252 21 [some (.inr (.inr (.inl 146))), some (.inl y1), some (.inl y2)] [] (jxSH, a, b0)) (jQ_X12_list x1 a0 b0) := fun y1 y2 a hlt i0 i1 i2 i3 i4 i5 i6 i7 => (ih _ hlt) y1 y2 a (Nat.le_refl _) i0 i1 i2 i3 i4 i5 i6 i7
  have hc21 : ∀ (y1 y2 : Int) (a : Nat → Nat → Int), (((7 - y2) * 1) + 0).toNat ≤ n → iv a → jfr jW_X12_list a0 a → 0 ≤ y1 → y1 ≤ 39 → 0 ≤ y2 → y2 ≤ 7 → a 146 42 ≤ 7 → 1 ≤ a0 146 2 → jt (jxX E d 252 21 [some (.inr (.inr (.inl 146))), some (.inl y1), some (.inl y2)] [] (jxSH, a, b0)) (jQ_X12_list x1 a0 b0) := by
    intro y1 y2 a hm hv hf hi0 hi1 hi2 hi3 hi4 hi5
    refine jt_eq (bq_X12_list_21 E d y1 y2 a b0) ?_
    have h646_ := iv_get hv (k := 146) (j := 42) (l := 0) (u := 8) rfl
    have h647_ := iv_get hv0 (k := 146) (j := 2) (l := 0) (u := 40) rfl
    refine jt_ite (fun c648_ => ?_) (fun c648_ => ?_)
    ·
      refine jt_grd (by omega) ?_
      have h649_ := iv_get hv (k := 173) (j := y2.toNat) (l := 0) (u := 39) rfl
      refine jt_ite (fun c650_ => ?_) (fun c650_ => ?_)
      ·
        exact jt_rI ⟨hv, hf, rfl, (show (a0 146 2 = 0 → (-1) = 0 - 1) from by omega)⟩
      ·
        have h651_ : jxw (y2 + 1) = y2 + 1 := jxw_id (by omega) (by omega)
        exact ih21 y1 (jxw (y2 + 1)) a (show (((7 - (jxw (y2 + 1))) * 1) + 0).toNat < n from by omega) hv hf (show 0 ≤ y1 from by omega) (show y1 ≤ 39 from by omega) (show 0 ≤ jxw (y2 + 1) from by omega) (show jxw (y2 + 1) ≤ 7 from by omega) (show a 146 42 ≤ 7 from by omega) (show 1 ≤ a0 146 2 from by omega)
    ·
      refine jt_grd (by omega) ?_
      have hv652_ : iv (jxu a 173 ((a 146 42).toNat) y1) := iv_put hv (l := 0) (u := 39) rfl (by omega) (by omega)
      have h654_ : jxw ((a 146 42) + 1) = (a 146 42) + 1 := jxw_id (by omega) (by omega)
      have hv653_ : iv (jxu (jxu a 173 ((a 146 42).toNat) y1) 146 42 (jxw ((a 146 42) + 1))) := iv_put hv652_ (l := 0) (u := 8) rfl (by omega) (by omega)
      have hf655_ : jfr jW_X12_list a0 (jxu a 173 ((a 146 42).toNat) y1) := jfr_put hf rfl
      have hf656_ : jfr jW_X12_list a0 (jxu (jxu a 173 ((a 146 42).toNat) y1) 146 42 (jxw ((a 146 42) + 1))) := jfr_put hf655_ rfl
      exact cp_X12_list_67 E d hd x1 a0 b0 hv0 (jxu (jxu a 173 ((a 146 42).toNat) y1) 146 42 (jxw ((a 146 42) + 1))) hv653_ hf656_ (show 1 ≤ jxw ((a 146 42) + 1) from by omega) (show 1 ≤ a0 146 2 from by omega)
  exact hc21
theorem sp_X12_list (E : jxE) (d : Nat) (hd : Nat.ble 3 d = true) (x1 : Int) (a0 b0 : Nat → Nat → Int) (hv0 : iv a0) : jt (jxC E d 252 [.inr (.inr (.inl 146)), .inl x1] (jxSH, a0, b0)) (jQ_X12_list x1 a0 b0) := by
  obtain ⟨d, rfl⟩ := jd_succ hd
  refine jt_eq (bq_X12_list E d x1 a0 b0) ?_
  refine jt_eI (eq_X12_isMember E d (jd_le hd rfl) x1 a0 b0) ?_
  have h657_ := f_X12_isMember_eq a0 b0 x1
  have h658_ := iv_get hv0 (k := 146) (j := 2) (l := 0) (u := 40) rfl
  have h659_ : jxw ((a0 146 2) - 1) = (a0 146 2) - 1 := jxw_id (by omega) (by omega)
  have h660_ := f_X12_in_eq a0 b0 x1 0 (jxw ((a0 146 2) - 1))
  refine jt_ite (fun c661_ => ?_) (fun c661_ => ?_)
  ·
    exact jt_rI ⟨hv0, (jfr_rf _ _), rfl, (show (a0 146 2 = 0 → (-1) = 0 - 1) from by omega)⟩
  ·
    have h662_ := iv_get hv0 (k := 146) (j := 42) (l := 0) (u := 8) rfl
    refine jt_ite (fun c663_ => ?_) (fun c663_ => ?_)
    ·
      exact jt_rI ⟨hv0, (jfr_rf _ _), rfl, (show (a0 146 2 = 0 → (-1) = 0 - 1) from by omega)⟩
    ·
      exact (cp_X12_list_21 E d hd x1 a0 b0 hv0 _) x1 0 a0 (Nat.le_refl _) hv0 (jfr_rf _ _) (show 0 ≤ x1 from by omega) (show x1 ≤ 39 from by omega) (show 0 ≤ 0 from by omega) (show 0 ≤ 7 from by omega) (show a0 146 42 ≤ 7 from by omega) (show 1 ≤ a0 146 2 from by omega)
def jWeM2 : List (Nat × Nat) := []
def jW_X12_member : List (Nat × Nat) := [(146, 2), (148, 9999), (149, 9999), (150, 9999), (151, 9999), (152, 9999)]
abbrev jQ_X12_member (x1 x2 x3 : Int) (a0 b0 : Nat → Nat → Int) : List jxV → (Nat → Nat → Int) → (Nat → Nat → Int) → Prop := rI (fun r a b => (iv a) ∧ (jfr jW_X12_member a0 a) ∧ (b0 = b) ∧ ((((((((((0 ≤ x1 ∧ x1 ≤ 15) ∧ 0 ≤ x2) ∧ x2 ≤ 65535) ∧ 0 - 1 ≤ x3) ∧ x3 ≤ 19) ∧ a0 146 2 < 40) ∧ r = a0 146 2) ∧ a 146 2 = (a0 146 2) + 1) ∨ ((((((((x1 < 0 ∨ 15 < x1) ∨ x2 < 0) ∨ 65535 < x2) ∨ x3 < 0 - 1) ∨ 19 < x3) ∨ 40 ≤ a0 146 2) ∧ r = 0 - 1) ∧ a 146 2 = a0 146 2))) ∧ (0 ≤ r → MAD a0 a 148 149 150 151 152 r.toNat x1 x2 x3 (a0 146 0)) ∧ (r < 0 → MSA a0 a 148 149 150 151 152))
theorem cp_X12_member_36 (E : jxE) (d : Nat) (hd : Nat.ble 3 (d + 1) = true) (x1 x2 x3 : Int) (a0 b0 : Nat → Nat → Int) (hv0 : iv a0) : ∀ (a : Nat → Nat → Int), iv a → jfr jW_X12_member a0 a → ((((((x1 < 0 ∨ 15 < x1) ∨ x2 < 0) ∨ 65535 < x2) ∨ x3 < 0 - 1) ∨ 19 < x3) ∨ 40 ≤ a 146 2) → a 146 2 = a0 146 2 → (jfr jWeM2 a0 a) → jt (jxX E d 210 36 [none, none, none, none] [] (jxSH, a, b0)) (jQ_X12_member x1 x2 x3 a0 b0) := by
  intro a hv hf hi0 hi1 hfe
  refine jt_eq (bq_X12_member_36 E d a b0) ?_
  have h664_ := iv_get hv (k := 146) (j := 2) (l := 0) (u := 40) rfl
  have h665_ := iv_get hv0 (k := 146) (j := 2) (l := 0) (u := 40) rfl
  exact jt_rI ⟨hv, hf, rfl, (show (((((((((0 ≤ x1 ∧ x1 ≤ 15) ∧ 0 ≤ x2) ∧ x2 ≤ 65535) ∧ 0 - 1 ≤ x3) ∧ x3 ≤ 19) ∧ a0 146 2 < 40) ∧ (-1) = a0 146 2) ∧ a 146 2 = (a0 146 2) + 1) ∨ ((((((((x1 < 0 ∨ 15 < x1) ∨ x2 < 0) ∨ 65535 < x2) ∨ x3 < 0 - 1) ∨ 19 < x3) ∨ 40 ≤ a0 146 2) ∧ (-1) = 0 - 1) ∧ a 146 2 = a0 146 2)) from by omega), (by first | (intro h; exact absurd h (by decide)) | (intro _; rw [show (jxw ((a 146 2) - 1)).toNat = (a0 146 2).toNat from by omega]; exact hmad)), (by first | (intro _; exact MSA_e hfe) | (intro h; exact absurd h (by omega)))⟩
theorem cp_X12_member_101 (E : jxE) (d : Nat) (hd : Nat.ble 3 (d + 1) = true) (x1 x2 x3 : Int) (a0 b0 : Nat → Nat → Int) (hv0 : iv a0) : ∀ (a : Nat → Nat → Int), iv a → jfr jW_X12_member a0 a → 1 ≤ a 146 2 → (((((0 ≤ x1 ∧ x1 ≤ 15) ∧ 0 ≤ x2) ∧ x2 ≤ 65535) ∧ 0 - 1 ≤ x3) ∧ x3 ≤ 19) → a0 146 2 ≤ 39 → a 146 2 = (a0 146 2) + 1 → (MAD a0 a 148 149 150 151 152 (a0 146 2).toNat x1 x2 x3 (a0 146 0)) → jt (jxX E d 210 101 [some (.inr (.inr (.inl 146))), none, none, none] [] (jxSH, a, b0)) (jQ_X12_member x1 x2 x3 a0 b0) := by
  intro a hv hf hi0 hi1 hi2 hi3 hmad
  refine jt_eq (bq_X12_member_101 E d a b0) ?_
  have h666_ := iv_get hv (k := 146) (j := 2) (l := 0) (u := 40) rfl
  have h667_ := iv_get hv0 (k := 146) (j := 2) (l := 0) (u := 40) rfl
  have h668_ : jxw ((a 146 2) - 1) = (a 146 2) - 1 := jxw_id (by omega) (by omega)
  exact jt_rI ⟨hv, hf, rfl, (show (((((((((0 ≤ x1 ∧ x1 ≤ 15) ∧ 0 ≤ x2) ∧ x2 ≤ 65535) ∧ 0 - 1 ≤ x3) ∧ x3 ≤ 19) ∧ a0 146 2 < 40) ∧ jxw ((a 146 2) - 1) = a0 146 2) ∧ a 146 2 = (a0 146 2) + 1) ∨ ((((((((x1 < 0 ∨ 15 < x1) ∨ x2 < 0) ∨ 65535 < x2) ∨ x3 < 0 - 1) ∨ 19 < x3) ∨ 40 ≤ a0 146 2) ∧ jxw ((a 146 2) - 1) = 0 - 1) ∧ a 146 2 = a0 146 2)) from by omega), (by first | (intro h; exact absurd h (by decide)) | (intro _; rw [show (jxw ((a 146 2) - 1)).toNat = (a0 146 2).toNat from by omega]; exact hmad)), (by first | (intro _; exact MSA_e hfe) | (intro h; exact absurd h (by omega)))⟩
theorem cp_X12_member_68 (E : jxE) (d : Nat) (hd : Nat.ble 3 (d + 1) = true) (x1 x2 x3 : Int) (a0 b0 : Nat → Nat → Int) (hv0 : iv a0) : ∀ (a : Nat → Nat → Int), iv a → jfr jW_X12_member a0 a → a 146 2 ≤ 39 → (((((0 ≤ x1 ∧ x1 ≤ 15) ∧ 0 ≤ x2) ∧ x2 ≤ 65535) ∧ 0 - 1 ≤ x3) ∧ x3 ≤ 19) → a 146 2 ≤ 39 → a 146 2 = a0 146 2 → (UP (a0 148) (a 148) (a0 146 2).toNat x1 ∧ UP (a0 149) (a 149) (a0 146 2).toNat x2 ∧ UP (a0 150) (a 150) (a0 146 2).toNat x3 ∧ (∀ j, a 151 j = a0 151 j) ∧ (∀ j, a 152 j = a0 152 j)) → jt (jxX E d 210 68 [some (.inr (.inr (.inl 146))), none, none, none] [] (jxSH, a, b0)) (jQ_X12_member x1 x2 x3 a0 b0) := by
  intro a hv hf hi0 hi1 hi2 hi3 hu
  refine jt_eq (bq_X12_member_68 E d a b0) ?_
  have h669_ := iv_get hv (k := 146) (j := 2) (l := 0) (u := 40) rfl
  have h670_ := iv_get hv0 (k := 146) (j := 2) (l := 0) (u := 40) rfl
  refine jt_grd (by omega) ?_
  refine jt_grd (by omega) ?_
  have hv671_ : iv (jxu a 151 ((a 146 2).toNat) (a 146 0)) := iv_putf hv rfl
  have hv672_ : iv (jxu (jxu a 151 ((a 146 2).toNat) (a 146 0)) 152 ((a 146 2).toNat) 1) := iv_put hv671_ (l := 0) (u := 1) rfl (by omega) (by omega)
  have h674_ : jxw ((a 146 2) + 1) = (a 146 2) + 1 := jxw_id (by omega) (by omega)
  have hv673_ : iv (jxu (jxu (jxu a 151 ((a 146 2).toNat) (a 146 0)) 152 ((a 146 2).toNat) 1) 146 2 (jxw ((a 146 2) + 1))) := iv_put hv672_ (l := 0) (u := 40) rfl (by omega) (by omega)
  have hf675_ : jfr jW_X12_member a0 (jxu a 151 ((a 146 2).toNat) (a 146 0)) := jfr_put hf rfl
  have hf676_ : jfr jW_X12_member a0 (jxu (jxu a 151 ((a 146 2).toNat) (a 146 0)) 152 ((a 146 2).toNat) 1) := jfr_put hf675_ rfl
  have hf677_ : jfr jW_X12_member a0 (jxu (jxu (jxu a 151 ((a 146 2).toNat) (a 146 0)) 152 ((a 146 2).toNat) 1) 146 2 (jxw ((a 146 2) + 1))) := jfr_put hf676_ rfl
  exact cp_X12_member_101 E d hd x1 x2 x3 a0 b0 hv0 (jxu (jxu (jxu a 151 ((a 146 2).toNat) (a 146 0)) 152 ((a 146 2).toNat) 1) 146 2 (jxw ((a 146 2) + 1))) hv673_ hf677_ (show 1 ≤ jxw ((a 146 2) + 1) from by omega) (show (((((0 ≤ x1 ∧ x1 ≤ 15) ∧ 0 ≤ x2) ∧ x2 ≤ 65535) ∧ 0 - 1 ≤ x3) ∧ x3 ≤ 19) from by omega) (show a0 146 2 ≤ 39 from by omega) (show jxw ((a 146 2) + 1) = (a0 146 2) + 1 from by omega) (by rw [show a0 146 0 = a 146 0 from (hf 146 0 rfl).symm]; have e : (a0 146 2).toNat = (a 146 2).toNat := (by omega); rw [e] at hu ⊢; exact ⟨hu.1, hu.2.1, hu.2.2.1, UP_put hu.2.2.2.1, UP_put hu.2.2.2.2⟩)
theorem cp_X12_member_38 (E : jxE) (d : Nat) (hd : Nat.ble 3 (d + 1) = true) (x1 x2 x3 : Int) (a0 b0 : Nat → Nat → Int) (hv0 : iv a0) : ∀ (y1 y2 y3 : Int) (a : Nat → Nat → Int), iv a → jfr jW_X12_member a0 a → 0 ≤ y1 → y1 ≤ 15 → 0 ≤ y2 → y2 ≤ 65535 → 0 - 1 ≤ y3 → y3 ≤ 19 → a 146 2 ≤ 39 → y1 = x1 → y2 = x2 → y3 = x3 → (((((0 ≤ x1 ∧ x1 ≤ 15) ∧ 0 ≤ x2) ∧ x2 ≤ 65535) ∧ 0 - 1 ≤ x3) ∧ x3 ≤ 19) → a 146 2 ≤ 39 → a 146 2 = a0 146 2 → (jfr jWeM2 a0 a) → jt (jxX E d 210 38 [some (.inr (.inr (.inl 146))), some (.inl y1), some (.inl y2), some (.inl y3)] [] (jxSH, a, b0)) (jQ_X12_member x1 x2 x3 a0 b0) := by
  intro y1 y2 y3 a hv hf hi0 hi1 hi2 hi3 hi4 hi5 hi6 hi7 hi8 hi9 hi10 hi11 hi12 hfe
  refine jt_eq (bq_X12_member_38 E d y1 y2 y3 a b0) ?_
  have h678_ := iv_get hv (k := 146) (j := 2) (l := 0) (u := 40) rfl
  have h679_ := iv_get hv0 (k := 146) (j := 2) (l := 0) (u := 40) rfl
  refine jt_grd (by omega) ?_
  refine jt_grd (by omega) ?_
  refine jt_grd (by omega) ?_
  have hv680_ : iv (jxu a 148 ((a 146 2).toNat) y1) := iv_put hv (l := 0) (u := 15) rfl (by omega) (by omega)
  have hv681_ : iv (jxu (jxu a 148 ((a 146 2).toNat) y1) 149 ((a 146 2).toNat) y2) := iv_putf hv680_ rfl
  have hv682_ : iv (jxu (jxu (jxu a 148 ((a 146 2).toNat) y1) 149 ((a 146 2).toNat) y2) 150 ((a 146 2).toNat) y3) := iv_put hv681_ (l := (-1)) (u := 19) rfl (by omega) (by omega)
  have hf683_ : jfr jW_X12_member a0 (jxu a 148 ((a 146 2).toNat) y1) := jfr_put hf rfl
  have hf684_ : jfr jW_X12_member a0 (jxu (jxu a 148 ((a 146 2).toNat) y1) 149 ((a 146 2).toNat) y2) := jfr_put hf683_ rfl
  have hf685_ : jfr jW_X12_member a0 (jxu (jxu (jxu a 148 ((a 146 2).toNat) y1) 149 ((a 146 2).toNat) y2) 150 ((a 146 2).toNat) y3) := jfr_put hf684_ rfl
  exact cp_X12_member_68 E d hd x1 x2 x3 a0 b0 hv0 (jxu (jxu (jxu a 148 ((a 146 2).toNat) y1) 149 ((a 146 2).toNat) y2) 150 ((a 146 2).toNat) y3) hv682_ hf685_ (show a 146 2 ≤ 39 from by omega) (show (((((0 ≤ x1 ∧ x1 ≤ 15) ∧ 0 ≤ x2) ∧ x2 ≤ 65535) ∧ 0 - 1 ≤ x3) ∧ x3 ≤ 19) from by omega) (show a 146 2 ≤ 39 from by omega) (show a 146 2 = a0 146 2 from by omega) (by rw [show x1 = y1 from by omega, show x2 = y2 from by omega, show x3 = y3 from by omega, show (a0 146 2).toNat = (a 146 2).toNat from by omega]; exact ⟨UP_put (fun j => hfe 148 j rfl), UP_put (fun j => hfe 149 j rfl), UP_put (fun j => hfe 150 j rfl), fun j => hfe 151 j rfl, fun j => hfe 152 j rfl⟩)
theorem sp_X12_member (E : jxE) (d : Nat) (hd : Nat.ble 3 d = true) (x1 x2 x3 : Int) (a0 b0 : Nat → Nat → Int) (hv0 : iv a0) : jt (jxC E d 210 [.inr (.inr (.inl 146)), .inl x1, .inl x2, .inl x3] (jxSH, a0, b0)) (jQ_X12_member x1 x2 x3 a0 b0) := by
  obtain ⟨d, rfl⟩ := jd_succ hd
  refine jt_eq (bq_X12_member E d x1 x2 x3 a0 b0) ?_
  have h686_ := iv_get hv0 (k := 146) (j := 2) (l := 0) (u := 40) rfl
  refine jt_ite (fun c687_ => ?_) (fun c687_ => ?_)
  ·
    exact cp_X12_member_36 E d hd x1 x2 x3 a0 b0 hv0 a0 hv0 (jfr_rf _ _) (show ((((((x1 < 0 ∨ 15 < x1) ∨ x2 < 0) ∨ 65535 < x2) ∨ x3 < 0 - 1) ∨ 19 < x3) ∨ 40 ≤ a0 146 2) from by omega) (show a0 146 2 = a0 146 2 from by omega) (jfr_rf _ _)
  ·
    refine jt_eI (eq_X12_isLand E d (jd_le hd rfl) x1 a0 b0) ?_
    have h688_ := f_X12_isLand_eq a0 b0 x1
    have h689_ := f_X12_in_eq a0 b0 x1 0 15
    refine jt_ite (fun c690_ => ?_) (fun c690_ => ?_)
    ·
      exact cp_X12_member_36 E d hd x1 x2 x3 a0 b0 hv0 a0 hv0 (jfr_rf _ _) (show ((((((x1 < 0 ∨ 15 < x1) ∨ x2 < 0) ∨ 65535 < x2) ∨ x3 < 0 - 1) ∨ 19 < x3) ∨ 40 ≤ a0 146 2) from by omega) (show a0 146 2 = a0 146 2 from by omega) (jfr_rf _ _)
    ·
      refine jt_eI (eq_X12_in E d (jd_le hd rfl) x2 0 65535 a0 b0) ?_
      have h691_ := f_X12_in_eq a0 b0 x2 0 65535
      refine jt_ite (fun c692_ => ?_) (fun c692_ => ?_)
      ·
        exact cp_X12_member_36 E d hd x1 x2 x3 a0 b0 hv0 a0 hv0 (jfr_rf _ _) (show ((((((x1 < 0 ∨ 15 < x1) ∨ x2 < 0) ∨ 65535 < x2) ∨ x3 < 0 - 1) ∨ 19 < x3) ∨ 40 ≤ a0 146 2) from by omega) (show a0 146 2 = a0 146 2 from by omega) (jfr_rf _ _)
      ·
        refine jt_eI (eq_X12_in E d (jd_le hd rfl) x3 (-1) 19 a0 b0) ?_
        have h693_ := f_X12_in_eq a0 b0 x3 (-1) 19
        refine jt_ite (fun c694_ => ?_) (fun c694_ => ?_)
        ·
          exact cp_X12_member_36 E d hd x1 x2 x3 a0 b0 hv0 a0 hv0 (jfr_rf _ _) (show ((((((x1 < 0 ∨ 15 < x1) ∨ x2 < 0) ∨ 65535 < x2) ∨ x3 < 0 - 1) ∨ 19 < x3) ∨ 40 ≤ a0 146 2) from by omega) (show a0 146 2 = a0 146 2 from by omega) (jfr_rf _ _)
        ·
          exact cp_X12_member_38 E d hd x1 x2 x3 a0 b0 hv0 x1 x2 x3 a0 hv0 (jfr_rf _ _) (show 0 ≤ x1 from by omega) (show x1 ≤ 15 from by omega) (show 0 ≤ x2 from by omega) (show x2 ≤ 65535 from by omega) (show 0 - 1 ≤ x3 from by omega) (show x3 ≤ 19 from by omega) (show a0 146 2 ≤ 39 from by omega) (show x1 = x1 from by omega) (show x2 = x2 from by omega) (show x3 = x3 from by omega) (show (((((0 ≤ x1 ∧ x1 ≤ 15) ∧ 0 ≤ x2) ∧ x2 ≤ 65535) ∧ 0 - 1 ≤ x3) ∧ x3 ≤ 19) from by omega) (show a0 146 2 ≤ 39 from by omega) (show a0 146 2 = a0 146 2 from by omega) (jfr_rf _ _)
abbrev jQ_X12_priceOf (x1 x2 x3 x4 : Int) (a0 b0 : Nat → Nat → Int) : List jxV → (Nat → Nat → Int) → (Nat → Nat → Int) → Prop := rI (fun r a b => (a0 = a) ∧ (b0 = b) ∧ (0 - 2 ≤ r) ∧ (r ≤ 900) ∧ ((a0 146 68 = 0 → r = 0 - 2)) ∧ (r = PR2 a0 (ZN x1 x2 (a0 147 (16 * x1 + x2).toNat)) x3 x4))
theorem cp_X12_priceOf_166 (E : jxE) (d : Nat) (hd : Nat.ble 1 (d + 1) = true) (x1 x2 x3 x4 : Int) (a0 b0 : Nat → Nat → Int) (hv0 : iv a0) (hp0 : (0 ≤ x1 ∧ x1 ≤ 15)) (hp1 : (0 ≤ x2 ∧ x2 ≤ 15)) : ∀ (y9 : Int), 0 ≤ y9 → y9 ≤ 357 → 1 ≤ a0 146 68 → 0 ≤ y9 → y9 ≤ 357 → (0 ≤ HO (a0 192) x4 (a0 146 68).toNat ∧ a0 194 (jxw (y9 + 2)).toNat = CO (fun c => a0 194 (36 * (HO (a0 192) x4 (a0 146 68).toNat).toNat + 3 * c)) (fun c => a0 194 (36 * (HO (a0 192) x4 (a0 146 68).toNat).toNat + (3 * c + 1))) (fun c => a0 194 (36 * (HO (a0 192) x4 (a0 146 68).toNat).toNat + (3 * c + 2))) (a0 193 (HO (a0 192) x4 (a0 146 68).toNat).toNat).toNat (ZN x1 x2 (a0 147 (16 * x1 + x2).toNat)) x3 0) → jt (jxX E d 283 166 [some (.inr (.inr (.inl 146))), none, none, none, none, none, none, none, none, some (.inl y9)] [] (jxSH, a0, b0)) (jQ_X12_priceOf x1 x2 x3 x4 a0 b0) := by
  intro y9 hi0 hi1 hi2 hi3 hi4 hit
  refine jt_eq (bq_X12_priceOf_166 E d y9 a0 b0) ?_
  have h695_ := iv_get hv0 (k := 146) (j := 68) (l := 0) (u := 10) rfl
  have h696_ : jxw (y9 + 2) = y9 + 2 := jxw_id (by omega) (by omega)
  refine jt_grd (by omega) ?_
  have h697_ := iv_get hv0 (k := 194) (j := (jxw (y9 + 2)).toNat) (l := 0) (u := 900) rfl
  exact jt_rI ⟨rfl, rfl, (show 0 - 2 ≤ a0 194 ((jxw (y9 + 2)).toNat) from by omega), (show a0 194 ((jxw (y9 + 2)).toNat) ≤ 900 from by omega), (show (a0 146 68 = 0 → a0 194 ((jxw (y9 + 2)).toNat) = 0 - 2) from by omega), (by unfold PR2 PRC; have i194 := iv_get hv0 (k := 194) (j := (jxw (y9 + 2)).toNat) (l := 0) (u := 900) rfl; have h2 := hit.2; rw [if_neg (by have h1 := hit.1; omega), if_neg (fun h => by have h3 := h2.trans h; omega)]; exact h2)⟩
theorem cp_X12_priceOf_117 (E : jxE) (d : Nat) (hd : Nat.ble 1 (d + 1) = true) (x1 x2 x3 x4 : Int) (a0 b0 : Nat → Nat → Int) (hv0 : iv a0) (hp0 : (0 ≤ x1 ∧ x1 ≤ 15)) (hp1 : (0 ≤ x2 ∧ x2 ≤ 15)) : ∀ n : Nat, (∀ (y3 y5 y7 y8 : Int), (((12 - y8) * 1) + 0).toNat ≤ n → 0 ≤ y5 → y5 ≤ 9 → 0 ≤ y7 → y7 ≤ 3 → 0 ≤ y8 → y8 ≤ 11 → 1 ≤ a0 146 68 → (y3 = x3) → (y5 = HO (a0 192) x4 (a0 146 68).toNat) → 0 ≤ y5 → (y7 = (ZN x1 x2 (a0 147 (16 * x1 + x2).toNat))) → 0 ≤ y8 → y8 < a0 193 (y5.toNat) → (CO (fun c => a0 194 (36 * (HO (a0 192) x4 (a0 146 68).toNat).toNat + 3 * c)) (fun c => a0 194 (36 * (HO (a0 192) x4 (a0 146 68).toNat).toNat + (3 * c + 1))) (fun c => a0 194 (36 * (HO (a0 192) x4 (a0 146 68).toNat).toNat + (3 * c + 2))) (a0 193 (HO (a0 192) x4 (a0 146 68).toNat).toNat).toNat (ZN x1 x2 (a0 147 (16 * x1 + x2).toNat)) x3 (y8.toNat + 1) = CO (fun c => a0 194 (36 * (HO (a0 192) x4 (a0 146 68).toNat).toNat + 3 * c)) (fun c => a0 194 (36 * (HO (a0 192) x4 (a0 146 68).toNat).toNat + (3 * c + 1))) (fun c => a0 194 (36 * (HO (a0 192) x4 (a0 146 68).toNat).toNat + (3 * c + 2))) (a0 193 (HO (a0 192) x4 (a0 146 68).toNat).toNat).toNat (ZN x1 x2 (a0 147 (16 * x1 + x2).toNat)) x3 0) → jt (jxX E d 283 176 [some (.inr (.inr (.inl 146))), none, none, some (.inl y3), none, some (.inl y5), none, some (.inl y7), some (.inl y8), none] [] (jxSH, a0, b0)) (jQ_X12_priceOf x1 x2 x3 x4 a0 b0)) ∧ (∀ (y3 y5 y7 y8 y9 : Int), (((12 - y8) * 1) + 0).toNat ≤ n → 0 ≤ y5 → y5 ≤ 9 → 0 ≤ y7 → y7 ≤ 3 → 0 ≤ y8 → y8 ≤ 11 → 0 ≤ y9 → y9 ≤ 357 → 1 ≤ a0 146 68 → (y3 = x3) → (y5 = HO (a0 192) x4 (a0 146 68).toNat) → 0 ≤ y5 → (y7 = (ZN x1 x2 (a0 147 (16 * x1 + x2).toNat))) → 0 ≤ y8 → y8 < a0 193 (y5.toNat) → (CO (fun c => a0 194 (36 * (HO (a0 192) x4 (a0 146 68).toNat).toNat + 3 * c)) (fun c => a0 194 (36 * (HO (a0 192) x4 (a0 146 68).toNat).toNat + (3 * c + 1))) (fun c => a0 194 (36 * (HO (a0 192) x4 (a0 146 68).toNat).toNat + (3 * c + 2))) (a0 193 (HO (a0 192) x4 (a0 146 68).toNat).toNat).toNat (ZN x1 x2 (a0 147 (16 * x1 + x2).toNat)) x3 y8.toNat = CO (fun c => a0 194 (36 * (HO (a0 192) x4 (a0 146 68).toNat).toNat + 3 * c)) (fun c => a0 194 (36 * (HO (a0 192) x4 (a0 146 68).toNat).toNat + (3 * c + 1))) (fun c => a0 194 (36 * (HO (a0 192) x4 (a0 146 68).toNat).toNat + (3 * c + 2))) (a0 193 (HO (a0 192) x4 (a0 146 68).toNat).toNat).toNat (ZN x1 x2 (a0 147 (16 * x1 + x2).toNat)) x3 0) → (y9.toNat = 36 * y5.toNat + 3 * y8.toNat) → 0 ≤ y9 → y9 ≤ 357 → jt (jxX E d 283 141 [some (.inr (.inr (.inl 146))), none, none, some (.inl y3), none, some (.inl y5), none, some (.inl y7), some (.inl y8), some (.inl y9)] [] (jxSH, a0, b0)) (jQ_X12_priceOf x1 x2 x3 x4 a0 b0)) ∧ (∀ (y3 y5 y7 y8 : Int), (((12 - y8) * 1) + 0).toNat ≤ n → 0 ≤ y5 → y5 ≤ 9 → 0 ≤ y7 → y7 ≤ 3 → 0 ≤ y8 → y8 ≤ 12 → 1 ≤ a0 146 68 → (y3 = x3) → (y5 = HO (a0 192) x4 (a0 146 68).toNat) → 0 ≤ y5 → (y7 = (ZN x1 x2 (a0 147 (16 * x1 + x2).toNat))) → 0 ≤ y8 → (CO (fun c => a0 194 (36 * (HO (a0 192) x4 (a0 146 68).toNat).toNat + 3 * c)) (fun c => a0 194 (36 * (HO (a0 192) x4 (a0 146 68).toNat).toNat + (3 * c + 1))) (fun c => a0 194 (36 * (HO (a0 192) x4 (a0 146 68).toNat).toNat + (3 * c + 2))) (a0 193 (HO (a0 192) x4 (a0 146 68).toNat).toNat).toNat (ZN x1 x2 (a0 147 (16 * x1 + x2).toNat)) x3 y8.toNat = CO (fun c => a0 194 (36 * (HO (a0 192) x4 (a0 146 68).toNat).toNat + 3 * c)) (fun c => a0 194 (36 * (HO (a0 192) x4 (a0 146 68).toNat).toNat + (3 * c + 1))) (fun c => a0 194 (36 * (HO (a0 192) x4 (a0 146 68).toNat).toNat + (3 * c + 2))) (a0 193 (HO (a0 192) x4 (a0 146 68).toNat).toNat).toNat (ZN x1 x2 (a0 147 (16 * x1 + x2).toNat)) x3 0) → jt (jxX E d 283 117 [some (.inr (.inr (.inl 146))), none, none, some (.inl y3), none, some (.inl y5), none, some (.inl y7), some (.inl y8), none] [] (jxSH, a0, b0)) (jQ_X12_priceOf x1 x2 x3 x4 a0 b0)) := by
  refine jx_ind fun n ih => ?_
  have ih176 : ∀ (y3 y5 y7 y8 : Int), (((12 - y8) * 1) + 0).toNat < n → 0 ≤ y5 → y5 ≤ 9 → 0 ≤ y7 → y7 ≤ 3 → 0 ≤ y8 → y8 ≤ 11 → 1 ≤ a0 146 68 → (y3 = x3) → (y5 = HO (a0 192) x4 (a0 146 68).toNat) → 0 ≤ y5 → (y7 = (ZN x1 x2 (a0 147 (16 * x1 + x2).toNat))) → 0 ≤ y8 → y8 < a0 193 (y5.toNat) → (CO (fun c => a0 194 (36 * (HO (a0 192) x4 (a0 146 68).toNat).toNat + 3 * c)) (fun c => a0 194 (36 * (HO (a0 192) x4 (a0 146 68).toNat).toNat + (3 * c + 1))) (fun c => a0 194 (36 * (HO (a0 192) x4 (a0 146 68).toNat).toNat + (3 * c + 2))) (a0 193 (HO (a0 192) x4 (a0 146 68).toNat).toNat).toNat (ZN x1 x2 (a0 147 (16 * x1 + x2).toNat)) x3 (y8.toNat + 1) = CO (fun c => a0 194 (36 * (HO (a0 192) x4 (a0 146 68).toNat).toNat + 3 * c)) (fun c => a0 194 (36 * (HO (a0 192) x4 (a0 146 68).toNat).toNat + (3 * c + 1))) (fun c => a0 194 (36 * (HO (a0 192) x4 (a0 146 68).toNat).toNat + (3 * c + 2))) (a0 193 (HO (a0 192) x4 (a0 146 68).toNat).toNat).toNat (ZN x1 x2 (a0 147 (16 * x1 + x2).toNat)) x3 0) → jt (jxX E d 283 176 [some (.inr (.inr (.inl 146))), none, none, some (.inl y3), none, some (.inl y5), none, some (.inl y7), some (.inl y8), none] [] (jxSH, a0, b0)) (jQ_X12_priceOf x1 x2 x3 x4 a0 b0) := fun y3 y5 y7 y8 hlt i0 i1 i2 i3 i4 i5 i6 i7 i8 i9 i10 i11 i12 i13 => (ih _ hlt).1 y3 y5 y7 y8 (Nat.le_refl _) i0 i1 i2 i3 i4 i5 i6 i7 i8 i9 i10 i11 i12 i13
  have ih141 : ∀ (y3 y5 y7 y8 y9 : Int), (((12 - y8) * 1) + 0).toNat < n → 0 ≤ y5 → y5 ≤ 9 → 0 ≤ y7 → y7 ≤ 3 → 0 ≤ y8 → y8 ≤ 11 → 0 ≤ y9 → y9 ≤ 357 → 1 ≤ a0 146 68 → (y3 = x3) → (y5 = HO (a0 192) x4 (a0 146 68).toNat) → 0 ≤ y5 → (y7 = (ZN x1 x2 (a0 147 (16 * x1 + x2).toNat))) → 0 ≤ y8 → y8 < a0 193 (y5.toNat) → (CO (fun c => a0 194 (36 * (HO (a0 192) x4 (a0 146 68).toNat).toNat + 3 * c)) (fun c => a0 194 (36 * (HO (a0 192) x4 (a0 146 68).toNat).toNat + (3 * c + 1))) (fun c => a0 194 (36 * (HO (a0 192) x4 (a0 146 68).toNat).toNat + (3 * c + 2))) (a0 193 (HO (a0 192) x4 (a0 146 68).toNat).toNat).toNat (ZN x1 x2 (a0 147 (16 * x1 + x2).toNat)) x3 y8.toNat = CO (fun c => a0 194 (36 * (HO (a0 192) x4 (a0 146 68).toNat).toNat + 3 * c)) (fun c => a0 194 (36 * (HO (a0 192) x4 (a0 146 68).toNat).toNat + (3 * c + 1))) (fun c => a0 194 (36 * (HO (a0 192) x4 (a0 146 68).toNat).toNat + (3 * c + 2))) (a0 193 (HO (a0 192) x4 (a0 146 68).toNat).toNat).toNat (ZN x1 x2 (a0 147 (16 * x1 + x2).toNat)) x3 0) → (y9.toNat = 36 * y5.toNat + 3 * y8.toNat) → 0 ≤ y9 → y9 ≤ 357 → jt (jxX E d 283 141 [some (.inr (.inr (.inl 146))), none, none, some (.inl y3), none, some (.inl y5), none, some (.inl y7), some (.inl y8), some (.inl y9)] [] (jxSH, a0, b0)) (jQ_X12_priceOf x1 x2 x3 x4 a0 b0) := fun y3 y5 y7 y8 y9 hlt i0 i1 i2 i3 i4 i5 i6 i7 i8 i9 i10 i11 i12 i13 i14 i15 i16 i17 i18 => (ih _ hlt).2.1 y3 y5 y7 y8 y9 (Nat.le_refl _) i0 i1 i2 i3 i4 i5 i6 i7 i8 i9 i10 i11 i12 i13 i14 i15 i16 i17 i18
  have ih117 : ∀ (y3 y5 y7 y8 : Int), (((12 - y8) * 1) + 0).toNat < n → 0 ≤ y5 → y5 ≤ 9 → 0 ≤ y7 → y7 ≤ 3 → 0 ≤ y8 → y8 ≤ 12 → 1 ≤ a0 146 68 → (y3 = x3) → (y5 = HO (a0 192) x4 (a0 146 68).toNat) → 0 ≤ y5 → (y7 = (ZN x1 x2 (a0 147 (16 * x1 + x2).toNat))) → 0 ≤ y8 → (CO (fun c => a0 194 (36 * (HO (a0 192) x4 (a0 146 68).toNat).toNat + 3 * c)) (fun c => a0 194 (36 * (HO (a0 192) x4 (a0 146 68).toNat).toNat + (3 * c + 1))) (fun c => a0 194 (36 * (HO (a0 192) x4 (a0 146 68).toNat).toNat + (3 * c + 2))) (a0 193 (HO (a0 192) x4 (a0 146 68).toNat).toNat).toNat (ZN x1 x2 (a0 147 (16 * x1 + x2).toNat)) x3 y8.toNat = CO (fun c => a0 194 (36 * (HO (a0 192) x4 (a0 146 68).toNat).toNat + 3 * c)) (fun c => a0 194 (36 * (HO (a0 192) x4 (a0 146 68).toNat).toNat + (3 * c + 1))) (fun c => a0 194 (36 * (HO (a0 192) x4 (a0 146 68).toNat).toNat + (3 * c + 2))) (a0 193 (HO (a0 192) x4 (a0 146 68).toNat).toNat).toNat (ZN x1 x2 (a0 147 (16 * x1 + x2).toNat)) x3 0) → jt (jxX E d 283 117 [some (.inr (.inr (.inl 146))), none, none, some (.inl y3), none, some (.inl y5), none, some (.inl y7), some (.inl y8), none] [] (jxSH, a0, b0)) (jQ_X12_priceOf x1 x2 x3 x4 a0 b0) := fun y3 y5 y7 y8 hlt i0 i1 i2 i3 i4 i5 i6 i7 i8 i9 i10 i11 i12 => (ih _ hlt).2.2 y3 y5 y7 y8 (Nat.le_refl _) i0 i1 i2 i3 i4 i5 i6 i7 i8 i9 i10 i11 i12
  have hc176 : ∀ (y3 y5 y7 y8 : Int), (((12 - y8) * 1) + 0).toNat ≤ n → 0 ≤ y5 → y5 ≤ 9 → 0 ≤ y7 → y7 ≤ 3 → 0 ≤ y8 → y8 ≤ 11 → 1 ≤ a0 146 68 → (y3 = x3) → (y5 = HO (a0 192) x4 (a0 146 68).toNat) → 0 ≤ y5 → (y7 = (ZN x1 x2 (a0 147 (16 * x1 + x2).toNat))) → 0 ≤ y8 → y8 < a0 193 (y5.toNat) → (CO (fun c => a0 194 (36 * (HO (a0 192) x4 (a0 146 68).toNat).toNat + 3 * c)) (fun c => a0 194 (36 * (HO (a0 192) x4 (a0 146 68).toNat).toNat + (3 * c + 1))) (fun c => a0 194 (36 * (HO (a0 192) x4 (a0 146 68).toNat).toNat + (3 * c + 2))) (a0 193 (HO (a0 192) x4 (a0 146 68).toNat).toNat).toNat (ZN x1 x2 (a0 147 (16 * x1 + x2).toNat)) x3 (y8.toNat + 1) = CO (fun c => a0 194 (36 * (HO (a0 192) x4 (a0 146 68).toNat).toNat + 3 * c)) (fun c => a0 194 (36 * (HO (a0 192) x4 (a0 146 68).toNat).toNat + (3 * c + 1))) (fun c => a0 194 (36 * (HO (a0 192) x4 (a0 146 68).toNat).toNat + (3 * c + 2))) (a0 193 (HO (a0 192) x4 (a0 146 68).toNat).toNat).toNat (ZN x1 x2 (a0 147 (16 * x1 + x2).toNat)) x3 0) → jt (jxX E d 283 176 [some (.inr (.inr (.inl 146))), none, none, some (.inl y3), none, some (.inl y5), none, some (.inl y7), some (.inl y8), none] [] (jxSH, a0, b0)) (jQ_X12_priceOf x1 x2 x3 x4 a0 b0) := by
    intro y3 y5 y7 y8 hm hi0 hi1 hi2 hi3 hi4 hi5 hi6 hy3 h5y hi9 hy7 hi11 hi12 hco
    refine jt_eq (bq_X12_priceOf_176 E d y3 y5 y7 y8 a0 b0) ?_
    have h698_ := iv_get hv0 (k := 146) (j := 68) (l := 0) (u := 10) rfl
    have h699_ := iv_get hv0 (k := 193) (j := y5.toNat) (l := 0) (u := 12) rfl
    have h700_ : jxw (y8 + 1) = y8 + 1 := jxw_id (by omega) (by omega)
    exact ih117 y3 y5 y7 (jxw (y8 + 1)) (show (((12 - (jxw (y8 + 1))) * 1) + 0).toNat < n from by omega) (show 0 ≤ y5 from by omega) (show y5 ≤ 9 from by omega) (show 0 ≤ y7 from by omega) (show y7 ≤ 3 from by omega) (show 0 ≤ jxw (y8 + 1) from by omega) (show jxw (y8 + 1) ≤ 12 from by omega) (show 1 ≤ a0 146 68 from by omega) (by first | rfl | assumption) (by first | exact h5y | (rw [show (a0 146 68).toNat = y6.toNat from by omega]; exact hho)) (show 0 ≤ y5 from by omega) (by first | exact hy7 | (rw [← hy6, ← hy1, ← hy2]; unfold ZN; first | (rw [if_pos (by assumption)]) | (rw [if_neg (by assumption), if_pos (by assumption)]) | (rw [if_neg (by assumption), if_neg (by assumption), if_pos (by assumption)]) | (rw [if_neg (by assumption), if_neg (by assumption), if_neg (by assumption)]))) (show 0 ≤ jxw (y8 + 1) from by omega) (by first | rfl | (rw [show (jxw (y8 + 1)).toNat = y8.toNat + 1 from by omega]; exact hco))
  have hc141 : ∀ (y3 y5 y7 y8 y9 : Int), (((12 - y8) * 1) + 0).toNat ≤ n → 0 ≤ y5 → y5 ≤ 9 → 0 ≤ y7 → y7 ≤ 3 → 0 ≤ y8 → y8 ≤ 11 → 0 ≤ y9 → y9 ≤ 357 → 1 ≤ a0 146 68 → (y3 = x3) → (y5 = HO (a0 192) x4 (a0 146 68).toNat) → 0 ≤ y5 → (y7 = (ZN x1 x2 (a0 147 (16 * x1 + x2).toNat))) → 0 ≤ y8 → y8 < a0 193 (y5.toNat) → (CO (fun c => a0 194 (36 * (HO (a0 192) x4 (a0 146 68).toNat).toNat + 3 * c)) (fun c => a0 194 (36 * (HO (a0 192) x4 (a0 146 68).toNat).toNat + (3 * c + 1))) (fun c => a0 194 (36 * (HO (a0 192) x4 (a0 146 68).toNat).toNat + (3 * c + 2))) (a0 193 (HO (a0 192) x4 (a0 146 68).toNat).toNat).toNat (ZN x1 x2 (a0 147 (16 * x1 + x2).toNat)) x3 y8.toNat = CO (fun c => a0 194 (36 * (HO (a0 192) x4 (a0 146 68).toNat).toNat + 3 * c)) (fun c => a0 194 (36 * (HO (a0 192) x4 (a0 146 68).toNat).toNat + (3 * c + 1))) (fun c => a0 194 (36 * (HO (a0 192) x4 (a0 146 68).toNat).toNat + (3 * c + 2))) (a0 193 (HO (a0 192) x4 (a0 146 68).toNat).toNat).toNat (ZN x1 x2 (a0 147 (16 * x1 + x2).toNat)) x3 0) → (y9.toNat = 36 * y5.toNat + 3 * y8.toNat) → 0 ≤ y9 → y9 ≤ 357 → jt (jxX E d 283 141 [some (.inr (.inr (.inl 146))), none, none, some (.inl y3), none, some (.inl y5), none, some (.inl y7), some (.inl y8), some (.inl y9)] [] (jxSH, a0, b0)) (jQ_X12_priceOf x1 x2 x3 x4 a0 b0) := by
    intro y3 y5 y7 y8 y9 hm hi0 hi1 hi2 hi3 hi4 hi5 hi6 hi7 hi8 hy3 h5y hi11 hy7 hi13 hi14 hco hy9 hi17 hi18
    refine jt_eq (bq_X12_priceOf_141 E d y3 y5 y7 y8 y9 a0 b0) ?_
    have h701_ := iv_get hv0 (k := 146) (j := 68) (l := 0) (u := 10) rfl
    have h702_ := iv_get hv0 (k := 193) (j := y5.toNat) (l := 0) (u := 12) rfl
    refine jt_grd (by omega) ?_
    have h703_ := iv_get hv0 (k := 194) (j := y9.toNat) (l := 0) (u := 900) rfl
    refine jt_ite (fun c704_ => ?_) (fun c704_ => ?_)
    ·
      have h705_ : jxw (y9 + 1) = y9 + 1 := jxw_id (by omega) (by omega)
      refine jt_grd (by omega) ?_
      have h706_ := iv_get hv0 (k := 194) (j := (jxw (y9 + 1)).toNat) (l := 0) (u := 900) rfl
      refine jt_ite (fun c707_ => ?_) (fun c707_ => ?_)
      ·
        exact hc176 y3 y5 y7 y8 (show (((12 - y8) * 1) + 0).toNat ≤ n from by omega) (show 0 ≤ y5 from by omega) (show y5 ≤ 9 from by omega) (show 0 ≤ y7 from by omega) (show y7 ≤ 3 from by omega) (show 0 ≤ y8 from by omega) (show y8 ≤ 11 from by omega) (show 1 ≤ a0 146 68 from by omega) (by first | rfl | assumption) (by first | exact h5y | (rw [show (a0 146 68).toNat = y6.toNat from by omega]; exact hho)) (show 0 ≤ y5 from by omega) (by first | exact hy7 | (rw [← hy6, ← hy1, ← hy2]; unfold ZN; first | (rw [if_pos (by assumption)]) | (rw [if_neg (by assumption), if_pos (by assumption)]) | (rw [if_neg (by assumption), if_neg (by assumption), if_pos (by assumption)]) | (rw [if_neg (by assumption), if_neg (by assumption), if_neg (by assumption)]))) (show 0 ≤ y8 from by omega) (show y8 < a0 193 (y5.toNat) from by omega) (by rw [← hco]; rw [← h5y]; refine (CO_on (by omega) ?_).symm; first | (left; show ¬ a0 194 (36 * y5.toNat + 3 * y8.toNat) = _; rw [← hy7, ← hy9]; assumption) | (right; show a0 194 (36 * y5.toNat + (3 * y8.toNat + 1)) < x3; rw [← hy3, ← (show (jxw (y9 + 1)).toNat = 36 * y5.toNat + (3 * y8.toNat + 1) from by omega)]; assumption))
      ·
        exact cp_X12_priceOf_166 E d hd x1 x2 x3 x4 a0 b0 hv0 hp0 hp1 y9 (show 0 ≤ y9 from by omega) (show y9 ≤ 357 from by omega) (show 1 ≤ a0 146 68 from by omega) (show 0 ≤ y9 from by omega) (show y9 ≤ 357 from by omega) (by rw [← hco, ← h5y, (show (jxw (y9 + 2)).toNat = 36 * y5.toNat + (3 * y8.toNat + 2) from by rw [jxw_id (by omega) (by omega)]; omega)]; exact ⟨by omega, (CO_hit (z := fun c => a0 194 (36 * y5.toNat + 3 * c)) (g := fun c => a0 194 (36 * y5.toNat + (3 * c + 1))) (k := fun c => a0 194 (36 * y5.toNat + (3 * c + 2))) (c := y8.toNat) (by omega) (by show a0 194 (36 * y5.toNat + 3 * y8.toNat) = _; rw [← hy7, ← hy9]; assumption) (by show x3 ≤ a0 194 (36 * y5.toNat + (3 * y8.toNat + 1)); rw [← hy3, ← (show (jxw (y9 + 1)).toNat = 36 * y5.toNat + (3 * y8.toNat + 1) from by omega)]; omega)).symm⟩)
    ·
      exact hc176 y3 y5 y7 y8 (show (((12 - y8) * 1) + 0).toNat ≤ n from by omega) (show 0 ≤ y5 from by omega) (show y5 ≤ 9 from by omega) (show 0 ≤ y7 from by omega) (show y7 ≤ 3 from by omega) (show 0 ≤ y8 from by omega) (show y8 ≤ 11 from by omega) (show 1 ≤ a0 146 68 from by omega) (by first | rfl | assumption) (by first | exact h5y | (rw [show (a0 146 68).toNat = y6.toNat from by omega]; exact hho)) (show 0 ≤ y5 from by omega) (by first | exact hy7 | (rw [← hy6, ← hy1, ← hy2]; unfold ZN; first | (rw [if_pos (by assumption)]) | (rw [if_neg (by assumption), if_pos (by assumption)]) | (rw [if_neg (by assumption), if_neg (by assumption), if_pos (by assumption)]) | (rw [if_neg (by assumption), if_neg (by assumption), if_neg (by assumption)]))) (show 0 ≤ y8 from by omega) (show y8 < a0 193 (y5.toNat) from by omega) (by rw [← hco]; rw [← h5y]; refine (CO_on (by omega) ?_).symm; first | (left; show ¬ a0 194 (36 * y5.toNat + 3 * y8.toNat) = _; rw [← hy7, ← hy9]; assumption) | (right; show a0 194 (36 * y5.toNat + (3 * y8.toNat + 1)) < x3; rw [← hy3, ← (show (jxw (y9 + 1)).toNat = 36 * y5.toNat + (3 * y8.toNat + 1) from by omega)]; assumption))
  have hc117 : ∀ (y3 y5 y7 y8 : Int), (((12 - y8) * 1) + 0).toNat ≤ n → 0 ≤ y5 → y5 ≤ 9 → 0 ≤ y7 → y7 ≤ 3 → 0 ≤ y8 → y8 ≤ 12 → 1 ≤ a0 146 68 → (y3 = x3) → (y5 = HO (a0 192) x4 (a0 146 68).toNat) → 0 ≤ y5 → (y7 = (ZN x1 x2 (a0 147 (16 * x1 + x2).toNat))) → 0 ≤ y8 → (CO (fun c => a0 194 (36 * (HO (a0 192) x4 (a0 146 68).toNat).toNat + 3 * c)) (fun c => a0 194 (36 * (HO (a0 192) x4 (a0 146 68).toNat).toNat + (3 * c + 1))) (fun c => a0 194 (36 * (HO (a0 192) x4 (a0 146 68).toNat).toNat + (3 * c + 2))) (a0 193 (HO (a0 192) x4 (a0 146 68).toNat).toNat).toNat (ZN x1 x2 (a0 147 (16 * x1 + x2).toNat)) x3 y8.toNat = CO (fun c => a0 194 (36 * (HO (a0 192) x4 (a0 146 68).toNat).toNat + 3 * c)) (fun c => a0 194 (36 * (HO (a0 192) x4 (a0 146 68).toNat).toNat + (3 * c + 1))) (fun c => a0 194 (36 * (HO (a0 192) x4 (a0 146 68).toNat).toNat + (3 * c + 2))) (a0 193 (HO (a0 192) x4 (a0 146 68).toNat).toNat).toNat (ZN x1 x2 (a0 147 (16 * x1 + x2).toNat)) x3 0) → jt (jxX E d 283 117 [some (.inr (.inr (.inl 146))), none, none, some (.inl y3), none, some (.inl y5), none, some (.inl y7), some (.inl y8), none] [] (jxSH, a0, b0)) (jQ_X12_priceOf x1 x2 x3 x4 a0 b0) := by
    intro y3 y5 y7 y8 hm hi0 hi1 hi2 hi3 hi4 hi5 hi6 hy3 h5y hi9 hy7 hi11 hco
    refine jt_eq (bq_X12_priceOf_117 E d y3 y5 y7 y8 a0 b0) ?_
    have h708_ := iv_get hv0 (k := 146) (j := 68) (l := 0) (u := 10) rfl
    refine jt_grd (by omega) ?_
    have h709_ := iv_get hv0 (k := 193) (j := y5.toNat) (l := 0) (u := 12) rfl
    refine jt_ite (fun c710_ => ?_) (fun c710_ => ?_)
    ·
      have h711_ : jxw (36 * y5) = 36 * y5 := jxw_id (by omega) (by omega)
      have h712_ : jxw (3 * y8) = 3 * y8 := jxw_id (by omega) (by omega)
      have h713_ : jxw ((jxw (36 * y5)) + (jxw (3 * y8))) = (jxw (36 * y5)) + (jxw (3 * y8)) := jxw_id (by omega) (by omega)
      exact hc141 y3 y5 y7 y8 (jxw ((jxw (36 * y5)) + (jxw (3 * y8)))) (show (((12 - y8) * 1) + 0).toNat ≤ n from by omega) (show 0 ≤ y5 from by omega) (show y5 ≤ 9 from by omega) (show 0 ≤ y7 from by omega) (show y7 ≤ 3 from by omega) (show 0 ≤ y8 from by omega) (show y8 ≤ 11 from by omega) (show 0 ≤ jxw ((jxw (36 * y5)) + (jxw (3 * y8))) from by omega) (show jxw ((jxw (36 * y5)) + (jxw (3 * y8))) ≤ 357 from by omega) (show 1 ≤ a0 146 68 from by omega) (by first | rfl | assumption) (by first | exact h5y | (rw [show (a0 146 68).toNat = y6.toNat from by omega]; exact hho)) (show 0 ≤ y5 from by omega) (by first | exact hy7 | (rw [← hy6, ← hy1, ← hy2]; unfold ZN; first | (rw [if_pos (by assumption)]) | (rw [if_neg (by assumption), if_pos (by assumption)]) | (rw [if_neg (by assumption), if_neg (by assumption), if_pos (by assumption)]) | (rw [if_neg (by assumption), if_neg (by assumption), if_neg (by assumption)]))) (show 0 ≤ y8 from by omega) (show y8 < a0 193 (y5.toNat) from by omega) hco (by omega) (show 0 ≤ jxw ((jxw (36 * y5)) + (jxw (3 * y8))) from by omega) (show jxw ((jxw (36 * y5)) + (jxw (3 * y8))) ≤ 357 from by omega)
    ·
      exact jt_rI ⟨rfl, rfl, (show 0 - 2 ≤ (-2) from by omega), (show (-2) ≤ 900 from by omega), (show (a0 146 68 = 0 → (-2) = 0 - 2) from by omega), (by unfold PR2 PRC; rw [if_neg (by rw [← h5y]; omega), if_pos (by have h := hco; rw [← h, ← h5y]; rw [CO_end (by omega)])])⟩
  exact ⟨hc176, hc141, hc117⟩
theorem cp_X12_priceOf_80 (E : jxE) (d : Nat) (hd : Nat.ble 1 (d + 1) = true) (x1 x2 x3 x4 : Int) (a0 b0 : Nat → Nat → Int) (hv0 : iv a0) (hp0 : (0 ≤ x1 ∧ x1 ≤ 15)) (hp1 : (0 ≤ x2 ∧ x2 ≤ 15)) : ∀ (y1 y2 y3 y5 y6 : Int), 0 ≤ y1 → y1 ≤ 15 → 0 ≤ y2 → y2 ≤ 15 → 0 ≤ y5 → y5 ≤ 9 → 0 ≤ y6 → y6 ≤ 99 → 1 ≤ a0 146 68 → (y1 = x1) → (y2 = x2) → (y3 = x3) → (y5 = HO (a0 192) x4 (a0 146 68).toNat) → 0 ≤ y5 → (y6 = a0 147 (16 * x1 + x2).toNat) → jt (jxX E d 283 80 [some (.inr (.inr (.inl 146))), some (.inl y1), some (.inl y2), some (.inl y3), none, some (.inl y5), some (.inl y6), none, none, none] [] (jxSH, a0, b0)) (jQ_X12_priceOf x1 x2 x3 x4 a0 b0) := by
  intro y1 y2 y3 y5 y6 hi0 hi1 hi2 hi3 hi4 hi5 hi6 hi7 hi8 hy1 hy2 hy3 h5y hi13 hy6
  refine jt_eq (bq_X12_priceOf_80 E d y1 y2 y3 y5 y6 a0 b0) ?_
  have h714_ := iv_get hv0 (k := 146) (j := 68) (l := 0) (u := 10) rfl
  refine jt_ite (fun c715_ => ?_) (fun c715_ => ?_)
  ·
    exact (cp_X12_priceOf_117 E d hd x1 x2 x3 x4 a0 b0 hv0 hp0 hp1 _).2.2 y3 y5 0 0 (Nat.le_refl _) (show 0 ≤ y5 from by omega) (show y5 ≤ 9 from by omega) (show 0 ≤ 0 from by omega) (show 0 ≤ 3 from by omega) (show 0 ≤ 0 from by omega) (show 0 ≤ 12 from by omega) (show 1 ≤ a0 146 68 from by omega) (by first | rfl | assumption) (by first | exact h5y | (rw [show (a0 146 68).toNat = y6.toNat from by omega]; exact hho)) (show 0 ≤ y5 from by omega) (by first | exact hy7 | (rw [← hy6, ← hy1, ← hy2]; unfold ZN; first | (rw [if_pos (by assumption)]) | (rw [if_neg (by assumption), if_pos (by assumption)]) | (rw [if_neg (by assumption), if_neg (by assumption), if_pos (by assumption)]) | (rw [if_neg (by assumption), if_neg (by assumption), if_neg (by assumption)]))) (show 0 ≤ 0 from by omega) (by first | rfl | (rw [show (jxw (y8 + 1)).toNat = y8.toNat + 1 from by omega]; exact hco))
  ·
    refine jt_ite (fun c716_ => ?_) (fun c716_ => ?_)
    ·
      exact (cp_X12_priceOf_117 E d hd x1 x2 x3 x4 a0 b0 hv0 hp0 hp1 _).2.2 y3 y5 1 0 (Nat.le_refl _) (show 0 ≤ y5 from by omega) (show y5 ≤ 9 from by omega) (show 0 ≤ 1 from by omega) (show 1 ≤ 3 from by omega) (show 0 ≤ 0 from by omega) (show 0 ≤ 12 from by omega) (show 1 ≤ a0 146 68 from by omega) (by first | rfl | assumption) (by first | exact h5y | (rw [show (a0 146 68).toNat = y6.toNat from by omega]; exact hho)) (show 0 ≤ y5 from by omega) (by first | exact hy7 | (rw [← hy6, ← hy1, ← hy2]; unfold ZN; first | (rw [if_pos (by assumption)]) | (rw [if_neg (by assumption), if_pos (by assumption)]) | (rw [if_neg (by assumption), if_neg (by assumption), if_pos (by assumption)]) | (rw [if_neg (by assumption), if_neg (by assumption), if_neg (by assumption)]))) (show 0 ≤ 0 from by omega) (by first | rfl | (rw [show (jxw (y8 + 1)).toNat = y8.toNat + 1 from by omega]; exact hco))
    ·
      refine jt_ite (fun c717_ => ?_) (fun c717_ => ?_)
      ·
        exact (cp_X12_priceOf_117 E d hd x1 x2 x3 x4 a0 b0 hv0 hp0 hp1 _).2.2 y3 y5 2 0 (Nat.le_refl _) (show 0 ≤ y5 from by omega) (show y5 ≤ 9 from by omega) (show 0 ≤ 2 from by omega) (show 2 ≤ 3 from by omega) (show 0 ≤ 0 from by omega) (show 0 ≤ 12 from by omega) (show 1 ≤ a0 146 68 from by omega) (by first | rfl | assumption) (by first | exact h5y | (rw [show (a0 146 68).toNat = y6.toNat from by omega]; exact hho)) (show 0 ≤ y5 from by omega) (by first | exact hy7 | (rw [← hy6, ← hy1, ← hy2]; unfold ZN; first | (rw [if_pos (by assumption)]) | (rw [if_neg (by assumption), if_pos (by assumption)]) | (rw [if_neg (by assumption), if_neg (by assumption), if_pos (by assumption)]) | (rw [if_neg (by assumption), if_neg (by assumption), if_neg (by assumption)]))) (show 0 ≤ 0 from by omega) (by first | rfl | (rw [show (jxw (y8 + 1)).toNat = y8.toNat + 1 from by omega]; exact hco))
      ·
        exact (cp_X12_priceOf_117 E d hd x1 x2 x3 x4 a0 b0 hv0 hp0 hp1 _).2.2 y3 y5 3 0 (Nat.le_refl _) (show 0 ≤ y5 from by omega) (show y5 ≤ 9 from by omega) (show 0 ≤ 3 from by omega) (show 3 ≤ 3 from by omega) (show 0 ≤ 0 from by omega) (show 0 ≤ 12 from by omega) (show 1 ≤ a0 146 68 from by omega) (by first | rfl | assumption) (by first | exact h5y | (rw [show (a0 146 68).toNat = y6.toNat from by omega]; exact hho)) (show 0 ≤ y5 from by omega) (by first | exact hy7 | (rw [← hy6, ← hy1, ← hy2]; unfold ZN; first | (rw [if_pos (by assumption)]) | (rw [if_neg (by assumption), if_pos (by assumption)]) | (rw [if_neg (by assumption), if_neg (by assumption), if_pos (by assumption)]) | (rw [if_neg (by assumption), if_neg (by assumption), if_neg (by assumption)]))) (show 0 ≤ 0 from by omega) (by first | rfl | (rw [show (jxw (y8 + 1)).toNat = y8.toNat + 1 from by omega]; exact hco))
theorem cp_X12_priceOf_6 (E : jxE) (d : Nat) (hd : Nat.ble 1 (d + 1) = true) (x1 x2 x3 x4 : Int) (a0 b0 : Nat → Nat → Int) (hv0 : iv a0) (hp0 : (0 ≤ x1 ∧ x1 ≤ 15)) (hp1 : (0 ≤ x2 ∧ x2 ≤ 15)) : ∀ n : Nat, (∀ (y1 y2 y3 y4 y5 y6 : Int), (((10 - y6) * 1) + 0).toNat ≤ n → 0 ≤ y1 → y1 ≤ 15 → 0 ≤ y2 → y2 ≤ 15 → 0 - 1 ≤ y5 → y5 ≤ 9 → 0 ≤ y6 → y6 ≤ 9 → 1 ≤ a0 146 68 → (y1 = x1) → (y2 = x2) → (y3 = x3) → (y4 = x4) → y6 < a0 146 68 → (y5 = HO (a0 192) x4 (y6.toNat + 1)) → jt (jxX E d 283 53 [some (.inr (.inr (.inl 146))), some (.inl y1), some (.inl y2), some (.inl y3), some (.inl y4), some (.inl y5), some (.inl y6), none, none, none] [] (jxSH, a0, b0)) (jQ_X12_priceOf x1 x2 x3 x4 a0 b0)) ∧ (∀ (y1 y2 y3 y4 y6 : Int), (((10 - y6) * 1) + 0).toNat ≤ n → 0 ≤ y1 → y1 ≤ 15 → 0 ≤ y2 → y2 ≤ 15 → 0 ≤ y6 → y6 ≤ 9 → 1 ≤ a0 146 68 → (y1 = x1) → (y2 = x2) → (y3 = x3) → (y4 = x4) → y6 < a0 146 68 → (HO (a0 192) x4 (y6.toNat + 1) = y6) → jt (jxX E d 283 49 [some (.inr (.inr (.inl 146))), some (.inl y1), some (.inl y2), some (.inl y3), some (.inl y4), none, some (.inl y6), none, none, none] [] (jxSH, a0, b0)) (jQ_X12_priceOf x1 x2 x3 x4 a0 b0)) ∧ (∀ (y1 y2 y3 y4 y5 y6 : Int), (((10 - y6) * 1) + 0).toNat ≤ n → 0 ≤ y1 → y1 ≤ 15 → 0 ≤ y2 → y2 ≤ 15 → 0 - 1 ≤ y5 → y5 ≤ 9 → 0 ≤ y6 → y6 ≤ 10 → (a0 146 68 = 0 → y5 < 0) → (y1 = x1) → (y2 = x2) → (y3 = x3) → (y4 = x4) → y6 ≤ a0 146 68 → (y5 = HO (a0 192) x4 y6.toNat) → jt (jxX E d 283 6 [some (.inr (.inr (.inl 146))), some (.inl y1), some (.inl y2), some (.inl y3), some (.inl y4), some (.inl y5), some (.inl y6), none, none, none] [] (jxSH, a0, b0)) (jQ_X12_priceOf x1 x2 x3 x4 a0 b0)) := by
  refine jx_ind fun n ih => ?_
  have ih53 : ∀ (y1 y2 y3 y4 y5 y6 : Int), (((10 - y6) * 1) + 0).toNat < n → 0 ≤ y1 → y1 ≤ 15 → 0 ≤ y2 → y2 ≤ 15 → 0 - 1 ≤ y5 → y5 ≤ 9 → 0 ≤ y6 → y6 ≤ 9 → 1 ≤ a0 146 68 → (y1 = x1) → (y2 = x2) → (y3 = x3) → (y4 = x4) → y6 < a0 146 68 → (y5 = HO (a0 192) x4 (y6.toNat + 1)) → jt (jxX E d 283 53 [some (.inr (.inr (.inl 146))), some (.inl y1), some (.inl y2), some (.inl y3), some (.inl y4), some (.inl y5), some (.inl y6), none, none, none] [] (jxSH, a0, b0)) (jQ_X12_priceOf x1 x2 x3 x4 a0 b0) := fun y1 y2 y3 y4 y5 y6 hlt i0 i1 i2 i3 i4 i5 i6 i7 i8 i9 i10 i11 i12 i13 i14 => (ih _ hlt).1 y1 y2 y3 y4 y5 y6 (Nat.le_refl _) i0 i1 i2 i3 i4 i5 i6 i7 i8 i9 i10 i11 i12 i13 i14
  have ih49 : ∀ (y1 y2 y3 y4 y6 : Int), (((10 - y6) * 1) + 0).toNat < n → 0 ≤ y1 → y1 ≤ 15 → 0 ≤ y2 → y2 ≤ 15 → 0 ≤ y6 → y6 ≤ 9 → 1 ≤ a0 146 68 → (y1 = x1) → (y2 = x2) → (y3 = x3) → (y4 = x4) → y6 < a0 146 68 → (HO (a0 192) x4 (y6.toNat + 1) = y6) → jt (jxX E d 283 49 [some (.inr (.inr (.inl 146))), some (.inl y1), some (.inl y2), some (.inl y3), some (.inl y4), none, some (.inl y6), none, none, none] [] (jxSH, a0, b0)) (jQ_X12_priceOf x1 x2 x3 x4 a0 b0) := fun y1 y2 y3 y4 y6 hlt i0 i1 i2 i3 i4 i5 i6 i7 i8 i9 i10 i11 i12 => (ih _ hlt).2.1 y1 y2 y3 y4 y6 (Nat.le_refl _) i0 i1 i2 i3 i4 i5 i6 i7 i8 i9 i10 i11 i12
  have ih6 : ∀ (y1 y2 y3 y4 y5 y6 : Int), (((10 - y6) * 1) + 0).toNat < n → 0 ≤ y1 → y1 ≤ 15 → 0 ≤ y2 → y2 ≤ 15 → 0 - 1 ≤ y5 → y5 ≤ 9 → 0 ≤ y6 → y6 ≤ 10 → (a0 146 68 = 0 → y5 < 0) → (y1 = x1) → (y2 = x2) → (y3 = x3) → (y4 = x4) → y6 ≤ a0 146 68 → (y5 = HO (a0 192) x4 y6.toNat) → jt (jxX E d 283 6 [some (.inr (.inr (.inl 146))), some (.inl y1), some (.inl y2), some (.inl y3), some (.inl y4), some (.inl y5), some (.inl y6), none, none, none] [] (jxSH, a0, b0)) (jQ_X12_priceOf x1 x2 x3 x4 a0 b0) := fun y1 y2 y3 y4 y5 y6 hlt i0 i1 i2 i3 i4 i5 i6 i7 i8 i9 i10 i11 i12 i13 i14 => (ih _ hlt).2.2 y1 y2 y3 y4 y5 y6 (Nat.le_refl _) i0 i1 i2 i3 i4 i5 i6 i7 i8 i9 i10 i11 i12 i13 i14
  have hc53 : ∀ (y1 y2 y3 y4 y5 y6 : Int), (((10 - y6) * 1) + 0).toNat ≤ n → 0 ≤ y1 → y1 ≤ 15 → 0 ≤ y2 → y2 ≤ 15 → 0 - 1 ≤ y5 → y5 ≤ 9 → 0 ≤ y6 → y6 ≤ 9 → 1 ≤ a0 146 68 → (y1 = x1) → (y2 = x2) → (y3 = x3) → (y4 = x4) → y6 < a0 146 68 → (y5 = HO (a0 192) x4 (y6.toNat + 1)) → jt (jxX E d 283 53 [some (.inr (.inr (.inl 146))), some (.inl y1), some (.inl y2), some (.inl y3), some (.inl y4), some (.inl y5), some (.inl y6), none, none, none] [] (jxSH, a0, b0)) (jQ_X12_priceOf x1 x2 x3 x4 a0 b0) := by
    intro y1 y2 y3 y4 y5 y6 hm hi0 hi1 hi2 hi3 hi4 hi5 hi6 hi7 hi8 hy1 hy2 hy3 hy4 hi13 hho
    refine jt_eq (bq_X12_priceOf_53 E d y1 y2 y3 y4 y5 y6 a0 b0) ?_
    have h718_ := iv_get hv0 (k := 146) (j := 68) (l := 0) (u := 10) rfl
    have h719_ : jxw (y6 + 1) = y6 + 1 := jxw_id (by omega) (by omega)
    exact ih6 y1 y2 y3 y4 y5 (jxw (y6 + 1)) (show (((10 - (jxw (y6 + 1))) * 1) + 0).toNat < n from by omega) (show 0 ≤ y1 from by omega) (show y1 ≤ 15 from by omega) (show 0 ≤ y2 from by omega) (show y2 ≤ 15 from by omega) (show 0 - 1 ≤ y5 from by omega) (show y5 ≤ 9 from by omega) (show 0 ≤ jxw (y6 + 1) from by omega) (show jxw (y6 + 1) ≤ 10 from by omega) (show (a0 146 68 = 0 → y5 < 0) from by omega) (by first | rfl | assumption) (by first | rfl | assumption) (by first | rfl | assumption) (by first | rfl | assumption) (show jxw (y6 + 1) ≤ a0 146 68 from by omega) (by first | rfl | (rw [show (jxw (y6 + 1)).toNat = y6.toNat + 1 from by omega]; exact hho))
  have hc49 : ∀ (y1 y2 y3 y4 y6 : Int), (((10 - y6) * 1) + 0).toNat ≤ n → 0 ≤ y1 → y1 ≤ 15 → 0 ≤ y2 → y2 ≤ 15 → 0 ≤ y6 → y6 ≤ 9 → 1 ≤ a0 146 68 → (y1 = x1) → (y2 = x2) → (y3 = x3) → (y4 = x4) → y6 < a0 146 68 → (HO (a0 192) x4 (y6.toNat + 1) = y6) → jt (jxX E d 283 49 [some (.inr (.inr (.inl 146))), some (.inl y1), some (.inl y2), some (.inl y3), some (.inl y4), none, some (.inl y6), none, none, none] [] (jxSH, a0, b0)) (jQ_X12_priceOf x1 x2 x3 x4 a0 b0) := by
    intro y1 y2 y3 y4 y6 hm hi0 hi1 hi2 hi3 hi4 hi5 hi6 hy1 hy2 hy3 hy4 hi11 hh
    refine jt_eq (bq_X12_priceOf_49 E d y1 y2 y3 y4 y6 a0 b0) ?_
    have h720_ := iv_get hv0 (k := 146) (j := 68) (l := 0) (u := 10) rfl
    exact hc53 y1 y2 y3 y4 y6 y6 (show (((10 - y6) * 1) + 0).toNat ≤ n from by omega) (show 0 ≤ y1 from by omega) (show y1 ≤ 15 from by omega) (show 0 ≤ y2 from by omega) (show y2 ≤ 15 from by omega) (show 0 - 1 ≤ y6 from by omega) (show y6 ≤ 9 from by omega) (show 0 ≤ y6 from by omega) (show y6 ≤ 9 from by omega) (show 1 ≤ a0 146 68 from by omega) (by first | rfl | assumption) (by first | rfl | assumption) (by first | rfl | assumption) (by first | rfl | assumption) (show y6 < a0 146 68 from by omega) (by first | (rw [HO_s2 (Or.inl (by rw [← hy4]; omega))]; exact hho) | (rw [HO_s2 (Or.inr ⟨by rw [← hho]; omega, by rw [← hho]; omega⟩)]; exact hho) | exact hh.symm)
  have hc6 : ∀ (y1 y2 y3 y4 y5 y6 : Int), (((10 - y6) * 1) + 0).toNat ≤ n → 0 ≤ y1 → y1 ≤ 15 → 0 ≤ y2 → y2 ≤ 15 → 0 - 1 ≤ y5 → y5 ≤ 9 → 0 ≤ y6 → y6 ≤ 10 → (a0 146 68 = 0 → y5 < 0) → (y1 = x1) → (y2 = x2) → (y3 = x3) → (y4 = x4) → y6 ≤ a0 146 68 → (y5 = HO (a0 192) x4 y6.toNat) → jt (jxX E d 283 6 [some (.inr (.inr (.inl 146))), some (.inl y1), some (.inl y2), some (.inl y3), some (.inl y4), some (.inl y5), some (.inl y6), none, none, none] [] (jxSH, a0, b0)) (jQ_X12_priceOf x1 x2 x3 x4 a0 b0) := by
    intro y1 y2 y3 y4 y5 y6 hm hi0 hi1 hi2 hi3 hi4 hi5 hi6 hi7 hi8 hy1 hy2 hy3 hy4 hi13 hho
    refine jt_eq (bq_X12_priceOf_6 E d y1 y2 y3 y4 y5 y6 a0 b0) ?_
    have h721_ := iv_get hv0 (k := 146) (j := 68) (l := 0) (u := 10) rfl
    refine jt_ite (fun c722_ => ?_) (fun c722_ => ?_)
    ·
      refine jt_grd (by omega) ?_
      refine jt_ite (fun c723_ => ?_) (fun c723_ => ?_)
      ·
        exact hc53 y1 y2 y3 y4 y5 y6 (show (((10 - y6) * 1) + 0).toNat ≤ n from by omega) (show 0 ≤ y1 from by omega) (show y1 ≤ 15 from by omega) (show 0 ≤ y2 from by omega) (show y2 ≤ 15 from by omega) (show 0 - 1 ≤ y5 from by omega) (show y5 ≤ 9 from by omega) (show 0 ≤ y6 from by omega) (show y6 ≤ 9 from by omega) (show 1 ≤ a0 146 68 from by omega) (by first | rfl | assumption) (by first | rfl | assumption) (by first | rfl | assumption) (by first | rfl | assumption) (show y6 < a0 146 68 from by omega) (by first | (rw [HO_s2 (Or.inl (by rw [← hy4]; omega))]; exact hho) | (rw [HO_s2 (Or.inr ⟨by rw [← hho]; omega, by rw [← hho]; omega⟩)]; exact hho) | exact hh.symm)
      ·
        refine jt_ite (fun c724_ => ?_) (fun c724_ => ?_)
        ·
          exact hc49 y1 y2 y3 y4 y6 (show (((10 - y6) * 1) + 0).toNat ≤ n from by omega) (show 0 ≤ y1 from by omega) (show y1 ≤ 15 from by omega) (show 0 ≤ y2 from by omega) (show y2 ≤ 15 from by omega) (show 0 ≤ y6 from by omega) (show y6 ≤ 9 from by omega) (show 1 ≤ a0 146 68 from by omega) (by first | rfl | assumption) (by first | rfl | assumption) (by first | rfl | assumption) (by first | rfl | assumption) (show y6 < a0 146 68 from by omega) (by have e := HO_s1 (f := a0 192) (d := x4) (m := y6.toNat) (by rw [← hy4]; omega) (by rw [← hho]; first | (left; omega) | (right; omega)); rw [e]; omega)
        ·
          refine jt_grd (by omega) ?_
          refine jt_grd (by omega) ?_
          refine jt_ite (fun c725_ => ?_) (fun c725_ => ?_)
          ·
            exact hc53 y1 y2 y3 y4 y5 y6 (show (((10 - y6) * 1) + 0).toNat ≤ n from by omega) (show 0 ≤ y1 from by omega) (show y1 ≤ 15 from by omega) (show 0 ≤ y2 from by omega) (show y2 ≤ 15 from by omega) (show 0 - 1 ≤ y5 from by omega) (show y5 ≤ 9 from by omega) (show 0 ≤ y6 from by omega) (show y6 ≤ 9 from by omega) (show 1 ≤ a0 146 68 from by omega) (by first | rfl | assumption) (by first | rfl | assumption) (by first | rfl | assumption) (by first | rfl | assumption) (show y6 < a0 146 68 from by omega) (by first | (rw [HO_s2 (Or.inl (by rw [← hy4]; omega))]; exact hho) | (rw [HO_s2 (Or.inr ⟨by rw [← hho]; omega, by rw [← hho]; omega⟩)]; exact hho) | exact hh.symm)
          ·
            exact hc49 y1 y2 y3 y4 y6 (show (((10 - y6) * 1) + 0).toNat ≤ n from by omega) (show 0 ≤ y1 from by omega) (show y1 ≤ 15 from by omega) (show 0 ≤ y2 from by omega) (show y2 ≤ 15 from by omega) (show 0 ≤ y6 from by omega) (show y6 ≤ 9 from by omega) (show 1 ≤ a0 146 68 from by omega) (by first | rfl | assumption) (by first | rfl | assumption) (by first | rfl | assumption) (by first | rfl | assumption) (show y6 < a0 146 68 from by omega) (by have e := HO_s1 (f := a0 192) (d := x4) (m := y6.toNat) (by rw [← hy4]; omega) (by rw [← hho]; first | (left; omega) | (right; omega)); rw [e]; omega)
    ·
      refine jt_ite (fun c726_ => ?_) (fun c726_ => ?_)
      ·
        exact jt_rI ⟨rfl, rfl, (show 0 - 2 ≤ (-2) from by omega), (show (-2) ≤ 900 from by omega), (show (a0 146 68 = 0 → (-2) = 0 - 2) from by omega), (by unfold PR2 PRC; rw [if_pos (by rw [show (a0 146 68).toNat = y6.toNat from by omega, ← hho]; omega)])⟩
      ·
        have h727_ : jxw (16 * y1) = 16 * y1 := jxw_id (by omega) (by omega)
        have h728_ : jxw ((jxw (16 * y1)) + y2) = (jxw (16 * y1)) + y2 := jxw_id (by omega) (by omega)
        refine jt_grd (by omega) ?_
        have h729_ := iv_get hv0 (k := 147) (j := (jxw ((jxw (16 * y1)) + y2)).toNat) (l := 0) (u := 99) rfl
        exact cp_X12_priceOf_80 E d hd x1 x2 x3 x4 a0 b0 hv0 hp0 hp1 y1 y2 y3 y5 (a0 147 ((jxw ((jxw (16 * y1)) + y2)).toNat)) (show 0 ≤ y1 from by omega) (show y1 ≤ 15 from by omega) (show 0 ≤ y2 from by omega) (show y2 ≤ 15 from by omega) (show 0 ≤ y5 from by omega) (show y5 ≤ 9 from by omega) (show 0 ≤ a0 147 ((jxw ((jxw (16 * y1)) + y2)).toNat) from by omega) (show a0 147 ((jxw ((jxw (16 * y1)) + y2)).toNat) ≤ 99 from by omega) (show 1 ≤ a0 146 68 from by omega) (by first | rfl | assumption) (by first | rfl | assumption) (by first | rfl | assumption) (by first | exact h5y | (rw [show (a0 146 68).toNat = y6.toNat from by omega]; exact hho)) (show 0 ≤ y5 from by omega) (by rw [show (16 * x1 + x2).toNat = (jxw ((jxw (16 * y1)) + y2)).toNat from by omega])
  exact ⟨hc53, hc49, hc6⟩
theorem sp_X12_priceOf (E : jxE) (d : Nat) (hd : Nat.ble 1 d = true) (x1 x2 x3 x4 : Int) (a0 b0 : Nat → Nat → Int) (hv0 : iv a0) (hp0 : (0 ≤ x1 ∧ x1 ≤ 15)) (hp1 : (0 ≤ x2 ∧ x2 ≤ 15)) : jt (jxC E d 283 [.inr (.inr (.inl 146)), .inl x1, .inl x2, .inl x3, .inl x4] (jxSH, a0, b0)) (jQ_X12_priceOf x1 x2 x3 x4 a0 b0) := by
  obtain ⟨d, rfl⟩ := jd_succ hd
  refine jt_eq (bq_X12_priceOf E d x1 x2 x3 x4 a0 b0) ?_
  have h730_ := iv_get hv0 (k := 146) (j := 68) (l := 0) (u := 10) rfl
  exact (cp_X12_priceOf_6 E d hd x1 x2 x3 x4 a0 b0 hv0 hp0 hp1 _).2.2 x1 x2 x3 x4 (-1) 0 (Nat.le_refl _) (show 0 ≤ x1 from by omega) (show x1 ≤ 15 from by omega) (show 0 ≤ x2 from by omega) (show x2 ≤ 15 from by omega) (show 0 - 1 ≤ (-1) from by omega) (show (-1) ≤ 9 from by omega) (show 0 ≤ 0 from by omega) (show 0 ≤ 10 from by omega) (show (a0 146 68 = 0 → (-1) < 0) from by omega) (by first | rfl | assumption) (by first | rfl | assumption) (by first | rfl | assumption) (by first | rfl | assumption) (show 0 ≤ a0 146 68 from by omega) (by first | rfl | (rw [show (jxw (y6 + 1)).toNat = y6.toNat + 1 from by omega]; exact hho))
abbrev jQ_X12_price (x1 x2 x3 x4 : Int) (a0 b0 : Nat → Nat → Int) : List jxV → (Nat → Nat → Int) → (Nat → Nat → Int) → Prop := rI (fun r a b => (a0 = a) ∧ (b0 = b) ∧ ((a0 146 68 = 0 → (((((((((0 ≤ x1 ∧ x1 ≤ 15) ∧ 0 ≤ x2) ∧ x2 ≤ 15) ∧ 1 ≤ x3) ∧ x3 ≤ 500) ∧ 0 ≤ x4) ∧ x4 ≤ 1999) ∧ r = 0 - 2) ∨ ((((((((x1 < 0 ∨ 15 < x1) ∨ x2 < 0) ∨ 15 < x2) ∨ x3 < 1) ∨ 500 < x3) ∨ x4 < 0) ∨ 1999 < x4) ∧ r = 0 - 1)))) ∧ (0 ≤ x1 ∧ x1 ≤ 15 ∧ 0 ≤ x2 ∧ x2 ≤ 15 ∧ 1 ≤ x3 ∧ x3 ≤ 500 ∧ 0 ≤ x4 ∧ x4 ≤ 1999 → r = PR2 a0 (ZN x1 x2 (a0 147 (16 * x1 + x2).toNat)) x3 x4) ∧ (((((((((x1 < 0 ∨ 15 < x1) ∨ x2 < 0) ∨ 15 < x2) ∨ x3 < 1) ∨ 500 < x3) ∨ x4 < 0) ∨ 1999 < x4) → r = 0 - 1)))
theorem cp_X12_price_33 (E : jxE) (d : Nat) (hd : Nat.ble 3 (d + 1) = true) (x1 x2 x3 x4 : Int) (a0 b0 : Nat → Nat → Int) (hv0 : iv a0) : ∀ (y1 y2 y3 y4 : Int), 0 ≤ y1 → y1 ≤ 15 → 0 ≤ y2 → y2 ≤ 15 → 1 ≤ y3 → y3 ≤ 500 → 0 ≤ y4 → y4 ≤ 1999 → (((((((0 ≤ x1 ∧ x1 ≤ 15) ∧ 0 ≤ x2) ∧ x2 ≤ 15) ∧ 1 ≤ x3) ∧ x3 ≤ 500) ∧ 0 ≤ x4) ∧ x4 ≤ 1999) → (y1 = x1) → (y2 = x2) → (y3 = x3) → (y4 = x4) → jt (jxX E d 284 33 [some (.inr (.inr (.inl 146))), some (.inl y1), some (.inl y2), some (.inl y3), some (.inl y4)] [] (jxSH, a0, b0)) (jQ_X12_price x1 x2 x3 x4 a0 b0) := by
  intro y1 y2 y3 y4 hi0 hi1 hi2 hi3 hi4 hi5 hi6 hi7 hi8 hy1 hy2 hy3 hy4
  refine jt_eq (bq_X12_price_33 E d y1 y2 y3 y4 a0 b0) ?_
  refine jt_bI (sp_X12_priceOf E d (jd_le hd rfl) y1 y2 y3 y4 a0 b0 hv0 (show (0 ≤ y1 ∧ y1 ≤ 15) from by omega) (show (0 ≤ y2 ∧ y2 ≤ 15) from by omega)) (fun r731_ a731_ b731_ h731_ => ?_)
  obtain ⟨rfl, rfl, hq731_0, hq731_1, hq731_2, hq731_3⟩ := h731_
  have h732_ := iv_get hv0 (k := 146) (j := 68) (l := 0) (u := 10) rfl
  exact jt_rI ⟨rfl, rfl, (show (a0 146 68 = 0 → (((((((((0 ≤ x1 ∧ x1 ≤ 15) ∧ 0 ≤ x2) ∧ x2 ≤ 15) ∧ 1 ≤ x3) ∧ x3 ≤ 500) ∧ 0 ≤ x4) ∧ x4 ≤ 1999) ∧ r731_ = 0 - 2) ∨ ((((((((x1 < 0 ∨ 15 < x1) ∨ x2 < 0) ∨ 15 < x2) ∨ x3 < 1) ∨ 500 < x3) ∨ x4 < 0) ∨ 1999 < x4) ∧ r731_ = 0 - 1))) from by omega), (fun _ => by have e := hq731_3; rw [hy1, hy2, hy3, hy4] at e; exact e), (show ((((((((x1 < 0 ∨ 15 < x1) ∨ x2 < 0) ∨ 15 < x2) ∨ x3 < 1) ∨ 500 < x3) ∨ x4 < 0) ∨ 1999 < x4) → r731_ = 0 - 1) from by omega)⟩
theorem cp_X12_price_45 (E : jxE) (d : Nat) (hd : Nat.ble 3 (d + 1) = true) (x1 x2 x3 x4 : Int) (a0 b0 : Nat → Nat → Int) (hv0 : iv a0) : (((((((x1 < 0 ∨ 15 < x1) ∨ x2 < 0) ∨ 15 < x2) ∨ x3 < 1) ∨ 500 < x3) ∨ x4 < 0) ∨ 1999 < x4) → jt (jxX E d 284 45 [none, none, none, none, none] [] (jxSH, a0, b0)) (jQ_X12_price x1 x2 x3 x4 a0 b0) := by
  intro hi0
  refine jt_eq (bq_X12_price_45 E d a0 b0) ?_
  have h733_ := iv_get hv0 (k := 146) (j := 68) (l := 0) (u := 10) rfl
  exact jt_rI ⟨rfl, rfl, (show (a0 146 68 = 0 → (((((((((0 ≤ x1 ∧ x1 ≤ 15) ∧ 0 ≤ x2) ∧ x2 ≤ 15) ∧ 1 ≤ x3) ∧ x3 ≤ 500) ∧ 0 ≤ x4) ∧ x4 ≤ 1999) ∧ (-1) = 0 - 2) ∨ ((((((((x1 < 0 ∨ 15 < x1) ∨ x2 < 0) ∨ 15 < x2) ∨ x3 < 1) ∨ 500 < x3) ∨ x4 < 0) ∨ 1999 < x4) ∧ (-1) = 0 - 1))) from by omega), (fun h => absurd h (by omega)), (show ((((((((x1 < 0 ∨ 15 < x1) ∨ x2 < 0) ∨ 15 < x2) ∨ x3 < 1) ∨ 500 < x3) ∨ x4 < 0) ∨ 1999 < x4) → (-1) = 0 - 1) from by omega)⟩
theorem sp_X12_price (E : jxE) (d : Nat) (hd : Nat.ble 3 d = true) (x1 x2 x3 x4 : Int) (a0 b0 : Nat → Nat → Int) (hv0 : iv a0) : jt (jxC E d 284 [.inr (.inr (.inl 146)), .inl x1, .inl x2, .inl x3, .inl x4] (jxSH, a0, b0)) (jQ_X12_price x1 x2 x3 x4 a0 b0) := by
  obtain ⟨d, rfl⟩ := jd_succ hd
  refine jt_eq (bq_X12_price E d x1 x2 x3 x4 a0 b0) ?_
  refine jt_eI (eq_X12_isLand E d (jd_le hd rfl) x1 a0 b0) ?_
  have h734_ := f_X12_isLand_eq a0 b0 x1
  have h735_ := f_X12_in_eq a0 b0 x1 0 15
  refine jt_ite (fun c736_ => ?_) (fun c736_ => ?_)
  ·
    exact cp_X12_price_45 E d hd x1 x2 x3 x4 a0 b0 hv0 (show (((((((x1 < 0 ∨ 15 < x1) ∨ x2 < 0) ∨ 15 < x2) ∨ x3 < 1) ∨ 500 < x3) ∨ x4 < 0) ∨ 1999 < x4) from by omega)
  ·
    refine jt_eI (eq_X12_isLand E d (jd_le hd rfl) x2 a0 b0) ?_
    have h737_ := f_X12_isLand_eq a0 b0 x2
    have h738_ := f_X12_in_eq a0 b0 x2 0 15
    refine jt_ite (fun c739_ => ?_) (fun c739_ => ?_)
    ·
      exact cp_X12_price_45 E d hd x1 x2 x3 x4 a0 b0 hv0 (show (((((((x1 < 0 ∨ 15 < x1) ∨ x2 < 0) ∨ 15 < x2) ∨ x3 < 1) ∨ 500 < x3) ∨ x4 < 0) ∨ 1999 < x4) from by omega)
    ·
      refine jt_eI (eq_X12_in E d (jd_le hd rfl) x3 1 500 a0 b0) ?_
      have h740_ := f_X12_in_eq a0 b0 x3 1 500
      refine jt_ite (fun c741_ => ?_) (fun c741_ => ?_)
      ·
        exact cp_X12_price_45 E d hd x1 x2 x3 x4 a0 b0 hv0 (show (((((((x1 < 0 ∨ 15 < x1) ∨ x2 < 0) ∨ 15 < x2) ∨ x3 < 1) ∨ 500 < x3) ∨ x4 < 0) ∨ 1999 < x4) from by omega)
      ·
        refine jt_eI (eq_X12_isDay E d (jd_le hd rfl) x4 a0 b0) ?_
        have h742_ := f_X12_isDay_eq a0 b0 x4
        have h743_ := f_X12_in_eq a0 b0 x4 0 1999
        refine jt_ite (fun c744_ => ?_) (fun c744_ => ?_)
        ·
          exact cp_X12_price_45 E d hd x1 x2 x3 x4 a0 b0 hv0 (show (((((((x1 < 0 ∨ 15 < x1) ∨ x2 < 0) ∨ 15 < x2) ∨ x3 < 1) ∨ 500 < x3) ∨ x4 < 0) ∨ 1999 < x4) from by omega)
        ·
          exact cp_X12_price_33 E d hd x1 x2 x3 x4 a0 b0 hv0 x1 x2 x3 x4 (show 0 ≤ x1 from by omega) (show x1 ≤ 15 from by omega) (show 0 ≤ x2 from by omega) (show x2 ≤ 15 from by omega) (show 1 ≤ x3 from by omega) (show x3 ≤ 500 from by omega) (show 0 ≤ x4 from by omega) (show x4 ≤ 1999 from by omega) (show (((((((0 ≤ x1 ∧ x1 ≤ 15) ∧ 0 ≤ x2) ∧ x2 ≤ 15) ∧ 1 ≤ x3) ∧ x3 ≤ 500) ∧ 0 ≤ x4) ∧ x4 ≤ 1999) from by omega) (by first | rfl | assumption) (by first | rfl | assumption) (by first | rfl | assumption) (by first | rfl | assumption)
def jW_X12_span : List (Nat × Nat) := [(146, 39), (146, 40), (146, 41)]
abbrev jQ_X12_span (x1 x2 x3 : Int) (a0 b0 : Nat → Nat → Int) : List jxV → (Nat → Nat → Int) → (Nat → Nat → Int) → Prop := rI (fun r a b => (iv a) ∧ (jfr jW_X12_span a0 a) ∧ (b0 = b) ∧ ((a0 146 17 = 0 → ((((((0 ≤ x1 ∧ x1 ≤ 15) ∧ 0 ≤ x2) ∧ x2 ≤ 15) ∧ x3 = 2) ∧ r = 0) ∨ (((((x1 < 0 ∨ 15 < x1) ∨ x2 < 0) ∨ 15 < x2) ∨ ¬ x3 = 2) ∧ r = 0 - 1)))) ∧ (0 ≤ x1 ∧ x1 ≤ 15 ∧ 0 ≤ x2 ∧ x2 ≤ 15 → r = if x3 = 2 then (SPR a0 x1 x2).1 else if (SPR a0 x1 x2).1 = 0 then -1 else if x3 = 0 then (SPR a0 x1 x2).2.1 else if x3 = 1 then (SPR a0 x1 x2).2.2 else -1) ∧ (¬ (0 ≤ x1 ∧ x1 ≤ 15 ∧ 0 ≤ x2 ∧ x2 ≤ 15) → r = -1))
theorem cp_X12_span_39 (E : jxE) (d : Nat) (hd : Nat.ble 3 (d + 1) = true) (x1 x2 x3 : Int) (a0 b0 : Nat → Nat → Int) (hv0 : iv a0) : ∀ (a : Nat → Nat → Int), iv a → jfr jW_X12_span a0 a → a 146 39 ≤ 0 → (a0 146 17 = 0 → ¬ x3 = 2) → (((0 ≤ x1 ∧ x1 ≤ 15) ∧ 0 ≤ x2) ∧ x2 ≤ 15) → ((SPR a0 x1 x2).1 = 0 ∧ ¬ x3 = 2) → jt (jxX E d 239 39 [none, none, none, none] [] (jxSH, a, b0)) (jQ_X12_span x1 x2 x3 a0 b0) := by
  intro a hv hf hi0 hi1 hi2 hsp
  refine jt_eq (bq_X12_span_39 E d a b0) ?_
  have h745_ := iv_get hv (k := 146) (j := 39) (l := 0) (u := 10) rfl
  have h746_ := iv_get hv0 (k := 146) (j := 17) (l := 0) (u := 600) rfl
  exact jt_rI ⟨hv, hf, rfl, (show (a0 146 17 = 0 → ((((((0 ≤ x1 ∧ x1 ≤ 15) ∧ 0 ≤ x2) ∧ x2 ≤ 15) ∧ x3 = 2) ∧ (-1) = 0) ∨ (((((x1 < 0 ∨ 15 < x1) ∨ x2 < 0) ∨ 15 < x2) ∨ ¬ x3 = 2) ∧ (-1) = 0 - 1))) from by omega), (fun _ => by rw [if_neg hsp.2, if_pos hsp.1]), (fun h => absurd (by omega) h)⟩
theorem cp_X12_span_43 (E : jxE) (d : Nat) (hd : Nat.ble 3 (d + 1) = true) (x1 x2 x3 : Int) (a0 b0 : Nat → Nat → Int) (hv0 : iv a0) : ∀ (y3 : Int) (a : Nat → Nat → Int), iv a → jfr jW_X12_span a0 a → 1 ≤ a 146 39 → 1 ≤ a0 146 17 → (y3 = x3) → (((0 ≤ x1 ∧ x1 ≤ 15) ∧ 0 ≤ x2) ∧ x2 ≤ 15) → ((a 146 39, a 146 40, a 146 41) = SPR a0 x1 x2) → (¬ (SPR a0 x1 x2).1 = 0 ∧ ¬ x3 = 2) → jt (jxX E d 239 43 [some (.inr (.inr (.inl 146))), none, none, some (.inl y3)] [] (jxSH, a, b0)) (jQ_X12_span x1 x2 x3 a0 b0) := by
  intro y3 a hv hf hi0 hi1 hy3 hi3 hsp hs0
  refine jt_eq (bq_X12_span_43 E d y3 a b0) ?_
  have h747_ := iv_get hv (k := 146) (j := 39) (l := 0) (u := 10) rfl
  have h748_ := iv_get hv0 (k := 146) (j := 17) (l := 0) (u := 600) rfl
  refine jt_ite (fun c749_ => ?_) (fun c749_ => ?_)
  ·
    exact jt_rI ⟨hv, hf, rfl, (show (a0 146 17 = 0 → ((((((0 ≤ x1 ∧ x1 ≤ 15) ∧ 0 ≤ x2) ∧ x2 ≤ 15) ∧ x3 = 2) ∧ a 146 40 = 0) ∨ (((((x1 < 0 ∨ 15 < x1) ∨ x2 < 0) ∨ 15 < x2) ∨ ¬ x3 = 2) ∧ a 146 40 = 0 - 1))) from by omega), (fun _ => by rw [if_neg hs0.2, if_neg hs0.1, ← hsp, ← hy3]; first | (rw [if_pos (by assumption)]) | (rw [if_neg (by assumption), if_pos (by assumption)]) | (rw [if_neg (by assumption), if_neg (by assumption)])), (fun h => absurd (by omega) h)⟩
  ·
    refine jt_ite (fun c750_ => ?_) (fun c750_ => ?_)
    ·
      exact jt_rI ⟨hv, hf, rfl, (show (a0 146 17 = 0 → ((((((0 ≤ x1 ∧ x1 ≤ 15) ∧ 0 ≤ x2) ∧ x2 ≤ 15) ∧ x3 = 2) ∧ a 146 41 = 0) ∨ (((((x1 < 0 ∨ 15 < x1) ∨ x2 < 0) ∨ 15 < x2) ∨ ¬ x3 = 2) ∧ a 146 41 = 0 - 1))) from by omega), (fun _ => by rw [if_neg hs0.2, if_neg hs0.1, ← hsp, ← hy3]; first | (rw [if_pos (by assumption)]) | (rw [if_neg (by assumption), if_pos (by assumption)]) | (rw [if_neg (by assumption), if_neg (by assumption)])), (fun h => absurd (by omega) h)⟩
    ·
      exact jt_rI ⟨hv, hf, rfl, (show (a0 146 17 = 0 → ((((((0 ≤ x1 ∧ x1 ≤ 15) ∧ 0 ≤ x2) ∧ x2 ≤ 15) ∧ x3 = 2) ∧ (-1) = 0) ∨ (((((x1 < 0 ∨ 15 < x1) ∨ x2 < 0) ∨ 15 < x2) ∨ ¬ x3 = 2) ∧ (-1) = 0 - 1))) from by omega), (fun _ => by rw [if_neg hs0.2, if_neg hs0.1, ← hsp, ← hy3]; first | (rw [if_pos (by assumption)]) | (rw [if_neg (by assumption), if_pos (by assumption)]) | (rw [if_neg (by assumption), if_neg (by assumption)])), (fun h => absurd (by omega) h)⟩
theorem sp_X12_span (E : jxE) (d : Nat) (hd : Nat.ble 3 d = true) (x1 x2 x3 : Int) (a0 b0 : Nat → Nat → Int) (hv0 : iv a0) : jt (jxC E d 239 [.inr (.inr (.inl 146)), .inl x1, .inl x2, .inl x3] (jxSH, a0, b0)) (jQ_X12_span x1 x2 x3 a0 b0) := by
  obtain ⟨d, rfl⟩ := jd_succ hd
  refine jt_eq (bq_X12_span E d x1 x2 x3 a0 b0) ?_
  refine jt_eI (eq_X12_isLand E d (jd_le hd rfl) x1 a0 b0) ?_
  have h751_ := f_X12_isLand_eq a0 b0 x1
  have h752_ := f_X12_in_eq a0 b0 x1 0 15
  refine jt_ite (fun c753_ => ?_) (fun c753_ => ?_)
  ·
    have h754_ := iv_get hv0 (k := 146) (j := 17) (l := 0) (u := 600) rfl
    exact jt_rI ⟨hv0, (jfr_rf _ _), rfl, (show (a0 146 17 = 0 → ((((((0 ≤ x1 ∧ x1 ≤ 15) ∧ 0 ≤ x2) ∧ x2 ≤ 15) ∧ x3 = 2) ∧ (-1) = 0) ∨ (((((x1 < 0 ∨ 15 < x1) ∨ x2 < 0) ∨ 15 < x2) ∨ ¬ x3 = 2) ∧ (-1) = 0 - 1))) from by omega), (fun h => absurd h (by omega)), (fun _ => rfl)⟩
  ·
    refine jt_eI (eq_X12_isLand E d (jd_le hd rfl) x2 a0 b0) ?_
    have h755_ := f_X12_isLand_eq a0 b0 x2
    have h756_ := f_X12_in_eq a0 b0 x2 0 15
    refine jt_ite (fun c757_ => ?_) (fun c757_ => ?_)
    ·
      have h758_ := iv_get hv0 (k := 146) (j := 17) (l := 0) (u := 600) rfl
      exact jt_rI ⟨hv0, (jfr_rf _ _), rfl, (show (a0 146 17 = 0 → ((((((0 ≤ x1 ∧ x1 ≤ 15) ∧ 0 ≤ x2) ∧ x2 ≤ 15) ∧ x3 = 2) ∧ (-1) = 0) ∨ (((((x1 < 0 ∨ 15 < x1) ∨ x2 < 0) ∨ 15 < x2) ∨ ¬ x3 = 2) ∧ (-1) = 0 - 1))) from by omega), (fun h => absurd h (by omega)), (fun _ => rfl)⟩
    ·
      refine jt_bV (sp_X12_spans E d (jd_le hd rfl) x1 x2 a0 b0 hv0) (fun a759_ b759_ h759_ => ?_)
      obtain ⟨hv759_, hf759_, rfl, hq759_0, hq759_1⟩ := h759_
      have h760_ := iv_get hv0 (k := 146) (j := 17) (l := 0) (u := 600) rfl
      have h761_ := iv_get hv759_ (k := 146) (j := 39) (l := 0) (u := 10) rfl
      refine jt_ite (fun c762_ => ?_) (fun c762_ => ?_)
      ·
        have hf763_ : jfr jW_X12_span a0 a759_ := jfr_tr (jfr_rf _ _) hf759_ rfl
        exact jt_rI ⟨hv759_, hf763_, rfl, (show (a0 146 17 = 0 → ((((((0 ≤ x1 ∧ x1 ≤ 15) ∧ 0 ≤ x2) ∧ x2 ≤ 15) ∧ x3 = 2) ∧ a759_ 146 39 = 0) ∨ (((((x1 < 0 ∨ 15 < x1) ∨ x2 < 0) ∨ 15 < x2) ∨ ¬ x3 = 2) ∧ a759_ 146 39 = 0 - 1))) from by omega), (fun _ => by rw [if_pos (by assumption), ← hq759_1]), (fun h => absurd (by omega) h)⟩
      ·
        refine jt_ite (fun c764_ => ?_) (fun c764_ => ?_)
        ·
          have hf765_ : jfr jW_X12_span a0 a759_ := jfr_tr (jfr_rf _ _) hf759_ rfl
          exact cp_X12_span_39 E d hd x1 x2 x3 a0 b0 hv0 a759_ hv759_ hf765_ (show a759_ 146 39 ≤ 0 from by omega) (show (a0 146 17 = 0 → ¬ x3 = 2) from by omega) (show (((0 ≤ x1 ∧ x1 ≤ 15) ∧ 0 ≤ x2) ∧ x2 ≤ 15) from by omega) (by rw [← hq759_1]; exact ⟨by assumption, by assumption⟩)
        ·
          have hf766_ : jfr jW_X12_span a0 a759_ := jfr_tr (jfr_rf _ _) hf759_ rfl
          exact cp_X12_span_43 E d hd x1 x2 x3 a0 b0 hv0 x3 a759_ hv759_ hf766_ (show 1 ≤ a759_ 146 39 from by omega) (show 1 ≤ a0 146 17 from by omega) (by first | rfl | assumption) (show (((0 ≤ x1 ∧ x1 ≤ 15) ∧ 0 ≤ x2) ∧ x2 ≤ 15) from by omega) hq759_1 (by rw [← hq759_1]; exact ⟨by assumption, by assumption⟩)
abbrev jQ_X12_state (x1 x2 x3 : Int) (a0 b0 : Nat → Nat → Int) : List jxV → (Nat → Nat → Int) → (Nat → Nat → Int) → Prop := rI (fun r a b => (a0 = a) ∧ (b0 = b) ∧ ((a0 146 9 = 0 → r = 0 - 1)) ∧ (0 ≤ x1 ∧ x1 < a0 146 9 ∧ 0 ≤ x2 ∧ x2 ≤ 1999 ∧ 0 ≤ x3 ∧ x3 ≤ 1999 ∧ a0 156 x1.toNat ≤ x2 → r = vStk (cvR a0) (a0 146 0) x1.toNat x2 x3) ∧ (¬ (0 ≤ x1 ∧ x1 < a0 146 9 ∧ 0 ≤ x2 ∧ x2 ≤ 1999 ∧ 0 ≤ x3 ∧ x3 ≤ 1999 ∧ a0 156 x1.toNat ≤ x2) → r = -1))
theorem cp_X12_state_38 (E : jxE) (d : Nat) (hd : Nat.ble 3 (d + 1) = true) (x1 x2 x3 : Int) (a0 b0 : Nat → Nat → Int) (hv0 : iv a0) : (¬ (0 ≤ x1 ∧ x1 < a0 146 9 ∧ 0 ≤ x2 ∧ x2 ≤ 1999 ∧ 0 ≤ x3 ∧ x3 ≤ 1999 ∧ a0 156 x1.toNat ≤ x2)) → jt (jxX E d 237 38 [none, none, none, none] [] (jxSH, a0, b0)) (jQ_X12_state x1 x2 x3 a0 b0) := by
  intro hno
  refine jt_eq (bq_X12_state_38 E d a0 b0) ?_
  have h767_ := iv_get hv0 (k := 146) (j := 9) (l := 0) (u := 300) rfl
  exact jt_rI ⟨rfl, rfl, (show (a0 146 9 = 0 → (-1) = 0 - 1) from by omega), (fun h => absurd h hno), (fun _ => rfl)⟩
theorem cp_X12_state_28 (E : jxE) (d : Nat) (hd : Nat.ble 3 (d + 1) = true) (x1 x2 x3 : Int) (a0 b0 : Nat → Nat → Int) (hv0 : iv a0) : ∀ (y1 y2 y3 : Int), 0 ≤ y1 → y1 ≤ 299 → 0 ≤ y2 → y2 ≤ 1999 → 0 ≤ y3 → y3 ≤ 1999 → 1 ≤ a0 146 9 → (y1 = x1) → (y2 = x2) → (y3 = x3) → (((((0 ≤ x1 ∧ x1 < a0 146 9) ∧ 0 ≤ x2) ∧ x2 ≤ 1999) ∧ 0 ≤ x3) ∧ x3 ≤ 1999) → jt (jxX E d 237 28 [some (.inr (.inr (.inl 146))), some (.inl y1), some (.inl y2), some (.inl y3)] [] (jxSH, a0, b0)) (jQ_X12_state x1 x2 x3 a0 b0) := by
  intro y1 y2 y3 hi0 hi1 hi2 hi3 hi4 hi5 hi6 hy1 hy2 hy3 hi10
  refine jt_eq (bq_X12_state_28 E d y1 y2 y3 a0 b0) ?_
  have h768_ := iv_get hv0 (k := 146) (j := 9) (l := 0) (u := 300) rfl
  have e56 : a0 156 (y1.toNat) = a0 156 (x1.toNat) := by rw [hy1]
  refine jt_grd (by omega) ?_
  have h769_ := iv_get hv0 (k := 156) (j := y1.toNat) (l := 0) (u := 1999) rfl
  refine jt_ite (fun c770_ => ?_) (fun c770_ => ?_)
  ·
    exact cp_X12_state_38 E d hd x1 x2 x3 a0 b0 hv0 (fun q => by omega)
  ·
    refine jt_bI (sp_X12_stateAt E d (jd_le hd rfl) y1 y2 y3 a0 b0 hv0 (show (0 ≤ y1 ∧ y1 ≤ 299) from by omega)) (fun r771_ a771_ b771_ h771_ => ?_)
    obtain ⟨rfl, rfl, hq771_0, hq771_1, hq771_2⟩ := h771_
    exact jt_rI ⟨rfl, rfl, (show (a0 146 9 = 0 → r771_ = 0 - 1) from by omega), (fun _ => by have q := hq771_2; rw [hy1, hy2, hy3] at q; exact q), (fun h => absurd (by omega) h)⟩
theorem sp_X12_state (E : jxE) (d : Nat) (hd : Nat.ble 3 d = true) (x1 x2 x3 : Int) (a0 b0 : Nat → Nat → Int) (hv0 : iv a0) : jt (jxC E d 237 [.inr (.inr (.inl 146)), .inl x1, .inl x2, .inl x3] (jxSH, a0, b0)) (jQ_X12_state x1 x2 x3 a0 b0) := by
  obtain ⟨d, rfl⟩ := jd_succ hd
  refine jt_eq (bq_X12_state E d x1 x2 x3 a0 b0) ?_
  refine jt_eI (eq_X12_in E d (jd_le hd rfl) x1 0 (jxw ((a0 146 9) - 1)) a0 b0) ?_
  have h772_ := iv_get hv0 (k := 146) (j := 9) (l := 0) (u := 300) rfl
  have h773_ : jxw ((a0 146 9) - 1) = (a0 146 9) - 1 := jxw_id (by omega) (by omega)
  have h774_ := f_X12_in_eq a0 b0 x1 0 (jxw ((a0 146 9) - 1))
  refine jt_ite (fun c775_ => ?_) (fun c775_ => ?_)
  ·
    exact cp_X12_state_38 E d hd x1 x2 x3 a0 b0 hv0 (fun q => by omega)
  ·
    refine jt_eI (eq_X12_isDay E d (jd_le hd rfl) x2 a0 b0) ?_
    have h776_ := f_X12_isDay_eq a0 b0 x2
    have h777_ := f_X12_in_eq a0 b0 x2 0 1999
    refine jt_ite (fun c778_ => ?_) (fun c778_ => ?_)
    ·
      exact cp_X12_state_38 E d hd x1 x2 x3 a0 b0 hv0 (fun q => by omega)
    ·
      refine jt_eI (eq_X12_isDay E d (jd_le hd rfl) x3 a0 b0) ?_
      have h779_ := f_X12_isDay_eq a0 b0 x3
      have h780_ := f_X12_in_eq a0 b0 x3 0 1999
      refine jt_ite (fun c781_ => ?_) (fun c781_ => ?_)
      ·
        exact cp_X12_state_38 E d hd x1 x2 x3 a0 b0 hv0 (fun q => by omega)
      ·
        exact cp_X12_state_28 E d hd x1 x2 x3 a0 b0 hv0 x1 x2 x3 (show 0 ≤ x1 from by omega) (show x1 ≤ 299 from by omega) (show 0 ≤ x2 from by omega) (show x2 ≤ 1999 from by omega) (show 0 ≤ x3 from by omega) (show x3 ≤ 1999 from by omega) (show 1 ≤ a0 146 9 from by omega) (by first | rfl | assumption) (by first | rfl | assumption) (by first | rfl | assumption) (show (((((0 ≤ x1 ∧ x1 < a0 146 9) ∧ 0 ≤ x2) ∧ x2 ≤ 1999) ∧ 0 ≤ x3) ∧ x3 ≤ 1999) from by omega)
