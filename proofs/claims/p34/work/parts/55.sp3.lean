abbrev jQ_X12_arrival (x1 x2 : Int) (a0 b0 : Nat → Nat → Int) : List jxV → (Nat → Nat → Int) → (Nat → Nat → Int) → Prop := rI (fun r a b => (a0 = a) ∧ (b0 = b) ∧ (r = if a0 146 0 ≤ x2 then vArr (cvR a0) x1.toNat else vKn (cvR a0) x1.toNat x2))
theorem cp_X12_arrival_38 (E : jxE) (d : Nat) (hd : Nat.ble 1 (d + 1) = true) (x1 x2 : Int) (a0 b0 : Nat → Nat → Int) (hv0 : iv a0) (hp0 : (0 ≤ x1 ∧ x1 ≤ 299)) : ∀ n : Nat, (∀ (y1 y2 y3 y4 : Int), (((600 - y4) * 1) + 0).toNat ≤ n → 0 ≤ y1 → y1 ≤ 299 → y2 ≤ 1998 → 0 ≤ y4 → y4 ≤ 599 → y1 = x1 → y2 = x2 → x2 < a0 146 0 → 0 ≤ y4 → y4 < a0 146 17 → (y3 = lastd (a0 161) (a0 162) (a0 163) x1 x2 (y4.toNat + 1)) → jt (jxX E d 233 77 [some (.inr (.inr (.inl 146))), some (.inl y1), some (.inl y2), some (.inl y3), some (.inl y4)] [] (jxSH, a0, b0)) (jQ_X12_arrival x1 x2 a0 b0)) ∧ (∀ (y1 y2 y4 : Int), (((600 - y4) * 1) + 0).toNat ≤ n → 0 ≤ y1 → y1 ≤ 299 → y2 ≤ 1998 → 0 ≤ y4 → y4 ≤ 599 → y1 = x1 → y2 = x2 → x2 < a0 146 0 → 0 ≤ y4 → y4 < a0 146 17 → (a0 162 y4.toNat = lastd (a0 161) (a0 162) (a0 163) x1 x2 (y4.toNat + 1)) → jt (jxX E d 233 69 [some (.inr (.inr (.inl 146))), some (.inl y1), some (.inl y2), none, some (.inl y4)] [] (jxSH, a0, b0)) (jQ_X12_arrival x1 x2 a0 b0)) ∧ (∀ (y1 y2 y3 y4 : Int), (((600 - y4) * 1) + 0).toNat ≤ n → 0 ≤ y1 → y1 ≤ 299 → y2 ≤ 1998 → 0 ≤ y4 → y4 ≤ 600 → y1 = x1 → y2 = x2 → x2 < a0 146 0 → 0 ≤ y4 → y4 ≤ a0 146 17 → (y3 = lastd (a0 161) (a0 162) (a0 163) x1 x2 y4.toNat) → jt (jxX E d 233 38 [some (.inr (.inr (.inl 146))), some (.inl y1), some (.inl y2), some (.inl y3), some (.inl y4)] [] (jxSH, a0, b0)) (jQ_X12_arrival x1 x2 a0 b0)) := by
  refine jx_ind fun n ih => ?_
  have ih77 : ∀ (y1 y2 y3 y4 : Int), (((600 - y4) * 1) + 0).toNat < n → 0 ≤ y1 → y1 ≤ 299 → y2 ≤ 1998 → 0 ≤ y4 → y4 ≤ 599 → y1 = x1 → y2 = x2 → x2 < a0 146 0 → 0 ≤ y4 → y4 < a0 146 17 → (y3 = lastd (a0 161) (a0 162) (a0 163) x1 x2 (y4.toNat + 1)) → jt (jxX E d 233 77 [some (.inr (.inr (.inl 146))), some (.inl y1), some (.inl y2), some (.inl y3), some (.inl y4)] [] (jxSH, a0, b0)) (jQ_X12_arrival x1 x2 a0 b0) := fun y1 y2 y3 y4 hlt i0 i1 i2 i3 i4 i5 i6 i7 i8 i9 i10 => (ih _ hlt).1 y1 y2 y3 y4 (Nat.le_refl _) i0 i1 i2 i3 i4 i5 i6 i7 i8 i9 i10
  have ih69 : ∀ (y1 y2 y4 : Int), (((600 - y4) * 1) + 0).toNat < n → 0 ≤ y1 → y1 ≤ 299 → y2 ≤ 1998 → 0 ≤ y4 → y4 ≤ 599 → y1 = x1 → y2 = x2 → x2 < a0 146 0 → 0 ≤ y4 → y4 < a0 146 17 → (a0 162 y4.toNat = lastd (a0 161) (a0 162) (a0 163) x1 x2 (y4.toNat + 1)) → jt (jxX E d 233 69 [some (.inr (.inr (.inl 146))), some (.inl y1), some (.inl y2), none, some (.inl y4)] [] (jxSH, a0, b0)) (jQ_X12_arrival x1 x2 a0 b0) := fun y1 y2 y4 hlt i0 i1 i2 i3 i4 i5 i6 i7 i8 i9 i10 => (ih _ hlt).2.1 y1 y2 y4 (Nat.le_refl _) i0 i1 i2 i3 i4 i5 i6 i7 i8 i9 i10
  have ih38 : ∀ (y1 y2 y3 y4 : Int), (((600 - y4) * 1) + 0).toNat < n → 0 ≤ y1 → y1 ≤ 299 → y2 ≤ 1998 → 0 ≤ y4 → y4 ≤ 600 → y1 = x1 → y2 = x2 → x2 < a0 146 0 → 0 ≤ y4 → y4 ≤ a0 146 17 → (y3 = lastd (a0 161) (a0 162) (a0 163) x1 x2 y4.toNat) → jt (jxX E d 233 38 [some (.inr (.inr (.inl 146))), some (.inl y1), some (.inl y2), some (.inl y3), some (.inl y4)] [] (jxSH, a0, b0)) (jQ_X12_arrival x1 x2 a0 b0) := fun y1 y2 y3 y4 hlt i0 i1 i2 i3 i4 i5 i6 i7 i8 i9 i10 => (ih _ hlt).2.2 y1 y2 y3 y4 (Nat.le_refl _) i0 i1 i2 i3 i4 i5 i6 i7 i8 i9 i10
  have hc77 : ∀ (y1 y2 y3 y4 : Int), (((600 - y4) * 1) + 0).toNat ≤ n → 0 ≤ y1 → y1 ≤ 299 → y2 ≤ 1998 → 0 ≤ y4 → y4 ≤ 599 → y1 = x1 → y2 = x2 → x2 < a0 146 0 → 0 ≤ y4 → y4 < a0 146 17 → (y3 = lastd (a0 161) (a0 162) (a0 163) x1 x2 (y4.toNat + 1)) → jt (jxX E d 233 77 [some (.inr (.inr (.inl 146))), some (.inl y1), some (.inl y2), some (.inl y3), some (.inl y4)] [] (jxSH, a0, b0)) (jQ_X12_arrival x1 x2 a0 b0) := by
    intro y1 y2 y3 y4 hm hi0 hi1 hi2 hi3 hi4 hi5 hi6 hi7 hi8 hi9 hl
    refine jt_eq (bq_X12_arrival_77 E d y1 y2 y3 y4 a0 b0) ?_
    have h1_ := iv_get hv0 (k := 146) (j := 0) (l := 0) (u := 1999) rfl
    have h2_ := iv_get hv0 (k := 146) (j := 17) (l := 0) (u := 600) rfl
    have h3_ : jxw (y4 + 1) = y4 + 1 := jxw_id (by omega) (by omega)
    exact ih38 y1 y2 y3 (jxw (y4 + 1)) (show (((600 - (jxw (y4 + 1))) * 1) + 0).toNat < n from by omega) (show 0 ≤ y1 from by omega) (show y1 ≤ 299 from by omega) (show y2 ≤ 1998 from by omega) (show 0 ≤ jxw (y4 + 1) from by omega) (show jxw (y4 + 1) ≤ 600 from by omega) (show y1 = x1 from by omega) (show y2 = x2 from by omega) (show x2 < a0 146 0 from by omega) (show 0 ≤ jxw (y4 + 1) from by omega) (show jxw (y4 + 1) ≤ a0 146 17 from by omega) (by first | rfl | (rw [show (jxw (y4 + 1)).toNat = y4.toNat + 1 from by omega]; exact hl))
  have hc69 : ∀ (y1 y2 y4 : Int), (((600 - y4) * 1) + 0).toNat ≤ n → 0 ≤ y1 → y1 ≤ 299 → y2 ≤ 1998 → 0 ≤ y4 → y4 ≤ 599 → y1 = x1 → y2 = x2 → x2 < a0 146 0 → 0 ≤ y4 → y4 < a0 146 17 → (a0 162 y4.toNat = lastd (a0 161) (a0 162) (a0 163) x1 x2 (y4.toNat + 1)) → jt (jxX E d 233 69 [some (.inr (.inr (.inl 146))), some (.inl y1), some (.inl y2), none, some (.inl y4)] [] (jxSH, a0, b0)) (jQ_X12_arrival x1 x2 a0 b0) := by
    intro y1 y2 y4 hm hi0 hi1 hi2 hi3 hi4 hi5 hi6 hi7 hi8 hi9 hl
    refine jt_eq (bq_X12_arrival_69 E d y1 y2 y4 a0 b0) ?_
    have h4_ := iv_get hv0 (k := 146) (j := 0) (l := 0) (u := 1999) rfl
    have h5_ := iv_get hv0 (k := 146) (j := 17) (l := 0) (u := 600) rfl
    refine jt_grd (by omega) ?_
    exact hc77 y1 y2 (a0 162 (y4.toNat)) y4 (show (((600 - y4) * 1) + 0).toNat ≤ n from by omega) (show 0 ≤ y1 from by omega) (show y1 ≤ 299 from by omega) (show y2 ≤ 1998 from by omega) (show 0 ≤ y4 from by omega) (show y4 ≤ 599 from by omega) (show y1 = x1 from by omega) (show y2 = x2 from by omega) (show x2 < a0 146 0 from by omega) (show 0 ≤ y4 from by omega) (show y4 < a0 146 17 from by omega) (by first | exact hl | (rw [hls, if_neg (fun q => by omega)]; exact hl))
  have hc38 : ∀ (y1 y2 y3 y4 : Int), (((600 - y4) * 1) + 0).toNat ≤ n → 0 ≤ y1 → y1 ≤ 299 → y2 ≤ 1998 → 0 ≤ y4 → y4 ≤ 600 → y1 = x1 → y2 = x2 → x2 < a0 146 0 → 0 ≤ y4 → y4 ≤ a0 146 17 → (y3 = lastd (a0 161) (a0 162) (a0 163) x1 x2 y4.toNat) → jt (jxX E d 233 38 [some (.inr (.inr (.inl 146))), some (.inl y1), some (.inl y2), some (.inl y3), some (.inl y4)] [] (jxSH, a0, b0)) (jQ_X12_arrival x1 x2 a0 b0) := by
    intro y1 y2 y3 y4 hm hi0 hi1 hi2 hi3 hi4 hi5 hi6 hi7 hi8 hi9 hl
    refine jt_eq (bq_X12_arrival_38 E d y1 y2 y3 y4 a0 b0) ?_
    have h6_ := iv_get hv0 (k := 146) (j := 0) (l := 0) (u := 1999) rfl
    have h7_ := iv_get hv0 (k := 146) (j := 17) (l := 0) (u := 600) rfl
    have hls : lastd (a0 161) (a0 162) (a0 163) x1 x2 (y4.toNat + 1) = if a0 161 y4.toNat = x1 ∧ a0 163 y4.toNat ≤ x2 then a0 162 y4.toNat else lastd (a0 161) (a0 162) (a0 163) x1 x2 y4.toNat := rfl
    refine jt_ite (fun c8_ => ?_) (fun c8_ => ?_)
    ·
      refine jt_grd (by omega) ?_
      have h9_ := iv_get hv0 (k := 161) (j := y4.toNat) (l := 0) (u := 299) rfl
      refine jt_ite (fun c10_ => ?_) (fun c10_ => ?_)
      ·
        refine jt_grd (by omega) ?_
        refine jt_ite (fun c11_ => ?_) (fun c11_ => ?_)
        ·
          exact hc77 y1 y2 y3 y4 (show (((600 - y4) * 1) + 0).toNat ≤ n from by omega) (show 0 ≤ y1 from by omega) (show y1 ≤ 299 from by omega) (show y2 ≤ 1998 from by omega) (show 0 ≤ y4 from by omega) (show y4 ≤ 599 from by omega) (show y1 = x1 from by omega) (show y2 = x2 from by omega) (show x2 < a0 146 0 from by omega) (show 0 ≤ y4 from by omega) (show y4 < a0 146 17 from by omega) (by first | exact hl | (rw [hls, if_neg (fun q => by omega)]; exact hl))
        ·
          exact hc69 y1 y2 y4 (show (((600 - y4) * 1) + 0).toNat ≤ n from by omega) (show 0 ≤ y1 from by omega) (show y1 ≤ 299 from by omega) (show y2 ≤ 1998 from by omega) (show 0 ≤ y4 from by omega) (show y4 ≤ 599 from by omega) (show y1 = x1 from by omega) (show y2 = x2 from by omega) (show x2 < a0 146 0 from by omega) (show 0 ≤ y4 from by omega) (show y4 < a0 146 17 from by omega) (by rw [hls, if_pos ⟨by omega, by omega⟩])
      ·
        exact hc77 y1 y2 y3 y4 (show (((600 - y4) * 1) + 0).toNat ≤ n from by omega) (show 0 ≤ y1 from by omega) (show y1 ≤ 299 from by omega) (show y2 ≤ 1998 from by omega) (show 0 ≤ y4 from by omega) (show y4 ≤ 599 from by omega) (show y1 = x1 from by omega) (show y2 = x2 from by omega) (show x2 < a0 146 0 from by omega) (show 0 ≤ y4 from by omega) (show y4 < a0 146 17 from by omega) (by first | exact hl | (rw [hls, if_neg (fun q => by omega)]; exact hl))
    ·
      exact jt_rI ⟨rfl, rfl, (by rw [if_neg (by omega)]; show y3 = lastd (a0 161) (a0 162) (a0 163) ((x1.toNat : Nat) : Int) x2 (a0 146 17).toNat; rw [show ((x1.toNat : Nat) : Int) = x1 from by omega, show (a0 146 17).toNat = y4.toNat from by omega]; exact hl)⟩
  exact ⟨hc77, hc69, hc38⟩
theorem sp_X12_arrival (E : jxE) (d : Nat) (hd : Nat.ble 1 d = true) (x1 x2 : Int) (a0 b0 : Nat → Nat → Int) (hv0 : iv a0) (hp0 : (0 ≤ x1 ∧ x1 ≤ 299)) : jt (jxC E d 233 [.inr (.inr (.inl 146)), .inl x1, .inl x2] (jxSH, a0, b0)) (jQ_X12_arrival x1 x2 a0 b0) := by
  obtain ⟨d, rfl⟩ := jd_succ hd
  refine jt_eq (bq_X12_arrival E d x1 x2 a0 b0) ?_
  have h12_ := iv_get hv0 (k := 146) (j := 0) (l := 0) (u := 1999) rfl
  refine jt_ite (fun c13_ => ?_) (fun c13_ => ?_)
  ·
    have h14_ := iv_get hv0 (k := 146) (j := 17) (l := 0) (u := 600) rfl
    exact (cp_X12_arrival_38 E d hd x1 x2 a0 b0 hv0 hp0 _).2.2 x1 x2 (-1) 0 (Nat.le_refl _) (show 0 ≤ x1 from by omega) (show x1 ≤ 299 from by omega) (show x2 ≤ 1998 from by omega) (show 0 ≤ 0 from by omega) (show 0 ≤ 600 from by omega) (show x1 = x1 from by omega) (show x2 = x2 from by omega) (show x2 < a0 146 0 from by omega) (show 0 ≤ 0 from by omega) (show 0 ≤ a0 146 17 from by omega) (by first | rfl | (rw [show (jxw (y4 + 1)).toNat = y4.toNat + 1 from by omega]; exact hl))
  ·
    refine jt_grd (by omega) ?_
    have h15_ := iv_get hv0 (k := 160) (j := x1.toNat) (l := (-1)) (u := 599) rfl
    refine jt_ite (fun c16_ => ?_) (fun c16_ => ?_)
    ·
      exact jt_rI ⟨rfl, rfl, (by rw [if_pos (by omega)]; show -1 = (if a0 160 x1.toNat < 0 then -1 else _); rw [if_pos (by assumption)])⟩
    ·
      refine jt_grd (by omega) ?_
      refine jt_grd (by omega) ?_
      exact jt_rI ⟨rfl, rfl, (by rw [if_pos (by omega)]; show _ = (if a0 160 x1.toNat < 0 then -1 else a0 162 (a0 160 x1.toNat).toNat); rw [if_neg (by assumption)])⟩
abbrev jQ_X12_stateAt (x1 x2 x3 : Int) (a0 b0 : Nat → Nat → Int) : List jxV → (Nat → Nat → Int) → (Nat → Nat → Int) → Prop := rI (fun r a b => (a0 = a) ∧ (b0 = b) ∧ (0 ≤ r) ∧ (r ≤ 4) ∧ (r = vStk (cvR a0) (a0 146 0) x1.toNat x2 x3))
theorem cp_X12_stateAt_30 (E : jxE) (d : Nat) (hd : Nat.ble 2 (d + 1) = true) (x1 x2 x3 : Int) (a0 b0 : Nat → Nat → Int) (hv0 : iv a0) (hp0 : (0 ≤ x1 ∧ x1 ≤ 299)) : (¬ a0 159 x1.toNat = -1 ∧ a0 159 x1.toNat ≤ x2 ∧ a0 159 x1.toNat ≤ x3) → jt (jxX E d 234 30 [none, none, none, none, none] [] (jxSH, a0, b0)) (jQ_X12_stateAt x1 x2 x3 a0 b0) := by
  intro hof
  refine jt_eq (bq_X12_stateAt_30 E d a0 b0) ?_
  exact jt_rI ⟨rfl, rfl, (show 0 ≤ 4 from by omega), (show 4 ≤ 4 from by omega), (vStk_off (v := cvR a0) hof).symm⟩
theorem cp_X12_stateAt_74 (E : jxE) (d : Nat) (hd : Nat.ble 2 (d + 1) = true) (x1 x2 x3 : Int) (a0 b0 : Nat → Nat → Int) (hv0 : iv a0) (hp0 : (0 ≤ x1 ∧ x1 ≤ 299)) : (vStk (cvR a0) (a0 146 0) x1.toNat x2 x3 = 1) → jt (jxX E d 234 74 [none, none, none, none, none] [] (jxSH, a0, b0)) (jQ_X12_stateAt x1 x2 x3 a0 b0) := by
  intro hv
  refine jt_eq (bq_X12_stateAt_74 E d a0 b0) ?_
  exact jt_rI ⟨rfl, rfl, (show 0 ≤ 1 from by omega), (show 1 ≤ 4 from by omega), hv.symm⟩
theorem cp_X12_stateAt_76 (E : jxE) (d : Nat) (hd : Nat.ble 2 (d + 1) = true) (x1 x2 x3 : Int) (a0 b0 : Nat → Nat → Int) (hv0 : iv a0) (hp0 : (0 ≤ x1 ∧ x1 ≤ 299)) : ∀ (y1 y2 : Int), 0 ≤ y1 → y1 ≤ 299 → (y1 = x1) → (y2 = x2) → (vStk (cvR a0) (a0 146 0) x1.toNat x2 x3 = if jxw (x2 - a0 156 x1.toNat) < a0 157 x1.toNat then 0 else 2) → jt (jxX E d 234 76 [some (.inr (.inr (.inl 146))), some (.inl y1), some (.inl y2), none, none] [] (jxSH, a0, b0)) (jQ_X12_stateAt x1 x2 x3 a0 b0) := by
  intro y1 y2 hi0 hi1 hy1 hy2 hv
  refine jt_eq (bq_X12_stateAt_76 E d y1 y2 a0 b0) ?_
  refine jt_grd (by omega) ?_
  refine jt_grd (by omega) ?_
  have h17_ := iv_get hv0 (k := 156) (j := y1.toNat) (l := 0) (u := 1999) rfl
  have h18_ := jxw_im (y2 - (a0 156 (y1.toNat)))
  have h19_ := jxw_rg (y2 - (a0 156 (y1.toNat)))
  refine jt_ite (fun c20_ => ?_) (fun c20_ => ?_)
  ·
    exact jt_rI ⟨rfl, rfl, (show 0 ≤ 0 from by omega), (show 0 ≤ 4 from by omega), (by rw [hv, ← hy1, ← hy2]; first | rw [if_pos (by assumption)] | rw [if_neg (by assumption)])⟩
  ·
    exact jt_rI ⟨rfl, rfl, (show 0 ≤ 2 from by omega), (show 2 ≤ 4 from by omega), (by rw [hv, ← hy1, ← hy2]; first | rw [if_pos (by assumption)] | rw [if_neg (by assumption)])⟩
theorem cp_X12_stateAt_70 (E : jxE) (d : Nat) (hd : Nat.ble 2 (d + 1) = true) (x1 x2 x3 : Int) (a0 b0 : Nat → Nat → Int) (hv0 : iv a0) (hp0 : (0 ≤ x1 ∧ x1 ≤ 299)) : (vStk (cvR a0) (a0 146 0) x1.toNat x2 x3 = 3) → jt (jxX E d 234 70 [none, none, none, none, none] [] (jxSH, a0, b0)) (jQ_X12_stateAt x1 x2 x3 a0 b0) := by
  intro hv
  refine jt_eq (bq_X12_stateAt_70 E d a0 b0) ?_
  exact jt_rI ⟨rfl, rfl, (show 0 ≤ 3 from by omega), (show 3 ≤ 4 from by omega), hv.symm⟩
theorem cp_X12_stateAt_32 (E : jxE) (d : Nat) (hd : Nat.ble 2 (d + 1) = true) (x1 x2 x3 : Int) (a0 b0 : Nat → Nat → Int) (hv0 : iv a0) (hp0 : (0 ≤ x1 ∧ x1 ≤ 299)) : ∀ (y1 y2 y3 : Int), 0 ≤ y1 → y1 ≤ 299 → (y1 = x1) → (y2 = x2) → (y3 = x3) → (¬ (¬ a0 159 x1.toNat = -1 ∧ a0 159 x1.toNat ≤ x2 ∧ a0 159 x1.toNat ≤ x3)) → jt (jxX E d 234 32 [some (.inr (.inr (.inl 146))), some (.inl y1), some (.inl y2), some (.inl y3), none] [] (jxSH, a0, b0)) (jQ_X12_stateAt x1 x2 x3 a0 b0) := by
  intro y1 y2 y3 hi0 hi1 hy1 hy2 hy3 hof
  refine jt_eq (bq_X12_stateAt_32 E d y1 y2 y3 a0 b0) ?_
  refine jt_bI (sp_X12_arrival E d (jd_le hd rfl) y1 y3 a0 b0 hv0 (show (0 ≤ y1 ∧ y1 ≤ 299) from by omega)) (fun r21_ a21_ b21_ h21_ => ?_)
  obtain ⟨rfl, rfl, hq21_0⟩ := h21_
  refine jt_ite (fun c22_ => ?_) (fun c22_ => ?_)
  ·
    exact cp_X12_stateAt_76 E d hd x1 x2 x3 a0 b0 hv0 hp0 y1 y2 (show 0 ≤ y1 from by omega) (show y1 ≤ 299 from by omega) (by first | rfl | assumption) (by first | rfl | assumption) (by have er : r21_ = if a0 146 0 ≤ x3 then vArr (cvR a0) x1.toNat else vKn (cvR a0) x1.toNat x3 := (by have q := hq21_0; rw [hy1, hy3] at q; exact q); have ev := vStk_on (v := cvR a0) (w := a0 146 0) (c := x1.toNat) (d := x2) (k := x3) hof er; rw [ev, if_neg (fun q => by omega)]; rfl)
  ·
    refine jt_ite (fun c23_ => ?_) (fun c23_ => ?_)
    ·
      exact cp_X12_stateAt_76 E d hd x1 x2 x3 a0 b0 hv0 hp0 y1 y2 (show 0 ≤ y1 from by omega) (show y1 ≤ 299 from by omega) (by first | rfl | assumption) (by first | rfl | assumption) (by have er : r21_ = if a0 146 0 ≤ x3 then vArr (cvR a0) x1.toNat else vKn (cvR a0) x1.toNat x3 := (by have q := hq21_0; rw [hy1, hy3] at q; exact q); have ev := vStk_on (v := cvR a0) (w := a0 146 0) (c := x1.toNat) (d := x2) (k := x3) hof er; rw [ev, if_neg (fun q => by omega)]; rfl)
    ·
      refine jt_grd (by omega) ?_
      refine jt_grd (by omega) ?_
      have h24_ := iv_get hv0 (k := 156) (j := y1.toNat) (l := 0) (u := 1999) rfl
      have h25_ := jxw_im (r21_ - (a0 156 (y1.toNat)))
      have h26_ := jxw_rg (r21_ - (a0 156 (y1.toNat)))
      refine jt_ite (fun c27_ => ?_) (fun c27_ => ?_)
      ·
        exact cp_X12_stateAt_74 E d hd x1 x2 x3 a0 b0 hv0 hp0 (by have er : r21_ = if a0 146 0 ≤ x3 then vArr (cvR a0) x1.toNat else vKn (cvR a0) x1.toNat x3 := (by have q := hq21_0; rw [hy1, hy3] at q; exact q); have ev := vStk_on (v := cvR a0) (w := a0 146 0) (c := x1.toNat) (d := x2) (k := x3) hof er; have f1 : vSn (cvR a0) x1.toNat = a0 156 (y1.toNat) := (by rw [hy1]; rfl); have f2 : vBd (cvR a0) x1.toNat = a0 157 (y1.toNat) := (by rw [hy1]; rfl); rw [ev, if_pos ⟨by omega, by omega⟩, f1, f2]; first | rw [if_pos (by assumption)] | rw [if_neg (by assumption)])
      ·
        exact cp_X12_stateAt_70 E d hd x1 x2 x3 a0 b0 hv0 hp0 (by have er : r21_ = if a0 146 0 ≤ x3 then vArr (cvR a0) x1.toNat else vKn (cvR a0) x1.toNat x3 := (by have q := hq21_0; rw [hy1, hy3] at q; exact q); have ev := vStk_on (v := cvR a0) (w := a0 146 0) (c := x1.toNat) (d := x2) (k := x3) hof er; have f1 : vSn (cvR a0) x1.toNat = a0 156 (y1.toNat) := (by rw [hy1]; rfl); have f2 : vBd (cvR a0) x1.toNat = a0 157 (y1.toNat) := (by rw [hy1]; rfl); rw [ev, if_pos ⟨by omega, by omega⟩, f1, f2]; first | rw [if_pos (by assumption)] | rw [if_neg (by assumption)])
theorem sp_X12_stateAt (E : jxE) (d : Nat) (hd : Nat.ble 2 d = true) (x1 x2 x3 : Int) (a0 b0 : Nat → Nat → Int) (hv0 : iv a0) (hp0 : (0 ≤ x1 ∧ x1 ≤ 299)) : jt (jxC E d 234 [.inr (.inr (.inl 146)), .inl x1, .inl x2, .inl x3] (jxSH, a0, b0)) (jQ_X12_stateAt x1 x2 x3 a0 b0) := by
  obtain ⟨d, rfl⟩ := jd_succ hd
  refine jt_eq (bq_X12_stateAt E d x1 x2 x3 a0 b0) ?_
  refine jt_grd (by omega) ?_
  refine jt_ite (fun c28_ => ?_) (fun c28_ => ?_)
  ·
    exact cp_X12_stateAt_32 E d hd x1 x2 x3 a0 b0 hv0 hp0 x1 x2 x3 (show 0 ≤ x1 from by omega) (show x1 ≤ 299 from by omega) (by first | rfl | assumption) (by first | rfl | assumption) (by first | rfl | assumption) (fun q => by omega)
  ·
    refine jt_grd (by omega) ?_
    refine jt_ite (fun c29_ => ?_) (fun c29_ => ?_)
    ·
      exact cp_X12_stateAt_32 E d hd x1 x2 x3 a0 b0 hv0 hp0 x1 x2 x3 (show 0 ≤ x1 from by omega) (show x1 ≤ 299 from by omega) (by first | rfl | assumption) (by first | rfl | assumption) (by first | rfl | assumption) (fun q => by omega)
    ·
      refine jt_grd (by omega) ?_
      refine jt_ite (fun c30_ => ?_) (fun c30_ => ?_)
      ·
        exact cp_X12_stateAt_32 E d hd x1 x2 x3 a0 b0 hv0 hp0 x1 x2 x3 (show 0 ≤ x1 from by omega) (show x1 ≤ 299 from by omega) (by first | rfl | assumption) (by first | rfl | assumption) (by first | rfl | assumption) (fun q => by omega)
      ·
        exact cp_X12_stateAt_30 E d hd x1 x2 x3 a0 b0 hv0 hp0 ⟨by omega, by omega, by omega⟩
abbrev jQ_X12_stateNow (x1 : Int) (a0 b0 : Nat → Nat → Int) : List jxV → (Nat → Nat → Int) → (Nat → Nat → Int) → Prop := rI (fun r a b => (a0 = a) ∧ (b0 = b) ∧ (0 ≤ r) ∧ (r ≤ 4) ∧ (r = vSt (cvR a0) (a0 146 0) x1.toNat))
theorem sp_X12_stateNow (E : jxE) (d : Nat) (hd : Nat.ble 3 d = true) (x1 : Int) (a0 b0 : Nat → Nat → Int) (hv0 : iv a0) (hp0 : (0 ≤ x1 ∧ x1 ≤ 299)) : jt (jxC E d 235 [.inr (.inr (.inl 146)), .inl x1] (jxSH, a0, b0)) (jQ_X12_stateNow x1 a0 b0) := by
  obtain ⟨d, rfl⟩ := jd_succ hd
  refine jt_eq (bq_X12_stateNow E d x1 a0 b0) ?_
  refine jt_bI (sp_X12_stateAt E d (jd_le hd rfl) x1 (a0 146 0) (a0 146 0) a0 b0 hv0 (show (0 ≤ x1 ∧ x1 ≤ 299) from by omega)) (fun r31_ a31_ b31_ h31_ => ?_)
  obtain ⟨rfl, rfl, hq31_0, hq31_1, hq31_2⟩ := h31_
  exact jt_rI ⟨rfl, rfl, (show 0 ≤ r31_ from by omega), (show r31_ ≤ 4 from by omega), (hq31_2.trans (vStk_now _ _ _))⟩
abbrev jQ_X12_coming (x1 : Int) (a0 b0 : Nat → Nat → Int) : List jxV → (Nat → Nat → Int) → (Nat → Nat → Int) → Prop := rI (fun r a b => (a0 = a) ∧ (b0 = b) ∧ (0 ≤ r) ∧ (r ≤ 300) ∧ (r = SUMN (cmF (cvR a0) (a0 146 0) x1) (a0 146 9).toNat))
theorem cp_X12_coming_4 (E : jxE) (d : Nat) (hd : Nat.ble 4 (d + 1) = true) (x1 : Int) (a0 b0 : Nat → Nat → Int) (hv0 : iv a0) : ∀ n : Nat, (∀ (y1 y2 y3 : Int), (((300 - y3) * 1) + 0).toNat ≤ n → 0 ≤ y2 → y2 ≤ 300 → 0 ≤ y3 → y3 ≤ 299 → y2 ≤ y3 + 1 → y1 = x1 → 0 ≤ y3 → y3 < a0 146 9 → (y2 = SUMN (cmF (cvR a0) (a0 146 0) x1) (y3.toNat + 1)) → jt (jxX E d 243 38 [some (.inr (.inr (.inl 146))), some (.inl y1), some (.inl y2), some (.inl y3)] [] (jxSH, a0, b0)) (jQ_X12_coming x1 a0 b0)) ∧ (∀ (y1 y2 y3 : Int), (((300 - y3) * 1) + 0).toNat ≤ n → 0 ≤ y2 → y2 ≤ 300 → 0 ≤ y3 → y3 ≤ 300 → y2 ≤ y3 → y1 = x1 → 0 ≤ y3 → y3 ≤ a0 146 9 → (y2 = SUMN (cmF (cvR a0) (a0 146 0) x1) y3.toNat) → jt (jxX E d 243 4 [some (.inr (.inr (.inl 146))), some (.inl y1), some (.inl y2), some (.inl y3)] [] (jxSH, a0, b0)) (jQ_X12_coming x1 a0 b0)) := by
  refine jx_ind fun n ih => ?_
  have ih38 : ∀ (y1 y2 y3 : Int), (((300 - y3) * 1) + 0).toNat < n → 0 ≤ y2 → y2 ≤ 300 → 0 ≤ y3 → y3 ≤ 299 → y2 ≤ y3 + 1 → y1 = x1 → 0 ≤ y3 → y3 < a0 146 9 → (y2 = SUMN (cmF (cvR a0) (a0 146 0) x1) (y3.toNat + 1)) → jt (jxX E d 243 38 [some (.inr (.inr (.inl 146))), some (.inl y1), some (.inl y2), some (.inl y3)] [] (jxSH, a0, b0)) (jQ_X12_coming x1 a0 b0) := fun y1 y2 y3 hlt i0 i1 i2 i3 i4 i5 i6 i7 i8 => (ih _ hlt).1 y1 y2 y3 (Nat.le_refl _) i0 i1 i2 i3 i4 i5 i6 i7 i8
  have ih4 : ∀ (y1 y2 y3 : Int), (((300 - y3) * 1) + 0).toNat < n → 0 ≤ y2 → y2 ≤ 300 → 0 ≤ y3 → y3 ≤ 300 → y2 ≤ y3 → y1 = x1 → 0 ≤ y3 → y3 ≤ a0 146 9 → (y2 = SUMN (cmF (cvR a0) (a0 146 0) x1) y3.toNat) → jt (jxX E d 243 4 [some (.inr (.inr (.inl 146))), some (.inl y1), some (.inl y2), some (.inl y3)] [] (jxSH, a0, b0)) (jQ_X12_coming x1 a0 b0) := fun y1 y2 y3 hlt i0 i1 i2 i3 i4 i5 i6 i7 i8 => (ih _ hlt).2 y1 y2 y3 (Nat.le_refl _) i0 i1 i2 i3 i4 i5 i6 i7 i8
  have hc38 : ∀ (y1 y2 y3 : Int), (((300 - y3) * 1) + 0).toNat ≤ n → 0 ≤ y2 → y2 ≤ 300 → 0 ≤ y3 → y3 ≤ 299 → y2 ≤ y3 + 1 → y1 = x1 → 0 ≤ y3 → y3 < a0 146 9 → (y2 = SUMN (cmF (cvR a0) (a0 146 0) x1) (y3.toNat + 1)) → jt (jxX E d 243 38 [some (.inr (.inr (.inl 146))), some (.inl y1), some (.inl y2), some (.inl y3)] [] (jxSH, a0, b0)) (jQ_X12_coming x1 a0 b0) := by
    intro y1 y2 y3 hm hi0 hi1 hi2 hi3 hi4 hi5 hi6 hi7 hs
    refine jt_eq (bq_X12_coming_38 E d y1 y2 y3 a0 b0) ?_
    have h32_ := iv_get hv0 (k := 146) (j := 9) (l := 0) (u := 300) rfl
    have h33_ : jxw (y3 + 1) = y3 + 1 := jxw_id (by omega) (by omega)
    exact ih4 y1 y2 (jxw (y3 + 1)) (show (((300 - (jxw (y3 + 1))) * 1) + 0).toNat < n from by omega) (show 0 ≤ y2 from by omega) (show y2 ≤ 300 from by omega) (show 0 ≤ jxw (y3 + 1) from by omega) (show jxw (y3 + 1) ≤ 300 from by omega) (show y2 ≤ jxw (y3 + 1) from by omega) (show y1 = x1 from by omega) (show 0 ≤ jxw (y3 + 1) from by omega) (show jxw (y3 + 1) ≤ a0 146 9 from by omega) (by first | rfl | (rw [show (jxw (y3 + 1)).toNat = y3.toNat + 1 from by omega]; exact hs))
  have hc4 : ∀ (y1 y2 y3 : Int), (((300 - y3) * 1) + 0).toNat ≤ n → 0 ≤ y2 → y2 ≤ 300 → 0 ≤ y3 → y3 ≤ 300 → y2 ≤ y3 → y1 = x1 → 0 ≤ y3 → y3 ≤ a0 146 9 → (y2 = SUMN (cmF (cvR a0) (a0 146 0) x1) y3.toNat) → jt (jxX E d 243 4 [some (.inr (.inr (.inl 146))), some (.inl y1), some (.inl y2), some (.inl y3)] [] (jxSH, a0, b0)) (jQ_X12_coming x1 a0 b0) := by
    intro y1 y2 y3 hm hi0 hi1 hi2 hi3 hi4 hi5 hi6 hi7 hs
    refine jt_eq (bq_X12_coming_4 E d y1 y2 y3 a0 b0) ?_
    have h34_ := iv_get hv0 (k := 146) (j := 9) (l := 0) (u := 300) rfl
    have hrg := SUMN_bd (f := (cmF (cvR a0) (a0 146 0) x1)) (n := y3.toNat) (fun k _ => cmF_rg _ _ _ k)
    refine jt_ite (fun c35_ => ?_) (fun c35_ => ?_)
    ·
      refine jt_grd (by omega) ?_
      have h36_ := iv_get hv0 (k := 155) (j := y3.toNat) (l := 0) (u := 39) rfl
      refine jt_ite (fun c37_ => ?_) (fun c37_ => ?_)
      ·
        refine jt_bI (sp_X12_stateNow E d (jd_le hd rfl) y3 a0 b0 hv0 (show (0 ≤ y3 ∧ y3 ≤ 299) from by omega)) (fun r38_ a38_ b38_ h38_ => ?_)
        obtain ⟨rfl, rfl, hq38_0, hq38_1, hq38_2⟩ := h38_
        refine jt_ite (fun c39_ => ?_) (fun c39_ => ?_)
        ·
          have h40_ : jxw (y2 + 1) = y2 + 1 := jxw_id (by omega) (by omega)
          exact hc38 y1 (jxw (y2 + 1)) y3 (show (((300 - y3) * 1) + 0).toNat ≤ n from by omega) (show 0 ≤ jxw (y2 + 1) from by omega) (show jxw (y2 + 1) ≤ 300 from by omega) (show 0 ≤ y3 from by omega) (show y3 ≤ 299 from by omega) (show jxw (y2 + 1) ≤ y3 + 1 from by omega) (show y1 = x1 from by omega) (show 0 ≤ y3 from by omega) (show y3 < a0 146 9 from by omega) (by show jxw (y2 + 1) = SUMN (cmF (cvR a0) (a0 146 0) x1) y3.toNat + (cmF (cvR a0) (a0 146 0) x1) y3.toNat; have e : (cmF (cvR a0) (a0 146 0) x1) y3.toNat = (if r38_ = 0 then 1 else 0) := (by show (if a0 155 y3.toNat = x1 then _ else _) = _; rw [if_pos (by omega), hq38_2]); rw [e]; first | (rw [if_pos (by omega)]; omega) | (rw [if_neg (by omega)]; omega))
        ·
          have h41_ : jxw (y2 + 0) = y2 + 0 := jxw_id (by omega) (by omega)
          exact hc38 y1 (jxw (y2 + 0)) y3 (show (((300 - y3) * 1) + 0).toNat ≤ n from by omega) (show 0 ≤ jxw (y2 + 0) from by omega) (show jxw (y2 + 0) ≤ 300 from by omega) (show 0 ≤ y3 from by omega) (show y3 ≤ 299 from by omega) (show jxw (y2 + 0) ≤ y3 + 1 from by omega) (show y1 = x1 from by omega) (show 0 ≤ y3 from by omega) (show y3 < a0 146 9 from by omega) (by show jxw (y2 + 0) = SUMN (cmF (cvR a0) (a0 146 0) x1) y3.toNat + (cmF (cvR a0) (a0 146 0) x1) y3.toNat; have e : (cmF (cvR a0) (a0 146 0) x1) y3.toNat = (if r38_ = 0 then 1 else 0) := (by show (if a0 155 y3.toNat = x1 then _ else _) = _; rw [if_pos (by omega), hq38_2]); rw [e]; first | (rw [if_pos (by omega)]; omega) | (rw [if_neg (by omega)]; omega))
      ·
        have h42_ : jxw (y2 + 0) = y2 + 0 := jxw_id (by omega) (by omega)
        exact hc38 y1 (jxw (y2 + 0)) y3 (show (((300 - y3) * 1) + 0).toNat ≤ n from by omega) (show 0 ≤ jxw (y2 + 0) from by omega) (show jxw (y2 + 0) ≤ 300 from by omega) (show 0 ≤ y3 from by omega) (show y3 ≤ 299 from by omega) (show jxw (y2 + 0) ≤ y3 + 1 from by omega) (show y1 = x1 from by omega) (show 0 ≤ y3 from by omega) (show y3 < a0 146 9 from by omega) (by show jxw (y2 + 0) = SUMN (cmF (cvR a0) (a0 146 0) x1) y3.toNat + (cmF (cvR a0) (a0 146 0) x1) y3.toNat; have e : (cmF (cvR a0) (a0 146 0) x1) y3.toNat = 0 := (by show (if a0 155 y3.toNat = x1 then _ else _) = _; rw [if_neg (by omega)]); omega)
    ·
      exact jt_rI ⟨rfl, rfl, (show 0 ≤ y2 from by omega), (show y2 ≤ 300 from by omega), (by rw [show (a0 146 9).toNat = y3.toNat from by omega]; exact hs)⟩
  exact ⟨hc38, hc4⟩
theorem sp_X12_coming (E : jxE) (d : Nat) (hd : Nat.ble 4 d = true) (x1 : Int) (a0 b0 : Nat → Nat → Int) (hv0 : iv a0) : jt (jxC E d 243 [.inr (.inr (.inl 146)), .inl x1] (jxSH, a0, b0)) (jQ_X12_coming x1 a0 b0) := by
  obtain ⟨d, rfl⟩ := jd_succ hd
  refine jt_eq (bq_X12_coming E d x1 a0 b0) ?_
  have h43_ := iv_get hv0 (k := 146) (j := 9) (l := 0) (u := 300) rfl
  exact (cp_X12_coming_4 E d hd x1 a0 b0 hv0 _).2 x1 0 0 (Nat.le_refl _) (show 0 ≤ 0 from by omega) (show 0 ≤ 300 from by omega) (show 0 ≤ 0 from by omega) (show 0 ≤ 300 from by omega) (show 0 ≤ 0 from by omega) (show x1 = x1 from by omega) (show 0 ≤ 0 from by omega) (show 0 ≤ a0 146 9 from by omega) (by first | rfl | (rw [show (jxw (y3 + 1)).toNat = y3.toNat + 1 from by omega]; exact hs))
abbrev jQ_X12_hasArrived (x1 : Int) (a0 b0 : Nat → Nat → Int) : List jxV → (Nat → Nat → Int) → (Nat → Nat → Int) → Prop := rI (fun r a b => (a0 = a) ∧ (b0 = b) ∧ ((0 ≤ r ∧ r ≤ 1)) ∧ (r = HAS (vSt (cvR a0) (a0 146 0) x1.toNat)))
theorem sp_X12_hasArrived (E : jxE) (d : Nat) (hd : Nat.ble 4 d = true) (x1 : Int) (a0 b0 : Nat → Nat → Int) (hv0 : iv a0) (hp0 : (0 ≤ x1 ∧ x1 ≤ 299)) : jt (jxC E d 236 [.inr (.inr (.inl 146)), .inl x1] (jxSH, a0, b0)) (jQ_X12_hasArrived x1 a0 b0) := by
  obtain ⟨d, rfl⟩ := jd_succ hd
  refine jt_eq (bq_X12_hasArrived E d x1 a0 b0) ?_
  refine jt_bI (sp_X12_stateNow E d (jd_le hd rfl) x1 a0 b0 hv0 (show (0 ≤ x1 ∧ x1 ≤ 299) from by omega)) (fun r44_ a44_ b44_ h44_ => ?_)
  obtain ⟨rfl, rfl, hq44_0, hq44_1, hq44_2⟩ := h44_
  refine jt_ite (fun c45_ => ?_) (fun c45_ => ?_)
  ·
    exact jt_rI ⟨rfl, rfl, (show (0 ≤ 1 ∧ 1 ≤ 1) from by omega), (by rw [← hq44_2]; unfold HAS; first | rw [if_pos (by assumption)] | rw [if_neg (by assumption), if_pos (by assumption)] | rw [if_neg (by assumption), if_neg (by assumption)])⟩
  ·
    refine jt_ite (fun c46_ => ?_) (fun c46_ => ?_)
    ·
      exact jt_rI ⟨rfl, rfl, (show (0 ≤ 1 ∧ 1 ≤ 1) from by omega), (by rw [← hq44_2]; unfold HAS; first | rw [if_pos (by assumption)] | rw [if_neg (by assumption), if_pos (by assumption)] | rw [if_neg (by assumption), if_neg (by assumption)])⟩
    ·
      exact jt_rI ⟨rfl, rfl, (show (0 ≤ 0 ∧ 0 ≤ 1) from by omega), (by rw [← hq44_2]; unfold HAS; first | rw [if_pos (by assumption)] | rw [if_neg (by assumption), if_pos (by assumption)] | rw [if_neg (by assumption), if_neg (by assumption)])⟩
abbrev jQ_X12_given (x1 : Int) (a0 b0 : Nat → Nat → Int) : List jxV → (Nat → Nat → Int) → (Nat → Nat → Int) → Prop := rI (fun r a b => (a0 = a) ∧ (b0 = b) ∧ (0 ≤ r) ∧ (r ≤ 300) ∧ (r = SUMN (gvF (cvR a0) (a0 146 0) x1) (a0 146 9).toNat))
theorem cp_X12_given_4 (E : jxE) (d : Nat) (hd : Nat.ble 5 (d + 1) = true) (x1 : Int) (a0 b0 : Nat → Nat → Int) (hv0 : iv a0) : ∀ n : Nat, (∀ (y1 y2 y3 : Int), (((300 - y3) * 1) + 0).toNat ≤ n → 0 ≤ y2 → y2 ≤ 300 → 0 ≤ y3 → y3 ≤ 299 → y2 ≤ y3 + 1 → y1 = x1 → 0 ≤ y3 → y3 < a0 146 9 → (y2 = SUMN (gvF (cvR a0) (a0 146 0) x1) (y3.toNat + 1)) → jt (jxX E d 241 38 [some (.inr (.inr (.inl 146))), some (.inl y1), some (.inl y2), some (.inl y3)] [] (jxSH, a0, b0)) (jQ_X12_given x1 a0 b0)) ∧ (∀ (y1 y2 y3 : Int), (((300 - y3) * 1) + 0).toNat ≤ n → 0 ≤ y2 → y2 ≤ 300 → 0 ≤ y3 → y3 ≤ 300 → y2 ≤ y3 → y1 = x1 → 0 ≤ y3 → y3 ≤ a0 146 9 → (y2 = SUMN (gvF (cvR a0) (a0 146 0) x1) y3.toNat) → jt (jxX E d 241 4 [some (.inr (.inr (.inl 146))), some (.inl y1), some (.inl y2), some (.inl y3)] [] (jxSH, a0, b0)) (jQ_X12_given x1 a0 b0)) := by
  refine jx_ind fun n ih => ?_
  have ih38 : ∀ (y1 y2 y3 : Int), (((300 - y3) * 1) + 0).toNat < n → 0 ≤ y2 → y2 ≤ 300 → 0 ≤ y3 → y3 ≤ 299 → y2 ≤ y3 + 1 → y1 = x1 → 0 ≤ y3 → y3 < a0 146 9 → (y2 = SUMN (gvF (cvR a0) (a0 146 0) x1) (y3.toNat + 1)) → jt (jxX E d 241 38 [some (.inr (.inr (.inl 146))), some (.inl y1), some (.inl y2), some (.inl y3)] [] (jxSH, a0, b0)) (jQ_X12_given x1 a0 b0) := fun y1 y2 y3 hlt i0 i1 i2 i3 i4 i5 i6 i7 i8 => (ih _ hlt).1 y1 y2 y3 (Nat.le_refl _) i0 i1 i2 i3 i4 i5 i6 i7 i8
  have ih4 : ∀ (y1 y2 y3 : Int), (((300 - y3) * 1) + 0).toNat < n → 0 ≤ y2 → y2 ≤ 300 → 0 ≤ y3 → y3 ≤ 300 → y2 ≤ y3 → y1 = x1 → 0 ≤ y3 → y3 ≤ a0 146 9 → (y2 = SUMN (gvF (cvR a0) (a0 146 0) x1) y3.toNat) → jt (jxX E d 241 4 [some (.inr (.inr (.inl 146))), some (.inl y1), some (.inl y2), some (.inl y3)] [] (jxSH, a0, b0)) (jQ_X12_given x1 a0 b0) := fun y1 y2 y3 hlt i0 i1 i2 i3 i4 i5 i6 i7 i8 => (ih _ hlt).2 y1 y2 y3 (Nat.le_refl _) i0 i1 i2 i3 i4 i5 i6 i7 i8
  have hc38 : ∀ (y1 y2 y3 : Int), (((300 - y3) * 1) + 0).toNat ≤ n → 0 ≤ y2 → y2 ≤ 300 → 0 ≤ y3 → y3 ≤ 299 → y2 ≤ y3 + 1 → y1 = x1 → 0 ≤ y3 → y3 < a0 146 9 → (y2 = SUMN (gvF (cvR a0) (a0 146 0) x1) (y3.toNat + 1)) → jt (jxX E d 241 38 [some (.inr (.inr (.inl 146))), some (.inl y1), some (.inl y2), some (.inl y3)] [] (jxSH, a0, b0)) (jQ_X12_given x1 a0 b0) := by
    intro y1 y2 y3 hm hi0 hi1 hi2 hi3 hi4 hi5 hi6 hi7 hs
    refine jt_eq (bq_X12_given_38 E d y1 y2 y3 a0 b0) ?_
    have h47_ := iv_get hv0 (k := 146) (j := 9) (l := 0) (u := 300) rfl
    have h48_ : jxw (y3 + 1) = y3 + 1 := jxw_id (by omega) (by omega)
    exact ih4 y1 y2 (jxw (y3 + 1)) (show (((300 - (jxw (y3 + 1))) * 1) + 0).toNat < n from by omega) (show 0 ≤ y2 from by omega) (show y2 ≤ 300 from by omega) (show 0 ≤ jxw (y3 + 1) from by omega) (show jxw (y3 + 1) ≤ 300 from by omega) (show y2 ≤ jxw (y3 + 1) from by omega) (show y1 = x1 from by omega) (show 0 ≤ jxw (y3 + 1) from by omega) (show jxw (y3 + 1) ≤ a0 146 9 from by omega) (by first | rfl | (rw [show (jxw (y3 + 1)).toNat = y3.toNat + 1 from by omega]; exact hs))
  have hc4 : ∀ (y1 y2 y3 : Int), (((300 - y3) * 1) + 0).toNat ≤ n → 0 ≤ y2 → y2 ≤ 300 → 0 ≤ y3 → y3 ≤ 300 → y2 ≤ y3 → y1 = x1 → 0 ≤ y3 → y3 ≤ a0 146 9 → (y2 = SUMN (gvF (cvR a0) (a0 146 0) x1) y3.toNat) → jt (jxX E d 241 4 [some (.inr (.inr (.inl 146))), some (.inl y1), some (.inl y2), some (.inl y3)] [] (jxSH, a0, b0)) (jQ_X12_given x1 a0 b0) := by
    intro y1 y2 y3 hm hi0 hi1 hi2 hi3 hi4 hi5 hi6 hi7 hs
    refine jt_eq (bq_X12_given_4 E d y1 y2 y3 a0 b0) ?_
    have h49_ := iv_get hv0 (k := 146) (j := 9) (l := 0) (u := 300) rfl
    have hrg := SUMN_bd (f := (gvF (cvR a0) (a0 146 0) x1)) (n := y3.toNat) (fun k _ => gvF_rg _ _ _ k)
    refine jt_ite (fun c50_ => ?_) (fun c50_ => ?_)
    ·
      refine jt_grd (by omega) ?_
      have h51_ := iv_get hv0 (k := 154) (j := y3.toNat) (l := 0) (u := 39) rfl
      refine jt_ite (fun c52_ => ?_) (fun c52_ => ?_)
      ·
        refine jt_bI (sp_X12_hasArrived E d (jd_le hd rfl) y3 a0 b0 hv0 (show (0 ≤ y3 ∧ y3 ≤ 299) from by omega)) (fun r53_ a53_ b53_ h53_ => ?_)
        obtain ⟨rfl, rfl, hq53_0, hq53_1⟩ := h53_
        refine jt_ite (fun c54_ => ?_) (fun c54_ => ?_)
        ·
          have h55_ : jxw (y2 + 0) = y2 + 0 := jxw_id (by omega) (by omega)
          exact hc38 y1 (jxw (y2 + 0)) y3 (show (((300 - y3) * 1) + 0).toNat ≤ n from by omega) (show 0 ≤ jxw (y2 + 0) from by omega) (show jxw (y2 + 0) ≤ 300 from by omega) (show 0 ≤ y3 from by omega) (show y3 ≤ 299 from by omega) (show jxw (y2 + 0) ≤ y3 + 1 from by omega) (show y1 = x1 from by omega) (show 0 ≤ y3 from by omega) (show y3 < a0 146 9 from by omega) (by show jxw (y2 + 0) = SUMN (gvF (cvR a0) (a0 146 0) x1) y3.toNat + (gvF (cvR a0) (a0 146 0) x1) y3.toNat; have e : (gvF (cvR a0) (a0 146 0) x1) y3.toNat = r53_ := (by show (if a0 154 y3.toNat = x1 then _ else _) = _; rw [if_pos (by omega)]; exact hq53_1.symm); omega)
        ·
          have h56_ : jxw (y2 + 1) = y2 + 1 := jxw_id (by omega) (by omega)
          exact hc38 y1 (jxw (y2 + 1)) y3 (show (((300 - y3) * 1) + 0).toNat ≤ n from by omega) (show 0 ≤ jxw (y2 + 1) from by omega) (show jxw (y2 + 1) ≤ 300 from by omega) (show 0 ≤ y3 from by omega) (show y3 ≤ 299 from by omega) (show jxw (y2 + 1) ≤ y3 + 1 from by omega) (show y1 = x1 from by omega) (show 0 ≤ y3 from by omega) (show y3 < a0 146 9 from by omega) (by show jxw (y2 + 1) = SUMN (gvF (cvR a0) (a0 146 0) x1) y3.toNat + (gvF (cvR a0) (a0 146 0) x1) y3.toNat; have e : (gvF (cvR a0) (a0 146 0) x1) y3.toNat = r53_ := (by show (if a0 154 y3.toNat = x1 then _ else _) = _; rw [if_pos (by omega)]; exact hq53_1.symm); omega)
      ·
        have h57_ : jxw (y2 + 0) = y2 + 0 := jxw_id (by omega) (by omega)
        exact hc38 y1 (jxw (y2 + 0)) y3 (show (((300 - y3) * 1) + 0).toNat ≤ n from by omega) (show 0 ≤ jxw (y2 + 0) from by omega) (show jxw (y2 + 0) ≤ 300 from by omega) (show 0 ≤ y3 from by omega) (show y3 ≤ 299 from by omega) (show jxw (y2 + 0) ≤ y3 + 1 from by omega) (show y1 = x1 from by omega) (show 0 ≤ y3 from by omega) (show y3 < a0 146 9 from by omega) (by show jxw (y2 + 0) = SUMN (gvF (cvR a0) (a0 146 0) x1) y3.toNat + (gvF (cvR a0) (a0 146 0) x1) y3.toNat; have e : (gvF (cvR a0) (a0 146 0) x1) y3.toNat = 0 := (by show (if a0 154 y3.toNat = x1 then _ else _) = _; rw [if_neg (by omega)]); omega)
    ·
      exact jt_rI ⟨rfl, rfl, (show 0 ≤ y2 from by omega), (show y2 ≤ 300 from by omega), (by rw [show (a0 146 9).toNat = y3.toNat from by omega]; exact hs)⟩
  exact ⟨hc38, hc4⟩
theorem sp_X12_given (E : jxE) (d : Nat) (hd : Nat.ble 5 d = true) (x1 : Int) (a0 b0 : Nat → Nat → Int) (hv0 : iv a0) : jt (jxC E d 241 [.inr (.inr (.inl 146)), .inl x1] (jxSH, a0, b0)) (jQ_X12_given x1 a0 b0) := by
  obtain ⟨d, rfl⟩ := jd_succ hd
  refine jt_eq (bq_X12_given E d x1 a0 b0) ?_
  have h58_ := iv_get hv0 (k := 146) (j := 9) (l := 0) (u := 300) rfl
  exact (cp_X12_given_4 E d hd x1 a0 b0 hv0 _).2 x1 0 0 (Nat.le_refl _) (show 0 ≤ 0 from by omega) (show 0 ≤ 300 from by omega) (show 0 ≤ 0 from by omega) (show 0 ≤ 300 from by omega) (show 0 ≤ 0 from by omega) (show x1 = x1 from by omega) (show 0 ≤ 0 from by omega) (show 0 ≤ a0 146 9 from by omega) (by first | rfl | (rw [show (jxw (y3 + 1)).toNat = y3.toNat + 1 from by omega]; exact hs))
abbrev jQ_X12_got (x1 : Int) (a0 b0 : Nat → Nat → Int) : List jxV → (Nat → Nat → Int) → (Nat → Nat → Int) → Prop := rI (fun r a b => (a0 = a) ∧ (b0 = b) ∧ (0 ≤ r) ∧ (r ≤ 300) ∧ (r = SUMN (gtF (cvR a0) (a0 146 0) x1) (a0 146 9).toNat))
theorem cp_X12_got_4 (E : jxE) (d : Nat) (hd : Nat.ble 5 (d + 1) = true) (x1 : Int) (a0 b0 : Nat → Nat → Int) (hv0 : iv a0) : ∀ n : Nat, (∀ (y1 y2 y3 : Int), (((300 - y3) * 1) + 0).toNat ≤ n → 0 ≤ y2 → y2 ≤ 300 → 0 ≤ y3 → y3 ≤ 299 → y2 ≤ y3 + 1 → y1 = x1 → 0 ≤ y3 → y3 < a0 146 9 → (y2 = SUMN (gtF (cvR a0) (a0 146 0) x1) (y3.toNat + 1)) → jt (jxX E d 242 38 [some (.inr (.inr (.inl 146))), some (.inl y1), some (.inl y2), some (.inl y3)] [] (jxSH, a0, b0)) (jQ_X12_got x1 a0 b0)) ∧ (∀ (y1 y2 y3 : Int), (((300 - y3) * 1) + 0).toNat ≤ n → 0 ≤ y2 → y2 ≤ 300 → 0 ≤ y3 → y3 ≤ 300 → y2 ≤ y3 → y1 = x1 → 0 ≤ y3 → y3 ≤ a0 146 9 → (y2 = SUMN (gtF (cvR a0) (a0 146 0) x1) y3.toNat) → jt (jxX E d 242 4 [some (.inr (.inr (.inl 146))), some (.inl y1), some (.inl y2), some (.inl y3)] [] (jxSH, a0, b0)) (jQ_X12_got x1 a0 b0)) := by
  refine jx_ind fun n ih => ?_
  have ih38 : ∀ (y1 y2 y3 : Int), (((300 - y3) * 1) + 0).toNat < n → 0 ≤ y2 → y2 ≤ 300 → 0 ≤ y3 → y3 ≤ 299 → y2 ≤ y3 + 1 → y1 = x1 → 0 ≤ y3 → y3 < a0 146 9 → (y2 = SUMN (gtF (cvR a0) (a0 146 0) x1) (y3.toNat + 1)) → jt (jxX E d 242 38 [some (.inr (.inr (.inl 146))), some (.inl y1), some (.inl y2), some (.inl y3)] [] (jxSH, a0, b0)) (jQ_X12_got x1 a0 b0) := fun y1 y2 y3 hlt i0 i1 i2 i3 i4 i5 i6 i7 i8 => (ih _ hlt).1 y1 y2 y3 (Nat.le_refl _) i0 i1 i2 i3 i4 i5 i6 i7 i8
  have ih4 : ∀ (y1 y2 y3 : Int), (((300 - y3) * 1) + 0).toNat < n → 0 ≤ y2 → y2 ≤ 300 → 0 ≤ y3 → y3 ≤ 300 → y2 ≤ y3 → y1 = x1 → 0 ≤ y3 → y3 ≤ a0 146 9 → (y2 = SUMN (gtF (cvR a0) (a0 146 0) x1) y3.toNat) → jt (jxX E d 242 4 [some (.inr (.inr (.inl 146))), some (.inl y1), some (.inl y2), some (.inl y3)] [] (jxSH, a0, b0)) (jQ_X12_got x1 a0 b0) := fun y1 y2 y3 hlt i0 i1 i2 i3 i4 i5 i6 i7 i8 => (ih _ hlt).2 y1 y2 y3 (Nat.le_refl _) i0 i1 i2 i3 i4 i5 i6 i7 i8
  have hc38 : ∀ (y1 y2 y3 : Int), (((300 - y3) * 1) + 0).toNat ≤ n → 0 ≤ y2 → y2 ≤ 300 → 0 ≤ y3 → y3 ≤ 299 → y2 ≤ y3 + 1 → y1 = x1 → 0 ≤ y3 → y3 < a0 146 9 → (y2 = SUMN (gtF (cvR a0) (a0 146 0) x1) (y3.toNat + 1)) → jt (jxX E d 242 38 [some (.inr (.inr (.inl 146))), some (.inl y1), some (.inl y2), some (.inl y3)] [] (jxSH, a0, b0)) (jQ_X12_got x1 a0 b0) := by
    intro y1 y2 y3 hm hi0 hi1 hi2 hi3 hi4 hi5 hi6 hi7 hs
    refine jt_eq (bq_X12_got_38 E d y1 y2 y3 a0 b0) ?_
    have h59_ := iv_get hv0 (k := 146) (j := 9) (l := 0) (u := 300) rfl
    have h60_ : jxw (y3 + 1) = y3 + 1 := jxw_id (by omega) (by omega)
    exact ih4 y1 y2 (jxw (y3 + 1)) (show (((300 - (jxw (y3 + 1))) * 1) + 0).toNat < n from by omega) (show 0 ≤ y2 from by omega) (show y2 ≤ 300 from by omega) (show 0 ≤ jxw (y3 + 1) from by omega) (show jxw (y3 + 1) ≤ 300 from by omega) (show y2 ≤ jxw (y3 + 1) from by omega) (show y1 = x1 from by omega) (show 0 ≤ jxw (y3 + 1) from by omega) (show jxw (y3 + 1) ≤ a0 146 9 from by omega) (by first | rfl | (rw [show (jxw (y3 + 1)).toNat = y3.toNat + 1 from by omega]; exact hs))
  have hc4 : ∀ (y1 y2 y3 : Int), (((300 - y3) * 1) + 0).toNat ≤ n → 0 ≤ y2 → y2 ≤ 300 → 0 ≤ y3 → y3 ≤ 300 → y2 ≤ y3 → y1 = x1 → 0 ≤ y3 → y3 ≤ a0 146 9 → (y2 = SUMN (gtF (cvR a0) (a0 146 0) x1) y3.toNat) → jt (jxX E d 242 4 [some (.inr (.inr (.inl 146))), some (.inl y1), some (.inl y2), some (.inl y3)] [] (jxSH, a0, b0)) (jQ_X12_got x1 a0 b0) := by
    intro y1 y2 y3 hm hi0 hi1 hi2 hi3 hi4 hi5 hi6 hi7 hs
    refine jt_eq (bq_X12_got_4 E d y1 y2 y3 a0 b0) ?_
    have h61_ := iv_get hv0 (k := 146) (j := 9) (l := 0) (u := 300) rfl
    have hrg := SUMN_bd (f := (gtF (cvR a0) (a0 146 0) x1)) (n := y3.toNat) (fun k _ => gtF_rg _ _ _ k)
    refine jt_ite (fun c62_ => ?_) (fun c62_ => ?_)
    ·
      refine jt_grd (by omega) ?_
      have h63_ := iv_get hv0 (k := 155) (j := y3.toNat) (l := 0) (u := 39) rfl
      refine jt_ite (fun c64_ => ?_) (fun c64_ => ?_)
      ·
        refine jt_bI (sp_X12_hasArrived E d (jd_le hd rfl) y3 a0 b0 hv0 (show (0 ≤ y3 ∧ y3 ≤ 299) from by omega)) (fun r65_ a65_ b65_ h65_ => ?_)
        obtain ⟨rfl, rfl, hq65_0, hq65_1⟩ := h65_
        refine jt_ite (fun c66_ => ?_) (fun c66_ => ?_)
        ·
          have h67_ : jxw (y2 + 0) = y2 + 0 := jxw_id (by omega) (by omega)
          exact hc38 y1 (jxw (y2 + 0)) y3 (show (((300 - y3) * 1) + 0).toNat ≤ n from by omega) (show 0 ≤ jxw (y2 + 0) from by omega) (show jxw (y2 + 0) ≤ 300 from by omega) (show 0 ≤ y3 from by omega) (show y3 ≤ 299 from by omega) (show jxw (y2 + 0) ≤ y3 + 1 from by omega) (show y1 = x1 from by omega) (show 0 ≤ y3 from by omega) (show y3 < a0 146 9 from by omega) (by show jxw (y2 + 0) = SUMN (gtF (cvR a0) (a0 146 0) x1) y3.toNat + (gtF (cvR a0) (a0 146 0) x1) y3.toNat; have e : (gtF (cvR a0) (a0 146 0) x1) y3.toNat = r65_ := (by show (if a0 155 y3.toNat = x1 then _ else _) = _; rw [if_pos (by omega)]; exact hq65_1.symm); omega)
        ·
          have h68_ : jxw (y2 + 1) = y2 + 1 := jxw_id (by omega) (by omega)
          exact hc38 y1 (jxw (y2 + 1)) y3 (show (((300 - y3) * 1) + 0).toNat ≤ n from by omega) (show 0 ≤ jxw (y2 + 1) from by omega) (show jxw (y2 + 1) ≤ 300 from by omega) (show 0 ≤ y3 from by omega) (show y3 ≤ 299 from by omega) (show jxw (y2 + 1) ≤ y3 + 1 from by omega) (show y1 = x1 from by omega) (show 0 ≤ y3 from by omega) (show y3 < a0 146 9 from by omega) (by show jxw (y2 + 1) = SUMN (gtF (cvR a0) (a0 146 0) x1) y3.toNat + (gtF (cvR a0) (a0 146 0) x1) y3.toNat; have e : (gtF (cvR a0) (a0 146 0) x1) y3.toNat = r65_ := (by show (if a0 155 y3.toNat = x1 then _ else _) = _; rw [if_pos (by omega)]; exact hq65_1.symm); omega)
      ·
        have h69_ : jxw (y2 + 0) = y2 + 0 := jxw_id (by omega) (by omega)
        exact hc38 y1 (jxw (y2 + 0)) y3 (show (((300 - y3) * 1) + 0).toNat ≤ n from by omega) (show 0 ≤ jxw (y2 + 0) from by omega) (show jxw (y2 + 0) ≤ 300 from by omega) (show 0 ≤ y3 from by omega) (show y3 ≤ 299 from by omega) (show jxw (y2 + 0) ≤ y3 + 1 from by omega) (show y1 = x1 from by omega) (show 0 ≤ y3 from by omega) (show y3 < a0 146 9 from by omega) (by show jxw (y2 + 0) = SUMN (gtF (cvR a0) (a0 146 0) x1) y3.toNat + (gtF (cvR a0) (a0 146 0) x1) y3.toNat; have e : (gtF (cvR a0) (a0 146 0) x1) y3.toNat = 0 := (by show (if a0 155 y3.toNat = x1 then _ else _) = _; rw [if_neg (by omega)]); omega)
    ·
      exact jt_rI ⟨rfl, rfl, (show 0 ≤ y2 from by omega), (show y2 ≤ 300 from by omega), (by rw [show (a0 146 9).toNat = y3.toNat from by omega]; exact hs)⟩
  exact ⟨hc38, hc4⟩
theorem sp_X12_got (E : jxE) (d : Nat) (hd : Nat.ble 5 d = true) (x1 : Int) (a0 b0 : Nat → Nat → Int) (hv0 : iv a0) : jt (jxC E d 242 [.inr (.inr (.inl 146)), .inl x1] (jxSH, a0, b0)) (jQ_X12_got x1 a0 b0) := by
  obtain ⟨d, rfl⟩ := jd_succ hd
  refine jt_eq (bq_X12_got E d x1 a0 b0) ?_
  have h70_ := iv_get hv0 (k := 146) (j := 9) (l := 0) (u := 300) rfl
  exact (cp_X12_got_4 E d hd x1 a0 b0 hv0 _).2 x1 0 0 (Nat.le_refl _) (show 0 ≤ 0 from by omega) (show 0 ≤ 300 from by omega) (show 0 ≤ 0 from by omega) (show 0 ≤ 300 from by omega) (show 0 ≤ 0 from by omega) (show x1 = x1 from by omega) (show 0 ≤ 0 from by omega) (show 0 ≤ a0 146 9 from by omega) (by first | rfl | (rw [show (jxw (y3 + 1)).toNat = y3.toNat + 1 from by omega]; exact hs))
abbrev jQ_X12_ofHis (x1 x2 : Int) (a0 b0 : Nat → Nat → Int) : List jxV → (Nat → Nat → Int) → (Nat → Nat → Int) → Prop := rI (fun r a b => (a0 = a) ∧ (b0 = b) ∧ (0 ≤ r) ∧ (r ≤ 300) ∧ (r = SUMN (ohF (cvR a0) (a0 146 0) x1 x2) (a0 146 9).toNat))
theorem cp_X12_ofHis_5 (E : jxE) (d : Nat) (hd : Nat.ble 4 (d + 1) = true) (x1 x2 : Int) (a0 b0 : Nat → Nat → Int) (hv0 : iv a0) : ∀ n : Nat, (∀ (y1 y2 y3 y4 : Int), (((300 - y4) * 1) + 0).toNat ≤ n → 0 ≤ y3 → y3 ≤ 300 → 0 ≤ y4 → y4 ≤ 299 → y3 ≤ y4 + 1 → y1 = x1 → 0 ≤ y4 → y2 = x2 → y4 < a0 146 9 → (y3 = SUMN (ohF (cvR a0) (a0 146 0) x1 x2) (y4.toNat + 1)) → jt (jxX E d 244 43 [some (.inr (.inr (.inl 146))), some (.inl y1), some (.inl y2), some (.inl y3), some (.inl y4)] [] (jxSH, a0, b0)) (jQ_X12_ofHis x1 x2 a0 b0)) ∧ (∀ (y1 y2 y3 y4 : Int), (((300 - y4) * 1) + 0).toNat ≤ n → 0 ≤ y3 → y3 ≤ 300 → 0 ≤ y4 → y4 ≤ 300 → y3 ≤ y4 → y1 = x1 → 0 ≤ y4 → y2 = x2 → y4 ≤ a0 146 9 → (y3 = SUMN (ohF (cvR a0) (a0 146 0) x1 x2) y4.toNat) → jt (jxX E d 244 5 [some (.inr (.inr (.inl 146))), some (.inl y1), some (.inl y2), some (.inl y3), some (.inl y4)] [] (jxSH, a0, b0)) (jQ_X12_ofHis x1 x2 a0 b0)) := by
  refine jx_ind fun n ih => ?_
  have ih43 : ∀ (y1 y2 y3 y4 : Int), (((300 - y4) * 1) + 0).toNat < n → 0 ≤ y3 → y3 ≤ 300 → 0 ≤ y4 → y4 ≤ 299 → y3 ≤ y4 + 1 → y1 = x1 → 0 ≤ y4 → y2 = x2 → y4 < a0 146 9 → (y3 = SUMN (ohF (cvR a0) (a0 146 0) x1 x2) (y4.toNat + 1)) → jt (jxX E d 244 43 [some (.inr (.inr (.inl 146))), some (.inl y1), some (.inl y2), some (.inl y3), some (.inl y4)] [] (jxSH, a0, b0)) (jQ_X12_ofHis x1 x2 a0 b0) := fun y1 y2 y3 y4 hlt i0 i1 i2 i3 i4 i5 i6 i7 i8 i9 => (ih _ hlt).1 y1 y2 y3 y4 (Nat.le_refl _) i0 i1 i2 i3 i4 i5 i6 i7 i8 i9
  have ih5 : ∀ (y1 y2 y3 y4 : Int), (((300 - y4) * 1) + 0).toNat < n → 0 ≤ y3 → y3 ≤ 300 → 0 ≤ y4 → y4 ≤ 300 → y3 ≤ y4 → y1 = x1 → 0 ≤ y4 → y2 = x2 → y4 ≤ a0 146 9 → (y3 = SUMN (ohF (cvR a0) (a0 146 0) x1 x2) y4.toNat) → jt (jxX E d 244 5 [some (.inr (.inr (.inl 146))), some (.inl y1), some (.inl y2), some (.inl y3), some (.inl y4)] [] (jxSH, a0, b0)) (jQ_X12_ofHis x1 x2 a0 b0) := fun y1 y2 y3 y4 hlt i0 i1 i2 i3 i4 i5 i6 i7 i8 i9 => (ih _ hlt).2 y1 y2 y3 y4 (Nat.le_refl _) i0 i1 i2 i3 i4 i5 i6 i7 i8 i9
  have hc43 : ∀ (y1 y2 y3 y4 : Int), (((300 - y4) * 1) + 0).toNat ≤ n → 0 ≤ y3 → y3 ≤ 300 → 0 ≤ y4 → y4 ≤ 299 → y3 ≤ y4 + 1 → y1 = x1 → 0 ≤ y4 → y2 = x2 → y4 < a0 146 9 → (y3 = SUMN (ohF (cvR a0) (a0 146 0) x1 x2) (y4.toNat + 1)) → jt (jxX E d 244 43 [some (.inr (.inr (.inl 146))), some (.inl y1), some (.inl y2), some (.inl y3), some (.inl y4)] [] (jxSH, a0, b0)) (jQ_X12_ofHis x1 x2 a0 b0) := by
    intro y1 y2 y3 y4 hm hi0 hi1 hi2 hi3 hi4 hi5 hi6 hi7 hi8 hs
    refine jt_eq (bq_X12_ofHis_43 E d y1 y2 y3 y4 a0 b0) ?_
    have h71_ := iv_get hv0 (k := 146) (j := 9) (l := 0) (u := 300) rfl
    have h72_ : jxw (y4 + 1) = y4 + 1 := jxw_id (by omega) (by omega)
    exact ih5 y1 y2 y3 (jxw (y4 + 1)) (show (((300 - (jxw (y4 + 1))) * 1) + 0).toNat < n from by omega) (show 0 ≤ y3 from by omega) (show y3 ≤ 300 from by omega) (show 0 ≤ jxw (y4 + 1) from by omega) (show jxw (y4 + 1) ≤ 300 from by omega) (show y3 ≤ jxw (y4 + 1) from by omega) (show y1 = x1 from by omega) (show 0 ≤ jxw (y4 + 1) from by omega) (show y2 = x2 from by omega) (show jxw (y4 + 1) ≤ a0 146 9 from by omega) (by first | rfl | (rw [show (jxw (y4 + 1)).toNat = y4.toNat + 1 from by omega]; exact hs))
  have hc5 : ∀ (y1 y2 y3 y4 : Int), (((300 - y4) * 1) + 0).toNat ≤ n → 0 ≤ y3 → y3 ≤ 300 → 0 ≤ y4 → y4 ≤ 300 → y3 ≤ y4 → y1 = x1 → 0 ≤ y4 → y2 = x2 → y4 ≤ a0 146 9 → (y3 = SUMN (ohF (cvR a0) (a0 146 0) x1 x2) y4.toNat) → jt (jxX E d 244 5 [some (.inr (.inr (.inl 146))), some (.inl y1), some (.inl y2), some (.inl y3), some (.inl y4)] [] (jxSH, a0, b0)) (jQ_X12_ofHis x1 x2 a0 b0) := by
    intro y1 y2 y3 y4 hm hi0 hi1 hi2 hi3 hi4 hi5 hi6 hi7 hi8 hs
    refine jt_eq (bq_X12_ofHis_5 E d y1 y2 y3 y4 a0 b0) ?_
    have h73_ := iv_get hv0 (k := 146) (j := 9) (l := 0) (u := 300) rfl
    have hrg := SUMN_bd (f := (ohF (cvR a0) (a0 146 0) x1 x2)) (n := y4.toNat) (fun k _ => ohF_rg _ _ _ _ k)
    refine jt_ite (fun c74_ => ?_) (fun c74_ => ?_)
    ·
      refine jt_grd (by omega) ?_
      have h75_ := iv_get hv0 (k := 154) (j := y4.toNat) (l := 0) (u := 39) rfl
      refine jt_ite (fun c76_ => ?_) (fun c76_ => ?_)
      ·
        refine jt_bI (sp_X12_stateNow E d (jd_le hd rfl) y4 a0 b0 hv0 (show (0 ≤ y4 ∧ y4 ≤ 299) from by omega)) (fun r77_ a77_ b77_ h77_ => ?_)
        obtain ⟨rfl, rfl, hq77_0, hq77_1, hq77_2⟩ := h77_
        refine jt_ite (fun c78_ => ?_) (fun c78_ => ?_)
        ·
          have h79_ : jxw (y3 + 1) = y3 + 1 := jxw_id (by omega) (by omega)
          exact hc43 y1 y2 (jxw (y3 + 1)) y4 (show (((300 - y4) * 1) + 0).toNat ≤ n from by omega) (show 0 ≤ jxw (y3 + 1) from by omega) (show jxw (y3 + 1) ≤ 300 from by omega) (show 0 ≤ y4 from by omega) (show y4 ≤ 299 from by omega) (show jxw (y3 + 1) ≤ y4 + 1 from by omega) (show y1 = x1 from by omega) (show 0 ≤ y4 from by omega) (show y2 = x2 from by omega) (show y4 < a0 146 9 from by omega) (by show jxw (y3 + 1) = SUMN (ohF (cvR a0) (a0 146 0) x1 x2) y4.toNat + (ohF (cvR a0) (a0 146 0) x1 x2) y4.toNat; have e : (ohF (cvR a0) (a0 146 0) x1 x2) y4.toNat = (if r77_ = x2 then 1 else 0) := (by show (if a0 154 y4.toNat = x1 then _ else _) = _; rw [if_pos (by omega), hq77_2]); rw [e]; first | (rw [if_pos (by omega)]; omega) | (rw [if_neg (by omega)]; omega))
        ·
          have h80_ : jxw (y3 + 0) = y3 + 0 := jxw_id (by omega) (by omega)
          exact hc43 y1 y2 (jxw (y3 + 0)) y4 (show (((300 - y4) * 1) + 0).toNat ≤ n from by omega) (show 0 ≤ jxw (y3 + 0) from by omega) (show jxw (y3 + 0) ≤ 300 from by omega) (show 0 ≤ y4 from by omega) (show y4 ≤ 299 from by omega) (show jxw (y3 + 0) ≤ y4 + 1 from by omega) (show y1 = x1 from by omega) (show 0 ≤ y4 from by omega) (show y2 = x2 from by omega) (show y4 < a0 146 9 from by omega) (by show jxw (y3 + 0) = SUMN (ohF (cvR a0) (a0 146 0) x1 x2) y4.toNat + (ohF (cvR a0) (a0 146 0) x1 x2) y4.toNat; have e : (ohF (cvR a0) (a0 146 0) x1 x2) y4.toNat = (if r77_ = x2 then 1 else 0) := (by show (if a0 154 y4.toNat = x1 then _ else _) = _; rw [if_pos (by omega), hq77_2]); rw [e]; first | (rw [if_pos (by omega)]; omega) | (rw [if_neg (by omega)]; omega))
      ·
        have h81_ : jxw (y3 + 0) = y3 + 0 := jxw_id (by omega) (by omega)
        exact hc43 y1 y2 (jxw (y3 + 0)) y4 (show (((300 - y4) * 1) + 0).toNat ≤ n from by omega) (show 0 ≤ jxw (y3 + 0) from by omega) (show jxw (y3 + 0) ≤ 300 from by omega) (show 0 ≤ y4 from by omega) (show y4 ≤ 299 from by omega) (show jxw (y3 + 0) ≤ y4 + 1 from by omega) (show y1 = x1 from by omega) (show 0 ≤ y4 from by omega) (show y2 = x2 from by omega) (show y4 < a0 146 9 from by omega) (by show jxw (y3 + 0) = SUMN (ohF (cvR a0) (a0 146 0) x1 x2) y4.toNat + (ohF (cvR a0) (a0 146 0) x1 x2) y4.toNat; have e : (ohF (cvR a0) (a0 146 0) x1 x2) y4.toNat = 0 := (by show (if a0 154 y4.toNat = x1 then _ else _) = _; rw [if_neg (by omega)]); omega)
    ·
      exact jt_rI ⟨rfl, rfl, (show 0 ≤ y3 from by omega), (show y3 ≤ 300 from by omega), (by rw [show (a0 146 9).toNat = y4.toNat from by omega]; exact hs)⟩
  exact ⟨hc43, hc5⟩
theorem sp_X12_ofHis (E : jxE) (d : Nat) (hd : Nat.ble 4 d = true) (x1 x2 : Int) (a0 b0 : Nat → Nat → Int) (hv0 : iv a0) : jt (jxC E d 244 [.inr (.inr (.inl 146)), .inl x1, .inl x2] (jxSH, a0, b0)) (jQ_X12_ofHis x1 x2 a0 b0) := by
  obtain ⟨d, rfl⟩ := jd_succ hd
  refine jt_eq (bq_X12_ofHis E d x1 x2 a0 b0) ?_
  have h82_ := iv_get hv0 (k := 146) (j := 9) (l := 0) (u := 300) rfl
  exact (cp_X12_ofHis_5 E d hd x1 x2 a0 b0 hv0 _).2 x1 x2 0 0 (Nat.le_refl _) (show 0 ≤ 0 from by omega) (show 0 ≤ 300 from by omega) (show 0 ≤ 0 from by omega) (show 0 ≤ 300 from by omega) (show 0 ≤ 0 from by omega) (show x1 = x1 from by omega) (show 0 ≤ 0 from by omega) (show x2 = x2 from by omega) (show 0 ≤ a0 146 9 from by omega) (by first | rfl | (rw [show (jxw (y4 + 1)).toNat = y4.toNat + 1 from by omega]; exact hs))
abbrev jQ_X12_mayAsk (x1 : Int) (a0 b0 : Nat → Nat → Int) : List jxV → (Nat → Nat → Int) → (Nat → Nat → Int) → Prop := rI (fun r a b => (a0 = a) ∧ (b0 = b) ∧ ((0 ≤ r ∧ r ≤ 1)) ∧ (r = vMay (a0 152 x1.toNat) (SUMN (ohF (cvR a0) (a0 146 0) x1 0) (a0 146 9).toNat) (SUMN (gvF (cvR a0) (a0 146 0) x1) (a0 146 9).toNat) (a0 171 0) (a0 171 1)))
theorem cp_X12_mayAsk_50 (E : jxE) (d : Nat) (hd : Nat.ble 6 (d + 1) = true) (x1 : Int) (a0 b0 : Nat → Nat → Int) (hv0 : iv a0) (hp0 : (0 ≤ x1 ∧ x1 ≤ 39)) : (vMay (a0 152 x1.toNat) (SUMN (ohF (cvR a0) (a0 146 0) x1 0) (a0 146 9).toNat) (SUMN (gvF (cvR a0) (a0 146 0) x1) (a0 146 9).toNat) (a0 171 0) (a0 171 1) = 1) → jt (jxX E d 246 50 [none, none] [] (jxSH, a0, b0)) (jQ_X12_mayAsk x1 a0 b0) := by
  intro hv
  refine jt_eq (bq_X12_mayAsk_50 E d a0 b0) ?_
  exact jt_rI ⟨rfl, rfl, (show (0 ≤ 1 ∧ 1 ≤ 1) from by omega), hv.symm⟩
theorem cp_X12_mayAsk_54 (E : jxE) (d : Nat) (hd : Nat.ble 6 (d + 1) = true) (x1 : Int) (a0 b0 : Nat → Nat → Int) (hv0 : iv a0) (hp0 : (0 ≤ x1 ∧ x1 ≤ 39)) : (vMay (a0 152 x1.toNat) (SUMN (ohF (cvR a0) (a0 146 0) x1 0) (a0 146 9).toNat) (SUMN (gvF (cvR a0) (a0 146 0) x1) (a0 146 9).toNat) (a0 171 0) (a0 171 1) = 0) → jt (jxX E d 246 54 [none, none] [] (jxSH, a0, b0)) (jQ_X12_mayAsk x1 a0 b0) := by
  intro hv
  refine jt_eq (bq_X12_mayAsk_54 E d a0 b0) ?_
  exact jt_rI ⟨rfl, rfl, (show (0 ≤ 0 ∧ 0 ≤ 1) from by omega), hv.symm⟩
theorem sp_X12_mayAsk (E : jxE) (d : Nat) (hd : Nat.ble 6 d = true) (x1 : Int) (a0 b0 : Nat → Nat → Int) (hv0 : iv a0) (hp0 : (0 ≤ x1 ∧ x1 ≤ 39)) : jt (jxC E d 246 [.inr (.inr (.inl 146)), .inl x1] (jxSH, a0, b0)) (jQ_X12_mayAsk x1 a0 b0) := by
  obtain ⟨d, rfl⟩ := jd_succ hd
  refine jt_eq (bq_X12_mayAsk E d x1 a0 b0) ?_
  refine jt_grd (by omega) ?_
  have h83_ := iv_get hv0 (k := 152) (j := x1.toNat) (l := 0) (u := 1) rfl
  refine jt_ite (fun c84_ => ?_) (fun c84_ => ?_)
  ·
    exact cp_X12_mayAsk_54 E d hd x1 a0 b0 hv0 hp0 (by unfold vMay; rw [if_pos (by assumption)])
  ·
    refine jt_bI (sp_X12_ofHis E d (jd_le hd rfl) x1 0 a0 b0 hv0) (fun r85_ a85_ b85_ h85_ => ?_)
    obtain ⟨rfl, rfl, hq85_0, hq85_1, hq85_2⟩ := h85_
    have ho_ := hq85_2
    refine jt_ite (fun c86_ => ?_) (fun c86_ => ?_)
    ·
      have h87_ := jxw_im ((a0 171 0) + 0)
      have h88_ := jxw_rg ((a0 171 0) + 0)
      refine jt_ite (fun c89_ => ?_) (fun c89_ => ?_)
      ·
        exact cp_X12_mayAsk_50 E d hd x1 a0 b0 hv0 hp0 (by unfold vMay; rw [if_neg (by assumption), ← ho_]; first | (rw [← hg_, if_neg (show ¬ a0 171 1 = 0 by assumption)]; first | rw [if_pos (by assumption)] | rw [if_neg (by assumption)]) | (rw [if_pos (show a0 171 1 = 0 by assumption)]; first | rw [if_pos (by assumption)] | rw [if_neg (by assumption)]))
      ·
        exact cp_X12_mayAsk_54 E d hd x1 a0 b0 hv0 hp0 (by unfold vMay; rw [if_neg (by assumption), ← ho_]; first | (rw [← hg_, if_neg (show ¬ a0 171 1 = 0 by assumption)]; first | rw [if_pos (by assumption)] | rw [if_neg (by assumption)]) | (rw [if_pos (show a0 171 1 = 0 by assumption)]; first | rw [if_pos (by assumption)] | rw [if_neg (by assumption)]))
    ·
      refine jt_bI (sp_X12_given E d (jd_le hd rfl) x1 a0 b0 hv0) (fun r90_ a90_ b90_ h90_ => ?_)
      obtain ⟨rfl, rfl, hq90_0, hq90_1, hq90_2⟩ := h90_
      have hg_ := hq90_2
      refine jt_dvd (by omega) ?_
      have h91_ := jxw_im (Int.tdiv r90_ (a0 171 1))
      have h92_ := jxw_rg (Int.tdiv r90_ (a0 171 1))
      have h93_ := jxw_im ((a0 171 0) + (jxw (Int.tdiv r90_ (a0 171 1))))
      have h94_ := jxw_rg ((a0 171 0) + (jxw (Int.tdiv r90_ (a0 171 1))))
      refine jt_ite (fun c95_ => ?_) (fun c95_ => ?_)
      ·
        exact cp_X12_mayAsk_50 E d hd x1 a0 b0 hv0 hp0 (by unfold vMay; rw [if_neg (by assumption), ← ho_]; first | (rw [← hg_, if_neg (show ¬ a0 171 1 = 0 by assumption)]; first | rw [if_pos (by assumption)] | rw [if_neg (by assumption)]) | (rw [if_pos (show a0 171 1 = 0 by assumption)]; first | rw [if_pos (by assumption)] | rw [if_neg (by assumption)]))
      ·
        exact cp_X12_mayAsk_54 E d hd x1 a0 b0 hv0 hp0 (by unfold vMay; rw [if_neg (by assumption), ← ho_]; first | (rw [← hg_, if_neg (show ¬ a0 171 1 = 0 by assumption)]; first | rw [if_pos (by assumption)] | rw [if_neg (by assumption)]) | (rw [if_pos (show a0 171 1 = 0 by assumption)]; first | rw [if_pos (by assumption)] | rw [if_neg (by assumption)]))
abbrev jQ_X12_owed (x1 : Int) (a0 b0 : Nat → Nat → Int) : List jxV → (Nat → Nat → Int) → (Nat → Nat → Int) → Prop := rI (fun r a b => (a0 = a) ∧ (b0 = b) ∧ (r = vOwed (cvR a0) (a0 146 0) (a0 153 x1.toNat) x1))
theorem sp_X12_owed (E : jxE) (d : Nat) (hd : Nat.ble 6 d = true) (x1 : Int) (a0 b0 : Nat → Nat → Int) (hv0 : iv a0) (hp0 : (0 ≤ x1 ∧ x1 ≤ 39)) : jt (jxC E d 245 [.inr (.inr (.inl 146)), .inl x1] (jxSH, a0, b0)) (jQ_X12_owed x1 a0 b0) := by
  obtain ⟨d, rfl⟩ := jd_succ hd
  refine jt_eq (bq_X12_owed E d x1 a0 b0) ?_
  refine jt_bI (sp_X12_given E d (jd_le hd rfl) x1 a0 b0 hv0) (fun r96_ a96_ b96_ h96_ => ?_)
  obtain ⟨rfl, rfl, hq96_0, hq96_1, hq96_2⟩ := h96_
  have hg_ := hq96_2
  refine jt_grd (by omega) ?_
  refine jt_bI (sp_X12_got E d (jd_le hd rfl) x1 a0 b0 hv0) (fun r97_ a97_ b97_ h97_ => ?_)
  obtain ⟨rfl, rfl, hq97_0, hq97_1, hq97_2⟩ := h97_
  have ht_ := hq97_2
  refine jt_bI (sp_X12_coming E d (jd_le hd rfl) x1 a0 b0 hv0) (fun r98_ a98_ b98_ h98_ => ?_)
  obtain ⟨rfl, rfl, hq98_0, hq98_1, hq98_2⟩ := h98_
  have hc_ := hq98_2
  have h99_ := jxw_im (r96_ + (a0 153 (x1.toNat)))
  have h100_ := jxw_rg (r96_ + (a0 153 (x1.toNat)))
  have h101_ := jxw_im ((jxw (r96_ + (a0 153 (x1.toNat)))) - r97_)
  have h102_ := jxw_rg ((jxw (r96_ + (a0 153 (x1.toNat)))) - r97_)
  have h103_ := jxw_im ((jxw ((jxw (r96_ + (a0 153 (x1.toNat)))) - r97_)) - r98_)
  have h104_ := jxw_rg ((jxw ((jxw (r96_ + (a0 153 (x1.toNat)))) - r97_)) - r98_)
  exact jt_rI ⟨rfl, rfl, (by unfold vOwed; rw [hg_, ht_, hc_]; rfl)⟩
def jWts : List (Nat × Nat) := [(161, 9999), (162, 9999), (163, 9999)]
def jW_X12_tells : List (Nat × Nat) := [(146, 17), (160, 9999), (161, 9999), (162, 9999), (163, 9999)]
abbrev jQ_X12_tells (x1 x2 : Int) (a0 b0 : Nat → Nat → Int) : List jxV → (Nat → Nat → Int) → (Nat → Nat → Int) → Prop := rV (fun a b => (iv a) ∧ (jfr jW_X12_tells a0 a) ∧ (b0 = b) ∧ (cvR a = vTell (cvR a0) x1 x2 (a0 146 0)))
theorem cp_X12_tells_33 (E : jxE) (d : Nat) (hd : Nat.ble 1 (d + 1) = true) (x1 x2 : Int) (a0 b0 : Nat → Nat → Int) (hv0 : iv a0) (hp0 : (0 ≤ x1 ∧ x1 ≤ 299)) (hp1 : a0 146 17 ≤ 599) : ∀ (y1 : Int) (a : Nat → Nat → Int), iv a → jfr jW_X12_tells a0 a → 0 ≤ y1 → y1 ≤ 299 → (jfr jWts a0 a) → (y1 = x1) → (a 161 = rup (a0 161) (a0 146 17).toNat x1 ∧ a 162 = rup (a0 162) (a0 146 17).toNat x2 ∧ a 163 = rup (a0 163) (a0 146 17).toNat (a0 146 0)) → a 146 17 ≤ 599 → jt (jxX E d 256 33 [some (.inr (.inr (.inl 146))), some (.inl y1), none] [] (jxSH, a, b0)) (jQ_X12_tells x1 x2 a0 b0) := by
  intro y1 a hv hf hi0 hi1 hfa hy1 hr1 hi5
  refine jt_eq (bq_X12_tells_33 E d y1 a b0) ?_
  have h105_ := iv_get hv (k := 146) (j := 17) (l := 0) (u := 600) rfl
  have e17 := hfa 146 17 rfl
  refine jt_grd (by omega) ?_
  have hv106_ : iv (jxu a 160 (y1.toNat) (a 146 17)) := iv_put hv (l := (-1)) (u := 599) rfl (by omega) (by omega)
  have h108_ : jxw ((a 146 17) + 1) = (a 146 17) + 1 := jxw_id (by omega) (by omega)
  have hv107_ : iv (jxu (jxu a 160 (y1.toNat) (a 146 17)) 146 17 (jxw ((a 146 17) + 1))) := iv_put hv106_ (l := 0) (u := 600) rfl (by omega) (by omega)
  have hf109_ : jfr jW_X12_tells a0 (jxu a 160 (y1.toNat) (a 146 17)) := jfr_put hf rfl
  have hf110_ : jfr jW_X12_tells a0 (jxu (jxu a 160 (y1.toNat) (a 146 17)) 146 17 (jxw ((a 146 17) + 1))) := jfr_put hf109_ rfl
  exact jt_rV ⟨hv107_, hf110_, rfl, (mkCV_eq (hfa 146 9 rfl) (show jxw ((a 146 17) + 1) = a0 146 17 + 1 from by omega) (funext fun j => hfa 154 j rfl) (funext fun j => hfa 155 j rfl) (funext fun j => hfa 156 j rfl) (funext fun j => hfa 157 j rfl) (funext fun j => hfa 158 j rfl) (funext fun j => hfa 159 j rfl) (funext fun j => by show (if j = y1.toNat then a 146 17 else a 160 j) = (if j = x1.toNat then a0 146 17 else a0 160 j); rw [show y1.toNat = x1.toNat from by omega, hfa 160 j rfl, show a 146 17 = a0 146 17 from by omega]) hr1.1 hr1.2.1 hr1.2.2)⟩
theorem sp_X12_tells (E : jxE) (d : Nat) (hd : Nat.ble 1 d = true) (x1 x2 : Int) (a0 b0 : Nat → Nat → Int) (hv0 : iv a0) (hp0 : (0 ≤ x1 ∧ x1 ≤ 299)) (hp1 : a0 146 17 ≤ 599) : jt (jxC E d 256 [.inr (.inr (.inl 146)), .inl x1, .inl x2] (jxSH, a0, b0)) (jQ_X12_tells x1 x2 a0 b0) := by
  obtain ⟨d, rfl⟩ := jd_succ hd
  refine jt_eq (bq_X12_tells E d x1 x2 a0 b0) ?_
  have h111_ := iv_get hv0 (k := 146) (j := 17) (l := 0) (u := 600) rfl
  refine jt_grd (by omega) ?_
  refine jt_grd (by omega) ?_
  refine jt_grd (by omega) ?_
  have hv112_ : iv (jxu a0 161 ((a0 146 17).toNat) x1) := iv_put hv0 (l := 0) (u := 299) rfl (by omega) (by omega)
  have hv113_ : iv (jxu (jxu a0 161 ((a0 146 17).toNat) x1) 162 ((a0 146 17).toNat) x2) := iv_putf hv112_ rfl
  have hv114_ : iv (jxu (jxu (jxu a0 161 ((a0 146 17).toNat) x1) 162 ((a0 146 17).toNat) x2) 163 ((a0 146 17).toNat) (a0 146 0)) := iv_putf hv113_ rfl
  have hf115_ : jfr jW_X12_tells a0 (jxu a0 161 ((a0 146 17).toNat) x1) := jfr_put (jfr_rf _ _) rfl
  have hf116_ : jfr jW_X12_tells a0 (jxu (jxu a0 161 ((a0 146 17).toNat) x1) 162 ((a0 146 17).toNat) x2) := jfr_put hf115_ rfl
  have hf117_ : jfr jW_X12_tells a0 (jxu (jxu (jxu a0 161 ((a0 146 17).toNat) x1) 162 ((a0 146 17).toNat) x2) 163 ((a0 146 17).toNat) (a0 146 0)) := jfr_put hf116_ rfl
  have hf118_ : jfr jWts a0 (jxu a0 161 ((a0 146 17).toNat) x1) := jfr_put (jfr_rf _ _) rfl
  have hf119_ : jfr jWts a0 (jxu (jxu a0 161 ((a0 146 17).toNat) x1) 162 ((a0 146 17).toNat) x2) := jfr_put hf118_ rfl
  have hf120_ : jfr jWts a0 (jxu (jxu (jxu a0 161 ((a0 146 17).toNat) x1) 162 ((a0 146 17).toNat) x2) 163 ((a0 146 17).toNat) (a0 146 0)) := jfr_put hf119_ rfl
  exact cp_X12_tells_33 E d hd x1 x2 a0 b0 hv0 hp0 hp1 x1 (jxu (jxu (jxu a0 161 ((a0 146 17).toNat) x1) 162 ((a0 146 17).toNat) x2) 163 ((a0 146 17).toNat) (a0 146 0)) hv114_ hf117_ (show 0 ≤ x1 from by omega) (show x1 ≤ 299 from by omega) hf120_ (by first | rfl | assumption) ⟨rfl, rfl, rfl⟩ (show a0 146 17 ≤ 599 from by omega)
def jWre : List (Nat × Nat) := []
def jW_X12_arrive : List (Nat × Nat) := [(146, 17), (160, 9999), (161, 9999), (162, 9999), (163, 9999)]
abbrev jQ_X12_arrive (x1 x2 : Int) (a0 b0 : Nat → Nat → Int) : List jxV → (Nat → Nat → Int) → (Nat → Nat → Int) → Prop := rI (fun r a b => (iv a) ∧ (jfr jW_X12_arrive a0 a) ∧ (b0 = b) ∧ ((0 ≤ r ∧ r ≤ 1)) ∧ ((a0 146 9 = 0 → r = 0)) ∧ ((((((((r = 1 ∧ 0 ≤ x1) ∧ x1 < a0 146 9) ∧ a0 159 (x1.toNat) = 0 - 1) ∧ ¬ a0 146 17 = 600) ∧ a0 156 (x1.toNat) ≤ x2) ∧ x2 ≤ a0 146 0) ∨ (r = 0 ∧ (((((x1 < 0 ∨ a0 146 9 ≤ x1) ∨ ¬ a0 159 (x1.toNat) = 0 - 1) ∨ a0 146 17 = 600) ∨ x2 < a0 156 (x1.toNat)) ∨ a0 146 0 < x2)))) ∧ (r = 1 → cvR a = vTell (cvR a0) x1 x2 (a0 146 0)) ∧ (r = 0 → cvR a = cvR a0))
theorem cp_X12_arrive_59 (E : jxE) (d : Nat) (hd : Nat.ble 2 (d + 1) = true) (x1 x2 : Int) (a0 b0 : Nat → Nat → Int) (hv0 : iv a0) : ∀ (a : Nat → Nat → Int), iv a → jfr jW_X12_arrive a0 a → 1 ≤ a0 146 9 → (((((0 ≤ x1 ∧ x1 < a0 146 9) ∧ a0 159 (x1.toNat) = 0 - 1) ∧ ¬ a0 146 17 = 600) ∧ a0 156 (x1.toNat) ≤ x2) ∧ x2 ≤ a0 146 0) → (cvR a = vTell (cvR a0) x1 x2 (a0 146 0)) → jt (jxX E d 257 59 [none, none, none] [] (jxSH, a, b0)) (jQ_X12_arrive x1 x2 a0 b0) := by
  intro a hv hf hi0 hi1 hcv
  refine jt_eq (bq_X12_arrive_59 E d a b0) ?_
  have h121_ := iv_get hv0 (k := 146) (j := 9) (l := 0) (u := 300) rfl
  have h122_ := iv_get hv0 (k := 146) (j := 17) (l := 0) (u := 600) rfl
  have h123_ := iv_get hv0 (k := 156) (j := x1.toNat) (l := 0) (u := 1999) rfl
  have h124_ := iv_get hv0 (k := 146) (j := 0) (l := 0) (u := 1999) rfl
  exact jt_rI ⟨hv, hf, rfl, (show (0 ≤ 1 ∧ 1 ≤ 1) from by omega), (show (a0 146 9 = 0 → 1 = 0) from by omega), (show (((((((1 = 1 ∧ 0 ≤ x1) ∧ x1 < a0 146 9) ∧ a0 159 (x1.toNat) = 0 - 1) ∧ ¬ a0 146 17 = 600) ∧ a0 156 (x1.toNat) ≤ x2) ∧ x2 ≤ a0 146 0) ∨ (1 = 0 ∧ (((((x1 < 0 ∨ a0 146 9 ≤ x1) ∨ ¬ a0 159 (x1.toNat) = 0 - 1) ∨ a0 146 17 = 600) ∨ x2 < a0 156 (x1.toNat)) ∨ a0 146 0 < x2))) from by omega), (fun _ => hcv), (fun h => absurd h (by decide))⟩
theorem cp_X12_arrive_51 (E : jxE) (d : Nat) (hd : Nat.ble 2 (d + 1) = true) (x1 x2 : Int) (a0 b0 : Nat → Nat → Int) (hv0 : iv a0) : ∀ (a : Nat → Nat → Int), iv a → jfr jW_X12_arrive a0 a → (jfr jWre a0 a) → (((((x1 < 0 ∨ a0 146 9 ≤ x1) ∨ ¬ a0 159 (x1.toNat) = 0 - 1) ∨ a0 146 17 = 600) ∨ x2 < a0 156 (x1.toNat)) ∨ a0 146 0 < x2) → jt (jxX E d 257 51 [none, none, none] [] (jxSH, a, b0)) (jQ_X12_arrive x1 x2 a0 b0) := by
  intro a hv hf hfe hi1
  refine jt_eq (bq_X12_arrive_51 E d a b0) ?_
  have h125_ := iv_get hv0 (k := 146) (j := 9) (l := 0) (u := 300) rfl
  have h126_ := iv_get hv0 (k := 146) (j := 17) (l := 0) (u := 600) rfl
  have h127_ := iv_get hv0 (k := 156) (j := x1.toNat) (l := 0) (u := 1999) rfl
  have h128_ := iv_get hv0 (k := 146) (j := 0) (l := 0) (u := 1999) rfl
  exact jt_rI ⟨hv, hf, rfl, (show (0 ≤ 0 ∧ 0 ≤ 1) from by omega), (show (a0 146 9 = 0 → 0 = 0) from by omega), (show (((((((0 = 1 ∧ 0 ≤ x1) ∧ x1 < a0 146 9) ∧ a0 159 (x1.toNat) = 0 - 1) ∧ ¬ a0 146 17 = 600) ∧ a0 156 (x1.toNat) ≤ x2) ∧ x2 ≤ a0 146 0) ∨ (0 = 0 ∧ (((((x1 < 0 ∨ a0 146 9 ≤ x1) ∨ ¬ a0 159 (x1.toNat) = 0 - 1) ∨ a0 146 17 = 600) ∨ x2 < a0 156 (x1.toNat)) ∨ a0 146 0 < x2))) from by omega), (fun h => absurd h (by decide)), (fun _ => cvR_fr hfe rfl)⟩
theorem cp_X12_arrive_24 (E : jxE) (d : Nat) (hd : Nat.ble 2 (d + 1) = true) (x1 x2 : Int) (a0 b0 : Nat → Nat → Int) (hv0 : iv a0) : ∀ (y1 y2 : Int) (a : Nat → Nat → Int), iv a → jfr jW_X12_arrive a0 a → 0 ≤ y1 → y1 ≤ 299 → 1 ≤ a0 146 9 → (jfr jWre a0 a) → (y1 = x1) → (y2 = x2) → ((0 ≤ x1 ∧ x1 < a0 146 9) ∧ a0 159 (x1.toNat) = 0 - 1) → jt (jxX E d 257 24 [some (.inr (.inr (.inl 146))), some (.inl y1), some (.inl y2)] [] (jxSH, a, b0)) (jQ_X12_arrive x1 x2 a0 b0) := by
  intro y1 y2 a hv hf hi0 hi1 hi2 hfe hy1 hy2 hi6
  refine jt_eq (bq_X12_arrive_24 E d y1 y2 a b0) ?_
  have h129_ := iv_get hv0 (k := 146) (j := 9) (l := 0) (u := 300) rfl
  have e17 := hfe 146 17 rfl
  have e56 : a0 156 (y1.toNat) = a0 156 (x1.toNat) := by rw [hy1]
  have h130_ := iv_get hv (k := 146) (j := 17) (l := 0) (u := 600) rfl
  refine jt_ite (fun c131_ => ?_) (fun c131_ => ?_)
  ·
    have h132_ := iv_get hv0 (k := 146) (j := 17) (l := 0) (u := 600) rfl
    have h133_ := iv_get hv0 (k := 156) (j := x1.toNat) (l := 0) (u := 1999) rfl
    have h134_ := iv_get hv0 (k := 146) (j := 0) (l := 0) (u := 1999) rfl
    exact cp_X12_arrive_51 E d hd x1 x2 a0 b0 hv0 a hv hf hfe (show (((((x1 < 0 ∨ a0 146 9 ≤ x1) ∨ ¬ a0 159 (x1.toNat) = 0 - 1) ∨ a0 146 17 = 600) ∨ x2 < a0 156 (x1.toNat)) ∨ a0 146 0 < x2) from by omega)
  ·
    refine jt_grd (by omega) ?_
    refine jt_eI (eq_X12_in E d (jd_le hd rfl) y2 (a 156 (y1.toNat)) (a 146 0) a b0) ?_
    have h135_ := iv_get hv (k := 156) (j := y1.toNat) (l := 0) (u := 1999) rfl
    have h136_ : a 156 (y1.toNat) = a0 156 (y1.toNat) := hf 156 (y1.toNat) rfl
    have h137_ := iv_get hv0 (k := 156) (j := y1.toNat) (l := 0) (u := 1999) rfl
    have h138_ := iv_get hv (k := 146) (j := 0) (l := 0) (u := 1999) rfl
    have h139_ : a 146 0 = a0 146 0 := hf 146 0 rfl
    have h140_ := iv_get hv0 (k := 146) (j := 0) (l := 0) (u := 1999) rfl
    have h141_ := f_X12_in_eq a b0 y2 (a 156 (y1.toNat)) (a 146 0)
    refine jt_ite (fun c142_ => ?_) (fun c142_ => ?_)
    ·
      have h143_ := iv_get hv0 (k := 146) (j := 17) (l := 0) (u := 600) rfl
      have h144_ := iv_get hv0 (k := 156) (j := x1.toNat) (l := 0) (u := 1999) rfl
      exact cp_X12_arrive_51 E d hd x1 x2 a0 b0 hv0 a hv hf hfe (show (((((x1 < 0 ∨ a0 146 9 ≤ x1) ∨ ¬ a0 159 (x1.toNat) = 0 - 1) ∨ a0 146 17 = 600) ∨ x2 < a0 156 (x1.toNat)) ∨ a0 146 0 < x2) from by omega)
    ·
      refine jt_bV (sp_X12_tells E d (jd_le hd rfl) y1 y2 a b0 hv (show (0 ≤ y1 ∧ y1 ≤ 299) from by omega) (show a 146 17 ≤ 599 from by omega)) (fun a145_ b145_ h145_ => ?_)
      obtain ⟨hv145_, hf145_, rfl, hq145_0⟩ := h145_
      have hf146_ : jfr jW_X12_arrive a0 a145_ := jfr_tr hf hf145_ rfl
      have h147_ := iv_get hv0 (k := 146) (j := 17) (l := 0) (u := 600) rfl
      have h148_ := iv_get hv0 (k := 156) (j := x1.toNat) (l := 0) (u := 1999) rfl
      exact cp_X12_arrive_59 E d hd x1 x2 a0 b0 hv0 a145_ hv145_ hf146_ (show 1 ≤ a0 146 9 from by omega) (show (((((0 ≤ x1 ∧ x1 < a0 146 9) ∧ a0 159 (x1.toNat) = 0 - 1) ∧ ¬ a0 146 17 = 600) ∧ a0 156 (x1.toNat) ≤ x2) ∧ x2 ≤ a0 146 0) from by omega) (by have q := hq145_0; rw [hy1, hy2, hfe 146 0 rfl, show cvR a = cvR a0 from cvR_fr hfe rfl] at q; exact q)
theorem sp_X12_arrive (E : jxE) (d : Nat) (hd : Nat.ble 2 d = true) (x1 x2 : Int) (a0 b0 : Nat → Nat → Int) (hv0 : iv a0) : jt (jxC E d 257 [.inr (.inr (.inl 146)), .inl x1, .inl x2] (jxSH, a0, b0)) (jQ_X12_arrive x1 x2 a0 b0) := by
  obtain ⟨d, rfl⟩ := jd_succ hd
  refine jt_eq (bq_X12_arrive E d x1 x2 a0 b0) ?_
  refine jt_eI (eq_X12_in E d (jd_le hd rfl) x1 0 (jxw ((a0 146 9) - 1)) a0 b0) ?_
  have h149_ := iv_get hv0 (k := 146) (j := 9) (l := 0) (u := 300) rfl
  have h150_ : jxw ((a0 146 9) - 1) = (a0 146 9) - 1 := jxw_id (by omega) (by omega)
  have h151_ := f_X12_in_eq a0 b0 x1 0 (jxw ((a0 146 9) - 1))
  refine jt_ite (fun c152_ => ?_) (fun c152_ => ?_)
  ·
    have h153_ := iv_get hv0 (k := 146) (j := 17) (l := 0) (u := 600) rfl
    have h154_ := iv_get hv0 (k := 156) (j := x1.toNat) (l := 0) (u := 1999) rfl
    have h155_ := iv_get hv0 (k := 146) (j := 0) (l := 0) (u := 1999) rfl
    exact cp_X12_arrive_51 E d hd x1 x2 a0 b0 hv0 a0 hv0 (jfr_rf _ _) (jfr_rf _ _) (show (((((x1 < 0 ∨ a0 146 9 ≤ x1) ∨ ¬ a0 159 (x1.toNat) = 0 - 1) ∨ a0 146 17 = 600) ∨ x2 < a0 156 (x1.toNat)) ∨ a0 146 0 < x2) from by omega)
  ·
    refine jt_grd (by omega) ?_
    refine jt_ite (fun c156_ => ?_) (fun c156_ => ?_)
    ·
      exact cp_X12_arrive_24 E d hd x1 x2 a0 b0 hv0 x1 x2 a0 hv0 (jfr_rf _ _) (show 0 ≤ x1 from by omega) (show x1 ≤ 299 from by omega) (show 1 ≤ a0 146 9 from by omega) (jfr_rf _ _) (by first | rfl | assumption) (by first | rfl | assumption) (show ((0 ≤ x1 ∧ x1 < a0 146 9) ∧ a0 159 (x1.toNat) = 0 - 1) from by omega)
    ·
      have h157_ := iv_get hv0 (k := 146) (j := 17) (l := 0) (u := 600) rfl
      have h158_ := iv_get hv0 (k := 156) (j := x1.toNat) (l := 0) (u := 1999) rfl
      have h159_ := iv_get hv0 (k := 146) (j := 0) (l := 0) (u := 1999) rfl
      exact cp_X12_arrive_51 E d hd x1 x2 a0 b0 hv0 a0 hv0 (jfr_rf _ _) (jfr_rf _ _) (show (((((x1 < 0 ∨ a0 146 9 ≤ x1) ∨ ¬ a0 159 (x1.toNat) = 0 - 1) ∨ a0 146 17 = 600) ∨ x2 < a0 156 (x1.toNat)) ∨ a0 146 0 < x2) from by omega)
abbrev jQ_X12_lastSentTo (x1 : Int) (a0 b0 : Nat → Nat → Int) : List jxV → (Nat → Nat → Int) → (Nat → Nat → Int) → Prop := rI (fun r a b => (a0 = a) ∧ (b0 = b) ∧ (r = lsF (cvR a0) x1 (a0 146 9).toNat))
theorem cp_X12_lastSentTo_4 (E : jxE) (d : Nat) (hd : Nat.ble 1 (d + 1) = true) (x1 : Int) (a0 b0 : Nat → Nat → Int) (hv0 : iv a0) : ∀ n : Nat, (∀ (y1 y2 y3 : Int), (((300 - y3) * 1) + 0).toNat ≤ n → 0 - 1 ≤ y2 → y2 ≤ 1999 → 0 ≤ y3 → y3 ≤ 299 → 0 ≤ y3 → y1 = x1 → y3 < a0 146 9 → (y2 = lsF (cvR a0) x1 (y3.toNat + 1)) → jt (jxX E d 250 39 [some (.inr (.inr (.inl 146))), some (.inl y1), some (.inl y2), some (.inl y3)] [] (jxSH, a0, b0)) (jQ_X12_lastSentTo x1 a0 b0)) ∧ (∀ (y1 y3 : Int), (((300 - y3) * 1) + 0).toNat ≤ n → 0 ≤ y1 → y1 ≤ 39 → 0 ≤ y3 → y3 ≤ 299 → 0 ≤ y3 → y1 = x1 → y3 < a0 146 9 → (a0 156 y3.toNat = lsF (cvR a0) x1 (y3.toNat + 1)) → jt (jxX E d 250 32 [some (.inr (.inr (.inl 146))), some (.inl y1), none, some (.inl y3)] [] (jxSH, a0, b0)) (jQ_X12_lastSentTo x1 a0 b0)) ∧ (∀ (y1 y2 y3 : Int), (((300 - y3) * 1) + 0).toNat ≤ n → 0 - 1 ≤ y2 → y2 ≤ 1999 → 0 ≤ y3 → y3 ≤ 300 → 0 ≤ y3 → y1 = x1 → y3 ≤ a0 146 9 → (y2 = lsF (cvR a0) x1 y3.toNat) → jt (jxX E d 250 4 [some (.inr (.inr (.inl 146))), some (.inl y1), some (.inl y2), some (.inl y3)] [] (jxSH, a0, b0)) (jQ_X12_lastSentTo x1 a0 b0)) := by
  refine jx_ind fun n ih => ?_
  have ih39 : ∀ (y1 y2 y3 : Int), (((300 - y3) * 1) + 0).toNat < n → 0 - 1 ≤ y2 → y2 ≤ 1999 → 0 ≤ y3 → y3 ≤ 299 → 0 ≤ y3 → y1 = x1 → y3 < a0 146 9 → (y2 = lsF (cvR a0) x1 (y3.toNat + 1)) → jt (jxX E d 250 39 [some (.inr (.inr (.inl 146))), some (.inl y1), some (.inl y2), some (.inl y3)] [] (jxSH, a0, b0)) (jQ_X12_lastSentTo x1 a0 b0) := fun y1 y2 y3 hlt i0 i1 i2 i3 i4 i5 i6 i7 => (ih _ hlt).1 y1 y2 y3 (Nat.le_refl _) i0 i1 i2 i3 i4 i5 i6 i7
  have ih32 : ∀ (y1 y3 : Int), (((300 - y3) * 1) + 0).toNat < n → 0 ≤ y1 → y1 ≤ 39 → 0 ≤ y3 → y3 ≤ 299 → 0 ≤ y3 → y1 = x1 → y3 < a0 146 9 → (a0 156 y3.toNat = lsF (cvR a0) x1 (y3.toNat + 1)) → jt (jxX E d 250 32 [some (.inr (.inr (.inl 146))), some (.inl y1), none, some (.inl y3)] [] (jxSH, a0, b0)) (jQ_X12_lastSentTo x1 a0 b0) := fun y1 y3 hlt i0 i1 i2 i3 i4 i5 i6 i7 => (ih _ hlt).2.1 y1 y3 (Nat.le_refl _) i0 i1 i2 i3 i4 i5 i6 i7
  have ih4 : ∀ (y1 y2 y3 : Int), (((300 - y3) * 1) + 0).toNat < n → 0 - 1 ≤ y2 → y2 ≤ 1999 → 0 ≤ y3 → y3 ≤ 300 → 0 ≤ y3 → y1 = x1 → y3 ≤ a0 146 9 → (y2 = lsF (cvR a0) x1 y3.toNat) → jt (jxX E d 250 4 [some (.inr (.inr (.inl 146))), some (.inl y1), some (.inl y2), some (.inl y3)] [] (jxSH, a0, b0)) (jQ_X12_lastSentTo x1 a0 b0) := fun y1 y2 y3 hlt i0 i1 i2 i3 i4 i5 i6 i7 => (ih _ hlt).2.2 y1 y2 y3 (Nat.le_refl _) i0 i1 i2 i3 i4 i5 i6 i7
  have hc39 : ∀ (y1 y2 y3 : Int), (((300 - y3) * 1) + 0).toNat ≤ n → 0 - 1 ≤ y2 → y2 ≤ 1999 → 0 ≤ y3 → y3 ≤ 299 → 0 ≤ y3 → y1 = x1 → y3 < a0 146 9 → (y2 = lsF (cvR a0) x1 (y3.toNat + 1)) → jt (jxX E d 250 39 [some (.inr (.inr (.inl 146))), some (.inl y1), some (.inl y2), some (.inl y3)] [] (jxSH, a0, b0)) (jQ_X12_lastSentTo x1 a0 b0) := by
    intro y1 y2 y3 hm hi0 hi1 hi2 hi3 hi4 hi5 hi6 hl
    refine jt_eq (bq_X12_lastSentTo_39 E d y1 y2 y3 a0 b0) ?_
    have h160_ := iv_get hv0 (k := 146) (j := 9) (l := 0) (u := 300) rfl
    have h161_ : jxw (y3 + 1) = y3 + 1 := jxw_id (by omega) (by omega)
    exact ih4 y1 y2 (jxw (y3 + 1)) (show (((300 - (jxw (y3 + 1))) * 1) + 0).toNat < n from by omega) (show 0 - 1 ≤ y2 from by omega) (show y2 ≤ 1999 from by omega) (show 0 ≤ jxw (y3 + 1) from by omega) (show jxw (y3 + 1) ≤ 300 from by omega) (show 0 ≤ jxw (y3 + 1) from by omega) (show y1 = x1 from by omega) (show jxw (y3 + 1) ≤ a0 146 9 from by omega) (by first | rfl | (rw [show (jxw (y3 + 1)).toNat = y3.toNat + 1 from by omega]; exact hl))
  have hc32 : ∀ (y1 y3 : Int), (((300 - y3) * 1) + 0).toNat ≤ n → 0 ≤ y1 → y1 ≤ 39 → 0 ≤ y3 → y3 ≤ 299 → 0 ≤ y3 → y1 = x1 → y3 < a0 146 9 → (a0 156 y3.toNat = lsF (cvR a0) x1 (y3.toNat + 1)) → jt (jxX E d 250 32 [some (.inr (.inr (.inl 146))), some (.inl y1), none, some (.inl y3)] [] (jxSH, a0, b0)) (jQ_X12_lastSentTo x1 a0 b0) := by
    intro y1 y3 hm hi0 hi1 hi2 hi3 hi4 hi5 hi6 hl
    refine jt_eq (bq_X12_lastSentTo_32 E d y1 y3 a0 b0) ?_
    have h162_ := iv_get hv0 (k := 146) (j := 9) (l := 0) (u := 300) rfl
    refine jt_grd (by omega) ?_
    have h163_ := iv_get hv0 (k := 156) (j := y3.toNat) (l := 0) (u := 1999) rfl
    exact hc39 y1 (a0 156 (y3.toNat)) y3 (show (((300 - y3) * 1) + 0).toNat ≤ n from by omega) (show 0 - 1 ≤ a0 156 (y3.toNat) from by omega) (show a0 156 (y3.toNat) ≤ 1999 from by omega) (show 0 ≤ y3 from by omega) (show y3 ≤ 299 from by omega) (show 0 ≤ y3 from by omega) (show y1 = x1 from by omega) (show y3 < a0 146 9 from by omega) (by first | exact hl | (rw [hls, ← hl, if_neg (fun q => by omega)]))
  have hc4 : ∀ (y1 y2 y3 : Int), (((300 - y3) * 1) + 0).toNat ≤ n → 0 - 1 ≤ y2 → y2 ≤ 1999 → 0 ≤ y3 → y3 ≤ 300 → 0 ≤ y3 → y1 = x1 → y3 ≤ a0 146 9 → (y2 = lsF (cvR a0) x1 y3.toNat) → jt (jxX E d 250 4 [some (.inr (.inr (.inl 146))), some (.inl y1), some (.inl y2), some (.inl y3)] [] (jxSH, a0, b0)) (jQ_X12_lastSentTo x1 a0 b0) := by
    intro y1 y2 y3 hm hi0 hi1 hi2 hi3 hi4 hi5 hi6 hl
    refine jt_eq (bq_X12_lastSentTo_4 E d y1 y2 y3 a0 b0) ?_
    have h164_ := iv_get hv0 (k := 146) (j := 9) (l := 0) (u := 300) rfl
    have hls : lsF (cvR a0) x1 (y3.toNat + 1) = if a0 155 y3.toNat = x1 ∧ lsF (cvR a0) x1 y3.toNat < a0 156 y3.toNat then a0 156 y3.toNat else lsF (cvR a0) x1 y3.toNat := rfl
    refine jt_ite (fun c165_ => ?_) (fun c165_ => ?_)
    ·
      refine jt_grd (by omega) ?_
      have h166_ := iv_get hv0 (k := 155) (j := y3.toNat) (l := 0) (u := 39) rfl
      refine jt_ite (fun c167_ => ?_) (fun c167_ => ?_)
      ·
        refine jt_grd (by omega) ?_
        have h168_ := iv_get hv0 (k := 156) (j := y3.toNat) (l := 0) (u := 1999) rfl
        refine jt_ite (fun c169_ => ?_) (fun c169_ => ?_)
        ·
          exact hc32 y1 y3 (show (((300 - y3) * 1) + 0).toNat ≤ n from by omega) (show 0 ≤ y1 from by omega) (show y1 ≤ 39 from by omega) (show 0 ≤ y3 from by omega) (show y3 ≤ 299 from by omega) (show 0 ≤ y3 from by omega) (show y1 = x1 from by omega) (show y3 < a0 146 9 from by omega) (by rw [hls, ← hl, if_pos ⟨by omega, by omega⟩])
        ·
          exact hc39 y1 y2 y3 (show (((300 - y3) * 1) + 0).toNat ≤ n from by omega) (show 0 - 1 ≤ y2 from by omega) (show y2 ≤ 1999 from by omega) (show 0 ≤ y3 from by omega) (show y3 ≤ 299 from by omega) (show 0 ≤ y3 from by omega) (show y1 = x1 from by omega) (show y3 < a0 146 9 from by omega) (by first | exact hl | (rw [hls, ← hl, if_neg (fun q => by omega)]))
      ·
        exact hc39 y1 y2 y3 (show (((300 - y3) * 1) + 0).toNat ≤ n from by omega) (show 0 - 1 ≤ y2 from by omega) (show y2 ≤ 1999 from by omega) (show 0 ≤ y3 from by omega) (show y3 ≤ 299 from by omega) (show 0 ≤ y3 from by omega) (show y1 = x1 from by omega) (show y3 < a0 146 9 from by omega) (by first | exact hl | (rw [hls, ← hl, if_neg (fun q => by omega)]))
    ·
      exact jt_rI ⟨rfl, rfl, (by rw [show (a0 146 9).toNat = y3.toNat from by omega]; exact hl)⟩
  exact ⟨hc39, hc32, hc4⟩
theorem sp_X12_lastSentTo (E : jxE) (d : Nat) (hd : Nat.ble 1 d = true) (x1 : Int) (a0 b0 : Nat → Nat → Int) (hv0 : iv a0) : jt (jxC E d 250 [.inr (.inr (.inl 146)), .inl x1] (jxSH, a0, b0)) (jQ_X12_lastSentTo x1 a0 b0) := by
  obtain ⟨d, rfl⟩ := jd_succ hd
  refine jt_eq (bq_X12_lastSentTo E d x1 a0 b0) ?_
  have h170_ := iv_get hv0 (k := 146) (j := 9) (l := 0) (u := 300) rfl
  exact (cp_X12_lastSentTo_4 E d hd x1 a0 b0 hv0 _).2.2 x1 (-1) 0 (Nat.le_refl _) (show 0 - 1 ≤ (-1) from by omega) (show (-1) ≤ 1999 from by omega) (show 0 ≤ 0 from by omega) (show 0 ≤ 300 from by omega) (show 0 ≤ 0 from by omega) (show x1 = x1 from by omega) (show 0 ≤ a0 146 9 from by omega) (by first | rfl | (rw [show (jxw (y3 + 1)).toNat = y3.toNat + 1 from by omega]; exact hl))
def jW_X12_spans : List (Nat × Nat) := [(146, 39), (146, 40), (146, 41)]
abbrev jQ_X12_spans (x1 x2 : Int) (a0 b0 : Nat → Nat → Int) : List jxV → (Nat → Nat → Int) → (Nat → Nat → Int) → Prop := rV (fun a b => (iv a) ∧ (jfr jW_X12_spans a0 a) ∧ (b0 = b) ∧ ((a0 146 17 = 0 → a 146 39 = 0)) ∧ ((a 146 39, a 146 40, a 146 41) = SPR a0 x1 x2))
theorem cp_X12_spans_24 (E : jxE) (d : Nat) (hd : Nat.ble 1 (d + 1) = true) (x1 x2 : Int) (a0 b0 : Nat → Nat → Int) (hv0 : iv a0) : ∀ n : Nat, (∀ (y1 y2 y3 : Int) (a : Nat → Nat → Int), (((y3 + 1) * 1) + 0).toNat ≤ n → iv a → jfr jW_X12_spans a0 a → 0 ≤ y3 → y3 ≤ 599 → 1 ≤ a0 146 17 → y1 = x1 → y2 = x2 → 0 ≤ y3 → y3 < a0 146 17 → y3 ≤ 599 → (SPN (pR a0 x1 x2) (dR a0) 1 y3.toNat (a 146 39, a 146 40, a 146 41) = SPR a0 x1 x2) → jt (jxX E d 238 182 [some (.inr (.inr (.inl 146))), some (.inl y1), some (.inl y2), some (.inl y3), none, none] [] (jxSH, a, b0)) (jQ_X12_spans x1 x2 a0 b0)) ∧ (∀ (y1 y2 y3 s1 : Int) (a : Nat → Nat → Int), (((y3 + 1) * 1) + 0).toNat ≤ n → iv a → jfr jW_X12_spans a0 a → 0 ≤ y1 → y1 ≤ 15 → 0 ≤ y2 → y2 ≤ 15 → 0 ≤ y3 → y3 ≤ 599 → a 146 39 ≤ 9 → 1 ≤ a0 146 17 → y1 = x1 → y2 = x2 → 0 ≤ y3 → y3 < a0 146 17 → y3 ≤ 599 → a 146 39 < 10 → (SPN (pR a0 x1 x2) (dR a0) 1 y3.toNat (a 146 39 + 1, a 146 40, s1) = SPR a0 x1 x2) → jt (jxX E d 238 169 [some (.inr (.inr (.inl 146))), some (.inl y1), some (.inl y2), some (.inl y3), none, none] [.inl s1, .inr (.inr (.inl 146))] (jxSH, a, b0)) (jQ_X12_spans x1 x2 a0 b0)) ∧ (∀ (y1 y2 y3 y5 s1 : Int) (a : Nat → Nat → Int), (((y3 + 1) * 1) + 0).toNat ≤ n → iv a → jfr jW_X12_spans a0 a → 0 ≤ y1 → y1 ≤ 15 → 0 ≤ y2 → y2 ≤ 15 → 0 ≤ y3 → y3 ≤ 599 → a 146 39 ≤ 9 → 1 ≤ a0 146 17 → y1 = x1 → y2 = x2 → 0 ≤ y3 → y3 < a0 146 17 → y3 ≤ 599 → a 146 39 < 10 → (SPN (pR a0 x1 x2) (dR a0) 1 (y3.toNat + 1) (a 146 39, a 146 40, a 146 41) = SPR a0 x1 x2) → (pR a0 x1 x2 y3.toNat = 1) → (y5 = dR a0 y3.toNat) → (s1 = if y5 < a 146 40 then y5 else a 146 40) → jt (jxX E d 238 147 [some (.inr (.inr (.inl 146))), some (.inl y1), some (.inl y2), some (.inl y3), none, some (.inl y5)] [.inl s1, .inr (.inr (.inl 146))] (jxSH, a, b0)) (jQ_X12_spans x1 x2 a0 b0)) ∧ (∀ (y1 y2 y3 y5 : Int) (a : Nat → Nat → Int), (((y3 + 1) * 1) + 0).toNat ≤ n → iv a → jfr jW_X12_spans a0 a → 0 ≤ y1 → y1 ≤ 15 → 0 ≤ y2 → y2 ≤ 15 → 0 ≤ y3 → y3 ≤ 599 → a 146 39 ≤ 9 → 1 ≤ a0 146 17 → y1 = x1 → y2 = x2 → 0 ≤ y3 → y3 < a0 146 17 → y3 ≤ 599 → a 146 39 < 10 → (SPN (pR a0 x1 x2) (dR a0) 1 (y3.toNat + 1) (a 146 39, a 146 40, a 146 41) = SPR a0 x1 x2) → (pR a0 x1 x2 y3.toNat = 1) → (y5 = dR a0 y3.toNat) → jt (jxX E d 238 128 [some (.inr (.inr (.inl 146))), some (.inl y1), some (.inl y2), some (.inl y3), none, some (.inl y5)] [] (jxSH, a, b0)) (jQ_X12_spans x1 x2 a0 b0)) ∧ (∀ (y1 y2 y3 y4 : Int) (a : Nat → Nat → Int), (((y3 + 1) * 1) + 0).toNat ≤ n → iv a → jfr jW_X12_spans a0 a → 0 ≤ y1 → y1 ≤ 15 → 0 ≤ y3 → y3 ≤ 599 → 0 ≤ y4 → y4 ≤ 299 → a 146 39 ≤ 9 → 1 ≤ a0 146 17 → y1 = x1 → y2 = x2 → 0 ≤ y3 → y3 < a0 146 17 → y3 ≤ 599 → a 146 39 < 10 → (SPN (pR a0 x1 x2) (dR a0) 1 (y3.toNat + 1) (a 146 39, a 146 40, a 146 41) = SPR a0 x1 x2) → (y4 = a0 161 y3.toNat) → (a0 160 y4.toNat = y3) → (¬ a0 162 y3.toNat = -1 ∧ a0 159 y4.toNat = -1 ∧ a0 148 (a0 154 y4.toNat).toNat = x1) → jt (jxX E d 238 93 [some (.inr (.inr (.inl 146))), some (.inl y1), some (.inl y2), some (.inl y3), some (.inl y4), none] [] (jxSH, a, b0)) (jQ_X12_spans x1 x2 a0 b0)) ∧ (∀ (y1 y2 y3 y4 : Int) (a : Nat → Nat → Int), (((y3 + 1) * 1) + 0).toNat ≤ n → iv a → jfr jW_X12_spans a0 a → 0 ≤ y3 → y3 ≤ 599 → 0 ≤ y4 → y4 ≤ 299 → a 146 39 ≤ 9 → 1 ≤ a0 146 17 → y1 = x1 → y2 = x2 → 0 ≤ y3 → y3 < a0 146 17 → y3 ≤ 599 → a 146 39 < 10 → (SPN (pR a0 x1 x2) (dR a0) 1 (y3.toNat + 1) (a 146 39, a 146 40, a 146 41) = SPR a0 x1 x2) → (y4 = a0 161 y3.toNat) → (a0 160 y4.toNat = y3) → jt (jxX E d 238 56 [some (.inr (.inr (.inl 146))), some (.inl y1), some (.inl y2), some (.inl y3), some (.inl y4), none] [] (jxSH, a, b0)) (jQ_X12_spans x1 x2 a0 b0)) ∧ (∀ (y1 y2 y3 : Int) (a : Nat → Nat → Int), (((y3 + 1) * 1) + 0).toNat ≤ n → iv a → jfr jW_X12_spans a0 a → 0 - 1 ≤ y3 → y3 ≤ 599 → (a0 146 17 = 0 → (y3 < 0 ∧ a 146 39 = 0)) → y1 = x1 → y2 = x2 → 0 - 1 ≤ y3 → y3 < a0 146 17 → (SPN (pR a0 x1 x2) (dR a0) 1 (y3 + 1).toNat (a 146 39, a 146 40, a 146 41) = SPR a0 x1 x2) → jt (jxX E d 238 24 [some (.inr (.inr (.inl 146))), some (.inl y1), some (.inl y2), some (.inl y3), none, none] [] (jxSH, a, b0)) (jQ_X12_spans x1 x2 a0 b0)) := by
  refine jx_ind fun n ih => ?_
  have ih182 : ∀ (y1 y2 y3 : Int) (a : Nat → Nat → Int), (((y3 + 1) * 1) + 0).toNat < n → iv a → jfr jW_X12_spans a0 a → 0 ≤ y3 → y3 ≤ 599 → 1 ≤ a0 146 17 → y1 = x1 → y2 = x2 → 0 ≤ y3 → y3 < a0 146 17 → y3 ≤ 599 → (SPN (pR a0 x1 x2) (dR a0) 1 y3.toNat (a 146 39, a 146 40, a 146 41) = SPR a0 x1 x2) → jt (jxX E d 238 182 [some (.inr (.inr (.inl 146))), some (.inl y1), some (.inl y2), some (.inl y3), none, none] [] (jxSH, a, b0)) (jQ_X12_spans x1 x2 a0 b0) := fun y1 y2 y3 a hlt i0 i1 i2 i3 i4 i5 i6 i7 i8 i9 i10 => (ih _ hlt).1 y1 y2 y3 a (Nat.le_refl _) i0 i1 i2 i3 i4 i5 i6 i7 i8 i9 i10
  have ih169 : ∀ (y1 y2 y3 s1 : Int) (a : Nat → Nat → Int), (((y3 + 1) * 1) + 0).toNat < n → iv a → jfr jW_X12_spans a0 a → 0 ≤ y1 → y1 ≤ 15 → 0 ≤ y2 → y2 ≤ 15 → 0 ≤ y3 → y3 ≤ 599 → a 146 39 ≤ 9 → 1 ≤ a0 146 17 → y1 = x1 → y2 = x2 → 0 ≤ y3 → y3 < a0 146 17 → y3 ≤ 599 → a 146 39 < 10 → (SPN (pR a0 x1 x2) (dR a0) 1 y3.toNat (a 146 39 + 1, a 146 40, s1) = SPR a0 x1 x2) → jt (jxX E d 238 169 [some (.inr (.inr (.inl 146))), some (.inl y1), some (.inl y2), some (.inl y3), none, none] [.inl s1, .inr (.inr (.inl 146))] (jxSH, a, b0)) (jQ_X12_spans x1 x2 a0 b0) := fun y1 y2 y3 s1 a hlt i0 i1 i2 i3 i4 i5 i6 i7 i8 i9 i10 i11 i12 i13 i14 i15 i16 => (ih _ hlt).2.1 y1 y2 y3 s1 a (Nat.le_refl _) i0 i1 i2 i3 i4 i5 i6 i7 i8 i9 i10 i11 i12 i13 i14 i15 i16
  have ih147 : ∀ (y1 y2 y3 y5 s1 : Int) (a : Nat → Nat → Int), (((y3 + 1) * 1) + 0).toNat < n → iv a → jfr jW_X12_spans a0 a → 0 ≤ y1 → y1 ≤ 15 → 0 ≤ y2 → y2 ≤ 15 → 0 ≤ y3 → y3 ≤ 599 → a 146 39 ≤ 9 → 1 ≤ a0 146 17 → y1 = x1 → y2 = x2 → 0 ≤ y3 → y3 < a0 146 17 → y3 ≤ 599 → a 146 39 < 10 → (SPN (pR a0 x1 x2) (dR a0) 1 (y3.toNat + 1) (a 146 39, a 146 40, a 146 41) = SPR a0 x1 x2) → (pR a0 x1 x2 y3.toNat = 1) → (y5 = dR a0 y3.toNat) → (s1 = if y5 < a 146 40 then y5 else a 146 40) → jt (jxX E d 238 147 [some (.inr (.inr (.inl 146))), some (.inl y1), some (.inl y2), some (.inl y3), none, some (.inl y5)] [.inl s1, .inr (.inr (.inl 146))] (jxSH, a, b0)) (jQ_X12_spans x1 x2 a0 b0) := fun y1 y2 y3 y5 s1 a hlt i0 i1 i2 i3 i4 i5 i6 i7 i8 i9 i10 i11 i12 i13 i14 i15 i16 i17 i18 i19 => (ih _ hlt).2.2.1 y1 y2 y3 y5 s1 a (Nat.le_refl _) i0 i1 i2 i3 i4 i5 i6 i7 i8 i9 i10 i11 i12 i13 i14 i15 i16 i17 i18 i19
  have ih128 : ∀ (y1 y2 y3 y5 : Int) (a : Nat → Nat → Int), (((y3 + 1) * 1) + 0).toNat < n → iv a → jfr jW_X12_spans a0 a → 0 ≤ y1 → y1 ≤ 15 → 0 ≤ y2 → y2 ≤ 15 → 0 ≤ y3 → y3 ≤ 599 → a 146 39 ≤ 9 → 1 ≤ a0 146 17 → y1 = x1 → y2 = x2 → 0 ≤ y3 → y3 < a0 146 17 → y3 ≤ 599 → a 146 39 < 10 → (SPN (pR a0 x1 x2) (dR a0) 1 (y3.toNat + 1) (a 146 39, a 146 40, a 146 41) = SPR a0 x1 x2) → (pR a0 x1 x2 y3.toNat = 1) → (y5 = dR a0 y3.toNat) → jt (jxX E d 238 128 [some (.inr (.inr (.inl 146))), some (.inl y1), some (.inl y2), some (.inl y3), none, some (.inl y5)] [] (jxSH, a, b0)) (jQ_X12_spans x1 x2 a0 b0) := fun y1 y2 y3 y5 a hlt i0 i1 i2 i3 i4 i5 i6 i7 i8 i9 i10 i11 i12 i13 i14 i15 i16 i17 i18 => (ih _ hlt).2.2.2.1 y1 y2 y3 y5 a (Nat.le_refl _) i0 i1 i2 i3 i4 i5 i6 i7 i8 i9 i10 i11 i12 i13 i14 i15 i16 i17 i18
  have ih93 : ∀ (y1 y2 y3 y4 : Int) (a : Nat → Nat → Int), (((y3 + 1) * 1) + 0).toNat < n → iv a → jfr jW_X12_spans a0 a → 0 ≤ y1 → y1 ≤ 15 → 0 ≤ y3 → y3 ≤ 599 → 0 ≤ y4 → y4 ≤ 299 → a 146 39 ≤ 9 → 1 ≤ a0 146 17 → y1 = x1 → y2 = x2 → 0 ≤ y3 → y3 < a0 146 17 → y3 ≤ 599 → a 146 39 < 10 → (SPN (pR a0 x1 x2) (dR a0) 1 (y3.toNat + 1) (a 146 39, a 146 40, a 146 41) = SPR a0 x1 x2) → (y4 = a0 161 y3.toNat) → (a0 160 y4.toNat = y3) → (¬ a0 162 y3.toNat = -1 ∧ a0 159 y4.toNat = -1 ∧ a0 148 (a0 154 y4.toNat).toNat = x1) → jt (jxX E d 238 93 [some (.inr (.inr (.inl 146))), some (.inl y1), some (.inl y2), some (.inl y3), some (.inl y4), none] [] (jxSH, a, b0)) (jQ_X12_spans x1 x2 a0 b0) := fun y1 y2 y3 y4 a hlt i0 i1 i2 i3 i4 i5 i6 i7 i8 i9 i10 i11 i12 i13 i14 i15 i16 i17 i18 i19 => (ih _ hlt).2.2.2.2.1 y1 y2 y3 y4 a (Nat.le_refl _) i0 i1 i2 i3 i4 i5 i6 i7 i8 i9 i10 i11 i12 i13 i14 i15 i16 i17 i18 i19
  have ih56 : ∀ (y1 y2 y3 y4 : Int) (a : Nat → Nat → Int), (((y3 + 1) * 1) + 0).toNat < n → iv a → jfr jW_X12_spans a0 a → 0 ≤ y3 → y3 ≤ 599 → 0 ≤ y4 → y4 ≤ 299 → a 146 39 ≤ 9 → 1 ≤ a0 146 17 → y1 = x1 → y2 = x2 → 0 ≤ y3 → y3 < a0 146 17 → y3 ≤ 599 → a 146 39 < 10 → (SPN (pR a0 x1 x2) (dR a0) 1 (y3.toNat + 1) (a 146 39, a 146 40, a 146 41) = SPR a0 x1 x2) → (y4 = a0 161 y3.toNat) → (a0 160 y4.toNat = y3) → jt (jxX E d 238 56 [some (.inr (.inr (.inl 146))), some (.inl y1), some (.inl y2), some (.inl y3), some (.inl y4), none] [] (jxSH, a, b0)) (jQ_X12_spans x1 x2 a0 b0) := fun y1 y2 y3 y4 a hlt i0 i1 i2 i3 i4 i5 i6 i7 i8 i9 i10 i11 i12 i13 i14 i15 i16 => (ih _ hlt).2.2.2.2.2.1 y1 y2 y3 y4 a (Nat.le_refl _) i0 i1 i2 i3 i4 i5 i6 i7 i8 i9 i10 i11 i12 i13 i14 i15 i16
  have ih24 : ∀ (y1 y2 y3 : Int) (a : Nat → Nat → Int), (((y3 + 1) * 1) + 0).toNat < n → iv a → jfr jW_X12_spans a0 a → 0 - 1 ≤ y3 → y3 ≤ 599 → (a0 146 17 = 0 → (y3 < 0 ∧ a 146 39 = 0)) → y1 = x1 → y2 = x2 → 0 - 1 ≤ y3 → y3 < a0 146 17 → (SPN (pR a0 x1 x2) (dR a0) 1 (y3 + 1).toNat (a 146 39, a 146 40, a 146 41) = SPR a0 x1 x2) → jt (jxX E d 238 24 [some (.inr (.inr (.inl 146))), some (.inl y1), some (.inl y2), some (.inl y3), none, none] [] (jxSH, a, b0)) (jQ_X12_spans x1 x2 a0 b0) := fun y1 y2 y3 a hlt i0 i1 i2 i3 i4 i5 i6 i7 i8 i9 => (ih _ hlt).2.2.2.2.2.2 y1 y2 y3 a (Nat.le_refl _) i0 i1 i2 i3 i4 i5 i6 i7 i8 i9
  have hc182 : ∀ (y1 y2 y3 : Int) (a : Nat → Nat → Int), (((y3 + 1) * 1) + 0).toNat ≤ n → iv a → jfr jW_X12_spans a0 a → 0 ≤ y3 → y3 ≤ 599 → 1 ≤ a0 146 17 → y1 = x1 → y2 = x2 → 0 ≤ y3 → y3 < a0 146 17 → y3 ≤ 599 → (SPN (pR a0 x1 x2) (dR a0) 1 y3.toNat (a 146 39, a 146 40, a 146 41) = SPR a0 x1 x2) → jt (jxX E d 238 182 [some (.inr (.inr (.inl 146))), some (.inl y1), some (.inl y2), some (.inl y3), none, none] [] (jxSH, a, b0)) (jQ_X12_spans x1 x2 a0 b0) := by
    intro y1 y2 y3 a hm hv hf hi0 hi1 hi2 hi3 hi4 hi5 hi6 hi7 hm
    refine jt_eq (bq_X12_spans_182 E d y1 y2 y3 a b0) ?_
    have h171_ := iv_get hv0 (k := 146) (j := 17) (l := 0) (u := 600) rfl
    have h172_ : jxw (y3 + (-1)) = y3 + (-1) := jxw_id (by omega) (by omega)
    have h173_ := iv_get hv (k := 146) (j := 39) (l := 0) (u := 10) rfl
    exact ih24 y1 y2 (jxw (y3 + (-1))) a (show ((((jxw (y3 + (-1))) + 1) * 1) + 0).toNat < n from by omega) hv hf (show 0 - 1 ≤ jxw (y3 + (-1)) from by omega) (show jxw (y3 + (-1)) ≤ 599 from by omega) (show (a0 146 17 = 0 → (jxw (y3 + (-1)) < 0 ∧ a 146 39 = 0)) from by omega) (show y1 = x1 from by omega) (show y2 = x2 from by omega) (show 0 - 1 ≤ jxw (y3 + (-1)) from by omega) (show jxw (y3 + (-1)) < a0 146 17 from by omega) (by rw [show (jxw (y3 + (-1)) + 1).toNat = y3.toNat from by omega]; exact hm)
  have hc169 : ∀ (y1 y2 y3 s1 : Int) (a : Nat → Nat → Int), (((y3 + 1) * 1) + 0).toNat ≤ n → iv a → jfr jW_X12_spans a0 a → 0 ≤ y1 → y1 ≤ 15 → 0 ≤ y2 → y2 ≤ 15 → 0 ≤ y3 → y3 ≤ 599 → a 146 39 ≤ 9 → 1 ≤ a0 146 17 → y1 = x1 → y2 = x2 → 0 ≤ y3 → y3 < a0 146 17 → y3 ≤ 599 → a 146 39 < 10 → (SPN (pR a0 x1 x2) (dR a0) 1 y3.toNat (a 146 39 + 1, a 146 40, s1) = SPR a0 x1 x2) → jt (jxX E d 238 169 [some (.inr (.inr (.inl 146))), some (.inl y1), some (.inl y2), some (.inl y3), none, none] [.inl s1, .inr (.inr (.inl 146))] (jxSH, a, b0)) (jQ_X12_spans x1 x2 a0 b0) := by
    intro y1 y2 y3 s1 a hm hv hf hi0 hi1 hi2 hi3 hi4 hi5 hi6 hi7 hi8 hi9 hi10 hi11 hi12 hi13 hm
    refine jt_eq (bq_X12_spans_169 E d y1 y2 y3 s1 a b0) ?_
    have h174_ := iv_get hv (k := 146) (j := 39) (l := 0) (u := 10) rfl
    have h175_ := iv_get hv0 (k := 146) (j := 17) (l := 0) (u := 600) rfl
    have hv176_ : iv (jxu a 146 41 s1) := iv_putf hv rfl
    have h178_ : jxw ((a 146 39) + 1) = (a 146 39) + 1 := jxw_id (by omega) (by omega)
    have hv177_ : iv (jxu (jxu a 146 41 s1) 146 39 (jxw ((a 146 39) + 1))) := iv_put hv176_ (l := 0) (u := 10) rfl (by omega) (by omega)
    have hf179_ : jfr jW_X12_spans a0 (jxu a 146 41 s1) := jfr_put hf rfl
    have hf180_ : jfr jW_X12_spans a0 (jxu (jxu a 146 41 s1) 146 39 (jxw ((a 146 39) + 1))) := jfr_put hf179_ rfl
    exact hc182 y1 y2 y3 (jxu (jxu a 146 41 s1) 146 39 (jxw ((a 146 39) + 1))) (show (((y3 + 1) * 1) + 0).toNat ≤ n from by omega) hv177_ hf180_ (show 0 ≤ y3 from by omega) (show y3 ≤ 599 from by omega) (show 1 ≤ a0 146 17 from by omega) (show y1 = x1 from by omega) (show y2 = x2 from by omega) (show 0 ≤ y3 from by omega) (show y3 < a0 146 17 from by omega) (show y3 ≤ 599 from by omega) (by show SPN _ _ 1 y3.toNat (jxw ((a 146 39) + 1), a 146 40, s1) = _; rw [show jxw ((a 146 39) + 1) = a 146 39 + 1 from by omega]; exact hm)
  have hc147 : ∀ (y1 y2 y3 y5 s1 : Int) (a : Nat → Nat → Int), (((y3 + 1) * 1) + 0).toNat ≤ n → iv a → jfr jW_X12_spans a0 a → 0 ≤ y1 → y1 ≤ 15 → 0 ≤ y2 → y2 ≤ 15 → 0 ≤ y3 → y3 ≤ 599 → a 146 39 ≤ 9 → 1 ≤ a0 146 17 → y1 = x1 → y2 = x2 → 0 ≤ y3 → y3 < a0 146 17 → y3 ≤ 599 → a 146 39 < 10 → (SPN (pR a0 x1 x2) (dR a0) 1 (y3.toNat + 1) (a 146 39, a 146 40, a 146 41) = SPR a0 x1 x2) → (pR a0 x1 x2 y3.toNat = 1) → (y5 = dR a0 y3.toNat) → (s1 = if y5 < a 146 40 then y5 else a 146 40) → jt (jxX E d 238 147 [some (.inr (.inr (.inl 146))), some (.inl y1), some (.inl y2), some (.inl y3), none, some (.inl y5)] [.inl s1, .inr (.inr (.inl 146))] (jxSH, a, b0)) (jQ_X12_spans x1 x2 a0 b0) := by
    intro y1 y2 y3 y5 s1 a hm hv hf hi0 hi1 hi2 hi3 hi4 hi5 hi6 hi7 hi8 hi9 hi10 hi11 hi12 hi13 hm hp hy5 hs1
    refine jt_eq (bq_X12_spans_147 E d y1 y2 y3 y5 s1 a b0) ?_
    have h181_ := iv_get hv (k := 146) (j := 39) (l := 0) (u := 10) rfl
    have h182_ := iv_get hv0 (k := 146) (j := 17) (l := 0) (u := 600) rfl
    refine jt_ite (fun c183_ => ?_) (fun c183_ => ?_)
    ·
      have hv184_ : iv (jxu a 146 40 s1) := iv_putf hv rfl
      have hf185_ : jfr jW_X12_spans a0 (jxu a 146 40 s1) := jfr_put hf rfl
      exact hc169 y1 y2 y3 y5 (jxu a 146 40 s1) (show (((y3 + 1) * 1) + 0).toNat ≤ n from by omega) hv184_ hf185_ (show 0 ≤ y1 from by omega) (show y1 ≤ 15 from by omega) (show 0 ≤ y2 from by omega) (show y2 ≤ 15 from by omega) (show 0 ≤ y3 from by omega) (show y3 ≤ 599 from by omega) (show a 146 39 ≤ 9 from by omega) (show 1 ≤ a0 146 17 from by omega) (show y1 = x1 from by omega) (show y2 = x2 from by omega) (show 0 ≤ y3 from by omega) (show y3 < a0 146 17 from by omega) (show y3 ≤ 599 from by omega) (show a 146 39 < 10 from by omega) (by have q := hm; rw [SPN_yes (by omega) hp, if_neg (fun z => absurd z.2 (by decide)), ← hy5, ← hs1] at q; first | (rw [if_pos (by assumption)] at q; exact q) | (rw [if_neg (by assumption)] at q; exact q))
    ·
      have hv186_ : iv (jxu a 146 40 s1) := iv_putf hv rfl
      have hf187_ : jfr jW_X12_spans a0 (jxu a 146 40 s1) := jfr_put hf rfl
      exact hc169 y1 y2 y3 (a 146 41) (jxu a 146 40 s1) (show (((y3 + 1) * 1) + 0).toNat ≤ n from by omega) hv186_ hf187_ (show 0 ≤ y1 from by omega) (show y1 ≤ 15 from by omega) (show 0 ≤ y2 from by omega) (show y2 ≤ 15 from by omega) (show 0 ≤ y3 from by omega) (show y3 ≤ 599 from by omega) (show a 146 39 ≤ 9 from by omega) (show 1 ≤ a0 146 17 from by omega) (show y1 = x1 from by omega) (show y2 = x2 from by omega) (show 0 ≤ y3 from by omega) (show y3 < a0 146 17 from by omega) (show y3 ≤ 599 from by omega) (show a 146 39 < 10 from by omega) (by have q := hm; rw [SPN_yes (by omega) hp, if_neg (fun z => absurd z.2 (by decide)), ← hy5, ← hs1] at q; first | (rw [if_pos (by assumption)] at q; exact q) | (rw [if_neg (by assumption)] at q; exact q))
  have hc128 : ∀ (y1 y2 y3 y5 : Int) (a : Nat → Nat → Int), (((y3 + 1) * 1) + 0).toNat ≤ n → iv a → jfr jW_X12_spans a0 a → 0 ≤ y1 → y1 ≤ 15 → 0 ≤ y2 → y2 ≤ 15 → 0 ≤ y3 → y3 ≤ 599 → a 146 39 ≤ 9 → 1 ≤ a0 146 17 → y1 = x1 → y2 = x2 → 0 ≤ y3 → y3 < a0 146 17 → y3 ≤ 599 → a 146 39 < 10 → (SPN (pR a0 x1 x2) (dR a0) 1 (y3.toNat + 1) (a 146 39, a 146 40, a 146 41) = SPR a0 x1 x2) → (pR a0 x1 x2 y3.toNat = 1) → (y5 = dR a0 y3.toNat) → jt (jxX E d 238 128 [some (.inr (.inr (.inl 146))), some (.inl y1), some (.inl y2), some (.inl y3), none, some (.inl y5)] [] (jxSH, a, b0)) (jQ_X12_spans x1 x2 a0 b0) := by
    intro y1 y2 y3 y5 a hm hv hf hi0 hi1 hi2 hi3 hi4 hi5 hi6 hi7 hi8 hi9 hi10 hi11 hi12 hi13 hm hp hy5
    refine jt_eq (bq_X12_spans_128 E d y1 y2 y3 y5 a b0) ?_
    have h188_ := iv_get hv (k := 146) (j := 39) (l := 0) (u := 10) rfl
    have h189_ := iv_get hv0 (k := 146) (j := 17) (l := 0) (u := 600) rfl
    refine jt_ite (fun c190_ => ?_) (fun c190_ => ?_)
    ·
      exact hc147 y1 y2 y3 y5 y5 a (show (((y3 + 1) * 1) + 0).toNat ≤ n from by omega) hv hf (show 0 ≤ y1 from by omega) (show y1 ≤ 15 from by omega) (show 0 ≤ y2 from by omega) (show y2 ≤ 15 from by omega) (show 0 ≤ y3 from by omega) (show y3 ≤ 599 from by omega) (show a 146 39 ≤ 9 from by omega) (show 1 ≤ a0 146 17 from by omega) (show y1 = x1 from by omega) (show y2 = x2 from by omega) (show 0 ≤ y3 from by omega) (show y3 < a0 146 17 from by omega) (show y3 ≤ 599 from by omega) (show a 146 39 < 10 from by omega) hm hp hy5 (by first | rw [if_pos (by assumption)] | rw [if_neg (by assumption)])
    ·
      exact hc147 y1 y2 y3 y5 (a 146 40) a (show (((y3 + 1) * 1) + 0).toNat ≤ n from by omega) hv hf (show 0 ≤ y1 from by omega) (show y1 ≤ 15 from by omega) (show 0 ≤ y2 from by omega) (show y2 ≤ 15 from by omega) (show 0 ≤ y3 from by omega) (show y3 ≤ 599 from by omega) (show a 146 39 ≤ 9 from by omega) (show 1 ≤ a0 146 17 from by omega) (show y1 = x1 from by omega) (show y2 = x2 from by omega) (show 0 ≤ y3 from by omega) (show y3 < a0 146 17 from by omega) (show y3 ≤ 599 from by omega) (show a 146 39 < 10 from by omega) hm hp hy5 (by first | rw [if_pos (by assumption)] | rw [if_neg (by assumption)])
  have hc93 : ∀ (y1 y2 y3 y4 : Int) (a : Nat → Nat → Int), (((y3 + 1) * 1) + 0).toNat ≤ n → iv a → jfr jW_X12_spans a0 a → 0 ≤ y1 → y1 ≤ 15 → 0 ≤ y3 → y3 ≤ 599 → 0 ≤ y4 → y4 ≤ 299 → a 146 39 ≤ 9 → 1 ≤ a0 146 17 → y1 = x1 → y2 = x2 → 0 ≤ y3 → y3 < a0 146 17 → y3 ≤ 599 → a 146 39 < 10 → (SPN (pR a0 x1 x2) (dR a0) 1 (y3.toNat + 1) (a 146 39, a 146 40, a 146 41) = SPR a0 x1 x2) → (y4 = a0 161 y3.toNat) → (a0 160 y4.toNat = y3) → (¬ a0 162 y3.toNat = -1 ∧ a0 159 y4.toNat = -1 ∧ a0 148 (a0 154 y4.toNat).toNat = x1) → jt (jxX E d 238 93 [some (.inr (.inr (.inl 146))), some (.inl y1), some (.inl y2), some (.inl y3), some (.inl y4), none] [] (jxSH, a, b0)) (jQ_X12_spans x1 x2 a0 b0) := by
    intro y1 y2 y3 y4 a hm hv hf hi0 hi1 hi2 hi3 hi4 hi5 hi6 hi7 hi8 hi9 hi10 hi11 hi12 hi13 hm hy4 hlt hq93
    refine jt_eq (bq_X12_spans_93 E d y1 y2 y3 y4 a b0) ?_
    have h191_ := iv_get hv (k := 146) (j := 39) (l := 0) (u := 10) rfl
    have h192_ := iv_get hv0 (k := 146) (j := 17) (l := 0) (u := 600) rfl
    refine jt_grd (by omega) ?_
    have h193_ := iv_get hv (k := 155) (j := y4.toNat) (l := 0) (u := 39) rfl
    have h194_ : a 155 (y4.toNat) = a0 155 (y4.toNat) := hf 155 (y4.toNat) rfl
    have h195_ := iv_get hv0 (k := 155) (j := y4.toNat) (l := 0) (u := 39) rfl
    refine jt_grd (by omega) ?_
    have h196_ := iv_get hv (k := 148) (j := (a 155 (y4.toNat)).toNat) (l := 0) (u := 15) rfl
    have h197_ : a 148 ((a 155 (y4.toNat)).toNat) = a0 148 ((a 155 (y4.toNat)).toNat) := hf 148 ((a 155 (y4.toNat)).toNat) rfl
    have h198_ := iv_get hv0 (k := 148) (j := (a 155 (y4.toNat)).toNat) (l := 0) (u := 15) rfl
    refine jt_ite (fun c199_ => ?_) (fun c199_ => ?_)
    ·
      refine jt_grd (by omega) ?_
      refine jt_grd (by omega) ?_
      have h200_ : a 162 (y3.toNat) = a0 162 (y3.toNat) := hf 162 (y3.toNat) rfl
      have h201_ := iv_get hv (k := 156) (j := y4.toNat) (l := 0) (u := 1999) rfl
      have h202_ : a 156 (y4.toNat) = a0 156 (y4.toNat) := hf 156 (y4.toNat) rfl
      have h203_ := iv_get hv0 (k := 156) (j := y4.toNat) (l := 0) (u := 1999) rfl
      have h204_ := jxw_im ((a 162 (y3.toNat)) - (a 156 (y4.toNat)))
      have h205_ := jxw_rg ((a 162 (y3.toNat)) - (a 156 (y4.toNat)))
      exact hc128 y1 y2 y3 (jxw ((a 162 (y3.toNat)) - (a 156 (y4.toNat)))) a (show (((y3 + 1) * 1) + 0).toNat ≤ n from by omega) hv hf (show 0 ≤ y1 from by omega) (show y1 ≤ 15 from by omega) (show 0 ≤ y2 from by omega) (show y2 ≤ 15 from by omega) (show 0 ≤ y3 from by omega) (show y3 ≤ 599 from by omega) (show a 146 39 ≤ 9 from by omega) (show 1 ≤ a0 146 17 from by omega) (show y1 = x1 from by omega) (show y2 = x2 from by omega) (show 0 ≤ y3 from by omega) (show y3 < a0 146 17 from by omega) (show y3 ≤ 599 from by omega) (show a 146 39 < 10 from by omega) hm (pR_iff.2 (by rw [← hy4]; have e3 := hf 155 (y4.toNat) rfl; have e4 := hf 148 ((a 155 (y4.toNat)).toNat) rfl; rw [e3] at e4; exact ⟨by rw [hlt]; omega, hq93.1, hq93.2.1, hq93.2.2, by rw [← e4, ← e3]; omega⟩)) (by show _ = jxw (a0 162 y3.toNat - a0 156 (a0 161 y3.toNat).toNat); rw [← hy4, hf 162 _ rfl, hf 156 _ rfl])
    ·
      exact hc182 y1 y2 y3 a (show (((y3 + 1) * 1) + 0).toNat ≤ n from by omega) hv hf (show 0 ≤ y3 from by omega) (show y3 ≤ 599 from by omega) (show 1 ≤ a0 146 17 from by omega) (show y1 = x1 from by omega) (show y2 = x2 from by omega) (show 0 ≤ y3 from by omega) (show y3 < a0 146 17 from by omega) (show y3 ≤ 599 from by omega) (by have q := hm; rw [SPN_no (by omega) (fun h => by have z := pR_iff.1 h; rw [← hy4] at z; have e1 := hf 162 (y3.toNat) rfl; have e2 := hf 159 (y4.toNat) rfl; have e3 := hf 154 (y4.toNat) rfl; have e4 := hf 148 ((a 154 (y4.toNat)).toNat) rfl; have e5 := hf 155 (y4.toNat) rfl; have e6 := hf 148 ((a 155 (y4.toNat)).toNat) rfl; rw [← e3, ← e5, ← e4, ← e6] at z; omega)] at q; exact q)
  have hc56 : ∀ (y1 y2 y3 y4 : Int) (a : Nat → Nat → Int), (((y3 + 1) * 1) + 0).toNat ≤ n → iv a → jfr jW_X12_spans a0 a → 0 ≤ y3 → y3 ≤ 599 → 0 ≤ y4 → y4 ≤ 299 → a 146 39 ≤ 9 → 1 ≤ a0 146 17 → y1 = x1 → y2 = x2 → 0 ≤ y3 → y3 < a0 146 17 → y3 ≤ 599 → a 146 39 < 10 → (SPN (pR a0 x1 x2) (dR a0) 1 (y3.toNat + 1) (a 146 39, a 146 40, a 146 41) = SPR a0 x1 x2) → (y4 = a0 161 y3.toNat) → (a0 160 y4.toNat = y3) → jt (jxX E d 238 56 [some (.inr (.inr (.inl 146))), some (.inl y1), some (.inl y2), some (.inl y3), some (.inl y4), none] [] (jxSH, a, b0)) (jQ_X12_spans x1 x2 a0 b0) := by
    intro y1 y2 y3 y4 a hm hv hf hi0 hi1 hi2 hi3 hi4 hi5 hi6 hi7 hi8 hi9 hi10 hi11 hm hy4 hlt
    refine jt_eq (bq_X12_spans_56 E d y1 y2 y3 y4 a b0) ?_
    have h206_ := iv_get hv (k := 146) (j := 39) (l := 0) (u := 10) rfl
    have h207_ := iv_get hv0 (k := 146) (j := 17) (l := 0) (u := 600) rfl
    refine jt_grd (by omega) ?_
    have h208_ : a 162 (y3.toNat) = a0 162 (y3.toNat) := hf 162 (y3.toNat) rfl
    refine jt_ite (fun c209_ => ?_) (fun c209_ => ?_)
    ·
      exact hc182 y1 y2 y3 a (show (((y3 + 1) * 1) + 0).toNat ≤ n from by omega) hv hf (show 0 ≤ y3 from by omega) (show y3 ≤ 599 from by omega) (show 1 ≤ a0 146 17 from by omega) (show y1 = x1 from by omega) (show y2 = x2 from by omega) (show 0 ≤ y3 from by omega) (show y3 < a0 146 17 from by omega) (show y3 ≤ 599 from by omega) (by have q := hm; rw [SPN_no (by omega) (fun h => by have z := pR_iff.1 h; rw [← hy4] at z; have e1 := hf 162 (y3.toNat) rfl; have e2 := hf 159 (y4.toNat) rfl; have e3 := hf 154 (y4.toNat) rfl; have e4 := hf 148 ((a 154 (y4.toNat)).toNat) rfl; have e5 := hf 155 (y4.toNat) rfl; have e6 := hf 148 ((a 155 (y4.toNat)).toNat) rfl; rw [← e3, ← e5, ← e4, ← e6] at z; omega)] at q; exact q)
    ·
      refine jt_grd (by omega) ?_
      have h210_ : a 159 (y4.toNat) = a0 159 (y4.toNat) := hf 159 (y4.toNat) rfl
      refine jt_ite (fun c211_ => ?_) (fun c211_ => ?_)
      ·
        refine jt_grd (by omega) ?_
        have h212_ := iv_get hv (k := 154) (j := y4.toNat) (l := 0) (u := 39) rfl
        have h213_ : a 154 (y4.toNat) = a0 154 (y4.toNat) := hf 154 (y4.toNat) rfl
        have h214_ := iv_get hv0 (k := 154) (j := y4.toNat) (l := 0) (u := 39) rfl
        refine jt_grd (by omega) ?_
        have h215_ := iv_get hv (k := 148) (j := (a 154 (y4.toNat)).toNat) (l := 0) (u := 15) rfl
        have h216_ : a 148 ((a 154 (y4.toNat)).toNat) = a0 148 ((a 154 (y4.toNat)).toNat) := hf 148 ((a 154 (y4.toNat)).toNat) rfl
        have h217_ := iv_get hv0 (k := 148) (j := (a 154 (y4.toNat)).toNat) (l := 0) (u := 15) rfl
        refine jt_ite (fun c218_ => ?_) (fun c218_ => ?_)
        ·
          exact hc93 y1 y2 y3 y4 a (show (((y3 + 1) * 1) + 0).toNat ≤ n from by omega) hv hf (show 0 ≤ y1 from by omega) (show y1 ≤ 15 from by omega) (show 0 ≤ y3 from by omega) (show y3 ≤ 599 from by omega) (show 0 ≤ y4 from by omega) (show y4 ≤ 299 from by omega) (show a 146 39 ≤ 9 from by omega) (show 1 ≤ a0 146 17 from by omega) (show y1 = x1 from by omega) (show y2 = x2 from by omega) (show 0 ≤ y3 from by omega) (show y3 < a0 146 17 from by omega) (show y3 ≤ 599 from by omega) (show a 146 39 < 10 from by omega) hm (by first | assumption | exact hf 161 _ rfl) (by first | assumption | (rw [← hf 160 _ rfl]; assumption)) (by have e1 := hf 162 (y3.toNat) rfl; have e2 := hf 159 (y4.toNat) rfl; have e3 := hf 154 (y4.toNat) rfl; have e4 := hf 148 ((a 154 (y4.toNat)).toNat) rfl; rw [← e3, ← e4]; exact ⟨by omega, by omega, by omega⟩)
        ·
          exact hc182 y1 y2 y3 a (show (((y3 + 1) * 1) + 0).toNat ≤ n from by omega) hv hf (show 0 ≤ y3 from by omega) (show y3 ≤ 599 from by omega) (show 1 ≤ a0 146 17 from by omega) (show y1 = x1 from by omega) (show y2 = x2 from by omega) (show 0 ≤ y3 from by omega) (show y3 < a0 146 17 from by omega) (show y3 ≤ 599 from by omega) (by have q := hm; rw [SPN_no (by omega) (fun h => by have z := pR_iff.1 h; rw [← hy4] at z; have e1 := hf 162 (y3.toNat) rfl; have e2 := hf 159 (y4.toNat) rfl; have e3 := hf 154 (y4.toNat) rfl; have e4 := hf 148 ((a 154 (y4.toNat)).toNat) rfl; have e5 := hf 155 (y4.toNat) rfl; have e6 := hf 148 ((a 155 (y4.toNat)).toNat) rfl; rw [← e3, ← e5, ← e4, ← e6] at z; omega)] at q; exact q)
      ·
        exact hc182 y1 y2 y3 a (show (((y3 + 1) * 1) + 0).toNat ≤ n from by omega) hv hf (show 0 ≤ y3 from by omega) (show y3 ≤ 599 from by omega) (show 1 ≤ a0 146 17 from by omega) (show y1 = x1 from by omega) (show y2 = x2 from by omega) (show 0 ≤ y3 from by omega) (show y3 < a0 146 17 from by omega) (show y3 ≤ 599 from by omega) (by have q := hm; rw [SPN_no (by omega) (fun h => by have z := pR_iff.1 h; rw [← hy4] at z; have e1 := hf 162 (y3.toNat) rfl; have e2 := hf 159 (y4.toNat) rfl; have e3 := hf 154 (y4.toNat) rfl; have e4 := hf 148 ((a 154 (y4.toNat)).toNat) rfl; have e5 := hf 155 (y4.toNat) rfl; have e6 := hf 148 ((a 155 (y4.toNat)).toNat) rfl; rw [← e3, ← e5, ← e4, ← e6] at z; omega)] at q; exact q)
  have hc24 : ∀ (y1 y2 y3 : Int) (a : Nat → Nat → Int), (((y3 + 1) * 1) + 0).toNat ≤ n → iv a → jfr jW_X12_spans a0 a → 0 - 1 ≤ y3 → y3 ≤ 599 → (a0 146 17 = 0 → (y3 < 0 ∧ a 146 39 = 0)) → y1 = x1 → y2 = x2 → 0 - 1 ≤ y3 → y3 < a0 146 17 → (SPN (pR a0 x1 x2) (dR a0) 1 (y3 + 1).toNat (a 146 39, a 146 40, a 146 41) = SPR a0 x1 x2) → jt (jxX E d 238 24 [some (.inr (.inr (.inl 146))), some (.inl y1), some (.inl y2), some (.inl y3), none, none] [] (jxSH, a, b0)) (jQ_X12_spans x1 x2 a0 b0) := by
    intro y1 y2 y3 a hm hv hf hi0 hi1 hi2 hi3 hi4 hi5 hi6 hm
    refine jt_eq (bq_X12_spans_24 E d y1 y2 y3 a b0) ?_
    have h219_ := iv_get hv0 (k := 146) (j := 17) (l := 0) (u := 600) rfl
    have h220_ := iv_get hv (k := 146) (j := 39) (l := 0) (u := 10) rfl
    refine jt_ite (fun c221_ => ?_) (fun c221_ => ?_)
    ·
      exact jt_rV ⟨hv, hf, rfl, (show (a0 146 17 = 0 → a 146 39 = 0) from by omega), (by first | (have q := hm; rw [show (y3 + 1).toNat = 0 from by omega] at q; exact q) | (have q := hm; rw [SPN_stop (by omega)] at q; exact q))⟩
    ·
      refine jt_ite (fun c222_ => ?_) (fun c222_ => ?_)
      ·
        refine jt_grd (by omega) ?_
        have h223_ := iv_get hv (k := 161) (j := y3.toNat) (l := 0) (u := 299) rfl
        have h224_ : a 161 (y3.toNat) = a0 161 (y3.toNat) := hf 161 (y3.toNat) rfl
        have h225_ := iv_get hv0 (k := 161) (j := y3.toNat) (l := 0) (u := 299) rfl
        refine jt_grd (by omega) ?_
        have h226_ := iv_get hv (k := 160) (j := (a 161 (y3.toNat)).toNat) (l := (-1)) (u := 599) rfl
        have h227_ : a 160 ((a 161 (y3.toNat)).toNat) = a0 160 ((a 161 (y3.toNat)).toNat) := hf 160 ((a 161 (y3.toNat)).toNat) rfl
        have h228_ := iv_get hv0 (k := 160) (j := (a 161 (y3.toNat)).toNat) (l := (-1)) (u := 599) rfl
        refine jt_ite (fun c229_ => ?_) (fun c229_ => ?_)
        ·
          exact hc56 y1 y2 y3 (a 161 (y3.toNat)) a (show (((y3 + 1) * 1) + 0).toNat ≤ n from by omega) hv hf (show 0 ≤ y3 from by omega) (show y3 ≤ 599 from by omega) (show 0 ≤ a 161 (y3.toNat) from by omega) (show a 161 (y3.toNat) ≤ 299 from by omega) (show a 146 39 ≤ 9 from by omega) (show 1 ≤ a0 146 17 from by omega) (show y1 = x1 from by omega) (show y2 = x2 from by omega) (show 0 ≤ y3 from by omega) (show y3 < a0 146 17 from by omega) (show y3 ≤ 599 from by omega) (show a 146 39 < 10 from by omega) (by have q := hm; rw [show (y3 + 1).toNat = y3.toNat + 1 from by omega] at q; exact q) (by first | assumption | exact hf 161 _ rfl) (by first | assumption | (rw [← hf 160 _ rfl]; assumption))
        ·
          exact hc182 y1 y2 y3 a (show (((y3 + 1) * 1) + 0).toNat ≤ n from by omega) hv hf (show 0 ≤ y3 from by omega) (show y3 ≤ 599 from by omega) (show 1 ≤ a0 146 17 from by omega) (show y1 = x1 from by omega) (show y2 = x2 from by omega) (show 0 ≤ y3 from by omega) (show y3 < a0 146 17 from by omega) (show y3 ≤ 599 from by omega) (by have q := hm; rw [show (y3 + 1).toNat = y3.toNat + 1 from by omega] at q; rw [SPN_no (by omega) (fun h => by have z := pR_iff.1 h; have e1 := hf 160 ((a 161 (y3.toNat)).toNat) rfl; have e2 := hf 161 (y3.toNat) rfl; rw [← e2] at z; omega)] at q; exact q)
      ·
        exact jt_rV ⟨hv, hf, rfl, (show (a0 146 17 = 0 → a 146 39 = 0) from by omega), (by first | (have q := hm; rw [show (y3 + 1).toNat = 0 from by omega] at q; exact q) | (have q := hm; rw [SPN_stop (by omega)] at q; exact q))⟩
  exact ⟨hc182, hc169, hc147, hc128, hc93, hc56, hc24⟩
theorem sp_X12_spans (E : jxE) (d : Nat) (hd : Nat.ble 1 d = true) (x1 x2 : Int) (a0 b0 : Nat → Nat → Int) (hv0 : iv a0) : jt (jxC E d 238 [.inr (.inr (.inl 146)), .inl x1, .inl x2] (jxSH, a0, b0)) (jQ_X12_spans x1 x2 a0 b0) := by
  obtain ⟨d, rfl⟩ := jd_succ hd
  refine jt_eq (bq_X12_spans E d x1 x2 a0 b0) ?_
  have hv230_ : iv (jxu a0 146 39 0) := iv_put hv0 (l := 0) (u := 10) rfl (by omega) (by omega)
  have hv231_ : iv (jxu (jxu a0 146 39 0) 146 40 1000000) := iv_putf hv230_ rfl
  have hv232_ : iv (jxu (jxu (jxu a0 146 39 0) 146 40 1000000) 146 41 0) := iv_putf hv231_ rfl
  have hf233_ : jfr jW_X12_spans a0 (jxu a0 146 39 0) := jfr_put (jfr_rf _ _) rfl
  have hf234_ : jfr jW_X12_spans a0 (jxu (jxu a0 146 39 0) 146 40 1000000) := jfr_put hf233_ rfl
  have hf235_ : jfr jW_X12_spans a0 (jxu (jxu (jxu a0 146 39 0) 146 40 1000000) 146 41 0) := jfr_put hf234_ rfl
  have h236_ := iv_get hv0 (k := 146) (j := 17) (l := 0) (u := 600) rfl
  have h237_ : jxw ((a0 146 17) - 1) = (a0 146 17) - 1 := jxw_id (by omega) (by omega)
  exact (cp_X12_spans_24 E d hd x1 x2 a0 b0 hv0 _).2.2.2.2.2.2 x1 x2 (jxw ((a0 146 17) - 1)) (jxu (jxu (jxu a0 146 39 0) 146 40 1000000) 146 41 0) (Nat.le_refl _) hv232_ hf235_ (show 0 - 1 ≤ jxw ((a0 146 17) - 1) from by omega) (show jxw ((a0 146 17) - 1) ≤ 599 from by omega) (show (a0 146 17 = 0 → (jxw ((a0 146 17) - 1) < 0 ∧ 0 = 0)) from by omega) (show x1 = x1 from by omega) (show x2 = x2 from by omega) (show 0 - 1 ≤ jxw ((a0 146 17) - 1) from by omega) (show jxw ((a0 146 17) - 1) < a0 146 17 from by omega) (by show SPN _ _ 1 (jxw ((a0 146 17) - 1) + 1).toNat (0, 1000000, 0) = _; rw [show (jxw ((a0 146 17) - 1) + 1).toNat = (a0 146 17).toNat from by omega]; rfl)
def jWse1 : List (Nat × Nat) := [(146, 39), (146, 40), (146, 41)]
def jWse2 : List (Nat × Nat) := [(146, 39), (146, 40), (146, 41), (154, 9999), (155, 9999), (156, 9999)]
def jWse3 : List (Nat × Nat) := [(146, 39), (146, 40), (146, 41), (154, 9999), (155, 9999), (156, 9999), (157, 9999), (158, 9999), (159, 9999)]
def jW_X12_sends : List (Nat × Nat) := [(146, 9), (146, 39), (146, 40), (146, 41), (154, 9999), (155, 9999), (156, 9999), (157, 9999), (158, 9999), (159, 9999), (160, 9999)]
abbrev jQ_X12_sends (x1 x2 x3 : Int) (a0 b0 : Nat → Nat → Int) : List jxV → (Nat → Nat → Int) → (Nat → Nat → Int) → Prop := rI (fun r a b => (iv a) ∧ (jfr jW_X12_sends a0 a) ∧ (b0 = b) ∧ (a 146 9 = (a0 146 9) + 1) ∧ (a 154 (a0 146 9).toNat = x1 ∧ a 158 (a0 146 9).toNat = x3) ∧ (∀ c : Nat, (c : Int) < a0 146 9 → a 154 c = a0 154 c ∧ a 158 c = a0 158 c) ∧ (cvR a = vAdd (cvR a0) x1 x2 (a0 146 0) (BNR a0 (a0 148 x1.toNat) (a0 148 x2.toNat)) x3) ∧ (r = a0 146 9))
theorem cp_X12_sends_125 (E : jxE) (d : Nat) (hd : Nat.ble 2 (d + 1) = true) (x1 x2 x3 : Int) (a0 b0 : Nat → Nat → Int) (hv0 : iv a0) (hp0 : (0 ≤ x1 ∧ x1 ≤ 39)) (hp1 : (0 ≤ x2 ∧ x2 ≤ 39)) (hp2 : a0 146 9 ≤ 299) : ∀ (a : Nat → Nat → Int), iv a → jfr jW_X12_sends a0 a → (a 154 (a0 146 9).toNat = x1) → (a 158 (a0 146 9).toNat = x3) → (jfr jWse3 a0 a) → (a 154 = rup (a0 154) (a0 146 9).toNat x1 ∧ a 155 = rup (a0 155) (a0 146 9).toNat x2 ∧ a 156 = rup (a0 156) (a0 146 9).toNat (a0 146 0) ∧ a 157 = rup (a0 157) (a0 146 9).toNat (BNR a0 (a0 148 x1.toNat) (a0 148 x2.toNat)) ∧ a 158 = rup (a0 158) (a0 146 9).toNat x3 ∧ a 159 = rup (a0 159) (a0 146 9).toNat (-1)) → a 146 9 = a0 146 9 → (∀ c : Nat, (c : Int) < a0 146 9 → a 154 c = a0 154 c ∧ a 158 c = a0 158 c) → jt (jxX E d 240 125 [some (.inr (.inr (.inl 146))), none, none, none, none] [] (jxSH, a, b0)) (jQ_X12_sends x1 x2 x3 a0 b0) := by
  intro a hv hf hi0 hi1 hfe hr1 hi4 hol
  refine jt_eq (bq_X12_sends_125 E d a b0) ?_
  have h238_ := iv_get hv (k := 146) (j := 9) (l := 0) (u := 300) rfl
  have h239_ := iv_get hv0 (k := 146) (j := 9) (l := 0) (u := 300) rfl
  refine jt_grd (by omega) ?_
  have hv240_ : iv (jxu a 160 ((a 146 9).toNat) (-1)) := iv_put hv (l := (-1)) (u := 599) rfl (by omega) (by omega)
  have h242_ : jxw ((a 146 9) + 1) = (a 146 9) + 1 := jxw_id (by omega) (by omega)
  have hv241_ : iv (jxu (jxu a 160 ((a 146 9).toNat) (-1)) 146 9 (jxw ((a 146 9) + 1))) := iv_put hv240_ (l := 0) (u := 300) rfl (by omega) (by omega)
  have hf243_ : jfr jW_X12_sends a0 (jxu a 160 ((a 146 9).toNat) (-1)) := jfr_put hf rfl
  have hf244_ : jfr jW_X12_sends a0 (jxu (jxu a 160 ((a 146 9).toNat) (-1)) 146 9 (jxw ((a 146 9) + 1))) := jfr_put hf243_ rfl
  have h245_ : jxw ((jxw ((a 146 9) + 1)) - 1) = (jxw ((a 146 9) + 1)) - 1 := jxw_id (by omega) (by omega)
  exact jt_rI ⟨hv241_, hf244_, rfl, (show jxw ((a 146 9) + 1) = (a0 146 9) + 1 from by omega), (by constructor <;> simp [jxu] <;> omega), (by intro c hc; have hne : ¬ c = (a 146 9).toNat := (by omega); have h9 := hol c hc; simp [jxu, hne, h9]), (mkCV_eq (show jxw ((a 146 9) + 1) = a0 146 9 + 1 from by omega) (hfe 146 17 rfl) hr1.1 hr1.2.1 hr1.2.2.1 hr1.2.2.2.1 hr1.2.2.2.2.1 hr1.2.2.2.2.2 (funext fun j => by show (if j = (a 146 9).toNat then (-1) else a 160 j) = (if j = (a0 146 9).toNat then (-1) else a0 160 j); rw [show (a 146 9).toNat = (a0 146 9).toNat from by omega, hfe 160 j rfl]; first | done | (rw [show (-1) = (-1) from by first | omega | assumption | exact hfe 146 0 rfl])) (funext fun j => hfe 161 j rfl) (funext fun j => hfe 162 j rfl) (funext fun j => hfe 163 j rfl)), (show jxw ((jxw ((a 146 9) + 1)) - 1) = a0 146 9 from by omega)⟩
theorem cp_X12_sends_94 (E : jxE) (d : Nat) (hd : Nat.ble 2 (d + 1) = true) (x1 x2 x3 : Int) (a0 b0 : Nat → Nat → Int) (hv0 : iv a0) (hp0 : (0 ≤ x1 ∧ x1 ≤ 39)) (hp1 : (0 ≤ x2 ∧ x2 ≤ 39)) (hp2 : a0 146 9 ≤ 299) : ∀ (y3 y4 : Int) (a : Nat → Nat → Int), iv a → jfr jW_X12_sends a0 a → y3 = x3 → (a 154 (a0 146 9).toNat = x1) → (jfr jWse2 a0 a) → (a 154 = rup (a0 154) (a0 146 9).toNat x1 ∧ a 155 = rup (a0 155) (a0 146 9).toNat x2 ∧ a 156 = rup (a0 156) (a0 146 9).toNat (a0 146 0)) → (y4 = BNR a0 (a0 148 x1.toNat) (a0 148 x2.toNat)) → a 146 9 = a0 146 9 → (∀ c : Nat, (c : Int) < a0 146 9 → a 154 c = a0 154 c ∧ a 158 c = a0 158 c) → jt (jxX E d 240 94 [some (.inr (.inr (.inl 146))), none, none, some (.inl y3), some (.inl y4)] [] (jxSH, a, b0)) (jQ_X12_sends x1 x2 x3 a0 b0) := by
  intro y3 y4 a hv hf hi0 hi1 hfe hr1 hy4 hi5 hol
  refine jt_eq (bq_X12_sends_94 E d y3 y4 a b0) ?_
  have h246_ := iv_get hv (k := 146) (j := 9) (l := 0) (u := 300) rfl
  have h247_ := iv_get hv0 (k := 146) (j := 9) (l := 0) (u := 300) rfl
  refine jt_grd (by omega) ?_
  refine jt_grd (by omega) ?_
  refine jt_grd (by omega) ?_
  have hv248_ : iv (jxu a 157 ((a 146 9).toNat) y4) := iv_putf hv rfl
  have hv249_ : iv (jxu (jxu a 157 ((a 146 9).toNat) y4) 158 ((a 146 9).toNat) y3) := iv_putf hv248_ rfl
  have hv250_ : iv (jxu (jxu (jxu a 157 ((a 146 9).toNat) y4) 158 ((a 146 9).toNat) y3) 159 ((a 146 9).toNat) (-1)) := iv_putf hv249_ rfl
  have hf251_ : jfr jW_X12_sends a0 (jxu a 157 ((a 146 9).toNat) y4) := jfr_put hf rfl
  have hf252_ : jfr jW_X12_sends a0 (jxu (jxu a 157 ((a 146 9).toNat) y4) 158 ((a 146 9).toNat) y3) := jfr_put hf251_ rfl
  have hf253_ : jfr jW_X12_sends a0 (jxu (jxu (jxu a 157 ((a 146 9).toNat) y4) 158 ((a 146 9).toNat) y3) 159 ((a 146 9).toNat) (-1)) := jfr_put hf252_ rfl
  have hf254_ : jfr jWse3 a0 (jxu a 157 ((a 146 9).toNat) y4) := jfr_put (jfr_tr (jfr_rf _ _) hfe rfl) rfl
  have hf255_ : jfr jWse3 a0 (jxu (jxu a 157 ((a 146 9).toNat) y4) 158 ((a 146 9).toNat) y3) := jfr_put hf254_ rfl
  have hf256_ : jfr jWse3 a0 (jxu (jxu (jxu a 157 ((a 146 9).toNat) y4) 158 ((a 146 9).toNat) y3) 159 ((a 146 9).toNat) (-1)) := jfr_put hf255_ rfl
  exact cp_X12_sends_125 E d hd x1 x2 x3 a0 b0 hv0 hp0 hp1 hp2 (jxu (jxu (jxu a 157 ((a 146 9).toNat) y4) 158 ((a 146 9).toNat) y3) 159 ((a 146 9).toNat) (-1)) hv250_ hf253_ (by simp [jxu]; omega) (by rw [show (a0 146 9).toNat = (a 146 9).toNat from (by omega)]; simp [jxu]; omega) hf256_ ⟨hr1.1, hr1.2.1, hr1.2.2, (funext fun j => by show (if j = (a 146 9).toNat then y4 else a 157 j) = (if j = (a0 146 9).toNat then BNR a0 (a0 148 x1.toNat) (a0 148 x2.toNat) else a0 157 j); rw [show (a 146 9).toNat = (a0 146 9).toNat from by omega, hfe 157 j rfl]; first | done | (rw [show y4 = BNR a0 (a0 148 x1.toNat) (a0 148 x2.toNat) from by first | omega | assumption | exact hfe 146 0 rfl])), (funext fun j => by show (if j = (a 146 9).toNat then y3 else a 158 j) = (if j = (a0 146 9).toNat then x3 else a0 158 j); rw [show (a 146 9).toNat = (a0 146 9).toNat from by omega, hfe 158 j rfl]; first | done | (rw [show y3 = x3 from by first | omega | assumption | exact hfe 146 0 rfl])), (funext fun j => by show (if j = (a 146 9).toNat then (-1) else a 159 j) = (if j = (a0 146 9).toNat then (-1) else a0 159 j); rw [show (a 146 9).toNat = (a0 146 9).toNat from by omega, hfe 159 j rfl]; first | done | (rw [show (-1) = (-1) from by first | omega | assumption | exact hfe 146 0 rfl]))⟩ (show a 146 9 = a0 146 9 from by omega) (by intro c hc; have hne : ¬ c = (a 146 9).toNat := (by omega); have h9 := hol c hc; simp [jxu, hne, h9])
theorem cp_X12_sends_59 (E : jxE) (d : Nat) (hd : Nat.ble 2 (d + 1) = true) (x1 x2 x3 : Int) (a0 b0 : Nat → Nat → Int) (hv0 : iv a0) (hp0 : (0 ≤ x1 ∧ x1 ≤ 39)) (hp1 : (0 ≤ x2 ∧ x2 ≤ 39)) (hp2 : a0 146 9 ≤ 299) : ∀ (y1 y2 y3 s0 : Int) (a : Nat → Nat → Int), iv a → jfr jW_X12_sends a0 a → 0 ≤ y1 → y1 ≤ 39 → 0 ≤ y2 → y2 ≤ 39 → y1 = x1 → y2 = x2 → y3 = x3 → (jfr jWse1 a0 a) → (s0 = BNR a0 (a0 148 x1.toNat) (a0 148 x2.toNat)) → a 146 9 = a0 146 9 → (∀ c : Nat, (c : Int) < a0 146 9 → a 154 c = a0 154 c ∧ a 158 c = a0 158 c) → jt (jxX E d 240 59 [some (.inr (.inr (.inl 146))), some (.inl y1), some (.inl y2), some (.inl y3), none] [.inl s0] (jxSH, a, b0)) (jQ_X12_sends x1 x2 x3 a0 b0) := by
  intro y1 y2 y3 s0 a hv hf hi0 hi1 hi2 hi3 hi4 hi5 hi6 hfe hs0 hi9 hol
  refine jt_eq (bq_X12_sends_59 E d y1 y2 y3 s0 a b0) ?_
  have h257_ := iv_get hv (k := 146) (j := 9) (l := 0) (u := 300) rfl
  have h258_ := iv_get hv0 (k := 146) (j := 9) (l := 0) (u := 300) rfl
  refine jt_grd (by omega) ?_
  refine jt_grd (by omega) ?_
  refine jt_grd (by omega) ?_
  have hv259_ : iv (jxu a 154 ((a 146 9).toNat) y1) := iv_put hv (l := 0) (u := 39) rfl (by omega) (by omega)
  have hv260_ : iv (jxu (jxu a 154 ((a 146 9).toNat) y1) 155 ((a 146 9).toNat) y2) := iv_put hv259_ (l := 0) (u := 39) rfl (by omega) (by omega)
  have h262_ := iv_get hv (k := 146) (j := 0) (l := 0) (u := 1999) rfl
  have h263_ : a 146 0 = a0 146 0 := hf 146 0 rfl
  have h264_ := iv_get hv0 (k := 146) (j := 0) (l := 0) (u := 1999) rfl
  have hv261_ : iv (jxu (jxu (jxu a 154 ((a 146 9).toNat) y1) 155 ((a 146 9).toNat) y2) 156 ((a 146 9).toNat) (a 146 0)) := iv_put hv260_ (l := 0) (u := 1999) rfl (by omega) (by omega)
  have hf265_ : jfr jW_X12_sends a0 (jxu a 154 ((a 146 9).toNat) y1) := jfr_put hf rfl
  have hf266_ : jfr jW_X12_sends a0 (jxu (jxu a 154 ((a 146 9).toNat) y1) 155 ((a 146 9).toNat) y2) := jfr_put hf265_ rfl
  have hf267_ : jfr jW_X12_sends a0 (jxu (jxu (jxu a 154 ((a 146 9).toNat) y1) 155 ((a 146 9).toNat) y2) 156 ((a 146 9).toNat) (a 146 0)) := jfr_put hf266_ rfl
  have hf268_ : jfr jWse2 a0 (jxu a 154 ((a 146 9).toNat) y1) := jfr_put (jfr_tr (jfr_rf _ _) hfe rfl) rfl
  have hf269_ : jfr jWse2 a0 (jxu (jxu a 154 ((a 146 9).toNat) y1) 155 ((a 146 9).toNat) y2) := jfr_put hf268_ rfl
  have hf270_ : jfr jWse2 a0 (jxu (jxu (jxu a 154 ((a 146 9).toNat) y1) 155 ((a 146 9).toNat) y2) 156 ((a 146 9).toNat) (a 146 0)) := jfr_put hf269_ rfl
  exact cp_X12_sends_94 E d hd x1 x2 x3 a0 b0 hv0 hp0 hp1 hp2 y3 s0 (jxu (jxu (jxu a 154 ((a 146 9).toNat) y1) 155 ((a 146 9).toNat) y2) 156 ((a 146 9).toNat) (a 146 0)) hv261_ hf267_ (show y3 = x3 from by omega) (by rw [show (a0 146 9).toNat = (a 146 9).toNat from (by omega)]; simp [jxu]; omega) hf270_ ⟨(funext fun j => by show (if j = (a 146 9).toNat then y1 else a 154 j) = (if j = (a0 146 9).toNat then x1 else a0 154 j); rw [show (a 146 9).toNat = (a0 146 9).toNat from by omega, hfe 154 j rfl]; first | done | (rw [show y1 = x1 from by first | omega | assumption | exact hfe 146 0 rfl])), (funext fun j => by show (if j = (a 146 9).toNat then y2 else a 155 j) = (if j = (a0 146 9).toNat then x2 else a0 155 j); rw [show (a 146 9).toNat = (a0 146 9).toNat from by omega, hfe 155 j rfl]; first | done | (rw [show y2 = x2 from by first | omega | assumption | exact hfe 146 0 rfl])), (funext fun j => by show (if j = (a 146 9).toNat then a 146 0 else a 156 j) = (if j = (a0 146 9).toNat then a0 146 0 else a0 156 j); rw [show (a 146 9).toNat = (a0 146 9).toNat from by omega, hfe 156 j rfl]; first | done | (rw [show a 146 0 = a0 146 0 from by first | omega | assumption | exact hfe 146 0 rfl]))⟩ hs0 (show a 146 9 = a0 146 9 from by omega) (by intro c hc; have hne : ¬ c = (a 146 9).toNat := (by omega); have h9 := hol c hc; simp [jxu, hne, h9])
theorem cp_X12_sends_41 (E : jxE) (d : Nat) (hd : Nat.ble 2 (d + 1) = true) (x1 x2 x3 : Int) (a0 b0 : Nat → Nat → Int) (hv0 : iv a0) (hp0 : (0 ≤ x1 ∧ x1 ≤ 39)) (hp1 : (0 ≤ x2 ∧ x2 ≤ 39)) (hp2 : a0 146 9 ≤ 299) : ∀ (y1 y2 y3 : Int) (a : Nat → Nat → Int), iv a → jfr jW_X12_sends a0 a → 0 ≤ y1 → y1 ≤ 39 → 0 ≤ y2 → y2 ≤ 39 → y1 = x1 → y2 = x2 → y3 = x3 → (jfr jWse1 a0 a) → (BNR a0 (a0 148 x1.toNat) (a0 148 x2.toNat) = a0 171 3) → a 146 9 = a0 146 9 → (∀ c : Nat, (c : Int) < a0 146 9 → a 154 c = a0 154 c ∧ a 158 c = a0 158 c) → jt (jxX E d 240 41 [some (.inr (.inr (.inl 146))), some (.inl y1), some (.inl y2), some (.inl y3), none] [] (jxSH, a, b0)) (jQ_X12_sends x1 x2 x3 a0 b0) := by
  intro y1 y2 y3 a hv hf hi0 hi1 hi2 hi3 hi4 hi5 hi6 hfe hbn hi9 hol
  refine jt_eq (bq_X12_sends_41 E d y1 y2 y3 a b0) ?_
  have h271_ := iv_get hv (k := 146) (j := 9) (l := 0) (u := 300) rfl
  have h272_ := iv_get hv0 (k := 146) (j := 9) (l := 0) (u := 300) rfl
  have h273_ : a 171 3 = a0 171 3 := hf 171 3 rfl
  exact cp_X12_sends_59 E d hd x1 x2 x3 a0 b0 hv0 hp0 hp1 hp2 y1 y2 y3 (a 171 3) a hv hf (show 0 ≤ y1 from by omega) (show y1 ≤ 39 from by omega) (show 0 ≤ y2 from by omega) (show y2 ≤ 39 from by omega) (show y1 = x1 from by omega) (show y2 = x2 from by omega) (show y3 = x3 from by omega) hfe (by first | exact hbn.symm | exact (hfe 171 3 rfl).trans hbn.symm) (show a 146 9 = a0 146 9 from by omega) hol
theorem cp_X12_sends_50 (E : jxE) (d : Nat) (hd : Nat.ble 2 (d + 1) = true) (x1 x2 x3 : Int) (a0 b0 : Nat → Nat → Int) (hv0 : iv a0) (hp0 : (0 ≤ x1 ∧ x1 ≤ 39)) (hp1 : (0 ≤ x2 ∧ x2 ≤ 39)) (hp2 : a0 146 9 ≤ 299) : ∀ (y1 y2 y3 : Int) (a : Nat → Nat → Int), iv a → jfr jW_X12_sends a0 a → 0 ≤ y1 → y1 ≤ 39 → 0 ≤ y2 → y2 ≤ 39 → 1 ≤ a 146 39 → y1 = x1 → y2 = x2 → y3 = x3 → (jfr jWse1 a0 a) → (BNR a0 (a0 148 x1.toNat) (a0 148 x2.toNat) = jxw ((jxw (2 * (a 146 41))) + 7)) → a 146 9 = a0 146 9 → (∀ c : Nat, (c : Int) < a0 146 9 → a 154 c = a0 154 c ∧ a 158 c = a0 158 c) → jt (jxX E d 240 50 [some (.inr (.inr (.inl 146))), some (.inl y1), some (.inl y2), some (.inl y3), none] [] (jxSH, a, b0)) (jQ_X12_sends x1 x2 x3 a0 b0) := by
  intro y1 y2 y3 a hv hf hi0 hi1 hi2 hi3 hi4 hi5 hi6 hi7 hfe hbn hi10 hol
  refine jt_eq (bq_X12_sends_50 E d y1 y2 y3 a b0) ?_
  have h274_ := iv_get hv (k := 146) (j := 39) (l := 0) (u := 10) rfl
  have h275_ := iv_get hv (k := 146) (j := 9) (l := 0) (u := 300) rfl
  have h276_ := iv_get hv0 (k := 146) (j := 9) (l := 0) (u := 300) rfl
  have h277_ := jxw_im (2 * (a 146 41))
  have h278_ := jxw_rg (2 * (a 146 41))
  have h279_ := jxw_im ((jxw (2 * (a 146 41))) + 7)
  have h280_ := jxw_rg ((jxw (2 * (a 146 41))) + 7)
  exact cp_X12_sends_59 E d hd x1 x2 x3 a0 b0 hv0 hp0 hp1 hp2 y1 y2 y3 (jxw ((jxw (2 * (a 146 41))) + 7)) a hv hf (show 0 ≤ y1 from by omega) (show y1 ≤ 39 from by omega) (show 0 ≤ y2 from by omega) (show y2 ≤ 39 from by omega) (show y1 = x1 from by omega) (show y2 = x2 from by omega) (show y3 = x3 from by omega) hfe (by first | exact hbn.symm | exact (hfe 171 3 rfl).trans hbn.symm) (show a 146 9 = a0 146 9 from by omega) hol
theorem sp_X12_sends (E : jxE) (d : Nat) (hd : Nat.ble 2 d = true) (x1 x2 x3 : Int) (a0 b0 : Nat → Nat → Int) (hv0 : iv a0) (hp0 : (0 ≤ x1 ∧ x1 ≤ 39)) (hp1 : (0 ≤ x2 ∧ x2 ≤ 39)) (hp2 : a0 146 9 ≤ 299) : jt (jxC E d 240 [.inr (.inr (.inl 146)), .inl x1, .inl x2, .inl x3] (jxSH, a0, b0)) (jQ_X12_sends x1 x2 x3 a0 b0) := by
  obtain ⟨d, rfl⟩ := jd_succ hd
  refine jt_eq (bq_X12_sends E d x1 x2 x3 a0 b0) ?_
  have h281_ := iv_get hv0 (k := 146) (j := 9) (l := 0) (u := 300) rfl
  refine jt_grd (by omega) ?_
  refine jt_grd (by omega) ?_
  refine jt_bV (sp_X12_spans E d (jd_le hd rfl) (a0 148 (x1.toNat)) (a0 148 (x2.toNat)) a0 b0 hv0) (fun a282_ b282_ h282_ => ?_)
  obtain ⟨hv282_, hf282_, rfl, hq282_0, hq282_1⟩ := h282_
  have h283_ := iv_get hv0 (k := 146) (j := 17) (l := 0) (u := 600) rfl
  have h284_ := iv_get hv282_ (k := 146) (j := 39) (l := 0) (u := 10) rfl
  refine jt_ite (fun c285_ => ?_) (fun c285_ => ?_)
  ·
    have hf286_ : jfr jW_X12_sends a0 a282_ := jfr_tr (jfr_rf _ _) hf282_ rfl
    have hf287_ : jfr jWse1 a0 a282_ := jfr_tr (jfr_rf _ _) hf282_ rfl
    have h288_ := iv_get hv282_ (k := 146) (j := 9) (l := 0) (u := 300) rfl
    have h289_ : a282_ 146 9 = a0 146 9 := hf282_ 146 9 rfl
    exact cp_X12_sends_41 E d hd x1 x2 x3 a0 b0 hv0 hp0 hp1 hp2 x1 x2 x3 a282_ hv282_ hf286_ (show 0 ≤ x1 from by omega) (show x1 ≤ 39 from by omega) (show 0 ≤ x2 from by omega) (show x2 ≤ 39 from by omega) (show x1 = x1 from by omega) (show x2 = x2 from by omega) (show x3 = x3 from by omega) hf287_ (by unfold BNR; rw [← hq282_1]; show (if a282_ 146 39 = 0 then _ else if _ < jxw ((jxw (2 * (a282_ 146 41))) + 7) then _ else jxw ((jxw (2 * (a282_ 146 41))) + 7)) = _; first | rw [if_pos (by assumption)] | (rw [if_neg (by assumption)]; have e3 := hf282_ 171 3 rfl; first | rw [if_pos (by omega)] | rw [if_neg (by omega)])) (show a282_ 146 9 = a0 146 9 from by omega) (by intro c hc; exact ⟨hf282_ 154 c rfl, hf282_ 158 c rfl⟩)
  ·
    have h290_ : a282_ 171 3 = a0 171 3 := hf282_ 171 3 rfl
    have h291_ := jxw_im (2 * (a282_ 146 41))
    have h292_ := jxw_rg (2 * (a282_ 146 41))
    have h293_ := jxw_im ((jxw (2 * (a282_ 146 41))) + 7)
    have h294_ := jxw_rg ((jxw (2 * (a282_ 146 41))) + 7)
    refine jt_ite (fun c295_ => ?_) (fun c295_ => ?_)
    ·
      have hf296_ : jfr jW_X12_sends a0 a282_ := jfr_tr (jfr_rf _ _) hf282_ rfl
      have hf297_ : jfr jWse1 a0 a282_ := jfr_tr (jfr_rf _ _) hf282_ rfl
      have h298_ := iv_get hv282_ (k := 146) (j := 9) (l := 0) (u := 300) rfl
      have h299_ : a282_ 146 9 = a0 146 9 := hf282_ 146 9 rfl
      exact cp_X12_sends_41 E d hd x1 x2 x3 a0 b0 hv0 hp0 hp1 hp2 x1 x2 x3 a282_ hv282_ hf296_ (show 0 ≤ x1 from by omega) (show x1 ≤ 39 from by omega) (show 0 ≤ x2 from by omega) (show x2 ≤ 39 from by omega) (show x1 = x1 from by omega) (show x2 = x2 from by omega) (show x3 = x3 from by omega) hf297_ (by unfold BNR; rw [← hq282_1]; show (if a282_ 146 39 = 0 then _ else if _ < jxw ((jxw (2 * (a282_ 146 41))) + 7) then _ else jxw ((jxw (2 * (a282_ 146 41))) + 7)) = _; first | rw [if_pos (by assumption)] | (rw [if_neg (by assumption)]; have e3 := hf282_ 171 3 rfl; first | rw [if_pos (by omega)] | rw [if_neg (by omega)])) (show a282_ 146 9 = a0 146 9 from by omega) (by intro c hc; exact ⟨hf282_ 154 c rfl, hf282_ 158 c rfl⟩)
    ·
      have hf300_ : jfr jW_X12_sends a0 a282_ := jfr_tr (jfr_rf _ _) hf282_ rfl
      have hf301_ : jfr jWse1 a0 a282_ := jfr_tr (jfr_rf _ _) hf282_ rfl
      have h302_ := iv_get hv282_ (k := 146) (j := 9) (l := 0) (u := 300) rfl
      have h303_ : a282_ 146 9 = a0 146 9 := hf282_ 146 9 rfl
      exact cp_X12_sends_50 E d hd x1 x2 x3 a0 b0 hv0 hp0 hp1 hp2 x1 x2 x3 a282_ hv282_ hf300_ (show 0 ≤ x1 from by omega) (show x1 ≤ 39 from by omega) (show 0 ≤ x2 from by omega) (show x2 ≤ 39 from by omega) (show 1 ≤ a282_ 146 39 from by omega) (show x1 = x1 from by omega) (show x2 = x2 from by omega) (show x3 = x3 from by omega) hf301_ (by unfold BNR; rw [← hq282_1]; show (if a282_ 146 39 = 0 then _ else if _ < jxw ((jxw (2 * (a282_ 146 41))) + 7) then _ else jxw ((jxw (2 * (a282_ 146 41))) + 7)) = _; first | rw [if_pos (by assumption)] | (rw [if_neg (by assumption)]; have e3 := hf282_ 171 3 rfl; first | rw [if_pos (by omega)] | rw [if_neg (by omega)])) (show a282_ 146 9 = a0 146 9 from by omega) (by intro c hc; exact ⟨hf282_ 154 c rfl, hf282_ 158 c rfl⟩)
