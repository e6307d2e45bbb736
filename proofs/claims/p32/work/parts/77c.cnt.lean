abbrev jR_X3_howManyThere (a0 b0 : Nat → Nat → Int) : List jxV → (Nat → Nat → Int) → (Nat → Nat → Int) → Prop := rI (fun r a b => (a0 = a) ∧ (b0 = b) ∧ ((a0 4 6 = 0 → r = 0)) ∧ (r = THN (a0 10) (a0 4 6).toNat))
theorem cr_X3_howManyThere_4 (E : jxE) (d : Nat) (hd : Nat.ble 3 (d + 1) = true) (a0 b0 : Nat → Nat → Int) (hv0 : iv a0) : ∀ n : Nat, (∀ (y1 y2 : Int), (((40 - y2) * 1) + 0).toNat ≤ n → 0 ≤ y2 → y2 ≤ 40 → (a0 4 6 = 0 → y1 = 0) → 0 ≤ y2 → y2 ≤ a0 4 6 → (y1 = THN (a0 10) y2.toNat) → jt (jxX E d 53 4 [some (.inr (.inr (.inl 4))), some (.inl y1), some (.inl y2)] [] (jxSH, a0, b0)) (jR_X3_howManyThere a0 b0)) := by
  refine jx_ind fun n ih => ?_
  have ih4 : ∀ (y1 y2 : Int), (((40 - y2) * 1) + 0).toNat < n → 0 ≤ y2 → y2 ≤ 40 → (a0 4 6 = 0 → y1 = 0) → 0 ≤ y2 → y2 ≤ a0 4 6 → (y1 = THN (a0 10) y2.toNat) → jt (jxX E d 53 4 [some (.inr (.inr (.inl 4))), some (.inl y1), some (.inl y2)] [] (jxSH, a0, b0)) (jR_X3_howManyThere a0 b0) := fun y1 y2 hlt i0 i1 i2 i3 i4 i5 => (ih _ hlt) y1 y2 (Nat.le_refl _) i0 i1 i2 i3 i4 i5
  have hc4 : ∀ (y1 y2 : Int), (((40 - y2) * 1) + 0).toNat ≤ n → 0 ≤ y2 → y2 ≤ 40 → (a0 4 6 = 0 → y1 = 0) → 0 ≤ y2 → y2 ≤ a0 4 6 → (y1 = THN (a0 10) y2.toNat) → jt (jxX E d 53 4 [some (.inr (.inr (.inl 4))), some (.inl y1), some (.inl y2)] [] (jxSH, a0, b0)) (jR_X3_howManyThere a0 b0) := by
    intro y1 y2 hm hi0 hi1 hi2 hi3 hi4 hth
    refine jt_eq (bq_X3_howManyThere_4 E d y1 y2 a0 b0) ?_
    have h1_ := iv_get hv0 (k := 4) (j := 6) (l := 0) (u := 40) rfl
    have it := f_X3_isThere_eq a0 b0 y2
    have ih0 := f_X3_has_eq a0 b0 y2
    have bt := THN_bd (a0 10) y2.toNat
    have i46 := iv_get hv0 (k := 4) (j := 6) (l := 0) (u := 40) rfl
    refine jt_ite (fun c2_ => ?_) (fun c2_ => ?_)
    ·
      refine jt_eI (eq_X3_isThere E d (jd_le hd rfl) y2 a0 b0) ?_
      have h3_ := f_X3_isThere_eq a0 b0 y2
      have h4_ := f_X3_has_eq a0 b0 y2
      refine jt_ite (fun c5_ => ?_) (fun c5_ => ?_)
      ·
        have h6_ : jxw (y2 + 1) = y2 + 1 := jxw_id (by omega) (by omega)
        exact ih4 y1 (jxw (y2 + 1)) (show (((40 - (jxw (y2 + 1))) * 1) + 0).toNat < n from by omega) (show 0 ≤ jxw (y2 + 1) from by omega) (show jxw (y2 + 1) ≤ 40 from by omega) (show (a0 4 6 = 0 → y1 = 0) from by omega) (show 0 ≤ jxw (y2 + 1) from by omega) (show jxw (y2 + 1) ≤ a0 4 6 from by omega) (by rw [show (jxw (y2 + 1)).toNat = y2.toNat + 1 from by omega]; show _ = THN (a0 10) y2.toNat + (if a0 10 y2.toNat = 0 then 0 else 1); have hh : f_X3_has a0 b0 y2 = 1 := (by unfold f_X3_has; rw [if_neg (show ¬ y2 < 0 by omega), if_pos (show y2 < a0 4 6 by omega), if_pos (show y2 < 40 by omega)]); by_cases c : a0 10 y2.toNat = 0 <;> first | (rw [if_pos c]; have z : f_X3_isThere a0 b0 y2 = 0 := (by unfold f_X3_isThere; rw [if_neg (by omega), if_pos c]); first | omega | (exfalso; omega)) | (rw [if_neg c]; have z : f_X3_isThere a0 b0 y2 = 1 := (by unfold f_X3_isThere; rw [if_neg (by omega), if_neg c]); first | (rw [show jxw (y1 + 1) = y1 + 1 from jxw_id (by omega) (by omega)]; omega) | (exfalso; omega)))
      ·
        have h7_ : jxw (y2 + 1) = y2 + 1 := jxw_id (by omega) (by omega)
        have h8_ := jxw_im (y1 + 1)
        have h9_ := jxw_rg (y1 + 1)
        exact ih4 (jxw (y1 + 1)) (jxw (y2 + 1)) (show (((40 - (jxw (y2 + 1))) * 1) + 0).toNat < n from by omega) (show 0 ≤ jxw (y2 + 1) from by omega) (show jxw (y2 + 1) ≤ 40 from by omega) (show (a0 4 6 = 0 → jxw (y1 + 1) = 0) from by omega) (show 0 ≤ jxw (y2 + 1) from by omega) (show jxw (y2 + 1) ≤ a0 4 6 from by omega) (by rw [show (jxw (y2 + 1)).toNat = y2.toNat + 1 from by omega]; show _ = THN (a0 10) y2.toNat + (if a0 10 y2.toNat = 0 then 0 else 1); have hh : f_X3_has a0 b0 y2 = 1 := (by unfold f_X3_has; rw [if_neg (show ¬ y2 < 0 by omega), if_pos (show y2 < a0 4 6 by omega), if_pos (show y2 < 40 by omega)]); by_cases c : a0 10 y2.toNat = 0 <;> first | (rw [if_pos c]; have z : f_X3_isThere a0 b0 y2 = 0 := (by unfold f_X3_isThere; rw [if_neg (by omega), if_pos c]); first | omega | (exfalso; omega)) | (rw [if_neg c]; have z : f_X3_isThere a0 b0 y2 = 1 := (by unfold f_X3_isThere; rw [if_neg (by omega), if_neg c]); first | (rw [show jxw (y1 + 1) = y1 + 1 from jxw_id (by omega) (by omega)]; omega) | (exfalso; omega)))
    ·
      exact jt_rI ⟨rfl, rfl, (show (a0 4 6 = 0 → y1 = 0) from by omega), (by rw [show (a0 4 6).toNat = y2.toNat from by omega]; exact hth)⟩
  exact hc4
theorem sq_X3_howManyThere (E : jxE) (d : Nat) (hd : Nat.ble 3 d = true) (a0 b0 : Nat → Nat → Int) (hv0 : iv a0) : jt (jxC E d 53 [.inr (.inr (.inl 4))] (jxSH, a0, b0)) (jR_X3_howManyThere a0 b0) := by
  obtain ⟨d, rfl⟩ := jd_succ hd
  refine jt_eq (bq_X3_howManyThere E d a0 b0) ?_
  have h10_ := iv_get hv0 (k := 4) (j := 6) (l := 0) (u := 40) rfl
  exact (cr_X3_howManyThere_4 E d hd a0 b0 hv0 _) 0 0 (Nat.le_refl _) (show 0 ≤ 0 from by omega) (show 0 ≤ 40 from by omega) (show (a0 4 6 = 0 → 0 = 0) from by omega) (show 0 ≤ 0 from by omega) (show 0 ≤ a0 4 6 from by omega) rfl
abbrev jR_X11_count (x1 : Int) (a0 b0 : Nat → Nat → Int) : List jxV → (Nat → Nat → Int) → (Nat → Nat → Int) → Prop := rI (fun r a b => (a0 = a) ∧ (b0 = b) ∧ ((x1 = 0 → r = a0 0 0)) ∧ ((x1 = 1 → r = a0 4 6)) ∧ ((x1 = 3 → r = a0 58 8)) ∧ ((x1 = 4 → r = a0 58 12)) ∧ ((x1 = 5 → r = a0 83 6)) ∧ ((x1 = 6 → r = a0 83 7)) ∧ ((x1 = 7 → r = a0 105 5)) ∧ ((x1 = 8 → r = a0 2 1)) ∧ ((x1 = 9 → r = a0 0 9)) ∧ (((x1 = 2 ∧ a0 4 6 = 0) → r = 0)) ∧ ((x1 = 10 → r = a0 56 0)) ∧ ((x1 = 11 → r = a0 56 1)) ∧ ((x1 = 12 → r = a0 56 2)) ∧ ((x1 = 13 → r = a0 56 3)) ∧ ((x1 = 14 → r = a0 56 4)) ∧ (20 ≤ x1 ∧ x1 ≤ 27 → r = a0 143 (jxw (x1 - 20)).toNat) ∧ (30 ≤ x1 ∧ x1 ≤ 37 → r = a0 142 (jxw (x1 - 30)).toNat) ∧ (((((x1 < 0 ∨ (14 < x1 ∧ x1 < 20)) ∨ (27 < x1 ∧ x1 < 30)) ∨ 37 < x1) → r = 0 - 1)) ∧ (x1 = 2 → r = THN (a0 10) (a0 4 6).toNat))
theorem sq_X11_count (E : jxE) (d : Nat) (hd : Nat.ble 4 d = true) (x1 : Int) (a0 b0 : Nat → Nat → Int) (hv0 : iv a0) : jt (jxC E d 197 [.inr (.inr (.inl 0)), .inl x1] (jxSH, a0, b0)) (jR_X11_count x1 a0 b0) := by
  obtain ⟨d, rfl⟩ := jd_succ hd
  refine jt_eq (bq_X11_count E d x1 a0 b0) ?_
  refine jt_ite (fun c11_ => ?_) (fun c11_ => ?_)
  ·
    refine jt_eI (eq_X11_countOfDrawer E d (jd_le hd rfl) x1 a0 b0) ?_
    have h12_ := f_X11_countOfDrawer_eq a0 b0 x1
    have h13_ := f_X11_within_eq a0 b0 x1 20 27
    have h14_ := f_X11_within_eq a0 b0 x1 30 37
    have h15_ := jxw_im (x1 - 30)
    have h16_ := jxw_rg (x1 - 30)
    have h17_ := f_X1_valueOf_eq a0 b0 (jxw (x1 - 30))
    have h18_ := f_X11_entry_r142_eq a0 b0 8 (jxw (x1 - 30))
    have h19_ := jxw_im (x1 - 20)
    have h20_ := jxw_rg (x1 - 20)
    have h21_ := f_X1_manyOf_eq a0 b0 (jxw (x1 - 20))
    have h22_ := f_X11_entry_r143_eq a0 b0 8 (jxw (x1 - 20))
    have h23_ := iv_get hv0 (k := 0) (j := 0) (l := 0) (u := 1999) rfl
    have h24_ := iv_get hv0 (k := 4) (j := 6) (l := 0) (u := 40) rfl
    have h25_ := iv_get hv0 (k := 58) (j := 8) (l := 0) (u := 300) rfl
    have h26_ := iv_get hv0 (k := 58) (j := 12) (l := 0) (u := 600) rfl
    have h27_ := iv_get hv0 (k := 83) (j := 6) (l := 0) (u := 20) rfl
    have h28_ := iv_get hv0 (k := 105) (j := 5) (l := 0) (u := 10) rfl
    have h29_ := iv_get hv0 (k := 2) (j := 1) (l := 0) (u := 200) rfl
    have h30_ := iv_get hv0 (k := 0) (j := 9) (l := 0) (u := 8) rfl
    exact jt_rI ⟨rfl, rfl, (show (x1 = 0 → f_X11_countOfDrawer a0 b0 x1 = a0 0 0) from by omega), (show (x1 = 1 → f_X11_countOfDrawer a0 b0 x1 = a0 4 6) from by omega), (show (x1 = 3 → f_X11_countOfDrawer a0 b0 x1 = a0 58 8) from by omega), (show (x1 = 4 → f_X11_countOfDrawer a0 b0 x1 = a0 58 12) from by omega), (show (x1 = 5 → f_X11_countOfDrawer a0 b0 x1 = a0 83 6) from by omega), (show (x1 = 6 → f_X11_countOfDrawer a0 b0 x1 = a0 83 7) from by omega), (show (x1 = 7 → f_X11_countOfDrawer a0 b0 x1 = a0 105 5) from by omega), (show (x1 = 8 → f_X11_countOfDrawer a0 b0 x1 = a0 2 1) from by omega), (show (x1 = 9 → f_X11_countOfDrawer a0 b0 x1 = a0 0 9) from by omega), (show ((x1 = 2 ∧ a0 4 6 = 0) → f_X11_countOfDrawer a0 b0 x1 = 0) from by omega), (show (x1 = 10 → f_X11_countOfDrawer a0 b0 x1 = a0 56 0) from by omega), (show (x1 = 11 → f_X11_countOfDrawer a0 b0 x1 = a0 56 1) from by omega), (show (x1 = 12 → f_X11_countOfDrawer a0 b0 x1 = a0 56 2) from by omega), (show (x1 = 13 → f_X11_countOfDrawer a0 b0 x1 = a0 56 3) from by omega), (show (x1 = 14 → f_X11_countOfDrawer a0 b0 x1 = a0 56 4) from by omega), (by omega), (by omega), (show ((((x1 < 0 ∨ (14 < x1 ∧ x1 < 20)) ∨ (27 < x1 ∧ x1 < 30)) ∨ 37 < x1) → f_X11_countOfDrawer a0 b0 x1 = 0 - 1) from by omega), (fun h => by first | exact hq0_1 | (exfalso; omega))⟩
  ·
    refine jt_ite (fun c31_ => ?_) (fun c31_ => ?_)
    ·
      have h32_ := iv_get hv0 (k := 0) (j := 0) (l := 0) (u := 1999) rfl
      have h33_ := iv_get hv0 (k := 4) (j := 6) (l := 0) (u := 40) rfl
      have h34_ := iv_get hv0 (k := 58) (j := 8) (l := 0) (u := 300) rfl
      have h35_ := iv_get hv0 (k := 58) (j := 12) (l := 0) (u := 600) rfl
      have h36_ := iv_get hv0 (k := 83) (j := 6) (l := 0) (u := 20) rfl
      have h37_ := iv_get hv0 (k := 105) (j := 5) (l := 0) (u := 10) rfl
      have h38_ := iv_get hv0 (k := 2) (j := 1) (l := 0) (u := 200) rfl
      have h39_ := iv_get hv0 (k := 0) (j := 9) (l := 0) (u := 8) rfl
      exact jt_rI ⟨rfl, rfl, (show (x1 = 0 → a0 0 0 = a0 0 0) from by omega), (show (x1 = 1 → a0 0 0 = a0 4 6) from by omega), (show (x1 = 3 → a0 0 0 = a0 58 8) from by omega), (show (x1 = 4 → a0 0 0 = a0 58 12) from by omega), (show (x1 = 5 → a0 0 0 = a0 83 6) from by omega), (show (x1 = 6 → a0 0 0 = a0 83 7) from by omega), (show (x1 = 7 → a0 0 0 = a0 105 5) from by omega), (show (x1 = 8 → a0 0 0 = a0 2 1) from by omega), (show (x1 = 9 → a0 0 0 = a0 0 9) from by omega), (show ((x1 = 2 ∧ a0 4 6 = 0) → a0 0 0 = 0) from by omega), (show (x1 = 10 → a0 0 0 = a0 56 0) from by omega), (show (x1 = 11 → a0 0 0 = a0 56 1) from by omega), (show (x1 = 12 → a0 0 0 = a0 56 2) from by omega), (show (x1 = 13 → a0 0 0 = a0 56 3) from by omega), (show (x1 = 14 → a0 0 0 = a0 56 4) from by omega), (by omega), (by omega), (show ((((x1 < 0 ∨ (14 < x1 ∧ x1 < 20)) ∨ (27 < x1 ∧ x1 < 30)) ∨ 37 < x1) → a0 0 0 = 0 - 1) from by omega), (fun h => by first | exact hq0_1 | (exfalso; omega))⟩
    ·
      refine jt_ite (fun c40_ => ?_) (fun c40_ => ?_)
      ·
        refine jt_eI (eq_X3_size E d (jd_le hd rfl) a0 b0) ?_
        have h41_ := f_X3_size_eq a0 b0
        have h42_ := iv_get hv0 (k := 4) (j := 6) (l := 0) (u := 40) rfl
        have h43_ := iv_get hv0 (k := 0) (j := 0) (l := 0) (u := 1999) rfl
        have h44_ := iv_get hv0 (k := 58) (j := 8) (l := 0) (u := 300) rfl
        have h45_ := iv_get hv0 (k := 58) (j := 12) (l := 0) (u := 600) rfl
        have h46_ := iv_get hv0 (k := 83) (j := 6) (l := 0) (u := 20) rfl
        have h47_ := iv_get hv0 (k := 105) (j := 5) (l := 0) (u := 10) rfl
        have h48_ := iv_get hv0 (k := 2) (j := 1) (l := 0) (u := 200) rfl
        have h49_ := iv_get hv0 (k := 0) (j := 9) (l := 0) (u := 8) rfl
        exact jt_rI ⟨rfl, rfl, (show (x1 = 0 → f_X3_size a0 b0 = a0 0 0) from by omega), (show (x1 = 1 → f_X3_size a0 b0 = a0 4 6) from by omega), (show (x1 = 3 → f_X3_size a0 b0 = a0 58 8) from by omega), (show (x1 = 4 → f_X3_size a0 b0 = a0 58 12) from by omega), (show (x1 = 5 → f_X3_size a0 b0 = a0 83 6) from by omega), (show (x1 = 6 → f_X3_size a0 b0 = a0 83 7) from by omega), (show (x1 = 7 → f_X3_size a0 b0 = a0 105 5) from by omega), (show (x1 = 8 → f_X3_size a0 b0 = a0 2 1) from by omega), (show (x1 = 9 → f_X3_size a0 b0 = a0 0 9) from by omega), (show ((x1 = 2 ∧ a0 4 6 = 0) → f_X3_size a0 b0 = 0) from by omega), (show (x1 = 10 → f_X3_size a0 b0 = a0 56 0) from by omega), (show (x1 = 11 → f_X3_size a0 b0 = a0 56 1) from by omega), (show (x1 = 12 → f_X3_size a0 b0 = a0 56 2) from by omega), (show (x1 = 13 → f_X3_size a0 b0 = a0 56 3) from by omega), (show (x1 = 14 → f_X3_size a0 b0 = a0 56 4) from by omega), (by omega), (by omega), (show ((((x1 < 0 ∨ (14 < x1 ∧ x1 < 20)) ∨ (27 < x1 ∧ x1 < 30)) ∨ 37 < x1) → f_X3_size a0 b0 = 0 - 1) from by omega), (fun h => by first | exact hq0_1 | (exfalso; omega))⟩
      ·
        refine jt_ite (fun c50_ => ?_) (fun c50_ => ?_)
        ·
          refine jt_bI (sq_X3_howManyThere E d (jd_le hd rfl) a0 b0 hv0) (fun r51_ a51_ b51_ h51_ => ?_)
          obtain ⟨rfl, rfl, hq51_0, hq51_1⟩ := h51_
          have h52_ := iv_get hv0 (k := 4) (j := 6) (l := 0) (u := 40) rfl
          have h53_ := iv_get hv0 (k := 0) (j := 0) (l := 0) (u := 1999) rfl
          have h54_ := iv_get hv0 (k := 58) (j := 8) (l := 0) (u := 300) rfl
          have h55_ := iv_get hv0 (k := 58) (j := 12) (l := 0) (u := 600) rfl
          have h56_ := iv_get hv0 (k := 83) (j := 6) (l := 0) (u := 20) rfl
          have h57_ := iv_get hv0 (k := 105) (j := 5) (l := 0) (u := 10) rfl
          have h58_ := iv_get hv0 (k := 2) (j := 1) (l := 0) (u := 200) rfl
          have h59_ := iv_get hv0 (k := 0) (j := 9) (l := 0) (u := 8) rfl
          exact jt_rI ⟨rfl, rfl, (show (x1 = 0 → r51_ = a0 0 0) from by omega), (show (x1 = 1 → r51_ = a0 4 6) from by omega), (show (x1 = 3 → r51_ = a0 58 8) from by omega), (show (x1 = 4 → r51_ = a0 58 12) from by omega), (show (x1 = 5 → r51_ = a0 83 6) from by omega), (show (x1 = 6 → r51_ = a0 83 7) from by omega), (show (x1 = 7 → r51_ = a0 105 5) from by omega), (show (x1 = 8 → r51_ = a0 2 1) from by omega), (show (x1 = 9 → r51_ = a0 0 9) from by omega), (show ((x1 = 2 ∧ a0 4 6 = 0) → r51_ = 0) from by omega), (show (x1 = 10 → r51_ = a0 56 0) from by omega), (show (x1 = 11 → r51_ = a0 56 1) from by omega), (show (x1 = 12 → r51_ = a0 56 2) from by omega), (show (x1 = 13 → r51_ = a0 56 3) from by omega), (show (x1 = 14 → r51_ = a0 56 4) from by omega), (by omega), (by omega), (show ((((x1 < 0 ∨ (14 < x1 ∧ x1 < 20)) ∨ (27 < x1 ∧ x1 < 30)) ∨ 37 < x1) → r51_ = 0 - 1) from by omega), (fun h => by first | exact hq51_1 | (exfalso; omega))⟩
        ·
          refine jt_ite (fun c60_ => ?_) (fun c60_ => ?_)
          ·
            refine jt_eI (eq_X0_size E d (jd_le hd rfl) a0 b0) ?_
            have h61_ := f_X0_size_eq a0 b0
            have h62_ := iv_get hv0 (k := 58) (j := 8) (l := 0) (u := 300) rfl
            have h63_ := iv_get hv0 (k := 0) (j := 0) (l := 0) (u := 1999) rfl
            have h64_ := iv_get hv0 (k := 4) (j := 6) (l := 0) (u := 40) rfl
            have h65_ := iv_get hv0 (k := 58) (j := 12) (l := 0) (u := 600) rfl
            have h66_ := iv_get hv0 (k := 83) (j := 6) (l := 0) (u := 20) rfl
            have h67_ := iv_get hv0 (k := 105) (j := 5) (l := 0) (u := 10) rfl
            have h68_ := iv_get hv0 (k := 2) (j := 1) (l := 0) (u := 200) rfl
            have h69_ := iv_get hv0 (k := 0) (j := 9) (l := 0) (u := 8) rfl
            exact jt_rI ⟨rfl, rfl, (show (x1 = 0 → f_X0_size a0 b0 = a0 0 0) from by omega), (show (x1 = 1 → f_X0_size a0 b0 = a0 4 6) from by omega), (show (x1 = 3 → f_X0_size a0 b0 = a0 58 8) from by omega), (show (x1 = 4 → f_X0_size a0 b0 = a0 58 12) from by omega), (show (x1 = 5 → f_X0_size a0 b0 = a0 83 6) from by omega), (show (x1 = 6 → f_X0_size a0 b0 = a0 83 7) from by omega), (show (x1 = 7 → f_X0_size a0 b0 = a0 105 5) from by omega), (show (x1 = 8 → f_X0_size a0 b0 = a0 2 1) from by omega), (show (x1 = 9 → f_X0_size a0 b0 = a0 0 9) from by omega), (show ((x1 = 2 ∧ a0 4 6 = 0) → f_X0_size a0 b0 = 0) from by omega), (show (x1 = 10 → f_X0_size a0 b0 = a0 56 0) from by omega), (show (x1 = 11 → f_X0_size a0 b0 = a0 56 1) from by omega), (show (x1 = 12 → f_X0_size a0 b0 = a0 56 2) from by omega), (show (x1 = 13 → f_X0_size a0 b0 = a0 56 3) from by omega), (show (x1 = 14 → f_X0_size a0 b0 = a0 56 4) from by omega), (by omega), (by omega), (show ((((x1 < 0 ∨ (14 < x1 ∧ x1 < 20)) ∨ (27 < x1 ∧ x1 < 30)) ∨ 37 < x1) → f_X0_size a0 b0 = 0 - 1) from by omega), (fun h => by first | exact hq0_1 | (exfalso; omega))⟩
          ·
            refine jt_ite (fun c70_ => ?_) (fun c70_ => ?_)
            ·
              refine jt_eI (eq_X0_tellings E d (jd_le hd rfl) a0 b0) ?_
              have h71_ := f_X0_tellings_eq a0 b0
              have h72_ := iv_get hv0 (k := 58) (j := 12) (l := 0) (u := 600) rfl
              have h73_ := iv_get hv0 (k := 0) (j := 0) (l := 0) (u := 1999) rfl
              have h74_ := iv_get hv0 (k := 4) (j := 6) (l := 0) (u := 40) rfl
              have h75_ := iv_get hv0 (k := 58) (j := 8) (l := 0) (u := 300) rfl
              have h76_ := iv_get hv0 (k := 83) (j := 6) (l := 0) (u := 20) rfl
              have h77_ := iv_get hv0 (k := 105) (j := 5) (l := 0) (u := 10) rfl
              have h78_ := iv_get hv0 (k := 2) (j := 1) (l := 0) (u := 200) rfl
              have h79_ := iv_get hv0 (k := 0) (j := 9) (l := 0) (u := 8) rfl
              exact jt_rI ⟨rfl, rfl, (show (x1 = 0 → f_X0_tellings a0 b0 = a0 0 0) from by omega), (show (x1 = 1 → f_X0_tellings a0 b0 = a0 4 6) from by omega), (show (x1 = 3 → f_X0_tellings a0 b0 = a0 58 8) from by omega), (show (x1 = 4 → f_X0_tellings a0 b0 = a0 58 12) from by omega), (show (x1 = 5 → f_X0_tellings a0 b0 = a0 83 6) from by omega), (show (x1 = 6 → f_X0_tellings a0 b0 = a0 83 7) from by omega), (show (x1 = 7 → f_X0_tellings a0 b0 = a0 105 5) from by omega), (show (x1 = 8 → f_X0_tellings a0 b0 = a0 2 1) from by omega), (show (x1 = 9 → f_X0_tellings a0 b0 = a0 0 9) from by omega), (show ((x1 = 2 ∧ a0 4 6 = 0) → f_X0_tellings a0 b0 = 0) from by omega), (show (x1 = 10 → f_X0_tellings a0 b0 = a0 56 0) from by omega), (show (x1 = 11 → f_X0_tellings a0 b0 = a0 56 1) from by omega), (show (x1 = 12 → f_X0_tellings a0 b0 = a0 56 2) from by omega), (show (x1 = 13 → f_X0_tellings a0 b0 = a0 56 3) from by omega), (show (x1 = 14 → f_X0_tellings a0 b0 = a0 56 4) from by omega), (by omega), (by omega), (show ((((x1 < 0 ∨ (14 < x1 ∧ x1 < 20)) ∨ (27 < x1 ∧ x1 < 30)) ∨ 37 < x1) → f_X0_tellings a0 b0 = 0 - 1) from by omega), (fun h => by first | exact hq0_1 | (exfalso; omega))⟩
            ·
              refine jt_ite (fun c80_ => ?_) (fun c80_ => ?_)
              ·
                refine jt_eI (eq_X4_size E d (jd_le hd rfl) a0 b0) ?_
                have h81_ := f_X4_size_eq a0 b0
                have h82_ := iv_get hv0 (k := 83) (j := 6) (l := 0) (u := 20) rfl
                have h83_ := iv_get hv0 (k := 0) (j := 0) (l := 0) (u := 1999) rfl
                have h84_ := iv_get hv0 (k := 4) (j := 6) (l := 0) (u := 40) rfl
                have h85_ := iv_get hv0 (k := 58) (j := 8) (l := 0) (u := 300) rfl
                have h86_ := iv_get hv0 (k := 58) (j := 12) (l := 0) (u := 600) rfl
                have h87_ := iv_get hv0 (k := 105) (j := 5) (l := 0) (u := 10) rfl
                have h88_ := iv_get hv0 (k := 2) (j := 1) (l := 0) (u := 200) rfl
                have h89_ := iv_get hv0 (k := 0) (j := 9) (l := 0) (u := 8) rfl
                exact jt_rI ⟨rfl, rfl, (show (x1 = 0 → f_X4_size a0 b0 = a0 0 0) from by omega), (show (x1 = 1 → f_X4_size a0 b0 = a0 4 6) from by omega), (show (x1 = 3 → f_X4_size a0 b0 = a0 58 8) from by omega), (show (x1 = 4 → f_X4_size a0 b0 = a0 58 12) from by omega), (show (x1 = 5 → f_X4_size a0 b0 = a0 83 6) from by omega), (show (x1 = 6 → f_X4_size a0 b0 = a0 83 7) from by omega), (show (x1 = 7 → f_X4_size a0 b0 = a0 105 5) from by omega), (show (x1 = 8 → f_X4_size a0 b0 = a0 2 1) from by omega), (show (x1 = 9 → f_X4_size a0 b0 = a0 0 9) from by omega), (show ((x1 = 2 ∧ a0 4 6 = 0) → f_X4_size a0 b0 = 0) from by omega), (show (x1 = 10 → f_X4_size a0 b0 = a0 56 0) from by omega), (show (x1 = 11 → f_X4_size a0 b0 = a0 56 1) from by omega), (show (x1 = 12 → f_X4_size a0 b0 = a0 56 2) from by omega), (show (x1 = 13 → f_X4_size a0 b0 = a0 56 3) from by omega), (show (x1 = 14 → f_X4_size a0 b0 = a0 56 4) from by omega), (by omega), (by omega), (show ((((x1 < 0 ∨ (14 < x1 ∧ x1 < 20)) ∨ (27 < x1 ∧ x1 < 30)) ∨ 37 < x1) → f_X4_size a0 b0 = 0 - 1) from by omega), (fun h => by first | exact hq0_1 | (exfalso; omega))⟩
              ·
                refine jt_ite (fun c90_ => ?_) (fun c90_ => ?_)
                ·
                  refine jt_eI (eq_X4_ringsClosed E d (jd_le hd rfl) a0 b0) ?_
                  have h91_ := f_X4_ringsClosed_eq a0 b0
                  have h92_ := iv_get hv0 (k := 0) (j := 0) (l := 0) (u := 1999) rfl
                  have h93_ := iv_get hv0 (k := 4) (j := 6) (l := 0) (u := 40) rfl
                  have h94_ := iv_get hv0 (k := 58) (j := 8) (l := 0) (u := 300) rfl
                  have h95_ := iv_get hv0 (k := 58) (j := 12) (l := 0) (u := 600) rfl
                  have h96_ := iv_get hv0 (k := 83) (j := 6) (l := 0) (u := 20) rfl
                  have h97_ := iv_get hv0 (k := 105) (j := 5) (l := 0) (u := 10) rfl
                  have h98_ := iv_get hv0 (k := 2) (j := 1) (l := 0) (u := 200) rfl
                  have h99_ := iv_get hv0 (k := 0) (j := 9) (l := 0) (u := 8) rfl
                  exact jt_rI ⟨rfl, rfl, (show (x1 = 0 → f_X4_ringsClosed a0 b0 = a0 0 0) from by omega), (show (x1 = 1 → f_X4_ringsClosed a0 b0 = a0 4 6) from by omega), (show (x1 = 3 → f_X4_ringsClosed a0 b0 = a0 58 8) from by omega), (show (x1 = 4 → f_X4_ringsClosed a0 b0 = a0 58 12) from by omega), (show (x1 = 5 → f_X4_ringsClosed a0 b0 = a0 83 6) from by omega), (show (x1 = 6 → f_X4_ringsClosed a0 b0 = a0 83 7) from by omega), (show (x1 = 7 → f_X4_ringsClosed a0 b0 = a0 105 5) from by omega), (show (x1 = 8 → f_X4_ringsClosed a0 b0 = a0 2 1) from by omega), (show (x1 = 9 → f_X4_ringsClosed a0 b0 = a0 0 9) from by omega), (show ((x1 = 2 ∧ a0 4 6 = 0) → f_X4_ringsClosed a0 b0 = 0) from by omega), (show (x1 = 10 → f_X4_ringsClosed a0 b0 = a0 56 0) from by omega), (show (x1 = 11 → f_X4_ringsClosed a0 b0 = a0 56 1) from by omega), (show (x1 = 12 → f_X4_ringsClosed a0 b0 = a0 56 2) from by omega), (show (x1 = 13 → f_X4_ringsClosed a0 b0 = a0 56 3) from by omega), (show (x1 = 14 → f_X4_ringsClosed a0 b0 = a0 56 4) from by omega), (by omega), (by omega), (show ((((x1 < 0 ∨ (14 < x1 ∧ x1 < 20)) ∨ (27 < x1 ∧ x1 < 30)) ∨ 37 < x1) → f_X4_ringsClosed a0 b0 = 0 - 1) from by omega), (fun h => by first | exact hq0_1 | (exfalso; omega))⟩
                ·
                  refine jt_ite (fun c100_ => ?_) (fun c100_ => ?_)
                  ·
                    refine jt_eI (eq_X9_size E d (jd_le hd rfl) a0 b0) ?_
                    have h101_ := f_X9_size_eq a0 b0
                    have h102_ := iv_get hv0 (k := 105) (j := 5) (l := 0) (u := 10) rfl
                    have h103_ := iv_get hv0 (k := 0) (j := 0) (l := 0) (u := 1999) rfl
                    have h104_ := iv_get hv0 (k := 4) (j := 6) (l := 0) (u := 40) rfl
                    have h105_ := iv_get hv0 (k := 58) (j := 8) (l := 0) (u := 300) rfl
                    have h106_ := iv_get hv0 (k := 58) (j := 12) (l := 0) (u := 600) rfl
                    have h107_ := iv_get hv0 (k := 83) (j := 6) (l := 0) (u := 20) rfl
                    have h108_ := iv_get hv0 (k := 2) (j := 1) (l := 0) (u := 200) rfl
                    have h109_ := iv_get hv0 (k := 0) (j := 9) (l := 0) (u := 8) rfl
                    exact jt_rI ⟨rfl, rfl, (show (x1 = 0 → f_X9_size a0 b0 = a0 0 0) from by omega), (show (x1 = 1 → f_X9_size a0 b0 = a0 4 6) from by omega), (show (x1 = 3 → f_X9_size a0 b0 = a0 58 8) from by omega), (show (x1 = 4 → f_X9_size a0 b0 = a0 58 12) from by omega), (show (x1 = 5 → f_X9_size a0 b0 = a0 83 6) from by omega), (show (x1 = 6 → f_X9_size a0 b0 = a0 83 7) from by omega), (show (x1 = 7 → f_X9_size a0 b0 = a0 105 5) from by omega), (show (x1 = 8 → f_X9_size a0 b0 = a0 2 1) from by omega), (show (x1 = 9 → f_X9_size a0 b0 = a0 0 9) from by omega), (show ((x1 = 2 ∧ a0 4 6 = 0) → f_X9_size a0 b0 = 0) from by omega), (show (x1 = 10 → f_X9_size a0 b0 = a0 56 0) from by omega), (show (x1 = 11 → f_X9_size a0 b0 = a0 56 1) from by omega), (show (x1 = 12 → f_X9_size a0 b0 = a0 56 2) from by omega), (show (x1 = 13 → f_X9_size a0 b0 = a0 56 3) from by omega), (show (x1 = 14 → f_X9_size a0 b0 = a0 56 4) from by omega), (by omega), (by omega), (show ((((x1 < 0 ∨ (14 < x1 ∧ x1 < 20)) ∨ (27 < x1 ∧ x1 < 30)) ∨ 37 < x1) → f_X9_size a0 b0 = 0 - 1) from by omega), (fun h => by first | exact hq0_1 | (exfalso; omega))⟩
                  ·
                    refine jt_ite (fun c110_ => ?_) (fun c110_ => ?_)
                    ·
                      refine jt_eI (eq_X8_length E d (jd_le hd rfl) a0 b0) ?_
                      have h111_ := f_X8_length_eq a0 b0
                      have h112_ := iv_get hv0 (k := 2) (j := 1) (l := 0) (u := 200) rfl
                      have h113_ := iv_get hv0 (k := 0) (j := 0) (l := 0) (u := 1999) rfl
                      have h114_ := iv_get hv0 (k := 4) (j := 6) (l := 0) (u := 40) rfl
                      have h115_ := iv_get hv0 (k := 58) (j := 8) (l := 0) (u := 300) rfl
                      have h116_ := iv_get hv0 (k := 58) (j := 12) (l := 0) (u := 600) rfl
                      have h117_ := iv_get hv0 (k := 83) (j := 6) (l := 0) (u := 20) rfl
                      have h118_ := iv_get hv0 (k := 105) (j := 5) (l := 0) (u := 10) rfl
                      have h119_ := iv_get hv0 (k := 0) (j := 9) (l := 0) (u := 8) rfl
                      exact jt_rI ⟨rfl, rfl, (show (x1 = 0 → f_X8_length a0 b0 = a0 0 0) from by omega), (show (x1 = 1 → f_X8_length a0 b0 = a0 4 6) from by omega), (show (x1 = 3 → f_X8_length a0 b0 = a0 58 8) from by omega), (show (x1 = 4 → f_X8_length a0 b0 = a0 58 12) from by omega), (show (x1 = 5 → f_X8_length a0 b0 = a0 83 6) from by omega), (show (x1 = 6 → f_X8_length a0 b0 = a0 83 7) from by omega), (show (x1 = 7 → f_X8_length a0 b0 = a0 105 5) from by omega), (show (x1 = 8 → f_X8_length a0 b0 = a0 2 1) from by omega), (show (x1 = 9 → f_X8_length a0 b0 = a0 0 9) from by omega), (show ((x1 = 2 ∧ a0 4 6 = 0) → f_X8_length a0 b0 = 0) from by omega), (show (x1 = 10 → f_X8_length a0 b0 = a0 56 0) from by omega), (show (x1 = 11 → f_X8_length a0 b0 = a0 56 1) from by omega), (show (x1 = 12 → f_X8_length a0 b0 = a0 56 2) from by omega), (show (x1 = 13 → f_X8_length a0 b0 = a0 56 3) from by omega), (show (x1 = 14 → f_X8_length a0 b0 = a0 56 4) from by omega), (by omega), (by omega), (show ((((x1 < 0 ∨ (14 < x1 ∧ x1 < 20)) ∨ (27 < x1 ∧ x1 < 30)) ∨ 37 < x1) → f_X8_length a0 b0 = 0 - 1) from by omega), (fun h => by first | exact hq0_1 | (exfalso; omega))⟩
                    ·
                      refine jt_ite (fun c120_ => ?_) (fun c120_ => ?_)
                      ·
                        have h121_ := iv_get hv0 (k := 0) (j := 9) (l := 0) (u := 8) rfl
                        have h122_ := iv_get hv0 (k := 0) (j := 0) (l := 0) (u := 1999) rfl
                        have h123_ := iv_get hv0 (k := 4) (j := 6) (l := 0) (u := 40) rfl
                        have h124_ := iv_get hv0 (k := 58) (j := 8) (l := 0) (u := 300) rfl
                        have h125_ := iv_get hv0 (k := 58) (j := 12) (l := 0) (u := 600) rfl
                        have h126_ := iv_get hv0 (k := 83) (j := 6) (l := 0) (u := 20) rfl
                        have h127_ := iv_get hv0 (k := 105) (j := 5) (l := 0) (u := 10) rfl
                        have h128_ := iv_get hv0 (k := 2) (j := 1) (l := 0) (u := 200) rfl
                        exact jt_rI ⟨rfl, rfl, (show (x1 = 0 → a0 0 9 = a0 0 0) from by omega), (show (x1 = 1 → a0 0 9 = a0 4 6) from by omega), (show (x1 = 3 → a0 0 9 = a0 58 8) from by omega), (show (x1 = 4 → a0 0 9 = a0 58 12) from by omega), (show (x1 = 5 → a0 0 9 = a0 83 6) from by omega), (show (x1 = 6 → a0 0 9 = a0 83 7) from by omega), (show (x1 = 7 → a0 0 9 = a0 105 5) from by omega), (show (x1 = 8 → a0 0 9 = a0 2 1) from by omega), (show (x1 = 9 → a0 0 9 = a0 0 9) from by omega), (show ((x1 = 2 ∧ a0 4 6 = 0) → a0 0 9 = 0) from by omega), (show (x1 = 10 → a0 0 9 = a0 56 0) from by omega), (show (x1 = 11 → a0 0 9 = a0 56 1) from by omega), (show (x1 = 12 → a0 0 9 = a0 56 2) from by omega), (show (x1 = 13 → a0 0 9 = a0 56 3) from by omega), (show (x1 = 14 → a0 0 9 = a0 56 4) from by omega), (by omega), (by omega), (show ((((x1 < 0 ∨ (14 < x1 ∧ x1 < 20)) ∨ (27 < x1 ∧ x1 < 30)) ∨ 37 < x1) → a0 0 9 = 0 - 1) from by omega), (fun h => by first | exact hq0_1 | (exfalso; omega))⟩
                      ·
                        refine jt_ite (fun c129_ => ?_) (fun c129_ => ?_)
                        ·
                          refine jt_eI (eq_X6_under E d (jd_le hd rfl) a0 b0) ?_
                          have h130_ := f_X6_under_eq a0 b0
                          have h131_ := iv_get hv0 (k := 0) (j := 0) (l := 0) (u := 1999) rfl
                          have h132_ := iv_get hv0 (k := 4) (j := 6) (l := 0) (u := 40) rfl
                          have h133_ := iv_get hv0 (k := 58) (j := 8) (l := 0) (u := 300) rfl
                          have h134_ := iv_get hv0 (k := 58) (j := 12) (l := 0) (u := 600) rfl
                          have h135_ := iv_get hv0 (k := 83) (j := 6) (l := 0) (u := 20) rfl
                          have h136_ := iv_get hv0 (k := 105) (j := 5) (l := 0) (u := 10) rfl
                          have h137_ := iv_get hv0 (k := 2) (j := 1) (l := 0) (u := 200) rfl
                          have h138_ := iv_get hv0 (k := 0) (j := 9) (l := 0) (u := 8) rfl
                          exact jt_rI ⟨rfl, rfl, (show (x1 = 0 → f_X6_under a0 b0 = a0 0 0) from by omega), (show (x1 = 1 → f_X6_under a0 b0 = a0 4 6) from by omega), (show (x1 = 3 → f_X6_under a0 b0 = a0 58 8) from by omega), (show (x1 = 4 → f_X6_under a0 b0 = a0 58 12) from by omega), (show (x1 = 5 → f_X6_under a0 b0 = a0 83 6) from by omega), (show (x1 = 6 → f_X6_under a0 b0 = a0 83 7) from by omega), (show (x1 = 7 → f_X6_under a0 b0 = a0 105 5) from by omega), (show (x1 = 8 → f_X6_under a0 b0 = a0 2 1) from by omega), (show (x1 = 9 → f_X6_under a0 b0 = a0 0 9) from by omega), (show ((x1 = 2 ∧ a0 4 6 = 0) → f_X6_under a0 b0 = 0) from by omega), (show (x1 = 10 → f_X6_under a0 b0 = a0 56 0) from by omega), (show (x1 = 11 → f_X6_under a0 b0 = a0 56 1) from by omega), (show (x1 = 12 → f_X6_under a0 b0 = a0 56 2) from by omega), (show (x1 = 13 → f_X6_under a0 b0 = a0 56 3) from by omega), (show (x1 = 14 → f_X6_under a0 b0 = a0 56 4) from by omega), (by omega), (by omega), (show ((((x1 < 0 ∨ (14 < x1 ∧ x1 < 20)) ∨ (27 < x1 ∧ x1 < 30)) ∨ 37 < x1) → f_X6_under a0 b0 = 0 - 1) from by omega), (fun h => by first | exact hq0_1 | (exfalso; omega))⟩
                        ·
                          refine jt_ite (fun c139_ => ?_) (fun c139_ => ?_)
                          ·
                            refine jt_eI (eq_X6_more E d (jd_le hd rfl) a0 b0) ?_
                            have h140_ := f_X6_more_eq a0 b0
                            have h141_ := iv_get hv0 (k := 0) (j := 0) (l := 0) (u := 1999) rfl
                            have h142_ := iv_get hv0 (k := 4) (j := 6) (l := 0) (u := 40) rfl
                            have h143_ := iv_get hv0 (k := 58) (j := 8) (l := 0) (u := 300) rfl
                            have h144_ := iv_get hv0 (k := 58) (j := 12) (l := 0) (u := 600) rfl
                            have h145_ := iv_get hv0 (k := 83) (j := 6) (l := 0) (u := 20) rfl
                            have h146_ := iv_get hv0 (k := 105) (j := 5) (l := 0) (u := 10) rfl
                            have h147_ := iv_get hv0 (k := 2) (j := 1) (l := 0) (u := 200) rfl
                            have h148_ := iv_get hv0 (k := 0) (j := 9) (l := 0) (u := 8) rfl
                            exact jt_rI ⟨rfl, rfl, (show (x1 = 0 → f_X6_more a0 b0 = a0 0 0) from by omega), (show (x1 = 1 → f_X6_more a0 b0 = a0 4 6) from by omega), (show (x1 = 3 → f_X6_more a0 b0 = a0 58 8) from by omega), (show (x1 = 4 → f_X6_more a0 b0 = a0 58 12) from by omega), (show (x1 = 5 → f_X6_more a0 b0 = a0 83 6) from by omega), (show (x1 = 6 → f_X6_more a0 b0 = a0 83 7) from by omega), (show (x1 = 7 → f_X6_more a0 b0 = a0 105 5) from by omega), (show (x1 = 8 → f_X6_more a0 b0 = a0 2 1) from by omega), (show (x1 = 9 → f_X6_more a0 b0 = a0 0 9) from by omega), (show ((x1 = 2 ∧ a0 4 6 = 0) → f_X6_more a0 b0 = 0) from by omega), (show (x1 = 10 → f_X6_more a0 b0 = a0 56 0) from by omega), (show (x1 = 11 → f_X6_more a0 b0 = a0 56 1) from by omega), (show (x1 = 12 → f_X6_more a0 b0 = a0 56 2) from by omega), (show (x1 = 13 → f_X6_more a0 b0 = a0 56 3) from by omega), (show (x1 = 14 → f_X6_more a0 b0 = a0 56 4) from by omega), (by omega), (by omega), (show ((((x1 < 0 ∨ (14 < x1 ∧ x1 < 20)) ∨ (27 < x1 ∧ x1 < 30)) ∨ 37 < x1) → f_X6_more a0 b0 = 0 - 1) from by omega), (fun h => by first | exact hq0_1 | (exfalso; omega))⟩
                          ·
                            refine jt_ite (fun c149_ => ?_) (fun c149_ => ?_)
                            ·
                              refine jt_eI (eq_X6_slack E d (jd_le hd rfl) a0 b0) ?_
                              have h150_ := f_X6_slack_eq a0 b0
                              have h151_ := iv_get hv0 (k := 0) (j := 0) (l := 0) (u := 1999) rfl
                              have h152_ := iv_get hv0 (k := 4) (j := 6) (l := 0) (u := 40) rfl
                              have h153_ := iv_get hv0 (k := 58) (j := 8) (l := 0) (u := 300) rfl
                              have h154_ := iv_get hv0 (k := 58) (j := 12) (l := 0) (u := 600) rfl
                              have h155_ := iv_get hv0 (k := 83) (j := 6) (l := 0) (u := 20) rfl
                              have h156_ := iv_get hv0 (k := 105) (j := 5) (l := 0) (u := 10) rfl
                              have h157_ := iv_get hv0 (k := 2) (j := 1) (l := 0) (u := 200) rfl
                              have h158_ := iv_get hv0 (k := 0) (j := 9) (l := 0) (u := 8) rfl
                              exact jt_rI ⟨rfl, rfl, (show (x1 = 0 → f_X6_slack a0 b0 = a0 0 0) from by omega), (show (x1 = 1 → f_X6_slack a0 b0 = a0 4 6) from by omega), (show (x1 = 3 → f_X6_slack a0 b0 = a0 58 8) from by omega), (show (x1 = 4 → f_X6_slack a0 b0 = a0 58 12) from by omega), (show (x1 = 5 → f_X6_slack a0 b0 = a0 83 6) from by omega), (show (x1 = 6 → f_X6_slack a0 b0 = a0 83 7) from by omega), (show (x1 = 7 → f_X6_slack a0 b0 = a0 105 5) from by omega), (show (x1 = 8 → f_X6_slack a0 b0 = a0 2 1) from by omega), (show (x1 = 9 → f_X6_slack a0 b0 = a0 0 9) from by omega), (show ((x1 = 2 ∧ a0 4 6 = 0) → f_X6_slack a0 b0 = 0) from by omega), (show (x1 = 10 → f_X6_slack a0 b0 = a0 56 0) from by omega), (show (x1 = 11 → f_X6_slack a0 b0 = a0 56 1) from by omega), (show (x1 = 12 → f_X6_slack a0 b0 = a0 56 2) from by omega), (show (x1 = 13 → f_X6_slack a0 b0 = a0 56 3) from by omega), (show (x1 = 14 → f_X6_slack a0 b0 = a0 56 4) from by omega), (by omega), (by omega), (show ((((x1 < 0 ∨ (14 < x1 ∧ x1 < 20)) ∨ (27 < x1 ∧ x1 < 30)) ∨ 37 < x1) → f_X6_slack a0 b0 = 0 - 1) from by omega), (fun h => by first | exact hq0_1 | (exfalso; omega))⟩
                            ·
                              refine jt_ite (fun c159_ => ?_) (fun c159_ => ?_)
                              ·
                                refine jt_eI (eq_X6_lost E d (jd_le hd rfl) a0 b0) ?_
                                have h160_ := f_X6_lost_eq a0 b0
                                have h161_ := iv_get hv0 (k := 0) (j := 0) (l := 0) (u := 1999) rfl
                                have h162_ := iv_get hv0 (k := 4) (j := 6) (l := 0) (u := 40) rfl
                                have h163_ := iv_get hv0 (k := 58) (j := 8) (l := 0) (u := 300) rfl
                                have h164_ := iv_get hv0 (k := 58) (j := 12) (l := 0) (u := 600) rfl
                                have h165_ := iv_get hv0 (k := 83) (j := 6) (l := 0) (u := 20) rfl
                                have h166_ := iv_get hv0 (k := 105) (j := 5) (l := 0) (u := 10) rfl
                                have h167_ := iv_get hv0 (k := 2) (j := 1) (l := 0) (u := 200) rfl
                                have h168_ := iv_get hv0 (k := 0) (j := 9) (l := 0) (u := 8) rfl
                                exact jt_rI ⟨rfl, rfl, (show (x1 = 0 → f_X6_lost a0 b0 = a0 0 0) from by omega), (show (x1 = 1 → f_X6_lost a0 b0 = a0 4 6) from by omega), (show (x1 = 3 → f_X6_lost a0 b0 = a0 58 8) from by omega), (show (x1 = 4 → f_X6_lost a0 b0 = a0 58 12) from by omega), (show (x1 = 5 → f_X6_lost a0 b0 = a0 83 6) from by omega), (show (x1 = 6 → f_X6_lost a0 b0 = a0 83 7) from by omega), (show (x1 = 7 → f_X6_lost a0 b0 = a0 105 5) from by omega), (show (x1 = 8 → f_X6_lost a0 b0 = a0 2 1) from by omega), (show (x1 = 9 → f_X6_lost a0 b0 = a0 0 9) from by omega), (show ((x1 = 2 ∧ a0 4 6 = 0) → f_X6_lost a0 b0 = 0) from by omega), (show (x1 = 10 → f_X6_lost a0 b0 = a0 56 0) from by omega), (show (x1 = 11 → f_X6_lost a0 b0 = a0 56 1) from by omega), (show (x1 = 12 → f_X6_lost a0 b0 = a0 56 2) from by omega), (show (x1 = 13 → f_X6_lost a0 b0 = a0 56 3) from by omega), (show (x1 = 14 → f_X6_lost a0 b0 = a0 56 4) from by omega), (by omega), (by omega), (show ((((x1 < 0 ∨ (14 < x1 ∧ x1 < 20)) ∨ (27 < x1 ∧ x1 < 30)) ∨ 37 < x1) → f_X6_lost a0 b0 = 0 - 1) from by omega), (fun h => by first | exact hq0_1 | (exfalso; omega))⟩
                              ·
                                refine jt_ite (fun c169_ => ?_) (fun c169_ => ?_)
                                ·
                                  refine jt_eI (eq_X6_strict E d (jd_le hd rfl) a0 b0) ?_
                                  have h170_ := f_X6_strict_eq a0 b0
                                  have h171_ := iv_get hv0 (k := 0) (j := 0) (l := 0) (u := 1999) rfl
                                  have h172_ := iv_get hv0 (k := 4) (j := 6) (l := 0) (u := 40) rfl
                                  have h173_ := iv_get hv0 (k := 58) (j := 8) (l := 0) (u := 300) rfl
                                  have h174_ := iv_get hv0 (k := 58) (j := 12) (l := 0) (u := 600) rfl
                                  have h175_ := iv_get hv0 (k := 83) (j := 6) (l := 0) (u := 20) rfl
                                  have h176_ := iv_get hv0 (k := 105) (j := 5) (l := 0) (u := 10) rfl
                                  have h177_ := iv_get hv0 (k := 2) (j := 1) (l := 0) (u := 200) rfl
                                  have h178_ := iv_get hv0 (k := 0) (j := 9) (l := 0) (u := 8) rfl
                                  exact jt_rI ⟨rfl, rfl, (show (x1 = 0 → f_X6_strict a0 b0 = a0 0 0) from by omega), (show (x1 = 1 → f_X6_strict a0 b0 = a0 4 6) from by omega), (show (x1 = 3 → f_X6_strict a0 b0 = a0 58 8) from by omega), (show (x1 = 4 → f_X6_strict a0 b0 = a0 58 12) from by omega), (show (x1 = 5 → f_X6_strict a0 b0 = a0 83 6) from by omega), (show (x1 = 6 → f_X6_strict a0 b0 = a0 83 7) from by omega), (show (x1 = 7 → f_X6_strict a0 b0 = a0 105 5) from by omega), (show (x1 = 8 → f_X6_strict a0 b0 = a0 2 1) from by omega), (show (x1 = 9 → f_X6_strict a0 b0 = a0 0 9) from by omega), (show ((x1 = 2 ∧ a0 4 6 = 0) → f_X6_strict a0 b0 = 0) from by omega), (show (x1 = 10 → f_X6_strict a0 b0 = a0 56 0) from by omega), (show (x1 = 11 → f_X6_strict a0 b0 = a0 56 1) from by omega), (show (x1 = 12 → f_X6_strict a0 b0 = a0 56 2) from by omega), (show (x1 = 13 → f_X6_strict a0 b0 = a0 56 3) from by omega), (show (x1 = 14 → f_X6_strict a0 b0 = a0 56 4) from by omega), (by omega), (by omega), (show ((((x1 < 0 ∨ (14 < x1 ∧ x1 < 20)) ∨ (27 < x1 ∧ x1 < 30)) ∨ 37 < x1) → f_X6_strict a0 b0 = 0 - 1) from by omega), (fun h => by first | exact hq0_1 | (exfalso; omega))⟩
                                ·
                                  exact absurd (by omega : False) id
abbrev jR_X1_put (x1 x2 x3 : Int) (a0 b0 : Nat → Nat → Int) : List jxV → (Nat → Nat → Int) → (Nat → Nat → Int) → Prop := rI (fun r a b => (iv a) ∧ (jfr jW_X1_put a0 a) ∧ (b0 = b) ∧ ((0 ≤ r ∧ r ≤ 1)) ∧ ((((((((r = 1 ∧ 0 ≤ x1) ∧ x1 ≤ 7) ∧ 1 ≤ x2) ∧ x2 ≤ 500) ∧ 0 ≤ x3) ∧ x3 ≤ 50) ∨ (r = 0 ∧ (((((x1 < 0 ∨ 7 < x1) ∨ x2 < 1) ∨ 500 < x2) ∨ x3 < 0) ∨ 50 < x3)))) ∧ (r = 1 → a 142 = rup (a0 142) x1.toNat x2 ∧ a 143 = rup (a0 143) x1.toNat x3) ∧ (r = 0 → a 142 = a0 142 ∧ a 143 = a0 143))
theorem cr_X1_put_36 (E : jxE) (d : Nat) (hd : Nat.ble 2 (d + 1) = true) (x1 x2 x3 : Int) (a0 b0 : Nat → Nat → Int) (hv0 : iv a0) : ∀ (y1 y2 y3 s0 : Int) (a : Nat → Nat → Int), iv a → jfr jW_X1_put a0 a → 0 ≤ s0 → s0 ≤ 1 → y1 = x1 → y2 = x2 → y3 = x3 → (((((((s0 = 1 ∧ 0 ≤ x1) ∧ x1 ≤ 7) ∧ 1 ≤ x2) ∧ x2 ≤ 500) ∧ 0 ≤ x3) ∧ x3 ≤ 50) ∨ (s0 = 0 ∧ (((((x1 < 0 ∨ 7 < x1) ∨ x2 < 1) ∨ 500 < x2) ∨ x3 < 0) ∨ 50 < x3))) → (y1 = x1) → (y2 = x2) → (y3 = x3) → (a = a0) → (s0 = 1 → (((((0 ≤ y1 ∧ y1 ≤ 7) ∧ 1 ≤ y2) ∧ y2 ≤ 500) ∧ 0 ≤ y3) ∧ y3 ≤ 50)) → jt (jxX E d 29 36 [some (.inr (.inr (.inl 141))), some (.inl y1), some (.inl y2), some (.inl y3), none] [.inl s0] (jxSH, a, b0)) (jR_X1_put x1 x2 x3 a0 b0) := by
  intro y1 y2 y3 s0 a hv hf hi0 hi1 hi2 hi3 hi4 hi5 hy1 hy2 hy3 hea hi10
  refine jt_eq (bq_X1_put_36 E d y1 y2 y3 s0 a b0) ?_
  refine jt_ite (fun c179_ => ?_) (fun c179_ => ?_)
  ·
    refine jt_grd (by omega) ?_
    exact jt_rI ⟨hv, hf, rfl, (show (0 ≤ s0 ∧ s0 ≤ 1) from by omega), (show (((((((s0 = 1 ∧ 0 ≤ x1) ∧ x1 ≤ 7) ∧ 1 ≤ x2) ∧ x2 ≤ 500) ∧ 0 ≤ x3) ∧ x3 ≤ 50) ∨ (s0 = 0 ∧ (((((x1 < 0 ∨ 7 < x1) ∨ x2 < 1) ∨ 500 < x2) ∨ x3 < 0) ∨ 50 < x3))) from by omega), (fun h => absurd h (by omega)), (fun _ => by rw [hea]; exact ⟨rfl, rfl⟩)⟩
  ·
    refine jt_grd (by omega) ?_
    refine jt_grd (by omega) ?_
    refine jt_grd (by omega) ?_
    have hv180_ : iv (jxu a 142 (y1.toNat) y2) := iv_putf hv rfl
    have hv181_ : iv (jxu (jxu a 142 (y1.toNat) y2) 143 (y1.toNat) y3) := iv_putf hv180_ rfl
    have hf182_ : jfr jW_X1_put a0 (jxu a 142 (y1.toNat) y2) := jfr_put hf rfl
    have hf183_ : jfr jW_X1_put a0 (jxu (jxu a 142 (y1.toNat) y2) 143 (y1.toNat) y3) := jfr_put hf182_ rfl
    exact jt_rI ⟨hv181_, hf183_, rfl, (show (0 ≤ s0 ∧ s0 ≤ 1) from by omega), (show (((((((s0 = 1 ∧ 0 ≤ x1) ∧ x1 ≤ 7) ∧ 1 ≤ x2) ∧ x2 ≤ 500) ∧ 0 ≤ x3) ∧ x3 ≤ 50) ∨ (s0 = 0 ∧ (((((x1 < 0 ∨ 7 < x1) ∨ x2 < 1) ∨ 500 < x2) ∨ x3 < 0) ∨ 50 < x3))) from by omega), (fun _ => by rw [← hea, ← hy1, ← hy2, ← hy3]; exact ⟨by rw [jxu_off (show ¬ 142 = 143 by decide), jxu_rup], by rw [jxu_rup, jxu_off (show ¬ 143 = 142 by decide)]⟩), (fun h => absurd h (by omega))⟩
theorem cr_X1_put_31 (E : jxE) (d : Nat) (hd : Nat.ble 2 (d + 1) = true) (x1 x2 x3 : Int) (a0 b0 : Nat → Nat → Int) (hv0 : iv a0) : ∀ (y1 y2 y3 : Int) (a : Nat → Nat → Int), iv a → jfr jW_X1_put a0 a → 0 ≤ y1 → y1 ≤ 7 → 1 ≤ y2 → y2 ≤ 500 → 0 ≤ y3 → y3 ≤ 50 → y1 = x1 → y2 = x2 → y3 = x3 → (((((0 ≤ x1 ∧ x1 ≤ 7) ∧ 1 ≤ x2) ∧ x2 ≤ 500) ∧ 0 ≤ x3) ∧ x3 ≤ 50) → (y1 = x1) → (y2 = x2) → (y3 = x3) → (a = a0) → jt (jxX E d 29 31 [some (.inr (.inr (.inl 141))), some (.inl y1), some (.inl y2), some (.inl y3), none] [] (jxSH, a, b0)) (jR_X1_put x1 x2 x3 a0 b0) := by
  intro y1 y2 y3 a hv hf hi0 hi1 hi2 hi3 hi4 hi5 hi6 hi7 hi8 hi9 hy1 hy2 hy3 hea
  refine jt_eq (bq_X1_put_31 E d y1 y2 y3 a b0) ?_
  exact cr_X1_put_36 E d hd x1 x2 x3 a0 b0 hv0 y1 y2 y3 1 a hv hf (show 0 ≤ 1 from by omega) (show 1 ≤ 1 from by omega) (show y1 = x1 from by omega) (show y2 = x2 from by omega) (show y3 = x3 from by omega) (show (((((((1 = 1 ∧ 0 ≤ x1) ∧ x1 ≤ 7) ∧ 1 ≤ x2) ∧ x2 ≤ 500) ∧ 0 ≤ x3) ∧ x3 ≤ 50) ∨ (1 = 0 ∧ (((((x1 < 0 ∨ 7 < x1) ∨ x2 < 1) ∨ 500 < x2) ∨ x3 < 0) ∨ 50 < x3))) from by omega) (by first | rfl | assumption) (by first | rfl | assumption) (by first | rfl | assumption) (by first | rfl | assumption) (show (1 = 1 → (((((0 ≤ y1 ∧ y1 ≤ 7) ∧ 1 ≤ y2) ∧ y2 ≤ 500) ∧ 0 ≤ y3) ∧ y3 ≤ 50)) from by omega)
theorem cr_X1_put_35 (E : jxE) (d : Nat) (hd : Nat.ble 2 (d + 1) = true) (x1 x2 x3 : Int) (a0 b0 : Nat → Nat → Int) (hv0 : iv a0) : ∀ (y1 y2 y3 : Int) (a : Nat → Nat → Int), iv a → jfr jW_X1_put a0 a → y1 = x1 → y2 = x2 → y3 = x3 → (((((x1 < 0 ∨ 7 < x1) ∨ x2 < 1) ∨ 500 < x2) ∨ x3 < 0) ∨ 50 < x3) → (y1 = x1) → (y2 = x2) → (y3 = x3) → (a = a0) → jt (jxX E d 29 35 [some (.inr (.inr (.inl 141))), some (.inl y1), some (.inl y2), some (.inl y3), none] [] (jxSH, a, b0)) (jR_X1_put x1 x2 x3 a0 b0) := by
  intro y1 y2 y3 a hv hf hi0 hi1 hi2 hi3 hy1 hy2 hy3 hea
  refine jt_eq (bq_X1_put_35 E d y1 y2 y3 a b0) ?_
  exact cr_X1_put_36 E d hd x1 x2 x3 a0 b0 hv0 y1 y2 y3 0 a hv hf (show 0 ≤ 0 from by omega) (show 0 ≤ 1 from by omega) (show y1 = x1 from by omega) (show y2 = x2 from by omega) (show y3 = x3 from by omega) (show (((((((0 = 1 ∧ 0 ≤ x1) ∧ x1 ≤ 7) ∧ 1 ≤ x2) ∧ x2 ≤ 500) ∧ 0 ≤ x3) ∧ x3 ≤ 50) ∨ (0 = 0 ∧ (((((x1 < 0 ∨ 7 < x1) ∨ x2 < 1) ∨ 500 < x2) ∨ x3 < 0) ∨ 50 < x3))) from by omega) (by first | rfl | assumption) (by first | rfl | assumption) (by first | rfl | assumption) (by first | rfl | assumption) (show (0 = 1 → (((((0 ≤ y1 ∧ y1 ≤ 7) ∧ 1 ≤ y2) ∧ y2 ≤ 500) ∧ 0 ≤ y3) ∧ y3 ≤ 50)) from by omega)
theorem sq_X1_put (E : jxE) (d : Nat) (hd : Nat.ble 2 d = true) (x1 x2 x3 : Int) (a0 b0 : Nat → Nat → Int) (hv0 : iv a0) : jt (jxC E d 29 [.inr (.inr (.inl 141)), .inl x1, .inl x2, .inl x3] (jxSH, a0, b0)) (jR_X1_put x1 x2 x3 a0 b0) := by
  obtain ⟨d, rfl⟩ := jd_succ hd
  refine jt_eq (bq_X1_put E d x1 x2 x3 a0 b0) ?_
  refine jt_eI (eq_X11_within E d (jd_le hd rfl) x1 0 7 a0 b0) ?_
  have h184_ := f_X11_within_eq a0 b0 x1 0 7
  refine jt_ite (fun c185_ => ?_) (fun c185_ => ?_)
  ·
    exact cr_X1_put_35 E d hd x1 x2 x3 a0 b0 hv0 x1 x2 x3 a0 hv0 (jfr_rf _ _) (show x1 = x1 from by omega) (show x2 = x2 from by omega) (show x3 = x3 from by omega) (show (((((x1 < 0 ∨ 7 < x1) ∨ x2 < 1) ∨ 500 < x2) ∨ x3 < 0) ∨ 50 < x3) from by omega) (by first | rfl | assumption) (by first | rfl | assumption) (by first | rfl | assumption) (by first | rfl | assumption)
  ·
    refine jt_eI (eq_X11_within E d (jd_le hd rfl) x2 1 500 a0 b0) ?_
    have h186_ := f_X11_within_eq a0 b0 x2 1 500
    refine jt_ite (fun c187_ => ?_) (fun c187_ => ?_)
    ·
      exact cr_X1_put_35 E d hd x1 x2 x3 a0 b0 hv0 x1 x2 x3 a0 hv0 (jfr_rf _ _) (show x1 = x1 from by omega) (show x2 = x2 from by omega) (show x3 = x3 from by omega) (show (((((x1 < 0 ∨ 7 < x1) ∨ x2 < 1) ∨ 500 < x2) ∨ x3 < 0) ∨ 50 < x3) from by omega) (by first | rfl | assumption) (by first | rfl | assumption) (by first | rfl | assumption) (by first | rfl | assumption)
    ·
      refine jt_eI (eq_X11_within E d (jd_le hd rfl) x3 0 50 a0 b0) ?_
      have h188_ := f_X11_within_eq a0 b0 x3 0 50
      refine jt_ite (fun c189_ => ?_) (fun c189_ => ?_)
      ·
        exact cr_X1_put_35 E d hd x1 x2 x3 a0 b0 hv0 x1 x2 x3 a0 hv0 (jfr_rf _ _) (show x1 = x1 from by omega) (show x2 = x2 from by omega) (show x3 = x3 from by omega) (show (((((x1 < 0 ∨ 7 < x1) ∨ x2 < 1) ∨ 500 < x2) ∨ x3 < 0) ∨ 50 < x3) from by omega) (by first | rfl | assumption) (by first | rfl | assumption) (by first | rfl | assumption) (by first | rfl | assumption)
      ·
        exact cr_X1_put_31 E d hd x1 x2 x3 a0 b0 hv0 x1 x2 x3 a0 hv0 (jfr_rf _ _) (show 0 ≤ x1 from by omega) (show x1 ≤ 7 from by omega) (show 1 ≤ x2 from by omega) (show x2 ≤ 500 from by omega) (show 0 ≤ x3 from by omega) (show x3 ≤ 50 from by omega) (show x1 = x1 from by omega) (show x2 = x2 from by omega) (show x3 = x3 from by omega) (show (((((0 ≤ x1 ∧ x1 ≤ 7) ∧ 1 ≤ x2) ∧ x2 ≤ 500) ∧ 0 ≤ x3) ∧ x3 ≤ 50) from by omega) (by first | rfl | assumption) (by first | rfl | assumption) (by first | rfl | assumption) (by first | rfl | assumption)
abbrev jR_X11_stamps (x1 x2 x3 : Int) (a0 b0 : Nat → Nat → Int) : List jxV → (Nat → Nat → Int) → (Nat → Nat → Int) → Prop := rI (fun r a b => (iv a) ∧ (jfr jW_X11_stamps a0 a) ∧ (b0 = b) ∧ ((0 ≤ r ∧ r ≤ 1)) ∧ ((((((((r = 1 ∧ 0 ≤ x1) ∧ x1 ≤ 7) ∧ 1 ≤ x2) ∧ x2 ≤ 500) ∧ 0 ≤ x3) ∧ x3 ≤ 50) ∨ (r = 0 ∧ (((((x1 < 0 ∨ 7 < x1) ∨ x2 < 1) ∨ 500 < x2) ∨ x3 < 0) ∨ 50 < x3)))) ∧ (r = 1 → a 142 = rup (a0 142) x1.toNat x2 ∧ a 143 = rup (a0 143) x1.toNat x3) ∧ (r = 0 → a 142 = a0 142 ∧ a 143 = a0 143))
theorem sq_X11_stamps (E : jxE) (d : Nat) (hd : Nat.ble 3 d = true) (x1 x2 x3 : Int) (a0 b0 : Nat → Nat → Int) (hv0 : iv a0) : jt (jxC E d 193 [.inr (.inr (.inl 0)), .inl x1, .inl x2, .inl x3] (jxSH, a0, b0)) (jR_X11_stamps x1 x2 x3 a0 b0) := by
  obtain ⟨d, rfl⟩ := jd_succ hd
  refine jt_eq (bq_X11_stamps E d x1 x2 x3 a0 b0) ?_
  refine jt_bI (sq_X1_put E d (jd_le hd rfl) x1 x2 x3 a0 b0 hv0) (fun r190_ a190_ b190_ h190_ => ?_)
  obtain ⟨hv190_, hf190_, rfl, hq190_0, hq190_1, hq190_2, hq190_3⟩ := h190_
  refine jt_grd (by omega) ?_
  have hf191_ : jfr jW_X11_stamps a0 a190_ := jfr_tr (jfr_rf _ _) hf190_ rfl
  exact jt_rI ⟨hv190_, hf191_, rfl, (show (0 ≤ r190_ ∧ r190_ ≤ 1) from by omega), (show (((((((r190_ = 1 ∧ 0 ≤ x1) ∧ x1 ≤ 7) ∧ 1 ≤ x2) ∧ x2 ≤ 500) ∧ 0 ≤ x3) ∧ x3 ≤ 50) ∨ (r190_ = 0 ∧ (((((x1 < 0 ∨ 7 < x1) ∨ x2 < 1) ∨ 500 < x2) ∨ x3 < 0) ∨ 50 < x3))) from by omega), hq190_2, hq190_3⟩
abbrev jR_X12_count (x1 : Int) (a0 b0 : Nat → Nat → Int) : List jxV → (Nat → Nat → Int) → (Nat → Nat → Int) → Prop := rI (fun r a b => (a0 = a) ∧ (b0 = b) ∧ ((x1 = 0 → r = a0 146 0)) ∧ ((x1 = 1 → r = a0 146 2)) ∧ ((x1 = 3 → r = a0 146 9)) ∧ ((x1 = 4 → r = a0 146 17)) ∧ ((x1 = 5 → r = a0 146 49)) ∧ ((x1 = 6 → r = a0 146 55)) ∧ ((x1 = 7 → r = a0 146 68)) ∧ ((x1 = 8 → r = a0 146 22)) ∧ ((x1 = 9 → r = a0 146 42)) ∧ (((x1 = 2 ∧ a0 146 2 = 0) → r = 0)) ∧ (10 ≤ x1 ∧ x1 ≤ 14 → r = a0 171 (jxw (x1 - 10)).toNat) ∧ (20 ≤ x1 ∧ x1 ≤ 27 → r = a0 197 (jxw (x1 - 20)).toNat) ∧ (30 ≤ x1 ∧ x1 ≤ 37 → r = a0 196 (jxw (x1 - 30)).toNat) ∧ (((((x1 < 0 ∨ (14 < x1 ∧ x1 < 20)) ∨ (27 < x1 ∧ x1 < 30)) ∨ 37 < x1) → r = 0 - 1)) ∧ (x1 = 2 → r = THN (a0 152) (a0 146 2).toNat))
theorem cr_X12_count_68 (E : jxE) (d : Nat) (hd : Nat.ble 2 (d + 1) = true) (x1 : Int) (a0 b0 : Nat → Nat → Int) (hv0 : iv a0) : ∀ n : Nat, (∀ (y2 y3 : Int), (((40 - y3) * 1) + 0).toNat ≤ n → 0 ≤ y3 → y3 ≤ 39 → x1 = 2 → (a0 146 2 = 0 → y2 = 0) → 0 ≤ y3 → y3 < a0 146 2 → (y2 = THN (a0 152) (y3.toNat + 1)) → jt (jxX E d 289 93 [some (.inr (.inr (.inl 146))), none, some (.inl y2), some (.inl y3)] [] (jxSH, a0, b0)) (jR_X12_count x1 a0 b0)) ∧ (∀ (y2 y3 : Int), (((40 - y3) * 1) + 0).toNat ≤ n → 0 ≤ y3 → y3 ≤ 40 → x1 = 2 → (a0 146 2 = 0 → y2 = 0) → 0 ≤ y3 → y3 ≤ a0 146 2 → (y2 = THN (a0 152) y3.toNat) → jt (jxX E d 289 68 [some (.inr (.inr (.inl 146))), none, some (.inl y2), some (.inl y3)] [] (jxSH, a0, b0)) (jR_X12_count x1 a0 b0)) := by
  refine jx_ind fun n ih => ?_
  have ih93 : ∀ (y2 y3 : Int), (((40 - y3) * 1) + 0).toNat < n → 0 ≤ y3 → y3 ≤ 39 → x1 = 2 → (a0 146 2 = 0 → y2 = 0) → 0 ≤ y3 → y3 < a0 146 2 → (y2 = THN (a0 152) (y3.toNat + 1)) → jt (jxX E d 289 93 [some (.inr (.inr (.inl 146))), none, some (.inl y2), some (.inl y3)] [] (jxSH, a0, b0)) (jR_X12_count x1 a0 b0) := fun y2 y3 hlt i0 i1 i2 i3 i4 i5 i6 => (ih _ hlt).1 y2 y3 (Nat.le_refl _) i0 i1 i2 i3 i4 i5 i6
  have ih68 : ∀ (y2 y3 : Int), (((40 - y3) * 1) + 0).toNat < n → 0 ≤ y3 → y3 ≤ 40 → x1 = 2 → (a0 146 2 = 0 → y2 = 0) → 0 ≤ y3 → y3 ≤ a0 146 2 → (y2 = THN (a0 152) y3.toNat) → jt (jxX E d 289 68 [some (.inr (.inr (.inl 146))), none, some (.inl y2), some (.inl y3)] [] (jxSH, a0, b0)) (jR_X12_count x1 a0 b0) := fun y2 y3 hlt i0 i1 i2 i3 i4 i5 i6 => (ih _ hlt).2 y2 y3 (Nat.le_refl _) i0 i1 i2 i3 i4 i5 i6
  have hc93 : ∀ (y2 y3 : Int), (((40 - y3) * 1) + 0).toNat ≤ n → 0 ≤ y3 → y3 ≤ 39 → x1 = 2 → (a0 146 2 = 0 → y2 = 0) → 0 ≤ y3 → y3 < a0 146 2 → (y2 = THN (a0 152) (y3.toNat + 1)) → jt (jxX E d 289 93 [some (.inr (.inr (.inl 146))), none, some (.inl y2), some (.inl y3)] [] (jxSH, a0, b0)) (jR_X12_count x1 a0 b0) := by
    intro y2 y3 hm hi0 hi1 hi2 hi3 hi4 hi5 hth
    refine jt_eq (bq_X12_count_93 E d y2 y3 a0 b0) ?_
    have h192_ := iv_get hv0 (k := 146) (j := 2) (l := 0) (u := 40) rfl
    have bt := THN_bd (a0 152) y3.toNat
    have i2 := iv_get hv0 (k := 146) (j := 2) (l := 0) (u := 40) rfl
    have h193_ : jxw (y3 + 1) = y3 + 1 := jxw_id (by omega) (by omega)
    exact ih68 y2 (jxw (y3 + 1)) (show (((40 - (jxw (y3 + 1))) * 1) + 0).toNat < n from by omega) (show 0 ≤ jxw (y3 + 1) from by omega) (show jxw (y3 + 1) ≤ 40 from by omega) (show x1 = 2 from by omega) (show (a0 146 2 = 0 → y2 = 0) from by omega) (show 0 ≤ jxw (y3 + 1) from by omega) (show jxw (y3 + 1) ≤ a0 146 2 from by omega) (by rw [show (jxw (y3 + 1)).toNat = y3.toNat + 1 from by omega]; exact hth)
  have hc68 : ∀ (y2 y3 : Int), (((40 - y3) * 1) + 0).toNat ≤ n → 0 ≤ y3 → y3 ≤ 40 → x1 = 2 → (a0 146 2 = 0 → y2 = 0) → 0 ≤ y3 → y3 ≤ a0 146 2 → (y2 = THN (a0 152) y3.toNat) → jt (jxX E d 289 68 [some (.inr (.inr (.inl 146))), none, some (.inl y2), some (.inl y3)] [] (jxSH, a0, b0)) (jR_X12_count x1 a0 b0) := by
    intro y2 y3 hm hi0 hi1 hi2 hi3 hi4 hi5 hth
    refine jt_eq (bq_X12_count_68 E d y2 y3 a0 b0) ?_
    have h194_ := iv_get hv0 (k := 146) (j := 2) (l := 0) (u := 40) rfl
    have bt := THN_bd (a0 152) y3.toNat
    have i2 := iv_get hv0 (k := 146) (j := 2) (l := 0) (u := 40) rfl
    refine jt_ite (fun c195_ => ?_) (fun c195_ => ?_)
    ·
      refine jt_grd (by omega) ?_
      have h196_ := iv_get hv0 (k := 152) (j := y3.toNat) (l := 0) (u := 1) rfl
      refine jt_ite (fun c197_ => ?_) (fun c197_ => ?_)
      ·
        have h198_ := jxw_im (y2 + 0)
        have h199_ := jxw_rg (y2 + 0)
        exact hc93 (jxw (y2 + 0)) y3 (show (((40 - y3) * 1) + 0).toNat ≤ n from by omega) (show 0 ≤ y3 from by omega) (show y3 ≤ 39 from by omega) (show x1 = 2 from by omega) (show (a0 146 2 = 0 → jxw (y2 + 0) = 0) from by omega) (show 0 ≤ y3 from by omega) (show y3 < a0 146 2 from by omega) (by show _ = THN (a0 152) y3.toNat + (if a0 152 y3.toNat = 0 then 0 else 1); first | (rw [if_pos (by assumption), show jxw (y2 + 0) = y2 from by rw [Int.add_zero]; exact jxw_id (by omega) (by omega)]; omega) | (rw [if_neg (by assumption), show jxw (y2 + 1) = y2 + 1 from jxw_id (by omega) (by omega)]; omega))
      ·
        have h200_ := jxw_im (y2 + 1)
        have h201_ := jxw_rg (y2 + 1)
        exact hc93 (jxw (y2 + 1)) y3 (show (((40 - y3) * 1) + 0).toNat ≤ n from by omega) (show 0 ≤ y3 from by omega) (show y3 ≤ 39 from by omega) (show x1 = 2 from by omega) (show (a0 146 2 = 0 → jxw (y2 + 1) = 0) from by omega) (show 0 ≤ y3 from by omega) (show y3 < a0 146 2 from by omega) (by show _ = THN (a0 152) y3.toNat + (if a0 152 y3.toNat = 0 then 0 else 1); first | (rw [if_pos (by assumption), show jxw (y2 + 0) = y2 from by rw [Int.add_zero]; exact jxw_id (by omega) (by omega)]; omega) | (rw [if_neg (by assumption), show jxw (y2 + 1) = y2 + 1 from jxw_id (by omega) (by omega)]; omega))
    ·
      have h202_ := iv_get hv0 (k := 146) (j := 0) (l := 0) (u := 1999) rfl
      have h203_ := iv_get hv0 (k := 146) (j := 9) (l := 0) (u := 300) rfl
      have h204_ := iv_get hv0 (k := 146) (j := 17) (l := 0) (u := 600) rfl
      have h205_ := iv_get hv0 (k := 146) (j := 49) (l := 0) (u := 20) rfl
      have h206_ := iv_get hv0 (k := 146) (j := 68) (l := 0) (u := 10) rfl
      have h207_ := iv_get hv0 (k := 146) (j := 22) (l := 0) (u := 200) rfl
      have h208_ := iv_get hv0 (k := 146) (j := 42) (l := 0) (u := 8) rfl
      exact jt_rI ⟨rfl, rfl, (show (x1 = 0 → y2 = a0 146 0) from by omega), (show (x1 = 1 → y2 = a0 146 2) from by omega), (show (x1 = 3 → y2 = a0 146 9) from by omega), (show (x1 = 4 → y2 = a0 146 17) from by omega), (show (x1 = 5 → y2 = a0 146 49) from by omega), (show (x1 = 6 → y2 = a0 146 55) from by omega), (show (x1 = 7 → y2 = a0 146 68) from by omega), (show (x1 = 8 → y2 = a0 146 22) from by omega), (show (x1 = 9 → y2 = a0 146 42) from by omega), (show ((x1 = 2 ∧ a0 146 2 = 0) → y2 = 0) from by omega), (by first | omega | (rw [← hyx]; omega)), (by first | omega | (rw [← hyx]; omega)), (by first | omega | (rw [← hyx]; omega)), (show ((((x1 < 0 ∨ (14 < x1 ∧ x1 < 20)) ∨ (27 < x1 ∧ x1 < 30)) ∨ 37 < x1) → y2 = 0 - 1) from by omega), (fun _ => by rw [show (a0 146 2).toNat = y3.toNat from by omega]; exact hth)⟩
  exact ⟨hc93, hc68⟩
theorem cr_X12_count_168 (E : jxE) (d : Nat) (hd : Nat.ble 2 (d + 1) = true) (x1 : Int) (a0 b0 : Nat → Nat → Int) (hv0 : iv a0) : ∀ (y1 : Int), 20 ≤ y1 → y1 ≤ 27 → (y1 = x1) → (20 ≤ x1 ∧ x1 ≤ 27) → jt (jxX E d 289 168 [some (.inr (.inr (.inl 146))), some (.inl y1), none, none] [] (jxSH, a0, b0)) (jR_X12_count x1 a0 b0) := by
  intro y1 hi0 hi1 hyx hi3
  refine jt_eq (bq_X12_count_168 E d y1 a0 b0) ?_
  have h209_ : jxw (y1 - 20) = y1 - 20 := jxw_id (by omega) (by omega)
  refine jt_grd (by omega) ?_
  have h210_ := iv_get hv0 (k := 197) (j := (jxw (y1 - 20)).toNat) (l := 0) (u := 50) rfl
  have h211_ := iv_get hv0 (k := 146) (j := 0) (l := 0) (u := 1999) rfl
  have h212_ := iv_get hv0 (k := 146) (j := 2) (l := 0) (u := 40) rfl
  have h213_ := iv_get hv0 (k := 146) (j := 9) (l := 0) (u := 300) rfl
  have h214_ := iv_get hv0 (k := 146) (j := 17) (l := 0) (u := 600) rfl
  have h215_ := iv_get hv0 (k := 146) (j := 49) (l := 0) (u := 20) rfl
  have h216_ := iv_get hv0 (k := 146) (j := 68) (l := 0) (u := 10) rfl
  have h217_ := iv_get hv0 (k := 146) (j := 22) (l := 0) (u := 200) rfl
  have h218_ := iv_get hv0 (k := 146) (j := 42) (l := 0) (u := 8) rfl
  exact jt_rI ⟨rfl, rfl, (show (x1 = 0 → a0 197 ((jxw (y1 - 20)).toNat) = a0 146 0) from by omega), (show (x1 = 1 → a0 197 ((jxw (y1 - 20)).toNat) = a0 146 2) from by omega), (show (x1 = 3 → a0 197 ((jxw (y1 - 20)).toNat) = a0 146 9) from by omega), (show (x1 = 4 → a0 197 ((jxw (y1 - 20)).toNat) = a0 146 17) from by omega), (show (x1 = 5 → a0 197 ((jxw (y1 - 20)).toNat) = a0 146 49) from by omega), (show (x1 = 6 → a0 197 ((jxw (y1 - 20)).toNat) = a0 146 55) from by omega), (show (x1 = 7 → a0 197 ((jxw (y1 - 20)).toNat) = a0 146 68) from by omega), (show (x1 = 8 → a0 197 ((jxw (y1 - 20)).toNat) = a0 146 22) from by omega), (show (x1 = 9 → a0 197 ((jxw (y1 - 20)).toNat) = a0 146 42) from by omega), (show ((x1 = 2 ∧ a0 146 2 = 0) → a0 197 ((jxw (y1 - 20)).toNat) = 0) from by omega), (by first | omega | (rw [← hyx]; omega)), (by first | omega | (rw [← hyx]; omega)), (by first | omega | (rw [← hyx]; omega)), (show ((((x1 < 0 ∨ (14 < x1 ∧ x1 < 20)) ∨ (27 < x1 ∧ x1 < 30)) ∨ 37 < x1) → a0 197 ((jxw (y1 - 20)).toNat) = 0 - 1) from by omega), (fun h => by exfalso; omega)⟩
theorem cr_X12_count_178 (E : jxE) (d : Nat) (hd : Nat.ble 2 (d + 1) = true) (x1 : Int) (a0 b0 : Nat → Nat → Int) (hv0 : iv a0) : ∀ (y1 : Int), (y1 = x1) → (x1 < 0 ∨ 14 < x1) → (x1 < 20 ∨ 27 < x1) → jt (jxX E d 289 178 [some (.inr (.inr (.inl 146))), some (.inl y1), none, none] [] (jxSH, a0, b0)) (jR_X12_count x1 a0 b0) := by
  intro y1 hyx hi1 hi2
  refine jt_eq (bq_X12_count_178 E d y1 a0 b0) ?_
  refine jt_eI (eq_X12_in E d (jd_le hd rfl) y1 30 37 a0 b0) ?_
  have h219_ := f_X12_in_eq a0 b0 y1 30 37
  refine jt_ite (fun c220_ => ?_) (fun c220_ => ?_)
  ·
    have h221_ := iv_get hv0 (k := 146) (j := 0) (l := 0) (u := 1999) rfl
    have h222_ := iv_get hv0 (k := 146) (j := 2) (l := 0) (u := 40) rfl
    have h223_ := iv_get hv0 (k := 146) (j := 9) (l := 0) (u := 300) rfl
    have h224_ := iv_get hv0 (k := 146) (j := 17) (l := 0) (u := 600) rfl
    have h225_ := iv_get hv0 (k := 146) (j := 49) (l := 0) (u := 20) rfl
    have h226_ := iv_get hv0 (k := 146) (j := 68) (l := 0) (u := 10) rfl
    have h227_ := iv_get hv0 (k := 146) (j := 22) (l := 0) (u := 200) rfl
    have h228_ := iv_get hv0 (k := 146) (j := 42) (l := 0) (u := 8) rfl
    exact jt_rI ⟨rfl, rfl, (show (x1 = 0 → (-1) = a0 146 0) from by omega), (show (x1 = 1 → (-1) = a0 146 2) from by omega), (show (x1 = 3 → (-1) = a0 146 9) from by omega), (show (x1 = 4 → (-1) = a0 146 17) from by omega), (show (x1 = 5 → (-1) = a0 146 49) from by omega), (show (x1 = 6 → (-1) = a0 146 55) from by omega), (show (x1 = 7 → (-1) = a0 146 68) from by omega), (show (x1 = 8 → (-1) = a0 146 22) from by omega), (show (x1 = 9 → (-1) = a0 146 42) from by omega), (show ((x1 = 2 ∧ a0 146 2 = 0) → (-1) = 0) from by omega), (by first | omega | (rw [← hyx]; omega)), (by first | omega | (rw [← hyx]; omega)), (by first | omega | (rw [← hyx]; omega)), (show ((((x1 < 0 ∨ (14 < x1 ∧ x1 < 20)) ∨ (27 < x1 ∧ x1 < 30)) ∨ 37 < x1) → (-1) = 0 - 1) from by omega), (fun h => by exfalso; omega)⟩
  ·
    have h229_ : jxw (y1 - 30) = y1 - 30 := jxw_id (by omega) (by omega)
    refine jt_grd (by omega) ?_
    have h230_ := iv_get hv0 (k := 196) (j := (jxw (y1 - 30)).toNat) (l := (-1)) (u := 500) rfl
    have h231_ := iv_get hv0 (k := 146) (j := 0) (l := 0) (u := 1999) rfl
    have h232_ := iv_get hv0 (k := 146) (j := 2) (l := 0) (u := 40) rfl
    have h233_ := iv_get hv0 (k := 146) (j := 9) (l := 0) (u := 300) rfl
    have h234_ := iv_get hv0 (k := 146) (j := 17) (l := 0) (u := 600) rfl
    have h235_ := iv_get hv0 (k := 146) (j := 49) (l := 0) (u := 20) rfl
    have h236_ := iv_get hv0 (k := 146) (j := 68) (l := 0) (u := 10) rfl
    have h237_ := iv_get hv0 (k := 146) (j := 22) (l := 0) (u := 200) rfl
    have h238_ := iv_get hv0 (k := 146) (j := 42) (l := 0) (u := 8) rfl
    exact jt_rI ⟨rfl, rfl, (show (x1 = 0 → a0 196 ((jxw (y1 - 30)).toNat) = a0 146 0) from by omega), (show (x1 = 1 → a0 196 ((jxw (y1 - 30)).toNat) = a0 146 2) from by omega), (show (x1 = 3 → a0 196 ((jxw (y1 - 30)).toNat) = a0 146 9) from by omega), (show (x1 = 4 → a0 196 ((jxw (y1 - 30)).toNat) = a0 146 17) from by omega), (show (x1 = 5 → a0 196 ((jxw (y1 - 30)).toNat) = a0 146 49) from by omega), (show (x1 = 6 → a0 196 ((jxw (y1 - 30)).toNat) = a0 146 55) from by omega), (show (x1 = 7 → a0 196 ((jxw (y1 - 30)).toNat) = a0 146 68) from by omega), (show (x1 = 8 → a0 196 ((jxw (y1 - 30)).toNat) = a0 146 22) from by omega), (show (x1 = 9 → a0 196 ((jxw (y1 - 30)).toNat) = a0 146 42) from by omega), (show ((x1 = 2 ∧ a0 146 2 = 0) → a0 196 ((jxw (y1 - 30)).toNat) = 0) from by omega), (by first | omega | (rw [← hyx]; omega)), (by first | omega | (rw [← hyx]; omega)), (by first | omega | (rw [← hyx]; omega)), (show ((((x1 < 0 ∨ (14 < x1 ∧ x1 < 20)) ∨ (27 < x1 ∧ x1 < 30)) ∨ 37 < x1) → a0 196 ((jxw (y1 - 30)).toNat) = 0 - 1) from by omega), (fun h => by exfalso; omega)⟩
theorem sq_X12_count (E : jxE) (d : Nat) (hd : Nat.ble 2 d = true) (x1 : Int) (a0 b0 : Nat → Nat → Int) (hv0 : iv a0) : jt (jxC E d 289 [.inr (.inr (.inl 146)), .inl x1] (jxSH, a0, b0)) (jR_X12_count x1 a0 b0) := by
  obtain ⟨d, rfl⟩ := jd_succ hd
  refine jt_eq (bq_X12_count E d x1 a0 b0) ?_
  refine jt_ite (fun c239_ => ?_) (fun c239_ => ?_)
  ·
    refine jt_eI (eq_X12_in E d (jd_le hd rfl) x1 10 14 a0 b0) ?_
    have h240_ := f_X12_in_eq a0 b0 x1 10 14
    refine jt_ite (fun c241_ => ?_) (fun c241_ => ?_)
    ·
      refine jt_eI (eq_X12_in E d (jd_le hd rfl) x1 20 27 a0 b0) ?_
      have h242_ := f_X12_in_eq a0 b0 x1 20 27
      refine jt_ite (fun c243_ => ?_) (fun c243_ => ?_)
      ·
        exact cr_X12_count_178 E d hd x1 a0 b0 hv0 x1 (by first | rfl | assumption) (show (x1 < 0 ∨ 14 < x1) from by omega) (show (x1 < 20 ∨ 27 < x1) from by omega)
      ·
        exact cr_X12_count_168 E d hd x1 a0 b0 hv0 x1 (show 20 ≤ x1 from by omega) (show x1 ≤ 27 from by omega) (by first | rfl | assumption) (show (20 ≤ x1 ∧ x1 ≤ 27) from by omega)
    ·
      have h244_ : jxw (x1 - 10) = x1 - 10 := jxw_id (by omega) (by omega)
      refine jt_grd (by omega) ?_
      have h245_ := iv_get hv0 (k := 146) (j := 0) (l := 0) (u := 1999) rfl
      have h246_ := iv_get hv0 (k := 146) (j := 2) (l := 0) (u := 40) rfl
      have h247_ := iv_get hv0 (k := 146) (j := 9) (l := 0) (u := 300) rfl
      have h248_ := iv_get hv0 (k := 146) (j := 17) (l := 0) (u := 600) rfl
      have h249_ := iv_get hv0 (k := 146) (j := 49) (l := 0) (u := 20) rfl
      have h250_ := iv_get hv0 (k := 146) (j := 68) (l := 0) (u := 10) rfl
      have h251_ := iv_get hv0 (k := 146) (j := 22) (l := 0) (u := 200) rfl
      have h252_ := iv_get hv0 (k := 146) (j := 42) (l := 0) (u := 8) rfl
      exact jt_rI ⟨rfl, rfl, (show (x1 = 0 → a0 171 ((jxw (x1 - 10)).toNat) = a0 146 0) from by omega), (show (x1 = 1 → a0 171 ((jxw (x1 - 10)).toNat) = a0 146 2) from by omega), (show (x1 = 3 → a0 171 ((jxw (x1 - 10)).toNat) = a0 146 9) from by omega), (show (x1 = 4 → a0 171 ((jxw (x1 - 10)).toNat) = a0 146 17) from by omega), (show (x1 = 5 → a0 171 ((jxw (x1 - 10)).toNat) = a0 146 49) from by omega), (show (x1 = 6 → a0 171 ((jxw (x1 - 10)).toNat) = a0 146 55) from by omega), (show (x1 = 7 → a0 171 ((jxw (x1 - 10)).toNat) = a0 146 68) from by omega), (show (x1 = 8 → a0 171 ((jxw (x1 - 10)).toNat) = a0 146 22) from by omega), (show (x1 = 9 → a0 171 ((jxw (x1 - 10)).toNat) = a0 146 42) from by omega), (show ((x1 = 2 ∧ a0 146 2 = 0) → a0 171 ((jxw (x1 - 10)).toNat) = 0) from by omega), (by first | omega | (rw [← hyx]; omega)), (by first | omega | (rw [← hyx]; omega)), (by first | omega | (rw [← hyx]; omega)), (show ((((x1 < 0 ∨ (14 < x1 ∧ x1 < 20)) ∨ (27 < x1 ∧ x1 < 30)) ∨ 37 < x1) → a0 171 ((jxw (x1 - 10)).toNat) = 0 - 1) from by omega), (fun h => by exfalso; omega)⟩
  ·
    refine jt_ite (fun c253_ => ?_) (fun c253_ => ?_)
    ·
      have h254_ := iv_get hv0 (k := 146) (j := 0) (l := 0) (u := 1999) rfl
      have h255_ := iv_get hv0 (k := 146) (j := 2) (l := 0) (u := 40) rfl
      have h256_ := iv_get hv0 (k := 146) (j := 9) (l := 0) (u := 300) rfl
      have h257_ := iv_get hv0 (k := 146) (j := 17) (l := 0) (u := 600) rfl
      have h258_ := iv_get hv0 (k := 146) (j := 49) (l := 0) (u := 20) rfl
      have h259_ := iv_get hv0 (k := 146) (j := 68) (l := 0) (u := 10) rfl
      have h260_ := iv_get hv0 (k := 146) (j := 22) (l := 0) (u := 200) rfl
      have h261_ := iv_get hv0 (k := 146) (j := 42) (l := 0) (u := 8) rfl
      exact jt_rI ⟨rfl, rfl, (show (x1 = 0 → a0 146 0 = a0 146 0) from by omega), (show (x1 = 1 → a0 146 0 = a0 146 2) from by omega), (show (x1 = 3 → a0 146 0 = a0 146 9) from by omega), (show (x1 = 4 → a0 146 0 = a0 146 17) from by omega), (show (x1 = 5 → a0 146 0 = a0 146 49) from by omega), (show (x1 = 6 → a0 146 0 = a0 146 55) from by omega), (show (x1 = 7 → a0 146 0 = a0 146 68) from by omega), (show (x1 = 8 → a0 146 0 = a0 146 22) from by omega), (show (x1 = 9 → a0 146 0 = a0 146 42) from by omega), (show ((x1 = 2 ∧ a0 146 2 = 0) → a0 146 0 = 0) from by omega), (by first | omega | (rw [← hyx]; omega)), (by first | omega | (rw [← hyx]; omega)), (by first | omega | (rw [← hyx]; omega)), (show ((((x1 < 0 ∨ (14 < x1 ∧ x1 < 20)) ∨ (27 < x1 ∧ x1 < 30)) ∨ 37 < x1) → a0 146 0 = 0 - 1) from by omega), (fun h => by exfalso; omega)⟩
    ·
      refine jt_ite (fun c262_ => ?_) (fun c262_ => ?_)
      ·
        have h263_ := iv_get hv0 (k := 146) (j := 2) (l := 0) (u := 40) rfl
        have h264_ := iv_get hv0 (k := 146) (j := 0) (l := 0) (u := 1999) rfl
        have h265_ := iv_get hv0 (k := 146) (j := 9) (l := 0) (u := 300) rfl
        have h266_ := iv_get hv0 (k := 146) (j := 17) (l := 0) (u := 600) rfl
        have h267_ := iv_get hv0 (k := 146) (j := 49) (l := 0) (u := 20) rfl
        have h268_ := iv_get hv0 (k := 146) (j := 68) (l := 0) (u := 10) rfl
        have h269_ := iv_get hv0 (k := 146) (j := 22) (l := 0) (u := 200) rfl
        have h270_ := iv_get hv0 (k := 146) (j := 42) (l := 0) (u := 8) rfl
        exact jt_rI ⟨rfl, rfl, (show (x1 = 0 → a0 146 2 = a0 146 0) from by omega), (show (x1 = 1 → a0 146 2 = a0 146 2) from by omega), (show (x1 = 3 → a0 146 2 = a0 146 9) from by omega), (show (x1 = 4 → a0 146 2 = a0 146 17) from by omega), (show (x1 = 5 → a0 146 2 = a0 146 49) from by omega), (show (x1 = 6 → a0 146 2 = a0 146 55) from by omega), (show (x1 = 7 → a0 146 2 = a0 146 68) from by omega), (show (x1 = 8 → a0 146 2 = a0 146 22) from by omega), (show (x1 = 9 → a0 146 2 = a0 146 42) from by omega), (show ((x1 = 2 ∧ a0 146 2 = 0) → a0 146 2 = 0) from by omega), (by first | omega | (rw [← hyx]; omega)), (by first | omega | (rw [← hyx]; omega)), (by first | omega | (rw [← hyx]; omega)), (show ((((x1 < 0 ∨ (14 < x1 ∧ x1 < 20)) ∨ (27 < x1 ∧ x1 < 30)) ∨ 37 < x1) → a0 146 2 = 0 - 1) from by omega), (fun h => by exfalso; omega)⟩
      ·
        refine jt_ite (fun c271_ => ?_) (fun c271_ => ?_)
        ·
          have h272_ := iv_get hv0 (k := 146) (j := 2) (l := 0) (u := 40) rfl
          exact (cr_X12_count_68 E d hd x1 a0 b0 hv0 _).2 0 0 (Nat.le_refl _) (show 0 ≤ 0 from by omega) (show 0 ≤ 40 from by omega) (show x1 = 2 from by omega) (show (a0 146 2 = 0 → 0 = 0) from by omega) (show 0 ≤ 0 from by omega) (show 0 ≤ a0 146 2 from by omega) rfl
        ·
          refine jt_ite (fun c273_ => ?_) (fun c273_ => ?_)
          ·
            have h274_ := iv_get hv0 (k := 146) (j := 9) (l := 0) (u := 300) rfl
            have h275_ := iv_get hv0 (k := 146) (j := 0) (l := 0) (u := 1999) rfl
            have h276_ := iv_get hv0 (k := 146) (j := 2) (l := 0) (u := 40) rfl
            have h277_ := iv_get hv0 (k := 146) (j := 17) (l := 0) (u := 600) rfl
            have h278_ := iv_get hv0 (k := 146) (j := 49) (l := 0) (u := 20) rfl
            have h279_ := iv_get hv0 (k := 146) (j := 68) (l := 0) (u := 10) rfl
            have h280_ := iv_get hv0 (k := 146) (j := 22) (l := 0) (u := 200) rfl
            have h281_ := iv_get hv0 (k := 146) (j := 42) (l := 0) (u := 8) rfl
            exact jt_rI ⟨rfl, rfl, (show (x1 = 0 → a0 146 9 = a0 146 0) from by omega), (show (x1 = 1 → a0 146 9 = a0 146 2) from by omega), (show (x1 = 3 → a0 146 9 = a0 146 9) from by omega), (show (x1 = 4 → a0 146 9 = a0 146 17) from by omega), (show (x1 = 5 → a0 146 9 = a0 146 49) from by omega), (show (x1 = 6 → a0 146 9 = a0 146 55) from by omega), (show (x1 = 7 → a0 146 9 = a0 146 68) from by omega), (show (x1 = 8 → a0 146 9 = a0 146 22) from by omega), (show (x1 = 9 → a0 146 9 = a0 146 42) from by omega), (show ((x1 = 2 ∧ a0 146 2 = 0) → a0 146 9 = 0) from by omega), (by first | omega | (rw [← hyx]; omega)), (by first | omega | (rw [← hyx]; omega)), (by first | omega | (rw [← hyx]; omega)), (show ((((x1 < 0 ∨ (14 < x1 ∧ x1 < 20)) ∨ (27 < x1 ∧ x1 < 30)) ∨ 37 < x1) → a0 146 9 = 0 - 1) from by omega), (fun h => by exfalso; omega)⟩
          ·
            refine jt_ite (fun c282_ => ?_) (fun c282_ => ?_)
            ·
              have h283_ := iv_get hv0 (k := 146) (j := 17) (l := 0) (u := 600) rfl
              have h284_ := iv_get hv0 (k := 146) (j := 0) (l := 0) (u := 1999) rfl
              have h285_ := iv_get hv0 (k := 146) (j := 2) (l := 0) (u := 40) rfl
              have h286_ := iv_get hv0 (k := 146) (j := 9) (l := 0) (u := 300) rfl
              have h287_ := iv_get hv0 (k := 146) (j := 49) (l := 0) (u := 20) rfl
              have h288_ := iv_get hv0 (k := 146) (j := 68) (l := 0) (u := 10) rfl
              have h289_ := iv_get hv0 (k := 146) (j := 22) (l := 0) (u := 200) rfl
              have h290_ := iv_get hv0 (k := 146) (j := 42) (l := 0) (u := 8) rfl
              exact jt_rI ⟨rfl, rfl, (show (x1 = 0 → a0 146 17 = a0 146 0) from by omega), (show (x1 = 1 → a0 146 17 = a0 146 2) from by omega), (show (x1 = 3 → a0 146 17 = a0 146 9) from by omega), (show (x1 = 4 → a0 146 17 = a0 146 17) from by omega), (show (x1 = 5 → a0 146 17 = a0 146 49) from by omega), (show (x1 = 6 → a0 146 17 = a0 146 55) from by omega), (show (x1 = 7 → a0 146 17 = a0 146 68) from by omega), (show (x1 = 8 → a0 146 17 = a0 146 22) from by omega), (show (x1 = 9 → a0 146 17 = a0 146 42) from by omega), (show ((x1 = 2 ∧ a0 146 2 = 0) → a0 146 17 = 0) from by omega), (by first | omega | (rw [← hyx]; omega)), (by first | omega | (rw [← hyx]; omega)), (by first | omega | (rw [← hyx]; omega)), (show ((((x1 < 0 ∨ (14 < x1 ∧ x1 < 20)) ∨ (27 < x1 ∧ x1 < 30)) ∨ 37 < x1) → a0 146 17 = 0 - 1) from by omega), (fun h => by exfalso; omega)⟩
            ·
              refine jt_ite (fun c291_ => ?_) (fun c291_ => ?_)
              ·
                have h292_ := iv_get hv0 (k := 146) (j := 49) (l := 0) (u := 20) rfl
                have h293_ := iv_get hv0 (k := 146) (j := 0) (l := 0) (u := 1999) rfl
                have h294_ := iv_get hv0 (k := 146) (j := 2) (l := 0) (u := 40) rfl
                have h295_ := iv_get hv0 (k := 146) (j := 9) (l := 0) (u := 300) rfl
                have h296_ := iv_get hv0 (k := 146) (j := 17) (l := 0) (u := 600) rfl
                have h297_ := iv_get hv0 (k := 146) (j := 68) (l := 0) (u := 10) rfl
                have h298_ := iv_get hv0 (k := 146) (j := 22) (l := 0) (u := 200) rfl
                have h299_ := iv_get hv0 (k := 146) (j := 42) (l := 0) (u := 8) rfl
                exact jt_rI ⟨rfl, rfl, (show (x1 = 0 → a0 146 49 = a0 146 0) from by omega), (show (x1 = 1 → a0 146 49 = a0 146 2) from by omega), (show (x1 = 3 → a0 146 49 = a0 146 9) from by omega), (show (x1 = 4 → a0 146 49 = a0 146 17) from by omega), (show (x1 = 5 → a0 146 49 = a0 146 49) from by omega), (show (x1 = 6 → a0 146 49 = a0 146 55) from by omega), (show (x1 = 7 → a0 146 49 = a0 146 68) from by omega), (show (x1 = 8 → a0 146 49 = a0 146 22) from by omega), (show (x1 = 9 → a0 146 49 = a0 146 42) from by omega), (show ((x1 = 2 ∧ a0 146 2 = 0) → a0 146 49 = 0) from by omega), (by first | omega | (rw [← hyx]; omega)), (by first | omega | (rw [← hyx]; omega)), (by first | omega | (rw [← hyx]; omega)), (show ((((x1 < 0 ∨ (14 < x1 ∧ x1 < 20)) ∨ (27 < x1 ∧ x1 < 30)) ∨ 37 < x1) → a0 146 49 = 0 - 1) from by omega), (fun h => by exfalso; omega)⟩
              ·
                refine jt_ite (fun c300_ => ?_) (fun c300_ => ?_)
                ·
                  have h301_ := iv_get hv0 (k := 146) (j := 0) (l := 0) (u := 1999) rfl
                  have h302_ := iv_get hv0 (k := 146) (j := 2) (l := 0) (u := 40) rfl
                  have h303_ := iv_get hv0 (k := 146) (j := 9) (l := 0) (u := 300) rfl
                  have h304_ := iv_get hv0 (k := 146) (j := 17) (l := 0) (u := 600) rfl
                  have h305_ := iv_get hv0 (k := 146) (j := 49) (l := 0) (u := 20) rfl
                  have h306_ := iv_get hv0 (k := 146) (j := 68) (l := 0) (u := 10) rfl
                  have h307_ := iv_get hv0 (k := 146) (j := 22) (l := 0) (u := 200) rfl
                  have h308_ := iv_get hv0 (k := 146) (j := 42) (l := 0) (u := 8) rfl
                  exact jt_rI ⟨rfl, rfl, (show (x1 = 0 → a0 146 55 = a0 146 0) from by omega), (show (x1 = 1 → a0 146 55 = a0 146 2) from by omega), (show (x1 = 3 → a0 146 55 = a0 146 9) from by omega), (show (x1 = 4 → a0 146 55 = a0 146 17) from by omega), (show (x1 = 5 → a0 146 55 = a0 146 49) from by omega), (show (x1 = 6 → a0 146 55 = a0 146 55) from by omega), (show (x1 = 7 → a0 146 55 = a0 146 68) from by omega), (show (x1 = 8 → a0 146 55 = a0 146 22) from by omega), (show (x1 = 9 → a0 146 55 = a0 146 42) from by omega), (show ((x1 = 2 ∧ a0 146 2 = 0) → a0 146 55 = 0) from by omega), (by first | omega | (rw [← hyx]; omega)), (by first | omega | (rw [← hyx]; omega)), (by first | omega | (rw [← hyx]; omega)), (show ((((x1 < 0 ∨ (14 < x1 ∧ x1 < 20)) ∨ (27 < x1 ∧ x1 < 30)) ∨ 37 < x1) → a0 146 55 = 0 - 1) from by omega), (fun h => by exfalso; omega)⟩
                ·
                  refine jt_ite (fun c309_ => ?_) (fun c309_ => ?_)
                  ·
                    have h310_ := iv_get hv0 (k := 146) (j := 68) (l := 0) (u := 10) rfl
                    have h311_ := iv_get hv0 (k := 146) (j := 0) (l := 0) (u := 1999) rfl
                    have h312_ := iv_get hv0 (k := 146) (j := 2) (l := 0) (u := 40) rfl
                    have h313_ := iv_get hv0 (k := 146) (j := 9) (l := 0) (u := 300) rfl
                    have h314_ := iv_get hv0 (k := 146) (j := 17) (l := 0) (u := 600) rfl
                    have h315_ := iv_get hv0 (k := 146) (j := 49) (l := 0) (u := 20) rfl
                    have h316_ := iv_get hv0 (k := 146) (j := 22) (l := 0) (u := 200) rfl
                    have h317_ := iv_get hv0 (k := 146) (j := 42) (l := 0) (u := 8) rfl
                    exact jt_rI ⟨rfl, rfl, (show (x1 = 0 → a0 146 68 = a0 146 0) from by omega), (show (x1 = 1 → a0 146 68 = a0 146 2) from by omega), (show (x1 = 3 → a0 146 68 = a0 146 9) from by omega), (show (x1 = 4 → a0 146 68 = a0 146 17) from by omega), (show (x1 = 5 → a0 146 68 = a0 146 49) from by omega), (show (x1 = 6 → a0 146 68 = a0 146 55) from by omega), (show (x1 = 7 → a0 146 68 = a0 146 68) from by omega), (show (x1 = 8 → a0 146 68 = a0 146 22) from by omega), (show (x1 = 9 → a0 146 68 = a0 146 42) from by omega), (show ((x1 = 2 ∧ a0 146 2 = 0) → a0 146 68 = 0) from by omega), (by first | omega | (rw [← hyx]; omega)), (by first | omega | (rw [← hyx]; omega)), (by first | omega | (rw [← hyx]; omega)), (show ((((x1 < 0 ∨ (14 < x1 ∧ x1 < 20)) ∨ (27 < x1 ∧ x1 < 30)) ∨ 37 < x1) → a0 146 68 = 0 - 1) from by omega), (fun h => by exfalso; omega)⟩
                  ·
                    refine jt_ite (fun c318_ => ?_) (fun c318_ => ?_)
                    ·
                      have h319_ := iv_get hv0 (k := 146) (j := 22) (l := 0) (u := 200) rfl
                      have h320_ := iv_get hv0 (k := 146) (j := 0) (l := 0) (u := 1999) rfl
                      have h321_ := iv_get hv0 (k := 146) (j := 2) (l := 0) (u := 40) rfl
                      have h322_ := iv_get hv0 (k := 146) (j := 9) (l := 0) (u := 300) rfl
                      have h323_ := iv_get hv0 (k := 146) (j := 17) (l := 0) (u := 600) rfl
                      have h324_ := iv_get hv0 (k := 146) (j := 49) (l := 0) (u := 20) rfl
                      have h325_ := iv_get hv0 (k := 146) (j := 68) (l := 0) (u := 10) rfl
                      have h326_ := iv_get hv0 (k := 146) (j := 42) (l := 0) (u := 8) rfl
                      exact jt_rI ⟨rfl, rfl, (show (x1 = 0 → a0 146 22 = a0 146 0) from by omega), (show (x1 = 1 → a0 146 22 = a0 146 2) from by omega), (show (x1 = 3 → a0 146 22 = a0 146 9) from by omega), (show (x1 = 4 → a0 146 22 = a0 146 17) from by omega), (show (x1 = 5 → a0 146 22 = a0 146 49) from by omega), (show (x1 = 6 → a0 146 22 = a0 146 55) from by omega), (show (x1 = 7 → a0 146 22 = a0 146 68) from by omega), (show (x1 = 8 → a0 146 22 = a0 146 22) from by omega), (show (x1 = 9 → a0 146 22 = a0 146 42) from by omega), (show ((x1 = 2 ∧ a0 146 2 = 0) → a0 146 22 = 0) from by omega), (by first | omega | (rw [← hyx]; omega)), (by first | omega | (rw [← hyx]; omega)), (by first | omega | (rw [← hyx]; omega)), (show ((((x1 < 0 ∨ (14 < x1 ∧ x1 < 20)) ∨ (27 < x1 ∧ x1 < 30)) ∨ 37 < x1) → a0 146 22 = 0 - 1) from by omega), (fun h => by exfalso; omega)⟩
                    ·
                      refine jt_ite (fun c327_ => ?_) (fun c327_ => ?_)
                      ·
                        have h328_ := iv_get hv0 (k := 146) (j := 42) (l := 0) (u := 8) rfl
                        have h329_ := iv_get hv0 (k := 146) (j := 0) (l := 0) (u := 1999) rfl
                        have h330_ := iv_get hv0 (k := 146) (j := 2) (l := 0) (u := 40) rfl
                        have h331_ := iv_get hv0 (k := 146) (j := 9) (l := 0) (u := 300) rfl
                        have h332_ := iv_get hv0 (k := 146) (j := 17) (l := 0) (u := 600) rfl
                        have h333_ := iv_get hv0 (k := 146) (j := 49) (l := 0) (u := 20) rfl
                        have h334_ := iv_get hv0 (k := 146) (j := 68) (l := 0) (u := 10) rfl
                        have h335_ := iv_get hv0 (k := 146) (j := 22) (l := 0) (u := 200) rfl
                        exact jt_rI ⟨rfl, rfl, (show (x1 = 0 → a0 146 42 = a0 146 0) from by omega), (show (x1 = 1 → a0 146 42 = a0 146 2) from by omega), (show (x1 = 3 → a0 146 42 = a0 146 9) from by omega), (show (x1 = 4 → a0 146 42 = a0 146 17) from by omega), (show (x1 = 5 → a0 146 42 = a0 146 49) from by omega), (show (x1 = 6 → a0 146 42 = a0 146 55) from by omega), (show (x1 = 7 → a0 146 42 = a0 146 68) from by omega), (show (x1 = 8 → a0 146 42 = a0 146 22) from by omega), (show (x1 = 9 → a0 146 42 = a0 146 42) from by omega), (show ((x1 = 2 ∧ a0 146 2 = 0) → a0 146 42 = 0) from by omega), (by first | omega | (rw [← hyx]; omega)), (by first | omega | (rw [← hyx]; omega)), (by first | omega | (rw [← hyx]; omega)), (show ((((x1 < 0 ∨ (14 < x1 ∧ x1 < 20)) ∨ (27 < x1 ∧ x1 < 30)) ∨ 37 < x1) → a0 146 42 = 0 - 1) from by omega), (fun h => by exfalso; omega)⟩
                      ·
                        exact absurd (by omega : False) id
abbrev jR_X12_stamps (x1 x2 x3 : Int) (a0 b0 : Nat → Nat → Int) : List jxV → (Nat → Nat → Int) → (Nat → Nat → Int) → Prop := rI (fun r a b => (iv a) ∧ (jfr jW_X12_stamps a0 a) ∧ (b0 = b) ∧ ((0 ≤ r ∧ r ≤ 1)) ∧ (SV a) ∧ ((((((((r = 1 ∧ 0 ≤ x1) ∧ x1 ≤ 7) ∧ 1 ≤ x2) ∧ x2 ≤ 500) ∧ 0 ≤ x3) ∧ x3 ≤ 50) ∨ (r = 0 ∧ (((((x1 < 0 ∨ 7 < x1) ∨ x2 < 1) ∨ 500 < x2) ∨ x3 < 0) ∨ 50 < x3)))) ∧ (r = 1 → a 196 = rup (a0 196) x1.toNat x2 ∧ a 197 = rup (a0 197) x1.toNat x3) ∧ (r = 0 → a 196 = a0 196 ∧ a 197 = a0 197))
theorem cr_X12_stamps_31 (E : jxE) (d : Nat) (hd : Nat.ble 2 (d + 1) = true) (x1 x2 x3 : Int) (a0 b0 : Nat → Nat → Int) (hv0 : iv a0) (hp0 : SV a0) : ∀ (a : Nat → Nat → Int), iv a → jfr jW_X12_stamps a0 a → (((((x1 < 0 ∨ 7 < x1) ∨ x2 < 1) ∨ 500 < x2) ∨ x3 < 0) ∨ 50 < x3) → (a = a0) → (SV a) → jt (jxX E d 285 31 [none, none, none, none] [] (jxSH, a, b0)) (jR_X12_stamps x1 x2 x3 a0 b0) := by
  intro a hv hf hi0 hea hi2
  refine jt_eq (bq_X12_stamps_31 E d a b0) ?_
  exact jt_rI ⟨hv, hf, rfl, (show (0 ≤ 0 ∧ 0 ≤ 1) from by omega), hi2, (show (((((((0 = 1 ∧ 0 ≤ x1) ∧ x1 ≤ 7) ∧ 1 ≤ x2) ∧ x2 ≤ 500) ∧ 0 ≤ x3) ∧ x3 ≤ 50) ∨ (0 = 0 ∧ (((((x1 < 0 ∨ 7 < x1) ∨ x2 < 1) ∨ 500 < x2) ∨ x3 < 0) ∨ 50 < x3))) from by omega), (fun h => absurd h (by decide)), (fun _ => by rw [hea]; exact ⟨rfl, rfl⟩)⟩
theorem cr_X12_stamps_33 (E : jxE) (d : Nat) (hd : Nat.ble 2 (d + 1) = true) (x1 x2 x3 : Int) (a0 b0 : Nat → Nat → Int) (hv0 : iv a0) (hp0 : SV a0) : ∀ (y1 y2 y3 : Int) (a : Nat → Nat → Int), iv a → jfr jW_X12_stamps a0 a → 0 ≤ y1 → y1 ≤ 7 → 1 ≤ y2 → y2 ≤ 500 → 0 ≤ y3 → y3 ≤ 50 → y1 = x1 → y2 = x2 → y3 = x3 → (((((0 ≤ x1 ∧ x1 ≤ 7) ∧ 1 ≤ x2) ∧ x2 ≤ 500) ∧ 0 ≤ x3) ∧ x3 ≤ 50) → (a = a0) → (y1 = x1) → (y2 = x2) → (y3 = x3) → (SV a) → jt (jxX E d 285 33 [some (.inr (.inr (.inl 146))), some (.inl y1), some (.inl y2), some (.inl y3)] [] (jxSH, a, b0)) (jR_X12_stamps x1 x2 x3 a0 b0) := by
  intro y1 y2 y3 a hv hf hi0 hi1 hi2 hi3 hi4 hi5 hi6 hi7 hi8 hi9 hea hy1 hy2 hy3 hi14
  refine jt_eq (bq_X12_stamps_33 E d y1 y2 y3 a b0) ?_
  refine jt_grd (by omega) ?_
  refine jt_grd (by omega) ?_
  have hv336_ : iv (jxu a 196 (y1.toNat) y2) := iv_put hv (l := (-1)) (u := 500) rfl (by omega) (by omega)
  have hv337_ : iv (jxu (jxu a 196 (y1.toNat) y2) 197 (y1.toNat) y3) := iv_put hv336_ (l := 0) (u := 50) rfl (by omega) (by omega)
  have hf338_ : jfr jW_X12_stamps a0 (jxu a 196 (y1.toNat) y2) := jfr_put hf rfl
  have hf339_ : jfr jW_X12_stamps a0 (jxu (jxu a 196 (y1.toNat) y2) 197 (y1.toNat) y3) := jfr_put hf338_ rfl
  have hg340_ : SV (jxu a 196 (y1.toNat) y2) := (SV_put196 hi14 (by omega))
  have h341_ := iv_get hv (k := 197) (j := y1.toNat) (l := 0) (u := 50) rfl
  have h342_ := iv_get hv336_ (k := 196) (j := y1.toNat) (l := (-1)) (u := 500) rfl
  have h343_ := jxu_sp a 196 (y1.toNat) y2 (y1.toNat)
  have h344_ := iv_get hv (k := 196) (j := y1.toNat) (l := (-1)) (u := 500) rfl
  have hg345_ : SV (jxu (jxu a 196 (y1.toNat) y2) 197 (y1.toNat) y3) := (SV_put197 hg340_ (by first | (left; show y3 ≤ a 197 (y1.toNat); omega) | (right; show 1 ≤ (jxu a 196 (y1.toNat) y2) 196 (y1.toNat); omega)))
  exact jt_rI ⟨hv337_, hf339_, rfl, (show (0 ≤ 1 ∧ 1 ≤ 1) from by omega), hg345_, (show (((((((1 = 1 ∧ 0 ≤ x1) ∧ x1 ≤ 7) ∧ 1 ≤ x2) ∧ x2 ≤ 500) ∧ 0 ≤ x3) ∧ x3 ≤ 50) ∨ (1 = 0 ∧ (((((x1 < 0 ∨ 7 < x1) ∨ x2 < 1) ∨ 500 < x2) ∨ x3 < 0) ∨ 50 < x3))) from by omega), (fun _ => by rw [← hea, ← hy1, ← hy2, ← hy3]; exact ⟨by rw [jxu_off (show ¬ 196 = 197 by decide), jxu_rup], by rw [jxu_rup, jxu_off (show ¬ 197 = 196 by decide)]⟩), (fun h => absurd h (by decide))⟩
theorem sq_X12_stamps (E : jxE) (d : Nat) (hd : Nat.ble 2 d = true) (x1 x2 x3 : Int) (a0 b0 : Nat → Nat → Int) (hv0 : iv a0) (hp0 : SV a0) : jt (jxC E d 285 [.inr (.inr (.inl 146)), .inl x1, .inl x2, .inl x3] (jxSH, a0, b0)) (jR_X12_stamps x1 x2 x3 a0 b0) := by
  obtain ⟨d, rfl⟩ := jd_succ hd
  refine jt_eq (bq_X12_stamps E d x1 x2 x3 a0 b0) ?_
  refine jt_eI (eq_X12_in E d (jd_le hd rfl) x1 0 7 a0 b0) ?_
  have h346_ := f_X12_in_eq a0 b0 x1 0 7
  refine jt_ite (fun c347_ => ?_) (fun c347_ => ?_)
  ·
    exact cr_X12_stamps_31 E d hd x1 x2 x3 a0 b0 hv0 hp0 a0 hv0 (jfr_rf _ _) (show (((((x1 < 0 ∨ 7 < x1) ∨ x2 < 1) ∨ 500 < x2) ∨ x3 < 0) ∨ 50 < x3) from by omega) (by first | rfl | assumption) hp0
  ·
    refine jt_eI (eq_X12_in E d (jd_le hd rfl) x2 1 500 a0 b0) ?_
    have h348_ := f_X12_in_eq a0 b0 x2 1 500
    refine jt_ite (fun c349_ => ?_) (fun c349_ => ?_)
    ·
      exact cr_X12_stamps_31 E d hd x1 x2 x3 a0 b0 hv0 hp0 a0 hv0 (jfr_rf _ _) (show (((((x1 < 0 ∨ 7 < x1) ∨ x2 < 1) ∨ 500 < x2) ∨ x3 < 0) ∨ 50 < x3) from by omega) (by first | rfl | assumption) hp0
    ·
      refine jt_eI (eq_X12_in E d (jd_le hd rfl) x3 0 50 a0 b0) ?_
      have h350_ := f_X12_in_eq a0 b0 x3 0 50
      refine jt_ite (fun c351_ => ?_) (fun c351_ => ?_)
      ·
        exact cr_X12_stamps_31 E d hd x1 x2 x3 a0 b0 hv0 hp0 a0 hv0 (jfr_rf _ _) (show (((((x1 < 0 ∨ 7 < x1) ∨ x2 < 1) ∨ 500 < x2) ∨ x3 < 0) ∨ 50 < x3) from by omega) (by first | rfl | assumption) hp0
      ·
        exact cr_X12_stamps_33 E d hd x1 x2 x3 a0 b0 hv0 hp0 x1 x2 x3 a0 hv0 (jfr_rf _ _) (show 0 ≤ x1 from by omega) (show x1 ≤ 7 from by omega) (show 1 ≤ x2 from by omega) (show x2 ≤ 500 from by omega) (show 0 ≤ x3 from by omega) (show x3 ≤ 50 from by omega) (show x1 = x1 from by omega) (show x2 = x2 from by omega) (show x3 = x3 from by omega) (show (((((0 ≤ x1 ∧ x1 ≤ 7) ∧ 1 ≤ x2) ∧ x2 ≤ 500) ∧ 0 ≤ x3) ∧ x3 ≤ 50) from by omega) (by first | rfl | assumption) (by first | rfl | assumption) (by first | rfl | assumption) (by first | rfl | assumption) hp0
