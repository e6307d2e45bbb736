abbrev jR_X3_howManyThere (a0 b0 : Nat → Nat → Int) : List jxV → (Nat → Nat → Int) → (Nat → Nat → Int) → Prop := rI (fun r a b => (a0 = a) ∧ (b0 = b) ∧ ((a0 4 6 = 0 → r = 0)) ∧ (r = THN (a0 10) (a0 4 6).toNat))
theorem cr_X3_howManyThere_4 (E : jxE) (d : Nat) (hd : Nat.ble 3 (d + 1) = true) (a0 b0 : Nat → Nat → Int) (hv0 : iv a0) : ∀ n : Nat, (∀ (y1 y2 : Int), (((40 - y2) * 1) + 0).toNat ≤ n → 0 ≤ y2 → y2 ≤ 40 → (a0 4 6 = 0 → y1 = 0) → 0 ≤ y2 → y2 ≤ a0 4 6 → (y1 = THN (a0 10) y2.toNat) → jt (jxX E d 53 4 [some (.inr (.inr (.inl 4))), some (.inl y1), some (.inl y2)] [] (jxSH, a0, b0)) (jR_X3_howManyThere a0 b0)) := by
  refine jx_ind fun n ih => ?_
  have ih4 : ∀ (y1 y2 : Int), (((40 - y2) * 1) + 0).toNat < n → 0 ≤ y2 → y2 ≤ 40 → (a0 4 6 = 0 → y1 = 0) → 0 ≤ y2 → y2 ≤ a0 4 6 → (y1 = THN (a0 10) y2.toNat) → jt (jxX E d 53 4 [some (.inr (.inr (.inl 4))), some (.inl y1), some (.inl y2)] [] (jxSH, a0, b0)) (jR_X3_howManyThere a0 b0) := fun y1 y2 hlt i0 i1 i2 i3 i4 i5 => (ih _ hlt) y1 y2 (Nat.le_refl _) i0 i1 i2 i3 i4 i5
  have hc4 : ∀ (y1 y2 : Int), (((40 - y2) * 1) + 0).toNat ≤ n → 0 ≤ y2 → y2 ≤ 40 → (a0 4 6 = 0 → y1 = 0) → 0 ≤ y2 → y2 ≤ a0 4 6 → (y1 = THN (a0 10) y2.toNat) → jt (jxX E d 53 4 [some (.inr (.inr (.inl 4))), some (.inl y1), some (.inl y2)] [] (jxSH, a0, b0)) (jR_X3_howManyThere a0 b0) := by
    intro y1 y2 hm hi0 hi1 hi2 hi3 hi4 hth
    refine jt_eq (bq_X3_howManyThere_4 E d y1 y2 a0 b0) ?_
    have h1777_ := iv_get hv0 (k := 4) (j := 6) (l := 0) (u := 40) rfl
    have it := f_X3_isThere_eq a0 b0 y2
    have ih0 := f_X3_has_eq a0 b0 y2
    have bt := THN_bd (a0 10) y2.toNat
    have i46 := iv_get hv0 (k := 4) (j := 6) (l := 0) (u := 40) rfl
    refine jt_ite (fun c1778_ => ?_) (fun c1778_ => ?_)
    ·
      refine jt_eI (eq_X3_isThere E d (jd_le hd rfl) y2 a0 b0) ?_
      have h1779_ := f_X3_isThere_eq a0 b0 y2
      have h1780_ := f_X3_has_eq a0 b0 y2
      refine jt_ite (fun c1781_ => ?_) (fun c1781_ => ?_)
      ·
        have h1782_ : jxw (y2 + 1) = y2 + 1 := jxw_id (by omega) (by omega)
        exact ih4 y1 (jxw (y2 + 1)) (show (((40 - (jxw (y2 + 1))) * 1) + 0).toNat < n from by omega) (show 0 ≤ jxw (y2 + 1) from by omega) (show jxw (y2 + 1) ≤ 40 from by omega) (show (a0 4 6 = 0 → y1 = 0) from by omega) (show 0 ≤ jxw (y2 + 1) from by omega) (show jxw (y2 + 1) ≤ a0 4 6 from by omega) (by rw [show (jxw (y2 + 1)).toNat = y2.toNat + 1 from by omega]; show _ = THN (a0 10) y2.toNat + (if a0 10 y2.toNat = 0 then 0 else 1); have hh : f_X3_has a0 b0 y2 = 1 := (by unfold f_X3_has; rw [if_neg (show ¬ y2 < 0 by omega), if_pos (show y2 < a0 4 6 by omega), if_pos (show y2 < 40 by omega)]); by_cases c : a0 10 y2.toNat = 0 <;> first | (rw [if_pos c]; have z : f_X3_isThere a0 b0 y2 = 0 := (by unfold f_X3_isThere; rw [if_neg (by omega), if_pos c]); first | omega | (exfalso; omega)) | (rw [if_neg c]; have z : f_X3_isThere a0 b0 y2 = 1 := (by unfold f_X3_isThere; rw [if_neg (by omega), if_neg c]); first | (rw [show jxw (y1 + 1) = y1 + 1 from jxw_id (by omega) (by omega)]; omega) | (exfalso; omega)))
      ·
        have h1783_ : jxw (y2 + 1) = y2 + 1 := jxw_id (by omega) (by omega)
        have h1784_ := jxw_im (y1 + 1)
        have h1785_ := jxw_rg (y1 + 1)
        exact ih4 (jxw (y1 + 1)) (jxw (y2 + 1)) (show (((40 - (jxw (y2 + 1))) * 1) + 0).toNat < n from by omega) (show 0 ≤ jxw (y2 + 1) from by omega) (show jxw (y2 + 1) ≤ 40 from by omega) (show (a0 4 6 = 0 → jxw (y1 + 1) = 0) from by omega) (show 0 ≤ jxw (y2 + 1) from by omega) (show jxw (y2 + 1) ≤ a0 4 6 from by omega) (by rw [show (jxw (y2 + 1)).toNat = y2.toNat + 1 from by omega]; show _ = THN (a0 10) y2.toNat + (if a0 10 y2.toNat = 0 then 0 else 1); have hh : f_X3_has a0 b0 y2 = 1 := (by unfold f_X3_has; rw [if_neg (show ¬ y2 < 0 by omega), if_pos (show y2 < a0 4 6 by omega), if_pos (show y2 < 40 by omega)]); by_cases c : a0 10 y2.toNat = 0 <;> first | (rw [if_pos c]; have z : f_X3_isThere a0 b0 y2 = 0 := (by unfold f_X3_isThere; rw [if_neg (by omega), if_pos c]); first | omega | (exfalso; omega)) | (rw [if_neg c]; have z : f_X3_isThere a0 b0 y2 = 1 := (by unfold f_X3_isThere; rw [if_neg (by omega), if_neg c]); first | (rw [show jxw (y1 + 1) = y1 + 1 from jxw_id (by omega) (by omega)]; omega) | (exfalso; omega)))
    ·
      exact jt_rI ⟨rfl, rfl, (show (a0 4 6 = 0 → y1 = 0) from by omega), (by rw [show (a0 4 6).toNat = y2.toNat from by omega]; exact hth)⟩
  exact hc4
theorem sq_X3_howManyThere (E : jxE) (d : Nat) (hd : Nat.ble 3 d = true) (a0 b0 : Nat → Nat → Int) (hv0 : iv a0) : jt (jxC E d 53 [.inr (.inr (.inl 4))] (jxSH, a0, b0)) (jR_X3_howManyThere a0 b0) := by
  obtain ⟨d, rfl⟩ := jd_succ hd
  refine jt_eq (bq_X3_howManyThere E d a0 b0) ?_
  have h1786_ := iv_get hv0 (k := 4) (j := 6) (l := 0) (u := 40) rfl
  exact (cr_X3_howManyThere_4 E d hd a0 b0 hv0 _) 0 0 (Nat.le_refl _) (show 0 ≤ 0 from by omega) (show 0 ≤ 40 from by omega) (show (a0 4 6 = 0 → 0 = 0) from by omega) (show 0 ≤ 0 from by omega) (show 0 ≤ a0 4 6 from by omega) rfl
abbrev jR_X11_count (x1 : Int) (a0 b0 : Nat → Nat → Int) : List jxV → (Nat → Nat → Int) → (Nat → Nat → Int) → Prop := rI (fun r a b => (a0 = a) ∧ (b0 = b) ∧ ((x1 = 0 → r = a0 0 0)) ∧ ((x1 = 1 → r = a0 4 6)) ∧ ((x1 = 3 → r = a0 58 8)) ∧ ((x1 = 4 → r = a0 58 12)) ∧ ((x1 = 5 → r = a0 83 6)) ∧ ((x1 = 6 → r = a0 83 7)) ∧ ((x1 = 7 → r = a0 105 5)) ∧ ((x1 = 8 → r = a0 2 1)) ∧ ((x1 = 9 → r = a0 0 9)) ∧ (((x1 = 2 ∧ a0 4 6 = 0) → r = 0)) ∧ ((x1 = 10 → r = a0 56 0)) ∧ ((x1 = 11 → r = a0 56 1)) ∧ ((x1 = 12 → r = a0 56 2)) ∧ ((x1 = 13 → r = a0 56 3)) ∧ ((x1 = 14 → r = a0 56 4)) ∧ (20 ≤ x1 ∧ x1 ≤ 27 → r = a0 143 (jxw (x1 - 20)).toNat) ∧ (30 ≤ x1 ∧ x1 ≤ 37 → r = a0 142 (jxw (x1 - 30)).toNat) ∧ (((((x1 < 0 ∨ (14 < x1 ∧ x1 < 20)) ∨ (27 < x1 ∧ x1 < 30)) ∨ 37 < x1) → r = 0 - 1)) ∧ (x1 = 2 → r = THN (a0 10) (a0 4 6).toNat))
theorem sq_X11_count (E : jxE) (d : Nat) (hd : Nat.ble 4 d = true) (x1 : Int) (a0 b0 : Nat → Nat → Int) (hv0 : iv a0) : jt (jxC E d 197 [.inr (.inr (.inl 0)), .inl x1] (jxSH, a0, b0)) (jR_X11_count x1 a0 b0) := by
  obtain ⟨d, rfl⟩ := jd_succ hd
  refine jt_eq (bq_X11_count E d x1 a0 b0) ?_
  refine jt_ite (fun c1787_ => ?_) (fun c1787_ => ?_)
  ·
    refine jt_eI (eq_X11_countOfDrawer E d (jd_le hd rfl) x1 a0 b0) ?_
    have h1788_ := f_X11_countOfDrawer_eq a0 b0 x1
    have h1789_ := f_X11_within_eq a0 b0 x1 20 27
    have h1790_ := f_X11_within_eq a0 b0 x1 30 37
    have h1791_ := jxw_im (x1 - 30)
    have h1792_ := jxw_rg (x1 - 30)
    have h1793_ := f_X1_valueOf_eq a0 b0 (jxw (x1 - 30))
    have h1794_ := f_X11_entry_r142_eq a0 b0 8 (jxw (x1 - 30))
    have h1795_ := jxw_im (x1 - 20)
    have h1796_ := jxw_rg (x1 - 20)
    have h1797_ := f_X1_manyOf_eq a0 b0 (jxw (x1 - 20))
    have h1798_ := f_X11_entry_r143_eq a0 b0 8 (jxw (x1 - 20))
    have h1799_ := iv_get hv0 (k := 0) (j := 0) (l := 0) (u := 1999) rfl
    have h1800_ := iv_get hv0 (k := 4) (j := 6) (l := 0) (u := 40) rfl
    have h1801_ := iv_get hv0 (k := 58) (j := 8) (l := 0) (u := 300) rfl
    have h1802_ := iv_get hv0 (k := 58) (j := 12) (l := 0) (u := 600) rfl
    have h1803_ := iv_get hv0 (k := 83) (j := 6) (l := 0) (u := 20) rfl
    have h1804_ := iv_get hv0 (k := 105) (j := 5) (l := 0) (u := 10) rfl
    have h1805_ := iv_get hv0 (k := 2) (j := 1) (l := 0) (u := 200) rfl
    have h1806_ := iv_get hv0 (k := 0) (j := 9) (l := 0) (u := 8) rfl
    exact jt_rI ⟨rfl, rfl, (show (x1 = 0 → f_X11_countOfDrawer a0 b0 x1 = a0 0 0) from by omega), (show (x1 = 1 → f_X11_countOfDrawer a0 b0 x1 = a0 4 6) from by omega), (show (x1 = 3 → f_X11_countOfDrawer a0 b0 x1 = a0 58 8) from by omega), (show (x1 = 4 → f_X11_countOfDrawer a0 b0 x1 = a0 58 12) from by omega), (show (x1 = 5 → f_X11_countOfDrawer a0 b0 x1 = a0 83 6) from by omega), (show (x1 = 6 → f_X11_countOfDrawer a0 b0 x1 = a0 83 7) from by omega), (show (x1 = 7 → f_X11_countOfDrawer a0 b0 x1 = a0 105 5) from by omega), (show (x1 = 8 → f_X11_countOfDrawer a0 b0 x1 = a0 2 1) from by omega), (show (x1 = 9 → f_X11_countOfDrawer a0 b0 x1 = a0 0 9) from by omega), (show ((x1 = 2 ∧ a0 4 6 = 0) → f_X11_countOfDrawer a0 b0 x1 = 0) from by omega), (show (x1 = 10 → f_X11_countOfDrawer a0 b0 x1 = a0 56 0) from by omega), (show (x1 = 11 → f_X11_countOfDrawer a0 b0 x1 = a0 56 1) from by omega), (show (x1 = 12 → f_X11_countOfDrawer a0 b0 x1 = a0 56 2) from by omega), (show (x1 = 13 → f_X11_countOfDrawer a0 b0 x1 = a0 56 3) from by omega), (show (x1 = 14 → f_X11_countOfDrawer a0 b0 x1 = a0 56 4) from by omega), (by omega), (by omega), (show ((((x1 < 0 ∨ (14 < x1 ∧ x1 < 20)) ∨ (27 < x1 ∧ x1 < 30)) ∨ 37 < x1) → f_X11_countOfDrawer a0 b0 x1 = 0 - 1) from by omega), (fun h => by first | exact hq0_1 | (exfalso; omega))⟩
  ·
    refine jt_ite (fun c1807_ => ?_) (fun c1807_ => ?_)
    ·
      have h1808_ := iv_get hv0 (k := 0) (j := 0) (l := 0) (u := 1999) rfl
      have h1809_ := iv_get hv0 (k := 4) (j := 6) (l := 0) (u := 40) rfl
      have h1810_ := iv_get hv0 (k := 58) (j := 8) (l := 0) (u := 300) rfl
      have h1811_ := iv_get hv0 (k := 58) (j := 12) (l := 0) (u := 600) rfl
      have h1812_ := iv_get hv0 (k := 83) (j := 6) (l := 0) (u := 20) rfl
      have h1813_ := iv_get hv0 (k := 105) (j := 5) (l := 0) (u := 10) rfl
      have h1814_ := iv_get hv0 (k := 2) (j := 1) (l := 0) (u := 200) rfl
      have h1815_ := iv_get hv0 (k := 0) (j := 9) (l := 0) (u := 8) rfl
      exact jt_rI ⟨rfl, rfl, (show (x1 = 0 → a0 0 0 = a0 0 0) from by omega), (show (x1 = 1 → a0 0 0 = a0 4 6) from by omega), (show (x1 = 3 → a0 0 0 = a0 58 8) from by omega), (show (x1 = 4 → a0 0 0 = a0 58 12) from by omega), (show (x1 = 5 → a0 0 0 = a0 83 6) from by omega), (show (x1 = 6 → a0 0 0 = a0 83 7) from by omega), (show (x1 = 7 → a0 0 0 = a0 105 5) from by omega), (show (x1 = 8 → a0 0 0 = a0 2 1) from by omega), (show (x1 = 9 → a0 0 0 = a0 0 9) from by omega), (show ((x1 = 2 ∧ a0 4 6 = 0) → a0 0 0 = 0) from by omega), (show (x1 = 10 → a0 0 0 = a0 56 0) from by omega), (show (x1 = 11 → a0 0 0 = a0 56 1) from by omega), (show (x1 = 12 → a0 0 0 = a0 56 2) from by omega), (show (x1 = 13 → a0 0 0 = a0 56 3) from by omega), (show (x1 = 14 → a0 0 0 = a0 56 4) from by omega), (by omega), (by omega), (show ((((x1 < 0 ∨ (14 < x1 ∧ x1 < 20)) ∨ (27 < x1 ∧ x1 < 30)) ∨ 37 < x1) → a0 0 0 = 0 - 1) from by omega), (fun h => by first | exact hq0_1 | (exfalso; omega))⟩
    ·
      refine jt_ite (fun c1816_ => ?_) (fun c1816_ => ?_)
      ·
        refine jt_eI (eq_X3_size E d (jd_le hd rfl) a0 b0) ?_
        have h1817_ := f_X3_size_eq a0 b0
        have h1818_ := iv_get hv0 (k := 4) (j := 6) (l := 0) (u := 40) rfl
        have h1819_ := iv_get hv0 (k := 0) (j := 0) (l := 0) (u := 1999) rfl
        have h1820_ := iv_get hv0 (k := 58) (j := 8) (l := 0) (u := 300) rfl
        have h1821_ := iv_get hv0 (k := 58) (j := 12) (l := 0) (u := 600) rfl
        have h1822_ := iv_get hv0 (k := 83) (j := 6) (l := 0) (u := 20) rfl
        have h1823_ := iv_get hv0 (k := 105) (j := 5) (l := 0) (u := 10) rfl
        have h1824_ := iv_get hv0 (k := 2) (j := 1) (l := 0) (u := 200) rfl
        have h1825_ := iv_get hv0 (k := 0) (j := 9) (l := 0) (u := 8) rfl
        exact jt_rI ⟨rfl, rfl, (show (x1 = 0 → f_X3_size a0 b0 = a0 0 0) from by omega), (show (x1 = 1 → f_X3_size a0 b0 = a0 4 6) from by omega), (show (x1 = 3 → f_X3_size a0 b0 = a0 58 8) from by omega), (show (x1 = 4 → f_X3_size a0 b0 = a0 58 12) from by omega), (show (x1 = 5 → f_X3_size a0 b0 = a0 83 6) from by omega), (show (x1 = 6 → f_X3_size a0 b0 = a0 83 7) from by omega), (show (x1 = 7 → f_X3_size a0 b0 = a0 105 5) from by omega), (show (x1 = 8 → f_X3_size a0 b0 = a0 2 1) from by omega), (show (x1 = 9 → f_X3_size a0 b0 = a0 0 9) from by omega), (show ((x1 = 2 ∧ a0 4 6 = 0) → f_X3_size a0 b0 = 0) from by omega), (show (x1 = 10 → f_X3_size a0 b0 = a0 56 0) from by omega), (show (x1 = 11 → f_X3_size a0 b0 = a0 56 1) from by omega), (show (x1 = 12 → f_X3_size a0 b0 = a0 56 2) from by omega), (show (x1 = 13 → f_X3_size a0 b0 = a0 56 3) from by omega), (show (x1 = 14 → f_X3_size a0 b0 = a0 56 4) from by omega), (by omega), (by omega), (show ((((x1 < 0 ∨ (14 < x1 ∧ x1 < 20)) ∨ (27 < x1 ∧ x1 < 30)) ∨ 37 < x1) → f_X3_size a0 b0 = 0 - 1) from by omega), (fun h => by first | exact hq0_1 | (exfalso; omega))⟩
      ·
        refine jt_ite (fun c1826_ => ?_) (fun c1826_ => ?_)
        ·
          refine jt_bI (sq_X3_howManyThere E d (jd_le hd rfl) a0 b0 hv0) (fun r1827_ a1827_ b1827_ h1827_ => ?_)
          obtain ⟨rfl, rfl, hq1827_0, hq1827_1⟩ := h1827_
          have h1828_ := iv_get hv0 (k := 4) (j := 6) (l := 0) (u := 40) rfl
          have h1829_ := iv_get hv0 (k := 0) (j := 0) (l := 0) (u := 1999) rfl
          have h1830_ := iv_get hv0 (k := 58) (j := 8) (l := 0) (u := 300) rfl
          have h1831_ := iv_get hv0 (k := 58) (j := 12) (l := 0) (u := 600) rfl
          have h1832_ := iv_get hv0 (k := 83) (j := 6) (l := 0) (u := 20) rfl
          have h1833_ := iv_get hv0 (k := 105) (j := 5) (l := 0) (u := 10) rfl
          have h1834_ := iv_get hv0 (k := 2) (j := 1) (l := 0) (u := 200) rfl
          have h1835_ := iv_get hv0 (k := 0) (j := 9) (l := 0) (u := 8) rfl
          exact jt_rI ⟨rfl, rfl, (show (x1 = 0 → r1827_ = a0 0 0) from by omega), (show (x1 = 1 → r1827_ = a0 4 6) from by omega), (show (x1 = 3 → r1827_ = a0 58 8) from by omega), (show (x1 = 4 → r1827_ = a0 58 12) from by omega), (show (x1 = 5 → r1827_ = a0 83 6) from by omega), (show (x1 = 6 → r1827_ = a0 83 7) from by omega), (show (x1 = 7 → r1827_ = a0 105 5) from by omega), (show (x1 = 8 → r1827_ = a0 2 1) from by omega), (show (x1 = 9 → r1827_ = a0 0 9) from by omega), (show ((x1 = 2 ∧ a0 4 6 = 0) → r1827_ = 0) from by omega), (show (x1 = 10 → r1827_ = a0 56 0) from by omega), (show (x1 = 11 → r1827_ = a0 56 1) from by omega), (show (x1 = 12 → r1827_ = a0 56 2) from by omega), (show (x1 = 13 → r1827_ = a0 56 3) from by omega), (show (x1 = 14 → r1827_ = a0 56 4) from by omega), (by omega), (by omega), (show ((((x1 < 0 ∨ (14 < x1 ∧ x1 < 20)) ∨ (27 < x1 ∧ x1 < 30)) ∨ 37 < x1) → r1827_ = 0 - 1) from by omega), (fun h => by first | exact hq1827_1 | (exfalso; omega))⟩
        ·
          refine jt_ite (fun c1836_ => ?_) (fun c1836_ => ?_)
          ·
            refine jt_eI (eq_X0_size E d (jd_le hd rfl) a0 b0) ?_
            have h1837_ := f_X0_size_eq a0 b0
            have h1838_ := iv_get hv0 (k := 58) (j := 8) (l := 0) (u := 300) rfl
            have h1839_ := iv_get hv0 (k := 0) (j := 0) (l := 0) (u := 1999) rfl
            have h1840_ := iv_get hv0 (k := 4) (j := 6) (l := 0) (u := 40) rfl
            have h1841_ := iv_get hv0 (k := 58) (j := 12) (l := 0) (u := 600) rfl
            have h1842_ := iv_get hv0 (k := 83) (j := 6) (l := 0) (u := 20) rfl
            have h1843_ := iv_get hv0 (k := 105) (j := 5) (l := 0) (u := 10) rfl
            have h1844_ := iv_get hv0 (k := 2) (j := 1) (l := 0) (u := 200) rfl
            have h1845_ := iv_get hv0 (k := 0) (j := 9) (l := 0) (u := 8) rfl
            exact jt_rI ⟨rfl, rfl, (show (x1 = 0 → f_X0_size a0 b0 = a0 0 0) from by omega), (show (x1 = 1 → f_X0_size a0 b0 = a0 4 6) from by omega), (show (x1 = 3 → f_X0_size a0 b0 = a0 58 8) from by omega), (show (x1 = 4 → f_X0_size a0 b0 = a0 58 12) from by omega), (show (x1 = 5 → f_X0_size a0 b0 = a0 83 6) from by omega), (show (x1 = 6 → f_X0_size a0 b0 = a0 83 7) from by omega), (show (x1 = 7 → f_X0_size a0 b0 = a0 105 5) from by omega), (show (x1 = 8 → f_X0_size a0 b0 = a0 2 1) from by omega), (show (x1 = 9 → f_X0_size a0 b0 = a0 0 9) from by omega), (show ((x1 = 2 ∧ a0 4 6 = 0) → f_X0_size a0 b0 = 0) from by omega), (show (x1 = 10 → f_X0_size a0 b0 = a0 56 0) from by omega), (show (x1 = 11 → f_X0_size a0 b0 = a0 56 1) from by omega), (show (x1 = 12 → f_X0_size a0 b0 = a0 56 2) from by omega), (show (x1 = 13 → f_X0_size a0 b0 = a0 56 3) from by omega), (show (x1 = 14 → f_X0_size a0 b0 = a0 56 4) from by omega), (by omega), (by omega), (show ((((x1 < 0 ∨ (14 < x1 ∧ x1 < 20)) ∨ (27 < x1 ∧ x1 < 30)) ∨ 37 < x1) → f_X0_size a0 b0 = 0 - 1) from by omega), (fun h => by first | exact hq0_1 | (exfalso; omega))⟩
          ·
            refine jt_ite (fun c1846_ => ?_) (fun c1846_ => ?_)
            ·
              refine jt_eI (eq_X0_tellings E d (jd_le hd rfl) a0 b0) ?_
              have h1847_ := f_X0_tellings_eq a0 b0
              have h1848_ := iv_get hv0 (k := 58) (j := 12) (l := 0) (u := 600) rfl
              have h1849_ := iv_get hv0 (k := 0) (j := 0) (l := 0) (u := 1999) rfl
              have h1850_ := iv_get hv0 (k := 4) (j := 6) (l := 0) (u := 40) rfl
              have h1851_ := iv_get hv0 (k := 58) (j := 8) (l := 0) (u := 300) rfl
              have h1852_ := iv_get hv0 (k := 83) (j := 6) (l := 0) (u := 20) rfl
              have h1853_ := iv_get hv0 (k := 105) (j := 5) (l := 0) (u := 10) rfl
              have h1854_ := iv_get hv0 (k := 2) (j := 1) (l := 0) (u := 200) rfl
              have h1855_ := iv_get hv0 (k := 0) (j := 9) (l := 0) (u := 8) rfl
              exact jt_rI ⟨rfl, rfl, (show (x1 = 0 → f_X0_tellings a0 b0 = a0 0 0) from by omega), (show (x1 = 1 → f_X0_tellings a0 b0 = a0 4 6) from by omega), (show (x1 = 3 → f_X0_tellings a0 b0 = a0 58 8) from by omega), (show (x1 = 4 → f_X0_tellings a0 b0 = a0 58 12) from by omega), (show (x1 = 5 → f_X0_tellings a0 b0 = a0 83 6) from by omega), (show (x1 = 6 → f_X0_tellings a0 b0 = a0 83 7) from by omega), (show (x1 = 7 → f_X0_tellings a0 b0 = a0 105 5) from by omega), (show (x1 = 8 → f_X0_tellings a0 b0 = a0 2 1) from by omega), (show (x1 = 9 → f_X0_tellings a0 b0 = a0 0 9) from by omega), (show ((x1 = 2 ∧ a0 4 6 = 0) → f_X0_tellings a0 b0 = 0) from by omega), (show (x1 = 10 → f_X0_tellings a0 b0 = a0 56 0) from by omega), (show (x1 = 11 → f_X0_tellings a0 b0 = a0 56 1) from by omega), (show (x1 = 12 → f_X0_tellings a0 b0 = a0 56 2) from by omega), (show (x1 = 13 → f_X0_tellings a0 b0 = a0 56 3) from by omega), (show (x1 = 14 → f_X0_tellings a0 b0 = a0 56 4) from by omega), (by omega), (by omega), (show ((((x1 < 0 ∨ (14 < x1 ∧ x1 < 20)) ∨ (27 < x1 ∧ x1 < 30)) ∨ 37 < x1) → f_X0_tellings a0 b0 = 0 - 1) from by omega), (fun h => by first | exact hq0_1 | (exfalso; omega))⟩
            ·
              refine jt_ite (fun c1856_ => ?_) (fun c1856_ => ?_)
              ·
                refine jt_eI (eq_X4_size E d (jd_le hd rfl) a0 b0) ?_
                have h1857_ := f_X4_size_eq a0 b0
                have h1858_ := iv_get hv0 (k := 83) (j := 6) (l := 0) (u := 20) rfl
                have h1859_ := iv_get hv0 (k := 0) (j := 0) (l := 0) (u := 1999) rfl
                have h1860_ := iv_get hv0 (k := 4) (j := 6) (l := 0) (u := 40) rfl
                have h1861_ := iv_get hv0 (k := 58) (j := 8) (l := 0) (u := 300) rfl
                have h1862_ := iv_get hv0 (k := 58) (j := 12) (l := 0) (u := 600) rfl
                have h1863_ := iv_get hv0 (k := 105) (j := 5) (l := 0) (u := 10) rfl
                have h1864_ := iv_get hv0 (k := 2) (j := 1) (l := 0) (u := 200) rfl
                have h1865_ := iv_get hv0 (k := 0) (j := 9) (l := 0) (u := 8) rfl
                exact jt_rI ⟨rfl, rfl, (show (x1 = 0 → f_X4_size a0 b0 = a0 0 0) from by omega), (show (x1 = 1 → f_X4_size a0 b0 = a0 4 6) from by omega), (show (x1 = 3 → f_X4_size a0 b0 = a0 58 8) from by omega), (show (x1 = 4 → f_X4_size a0 b0 = a0 58 12) from by omega), (show (x1 = 5 → f_X4_size a0 b0 = a0 83 6) from by omega), (show (x1 = 6 → f_X4_size a0 b0 = a0 83 7) from by omega), (show (x1 = 7 → f_X4_size a0 b0 = a0 105 5) from by omega), (show (x1 = 8 → f_X4_size a0 b0 = a0 2 1) from by omega), (show (x1 = 9 → f_X4_size a0 b0 = a0 0 9) from by omega), (show ((x1 = 2 ∧ a0 4 6 = 0) → f_X4_size a0 b0 = 0) from by omega), (show (x1 = 10 → f_X4_size a0 b0 = a0 56 0) from by omega), (show (x1 = 11 → f_X4_size a0 b0 = a0 56 1) from by omega), (show (x1 = 12 → f_X4_size a0 b0 = a0 56 2) from by omega), (show (x1 = 13 → f_X4_size a0 b0 = a0 56 3) from by omega), (show (x1 = 14 → f_X4_size a0 b0 = a0 56 4) from by omega), (by omega), (by omega), (show ((((x1 < 0 ∨ (14 < x1 ∧ x1 < 20)) ∨ (27 < x1 ∧ x1 < 30)) ∨ 37 < x1) → f_X4_size a0 b0 = 0 - 1) from by omega), (fun h => by first | exact hq0_1 | (exfalso; omega))⟩
              ·
                refine jt_ite (fun c1866_ => ?_) (fun c1866_ => ?_)
                ·
                  refine jt_eI (eq_X4_ringsClosed E d (jd_le hd rfl) a0 b0) ?_
                  have h1867_ := f_X4_ringsClosed_eq a0 b0
                  have h1868_ := iv_get hv0 (k := 0) (j := 0) (l := 0) (u := 1999) rfl
                  have h1869_ := iv_get hv0 (k := 4) (j := 6) (l := 0) (u := 40) rfl
                  have h1870_ := iv_get hv0 (k := 58) (j := 8) (l := 0) (u := 300) rfl
                  have h1871_ := iv_get hv0 (k := 58) (j := 12) (l := 0) (u := 600) rfl
                  have h1872_ := iv_get hv0 (k := 83) (j := 6) (l := 0) (u := 20) rfl
                  have h1873_ := iv_get hv0 (k := 105) (j := 5) (l := 0) (u := 10) rfl
                  have h1874_ := iv_get hv0 (k := 2) (j := 1) (l := 0) (u := 200) rfl
                  have h1875_ := iv_get hv0 (k := 0) (j := 9) (l := 0) (u := 8) rfl
                  exact jt_rI ⟨rfl, rfl, (show (x1 = 0 → f_X4_ringsClosed a0 b0 = a0 0 0) from by omega), (show (x1 = 1 → f_X4_ringsClosed a0 b0 = a0 4 6) from by omega), (show (x1 = 3 → f_X4_ringsClosed a0 b0 = a0 58 8) from by omega), (show (x1 = 4 → f_X4_ringsClosed a0 b0 = a0 58 12) from by omega), (show (x1 = 5 → f_X4_ringsClosed a0 b0 = a0 83 6) from by omega), (show (x1 = 6 → f_X4_ringsClosed a0 b0 = a0 83 7) from by omega), (show (x1 = 7 → f_X4_ringsClosed a0 b0 = a0 105 5) from by omega), (show (x1 = 8 → f_X4_ringsClosed a0 b0 = a0 2 1) from by omega), (show (x1 = 9 → f_X4_ringsClosed a0 b0 = a0 0 9) from by omega), (show ((x1 = 2 ∧ a0 4 6 = 0) → f_X4_ringsClosed a0 b0 = 0) from by omega), (show (x1 = 10 → f_X4_ringsClosed a0 b0 = a0 56 0) from by omega), (show (x1 = 11 → f_X4_ringsClosed a0 b0 = a0 56 1) from by omega), (show (x1 = 12 → f_X4_ringsClosed a0 b0 = a0 56 2) from by omega), (show (x1 = 13 → f_X4_ringsClosed a0 b0 = a0 56 3) from by omega), (show (x1 = 14 → f_X4_ringsClosed a0 b0 = a0 56 4) from by omega), (by omega), (by omega), (show ((((x1 < 0 ∨ (14 < x1 ∧ x1 < 20)) ∨ (27 < x1 ∧ x1 < 30)) ∨ 37 < x1) → f_X4_ringsClosed a0 b0 = 0 - 1) from by omega), (fun h => by first | exact hq0_1 | (exfalso; omega))⟩
                ·
                  refine jt_ite (fun c1876_ => ?_) (fun c1876_ => ?_)
                  ·
                    refine jt_eI (eq_X9_size E d (jd_le hd rfl) a0 b0) ?_
                    have h1877_ := f_X9_size_eq a0 b0
                    have h1878_ := iv_get hv0 (k := 105) (j := 5) (l := 0) (u := 10) rfl
                    have h1879_ := iv_get hv0 (k := 0) (j := 0) (l := 0) (u := 1999) rfl
                    have h1880_ := iv_get hv0 (k := 4) (j := 6) (l := 0) (u := 40) rfl
                    have h1881_ := iv_get hv0 (k := 58) (j := 8) (l := 0) (u := 300) rfl
                    have h1882_ := iv_get hv0 (k := 58) (j := 12) (l := 0) (u := 600) rfl
                    have h1883_ := iv_get hv0 (k := 83) (j := 6) (l := 0) (u := 20) rfl
                    have h1884_ := iv_get hv0 (k := 2) (j := 1) (l := 0) (u := 200) rfl
                    have h1885_ := iv_get hv0 (k := 0) (j := 9) (l := 0) (u := 8) rfl
                    exact jt_rI ⟨rfl, rfl, (show (x1 = 0 → f_X9_size a0 b0 = a0 0 0) from by omega), (show (x1 = 1 → f_X9_size a0 b0 = a0 4 6) from by omega), (show (x1 = 3 → f_X9_size a0 b0 = a0 58 8) from by omega), (show (x1 = 4 → f_X9_size a0 b0 = a0 58 12) from by omega), (show (x1 = 5 → f_X9_size a0 b0 = a0 83 6) from by omega), (show (x1 = 6 → f_X9_size a0 b0 = a0 83 7) from by omega), (show (x1 = 7 → f_X9_size a0 b0 = a0 105 5) from by omega), (show (x1 = 8 → f_X9_size a0 b0 = a0 2 1) from by omega), (show (x1 = 9 → f_X9_size a0 b0 = a0 0 9) from by omega), (show ((x1 = 2 ∧ a0 4 6 = 0) → f_X9_size a0 b0 = 0) from by omega), (show (x1 = 10 → f_X9_size a0 b0 = a0 56 0) from by omega), (show (x1 = 11 → f_X9_size a0 b0 = a0 56 1) from by omega), (show (x1 = 12 → f_X9_size a0 b0 = a0 56 2) from by omega), (show (x1 = 13 → f_X9_size a0 b0 = a0 56 3) from by omega), (show (x1 = 14 → f_X9_size a0 b0 = a0 56 4) from by omega), (by omega), (by omega), (show ((((x1 < 0 ∨ (14 < x1 ∧ x1 < 20)) ∨ (27 < x1 ∧ x1 < 30)) ∨ 37 < x1) → f_X9_size a0 b0 = 0 - 1) from by omega), (fun h => by first | exact hq0_1 | (exfalso; omega))⟩
                  ·
                    refine jt_ite (fun c1886_ => ?_) (fun c1886_ => ?_)
                    ·
                      refine jt_eI (eq_X8_length E d (jd_le hd rfl) a0 b0) ?_
                      have h1887_ := f_X8_length_eq a0 b0
                      have h1888_ := iv_get hv0 (k := 2) (j := 1) (l := 0) (u := 200) rfl
                      have h1889_ := iv_get hv0 (k := 0) (j := 0) (l := 0) (u := 1999) rfl
                      have h1890_ := iv_get hv0 (k := 4) (j := 6) (l := 0) (u := 40) rfl
                      have h1891_ := iv_get hv0 (k := 58) (j := 8) (l := 0) (u := 300) rfl
                      have h1892_ := iv_get hv0 (k := 58) (j := 12) (l := 0) (u := 600) rfl
                      have h1893_ := iv_get hv0 (k := 83) (j := 6) (l := 0) (u := 20) rfl
                      have h1894_ := iv_get hv0 (k := 105) (j := 5) (l := 0) (u := 10) rfl
                      have h1895_ := iv_get hv0 (k := 0) (j := 9) (l := 0) (u := 8) rfl
                      exact jt_rI ⟨rfl, rfl, (show (x1 = 0 → f_X8_length a0 b0 = a0 0 0) from by omega), (show (x1 = 1 → f_X8_length a0 b0 = a0 4 6) from by omega), (show (x1 = 3 → f_X8_length a0 b0 = a0 58 8) from by omega), (show (x1 = 4 → f_X8_length a0 b0 = a0 58 12) from by omega), (show (x1 = 5 → f_X8_length a0 b0 = a0 83 6) from by omega), (show (x1 = 6 → f_X8_length a0 b0 = a0 83 7) from by omega), (show (x1 = 7 → f_X8_length a0 b0 = a0 105 5) from by omega), (show (x1 = 8 → f_X8_length a0 b0 = a0 2 1) from by omega), (show (x1 = 9 → f_X8_length a0 b0 = a0 0 9) from by omega), (show ((x1 = 2 ∧ a0 4 6 = 0) → f_X8_length a0 b0 = 0) from by omega), (show (x1 = 10 → f_X8_length a0 b0 = a0 56 0) from by omega), (show (x1 = 11 → f_X8_length a0 b0 = a0 56 1) from by omega), (show (x1 = 12 → f_X8_length a0 b0 = a0 56 2) from by omega), (show (x1 = 13 → f_X8_length a0 b0 = a0 56 3) from by omega), (show (x1 = 14 → f_X8_length a0 b0 = a0 56 4) from by omega), (by omega), (by omega), (show ((((x1 < 0 ∨ (14 < x1 ∧ x1 < 20)) ∨ (27 < x1 ∧ x1 < 30)) ∨ 37 < x1) → f_X8_length a0 b0 = 0 - 1) from by omega), (fun h => by first | exact hq0_1 | (exfalso; omega))⟩
                    ·
                      refine jt_ite (fun c1896_ => ?_) (fun c1896_ => ?_)
                      ·
                        have h1897_ := iv_get hv0 (k := 0) (j := 9) (l := 0) (u := 8) rfl
                        have h1898_ := iv_get hv0 (k := 0) (j := 0) (l := 0) (u := 1999) rfl
                        have h1899_ := iv_get hv0 (k := 4) (j := 6) (l := 0) (u := 40) rfl
                        have h1900_ := iv_get hv0 (k := 58) (j := 8) (l := 0) (u := 300) rfl
                        have h1901_ := iv_get hv0 (k := 58) (j := 12) (l := 0) (u := 600) rfl
                        have h1902_ := iv_get hv0 (k := 83) (j := 6) (l := 0) (u := 20) rfl
                        have h1903_ := iv_get hv0 (k := 105) (j := 5) (l := 0) (u := 10) rfl
                        have h1904_ := iv_get hv0 (k := 2) (j := 1) (l := 0) (u := 200) rfl
                        exact jt_rI ⟨rfl, rfl, (show (x1 = 0 → a0 0 9 = a0 0 0) from by omega), (show (x1 = 1 → a0 0 9 = a0 4 6) from by omega), (show (x1 = 3 → a0 0 9 = a0 58 8) from by omega), (show (x1 = 4 → a0 0 9 = a0 58 12) from by omega), (show (x1 = 5 → a0 0 9 = a0 83 6) from by omega), (show (x1 = 6 → a0 0 9 = a0 83 7) from by omega), (show (x1 = 7 → a0 0 9 = a0 105 5) from by omega), (show (x1 = 8 → a0 0 9 = a0 2 1) from by omega), (show (x1 = 9 → a0 0 9 = a0 0 9) from by omega), (show ((x1 = 2 ∧ a0 4 6 = 0) → a0 0 9 = 0) from by omega), (show (x1 = 10 → a0 0 9 = a0 56 0) from by omega), (show (x1 = 11 → a0 0 9 = a0 56 1) from by omega), (show (x1 = 12 → a0 0 9 = a0 56 2) from by omega), (show (x1 = 13 → a0 0 9 = a0 56 3) from by omega), (show (x1 = 14 → a0 0 9 = a0 56 4) from by omega), (by omega), (by omega), (show ((((x1 < 0 ∨ (14 < x1 ∧ x1 < 20)) ∨ (27 < x1 ∧ x1 < 30)) ∨ 37 < x1) → a0 0 9 = 0 - 1) from by omega), (fun h => by first | exact hq0_1 | (exfalso; omega))⟩
                      ·
                        refine jt_ite (fun c1905_ => ?_) (fun c1905_ => ?_)
                        ·
                          refine jt_eI (eq_X6_under E d (jd_le hd rfl) a0 b0) ?_
                          have h1906_ := f_X6_under_eq a0 b0
                          have h1907_ := iv_get hv0 (k := 0) (j := 0) (l := 0) (u := 1999) rfl
                          have h1908_ := iv_get hv0 (k := 4) (j := 6) (l := 0) (u := 40) rfl
                          have h1909_ := iv_get hv0 (k := 58) (j := 8) (l := 0) (u := 300) rfl
                          have h1910_ := iv_get hv0 (k := 58) (j := 12) (l := 0) (u := 600) rfl
                          have h1911_ := iv_get hv0 (k := 83) (j := 6) (l := 0) (u := 20) rfl
                          have h1912_ := iv_get hv0 (k := 105) (j := 5) (l := 0) (u := 10) rfl
                          have h1913_ := iv_get hv0 (k := 2) (j := 1) (l := 0) (u := 200) rfl
                          have h1914_ := iv_get hv0 (k := 0) (j := 9) (l := 0) (u := 8) rfl
                          exact jt_rI ⟨rfl, rfl, (show (x1 = 0 → f_X6_under a0 b0 = a0 0 0) from by omega), (show (x1 = 1 → f_X6_under a0 b0 = a0 4 6) from by omega), (show (x1 = 3 → f_X6_under a0 b0 = a0 58 8) from by omega), (show (x1 = 4 → f_X6_under a0 b0 = a0 58 12) from by omega), (show (x1 = 5 → f_X6_under a0 b0 = a0 83 6) from by omega), (show (x1 = 6 → f_X6_under a0 b0 = a0 83 7) from by omega), (show (x1 = 7 → f_X6_under a0 b0 = a0 105 5) from by omega), (show (x1 = 8 → f_X6_under a0 b0 = a0 2 1) from by omega), (show (x1 = 9 → f_X6_under a0 b0 = a0 0 9) from by omega), (show ((x1 = 2 ∧ a0 4 6 = 0) → f_X6_under a0 b0 = 0) from by omega), (show (x1 = 10 → f_X6_under a0 b0 = a0 56 0) from by omega), (show (x1 = 11 → f_X6_under a0 b0 = a0 56 1) from by omega), (show (x1 = 12 → f_X6_under a0 b0 = a0 56 2) from by omega), (show (x1 = 13 → f_X6_under a0 b0 = a0 56 3) from by omega), (show (x1 = 14 → f_X6_under a0 b0 = a0 56 4) from by omega), (by omega), (by omega), (show ((((x1 < 0 ∨ (14 < x1 ∧ x1 < 20)) ∨ (27 < x1 ∧ x1 < 30)) ∨ 37 < x1) → f_X6_under a0 b0 = 0 - 1) from by omega), (fun h => by first | exact hq0_1 | (exfalso; omega))⟩
                        ·
                          refine jt_ite (fun c1915_ => ?_) (fun c1915_ => ?_)
                          ·
                            refine jt_eI (eq_X6_more E d (jd_le hd rfl) a0 b0) ?_
                            have h1916_ := f_X6_more_eq a0 b0
                            have h1917_ := iv_get hv0 (k := 0) (j := 0) (l := 0) (u := 1999) rfl
                            have h1918_ := iv_get hv0 (k := 4) (j := 6) (l := 0) (u := 40) rfl
                            have h1919_ := iv_get hv0 (k := 58) (j := 8) (l := 0) (u := 300) rfl
                            have h1920_ := iv_get hv0 (k := 58) (j := 12) (l := 0) (u := 600) rfl
                            have h1921_ := iv_get hv0 (k := 83) (j := 6) (l := 0) (u := 20) rfl
                            have h1922_ := iv_get hv0 (k := 105) (j := 5) (l := 0) (u := 10) rfl
                            have h1923_ := iv_get hv0 (k := 2) (j := 1) (l := 0) (u := 200) rfl
                            have h1924_ := iv_get hv0 (k := 0) (j := 9) (l := 0) (u := 8) rfl
                            exact jt_rI ⟨rfl, rfl, (show (x1 = 0 → f_X6_more a0 b0 = a0 0 0) from by omega), (show (x1 = 1 → f_X6_more a0 b0 = a0 4 6) from by omega), (show (x1 = 3 → f_X6_more a0 b0 = a0 58 8) from by omega), (show (x1 = 4 → f_X6_more a0 b0 = a0 58 12) from by omega), (show (x1 = 5 → f_X6_more a0 b0 = a0 83 6) from by omega), (show (x1 = 6 → f_X6_more a0 b0 = a0 83 7) from by omega), (show (x1 = 7 → f_X6_more a0 b0 = a0 105 5) from by omega), (show (x1 = 8 → f_X6_more a0 b0 = a0 2 1) from by omega), (show (x1 = 9 → f_X6_more a0 b0 = a0 0 9) from by omega), (show ((x1 = 2 ∧ a0 4 6 = 0) → f_X6_more a0 b0 = 0) from by omega), (show (x1 = 10 → f_X6_more a0 b0 = a0 56 0) from by omega), (show (x1 = 11 → f_X6_more a0 b0 = a0 56 1) from by omega), (show (x1 = 12 → f_X6_more a0 b0 = a0 56 2) from by omega), (show (x1 = 13 → f_X6_more a0 b0 = a0 56 3) from by omega), (show (x1 = 14 → f_X6_more a0 b0 = a0 56 4) from by omega), (by omega), (by omega), (show ((((x1 < 0 ∨ (14 < x1 ∧ x1 < 20)) ∨ (27 < x1 ∧ x1 < 30)) ∨ 37 < x1) → f_X6_more a0 b0 = 0 - 1) from by omega), (fun h => by first | exact hq0_1 | (exfalso; omega))⟩
                          ·
                            refine jt_ite (fun c1925_ => ?_) (fun c1925_ => ?_)
                            ·
                              refine jt_eI (eq_X6_slack E d (jd_le hd rfl) a0 b0) ?_
                              have h1926_ := f_X6_slack_eq a0 b0
                              have h1927_ := iv_get hv0 (k := 0) (j := 0) (l := 0) (u := 1999) rfl
                              have h1928_ := iv_get hv0 (k := 4) (j := 6) (l := 0) (u := 40) rfl
                              have h1929_ := iv_get hv0 (k := 58) (j := 8) (l := 0) (u := 300) rfl
                              have h1930_ := iv_get hv0 (k := 58) (j := 12) (l := 0) (u := 600) rfl
                              have h1931_ := iv_get hv0 (k := 83) (j := 6) (l := 0) (u := 20) rfl
                              have h1932_ := iv_get hv0 (k := 105) (j := 5) (l := 0) (u := 10) rfl
                              have h1933_ := iv_get hv0 (k := 2) (j := 1) (l := 0) (u := 200) rfl
                              have h1934_ := iv_get hv0 (k := 0) (j := 9) (l := 0) (u := 8) rfl
                              exact jt_rI ⟨rfl, rfl, (show (x1 = 0 → f_X6_slack a0 b0 = a0 0 0) from by omega), (show (x1 = 1 → f_X6_slack a0 b0 = a0 4 6) from by omega), (show (x1 = 3 → f_X6_slack a0 b0 = a0 58 8) from by omega), (show (x1 = 4 → f_X6_slack a0 b0 = a0 58 12) from by omega), (show (x1 = 5 → f_X6_slack a0 b0 = a0 83 6) from by omega), (show (x1 = 6 → f_X6_slack a0 b0 = a0 83 7) from by omega), (show (x1 = 7 → f_X6_slack a0 b0 = a0 105 5) from by omega), (show (x1 = 8 → f_X6_slack a0 b0 = a0 2 1) from by omega), (show (x1 = 9 → f_X6_slack a0 b0 = a0 0 9) from by omega), (show ((x1 = 2 ∧ a0 4 6 = 0) → f_X6_slack a0 b0 = 0) from by omega), (show (x1 = 10 → f_X6_slack a0 b0 = a0 56 0) from by omega), (show (x1 = 11 → f_X6_slack a0 b0 = a0 56 1) from by omega), (show (x1 = 12 → f_X6_slack a0 b0 = a0 56 2) from by omega), (show (x1 = 13 → f_X6_slack a0 b0 = a0 56 3) from by omega), (show (x1 = 14 → f_X6_slack a0 b0 = a0 56 4) from by omega), (by omega), (by omega), (show ((((x1 < 0 ∨ (14 < x1 ∧ x1 < 20)) ∨ (27 < x1 ∧ x1 < 30)) ∨ 37 < x1) → f_X6_slack a0 b0 = 0 - 1) from by omega), (fun h => by first | exact hq0_1 | (exfalso; omega))⟩
                            ·
                              refine jt_ite (fun c1935_ => ?_) (fun c1935_ => ?_)
                              ·
                                refine jt_eI (eq_X6_lost E d (jd_le hd rfl) a0 b0) ?_
                                have h1936_ := f_X6_lost_eq a0 b0
                                have h1937_ := iv_get hv0 (k := 0) (j := 0) (l := 0) (u := 1999) rfl
                                have h1938_ := iv_get hv0 (k := 4) (j := 6) (l := 0) (u := 40) rfl
                                have h1939_ := iv_get hv0 (k := 58) (j := 8) (l := 0) (u := 300) rfl
                                have h1940_ := iv_get hv0 (k := 58) (j := 12) (l := 0) (u := 600) rfl
                                have h1941_ := iv_get hv0 (k := 83) (j := 6) (l := 0) (u := 20) rfl
                                have h1942_ := iv_get hv0 (k := 105) (j := 5) (l := 0) (u := 10) rfl
                                have h1943_ := iv_get hv0 (k := 2) (j := 1) (l := 0) (u := 200) rfl
                                have h1944_ := iv_get hv0 (k := 0) (j := 9) (l := 0) (u := 8) rfl
                                exact jt_rI ⟨rfl, rfl, (show (x1 = 0 → f_X6_lost a0 b0 = a0 0 0) from by omega), (show (x1 = 1 → f_X6_lost a0 b0 = a0 4 6) from by omega), (show (x1 = 3 → f_X6_lost a0 b0 = a0 58 8) from by omega), (show (x1 = 4 → f_X6_lost a0 b0 = a0 58 12) from by omega), (show (x1 = 5 → f_X6_lost a0 b0 = a0 83 6) from by omega), (show (x1 = 6 → f_X6_lost a0 b0 = a0 83 7) from by omega), (show (x1 = 7 → f_X6_lost a0 b0 = a0 105 5) from by omega), (show (x1 = 8 → f_X6_lost a0 b0 = a0 2 1) from by omega), (show (x1 = 9 → f_X6_lost a0 b0 = a0 0 9) from by omega), (show ((x1 = 2 ∧ a0 4 6 = 0) → f_X6_lost a0 b0 = 0) from by omega), (show (x1 = 10 → f_X6_lost a0 b0 = a0 56 0) from by omega), (show (x1 = 11 → f_X6_lost a0 b0 = a0 56 1) from by omega), (show (x1 = 12 → f_X6_lost a0 b0 = a0 56 2) from by omega), (show (x1 = 13 → f_X6_lost a0 b0 = a0 56 3) from by omega), (show (x1 = 14 → f_X6_lost a0 b0 = a0 56 4) from by omega), (by omega), (by omega), (show ((((x1 < 0 ∨ (14 < x1 ∧ x1 < 20)) ∨ (27 < x1 ∧ x1 < 30)) ∨ 37 < x1) → f_X6_lost a0 b0 = 0 - 1) from by omega), (fun h => by first | exact hq0_1 | (exfalso; omega))⟩
                              ·
                                refine jt_ite (fun c1945_ => ?_) (fun c1945_ => ?_)
                                ·
                                  refine jt_eI (eq_X6_strict E d (jd_le hd rfl) a0 b0) ?_
                                  have h1946_ := f_X6_strict_eq a0 b0
                                  have h1947_ := iv_get hv0 (k := 0) (j := 0) (l := 0) (u := 1999) rfl
                                  have h1948_ := iv_get hv0 (k := 4) (j := 6) (l := 0) (u := 40) rfl
                                  have h1949_ := iv_get hv0 (k := 58) (j := 8) (l := 0) (u := 300) rfl
                                  have h1950_ := iv_get hv0 (k := 58) (j := 12) (l := 0) (u := 600) rfl
                                  have h1951_ := iv_get hv0 (k := 83) (j := 6) (l := 0) (u := 20) rfl
                                  have h1952_ := iv_get hv0 (k := 105) (j := 5) (l := 0) (u := 10) rfl
                                  have h1953_ := iv_get hv0 (k := 2) (j := 1) (l := 0) (u := 200) rfl
                                  have h1954_ := iv_get hv0 (k := 0) (j := 9) (l := 0) (u := 8) rfl
                                  exact jt_rI ⟨rfl, rfl, (show (x1 = 0 → f_X6_strict a0 b0 = a0 0 0) from by omega), (show (x1 = 1 → f_X6_strict a0 b0 = a0 4 6) from by omega), (show (x1 = 3 → f_X6_strict a0 b0 = a0 58 8) from by omega), (show (x1 = 4 → f_X6_strict a0 b0 = a0 58 12) from by omega), (show (x1 = 5 → f_X6_strict a0 b0 = a0 83 6) from by omega), (show (x1 = 6 → f_X6_strict a0 b0 = a0 83 7) from by omega), (show (x1 = 7 → f_X6_strict a0 b0 = a0 105 5) from by omega), (show (x1 = 8 → f_X6_strict a0 b0 = a0 2 1) from by omega), (show (x1 = 9 → f_X6_strict a0 b0 = a0 0 9) from by omega), (show ((x1 = 2 ∧ a0 4 6 = 0) → f_X6_strict a0 b0 = 0) from by omega), (show (x1 = 10 → f_X6_strict a0 b0 = a0 56 0) from by omega), (show (x1 = 11 → f_X6_strict a0 b0 = a0 56 1) from by omega), (show (x1 = 12 → f_X6_strict a0 b0 = a0 56 2) from by omega), (show (x1 = 13 → f_X6_strict a0 b0 = a0 56 3) from by omega), (show (x1 = 14 → f_X6_strict a0 b0 = a0 56 4) from by omega), (by omega), (by omega), (show ((((x1 < 0 ∨ (14 < x1 ∧ x1 < 20)) ∨ (27 < x1 ∧ x1 < 30)) ∨ 37 < x1) → f_X6_strict a0 b0 = 0 - 1) from by omega), (fun h => by first | exact hq0_1 | (exfalso; omega))⟩
                                ·
                                  exact absurd (by omega : False) id
abbrev jR_X1_put (x1 x2 x3 : Int) (a0 b0 : Nat → Nat → Int) : List jxV → (Nat → Nat → Int) → (Nat → Nat → Int) → Prop := rI (fun r a b => (iv a) ∧ (jfr jW_X1_put a0 a) ∧ (b0 = b) ∧ ((0 ≤ r ∧ r ≤ 1)) ∧ ((((((((r = 1 ∧ 0 ≤ x1) ∧ x1 ≤ 7) ∧ 1 ≤ x2) ∧ x2 ≤ 500) ∧ 0 ≤ x3) ∧ x3 ≤ 50) ∨ (r = 0 ∧ (((((x1 < 0 ∨ 7 < x1) ∨ x2 < 1) ∨ 500 < x2) ∨ x3 < 0) ∨ 50 < x3)))) ∧ (r = 1 → a 142 = rup (a0 142) x1.toNat x2 ∧ a 143 = rup (a0 143) x1.toNat x3) ∧ (r = 0 → a 142 = a0 142 ∧ a 143 = a0 143))
theorem cr_X1_put_36 (E : jxE) (d : Nat) (hd : Nat.ble 2 (d + 1) = true) (x1 x2 x3 : Int) (a0 b0 : Nat → Nat → Int) (hv0 : iv a0) : ∀ (y1 y2 y3 s0 : Int) (a : Nat → Nat → Int), iv a → jfr jW_X1_put a0 a → 0 ≤ s0 → s0 ≤ 1 → y1 = x1 → y2 = x2 → y3 = x3 → (((((((s0 = 1 ∧ 0 ≤ x1) ∧ x1 ≤ 7) ∧ 1 ≤ x2) ∧ x2 ≤ 500) ∧ 0 ≤ x3) ∧ x3 ≤ 50) ∨ (s0 = 0 ∧ (((((x1 < 0 ∨ 7 < x1) ∨ x2 < 1) ∨ 500 < x2) ∨ x3 < 0) ∨ 50 < x3))) → (y1 = x1) → (y2 = x2) → (y3 = x3) → (a = a0) → (s0 = 1 → (((((0 ≤ y1 ∧ y1 ≤ 7) ∧ 1 ≤ y2) ∧ y2 ≤ 500) ∧ 0 ≤ y3) ∧ y3 ≤ 50)) → jt (jxX E d 29 36 [some (.inr (.inr (.inl 141))), some (.inl y1), some (.inl y2), some (.inl y3), none] [.inl s0] (jxSH, a, b0)) (jR_X1_put x1 x2 x3 a0 b0) := by
  intro y1 y2 y3 s0 a hv hf hi0 hi1 hi2 hi3 hi4 hi5 hy1 hy2 hy3 hea hi10
  refine jt_eq (bq_X1_put_36 E d y1 y2 y3 s0 a b0) ?_
  refine jt_ite (fun c1955_ => ?_) (fun c1955_ => ?_)
  ·
    refine jt_grd (by omega) ?_
    exact jt_rI ⟨hv, hf, rfl, (show (0 ≤ s0 ∧ s0 ≤ 1) from by omega), (show (((((((s0 = 1 ∧ 0 ≤ x1) ∧ x1 ≤ 7) ∧ 1 ≤ x2) ∧ x2 ≤ 500) ∧ 0 ≤ x3) ∧ x3 ≤ 50) ∨ (s0 = 0 ∧ (((((x1 < 0 ∨ 7 < x1) ∨ x2 < 1) ∨ 500 < x2) ∨ x3 < 0) ∨ 50 < x3))) from by omega), (fun h => absurd h (by omega)), (fun _ => by rw [hea]; exact ⟨rfl, rfl⟩)⟩
  ·
    refine jt_grd (by omega) ?_
    refine jt_grd (by omega) ?_
    refine jt_grd (by omega) ?_
    have hv1956_ : iv (jxu a 142 (y1.toNat) y2) := iv_putf hv rfl
    have hv1957_ : iv (jxu (jxu a 142 (y1.toNat) y2) 143 (y1.toNat) y3) := iv_putf hv1956_ rfl
    have hf1958_ : jfr jW_X1_put a0 (jxu a 142 (y1.toNat) y2) := jfr_put hf rfl
    have hf1959_ : jfr jW_X1_put a0 (jxu (jxu a 142 (y1.toNat) y2) 143 (y1.toNat) y3) := jfr_put hf1958_ rfl
    exact jt_rI ⟨hv1957_, hf1959_, rfl, (show (0 ≤ s0 ∧ s0 ≤ 1) from by omega), (show (((((((s0 = 1 ∧ 0 ≤ x1) ∧ x1 ≤ 7) ∧ 1 ≤ x2) ∧ x2 ≤ 500) ∧ 0 ≤ x3) ∧ x3 ≤ 50) ∨ (s0 = 0 ∧ (((((x1 < 0 ∨ 7 < x1) ∨ x2 < 1) ∨ 500 < x2) ∨ x3 < 0) ∨ 50 < x3))) from by omega), (fun _ => by rw [← hea, ← hy1, ← hy2, ← hy3]; exact ⟨by rw [jxu_off (show ¬ 142 = 143 by decide), jxu_rup], by rw [jxu_rup, jxu_off (show ¬ 143 = 142 by decide)]⟩), (fun h => absurd h (by omega))⟩
theorem cr_X1_put_31 (E : jxE) (d : Nat) (hd : Nat.ble 2 (d + 1) = true) (x1 x2 x3 : Int) (a0 b0 : Nat → Nat → Int) (hv0 : iv a0) : ∀ (y1 y2 y3 : Int) (a : Nat → Nat → Int), iv a → jfr jW_X1_put a0 a → 0 ≤ y1 → y1 ≤ 7 → 1 ≤ y2 → y2 ≤ 500 → 0 ≤ y3 → y3 ≤ 50 → y1 = x1 → y2 = x2 → y3 = x3 → (((((0 ≤ x1 ∧ x1 ≤ 7) ∧ 1 ≤ x2) ∧ x2 ≤ 500) ∧ 0 ≤ x3) ∧ x3 ≤ 50) → (y1 = x1) → (y2 = x2) → (y3 = x3) → (a = a0) → jt (jxX E d 29 31 [some (.inr (.inr (.inl 141))), some (.inl y1), some (.inl y2), some (.inl y3), none] [] (jxSH, a, b0)) (jR_X1_put x1 x2 x3 a0 b0) := by
  intro y1 y2 y3 a hv hf hi0 hi1 hi2 hi3 hi4 hi5 hi6 hi7 hi8 hi9 hy1 hy2 hy3 hea
  refine jt_eq (bq_X1_put_31 E d y1 y2 y3 a b0) ?_
  exact cr_X1_put_36 E d hd x1 x2 x3 a0 b0 hv0 y1 y2 y3 1 a hv hf (show 0 ≤ 1 from by omega) (show 1 ≤ 1 from by omega) (show y1 = x1 from by omega) (show y2 = x2 from by omega) (show y3 = x3 from by omega) (show (((((((1 = 1 ∧ 0 ≤ x1) ∧ x1 ≤ 7) ∧ 1 ≤ x2) ∧ x2 ≤ 500) ∧ 0 ≤ x3) ∧ x3 ≤ 50) ∨ (1 = 0 ∧ (((((x1 < 0 ∨ 7 < x1) ∨ x2 < 1) ∨ 500 < x2) ∨ x3 < 0) ∨ 50 < x3))) from by omega) (by first | rfl | assumption) (by first | rfl | assumption) (by first | rfl | assumption) (by first | rfl | assumption) (show (1 = 1 → (((((0 ≤ y1 ∧ y1 ≤ 7) ∧ 1 ≤ y2) ∧ y2 ≤ 500) ∧ 0 ≤ y3) ∧ y3 ≤ 50)) from by omega)
theorem cr_X1_put_35 (E : jxE) (d : Nat) (hd : Nat.ble 2 (d + 1) = true) (x1 x2 x3 : Int) (a0 b0 : Nat → Nat → Int) (hv0 : iv a0) : ∀ (y1 y2 y3 : Int) (a : Nat → Nat → Int), iv a → jfr jW_X1_put a0 a → y1 = x1 → y2 = x2 → y3 = x3 → (((((x1 < 0 ∨ 7 < x1) ∨ x2 < 1) ∨ 500 < x2) ∨ x3 < 0) ∨ 50 < x3) → (y1 = x1) → (y2 = x2) → (y3 = x3) → (a = a0) → jt (jxX E d 29 35 [some (.inr (.inr (.inl 141))), some (.inl y1), some (.inl y2), some (.inl y3), none] [] (jxSH, a, b0)) (jR_X1_put x1 x2 x3 a0 b0) := by
  intro y1 y2 y3 a hv hf hi0 hi1 hi2 hi3 hy1 hy2 hy3 hea
  refine jt_eq (bq_X1_put_35 E d y1 y2 y3 a b0) ?_
  exact cr_X1_put_36 E d hd x1 x2 x3 a0 b0 hv0 y1 y2 y3 0 a hv hf (show 0 ≤ 0 from by omega) (show 0 ≤ 1 from by omega) (show y1 = x1 from by omega) (show y2 = x2 from by omega) (show y3 = x3 from by omega) (show (((((((0 = 1 ∧ 0 ≤ x1) ∧ x1 ≤ 7) ∧ 1 ≤ x2) ∧ x2 ≤ 500) ∧ 0 ≤ x3) ∧ x3 ≤ 50) ∨ (0 = 0 ∧ (((((x1 < 0 ∨ 7 < x1) ∨ x2 < 1) ∨ 500 < x2) ∨ x3 < 0) ∨ 50 < x3))) from by omega) (by first | rfl | assumption) (by first | rfl | assumption) (by first | rfl | assumption) (by first | rfl | assumption) (show (0 = 1 → (((((0 ≤ y1 ∧ y1 ≤ 7) ∧ 1 ≤ y2) ∧ y2 ≤ 500) ∧ 0 ≤ y3) ∧ y3 ≤ 50)) from by omega)
theorem sq_X1_put (E : jxE) (d : Nat) (hd : Nat.ble 2 d = true) (x1 x2 x3 : Int) (a0 b0 : Nat → Nat → Int) (hv0 : iv a0) : jt (jxC E d 29 [.inr (.inr (.inl 141)), .inl x1, .inl x2, .inl x3] (jxSH, a0, b0)) (jR_X1_put x1 x2 x3 a0 b0) := by
  obtain ⟨d, rfl⟩ := jd_succ hd
  refine jt_eq (bq_X1_put E d x1 x2 x3 a0 b0) ?_
  refine jt_eI (eq_X11_within E d (jd_le hd rfl) x1 0 7 a0 b0) ?_
  have h1960_ := f_X11_within_eq a0 b0 x1 0 7
  refine jt_ite (fun c1961_ => ?_) (fun c1961_ => ?_)
  ·
    exact cr_X1_put_35 E d hd x1 x2 x3 a0 b0 hv0 x1 x2 x3 a0 hv0 (jfr_rf _ _) (show x1 = x1 from by omega) (show x2 = x2 from by omega) (show x3 = x3 from by omega) (show (((((x1 < 0 ∨ 7 < x1) ∨ x2 < 1) ∨ 500 < x2) ∨ x3 < 0) ∨ 50 < x3) from by omega) (by first | rfl | assumption) (by first | rfl | assumption) (by first | rfl | assumption) (by first | rfl | assumption)
  ·
    refine jt_eI (eq_X11_within E d (jd_le hd rfl) x2 1 500 a0 b0) ?_
    have h1962_ := f_X11_within_eq a0 b0 x2 1 500
    refine jt_ite (fun c1963_ => ?_) (fun c1963_ => ?_)
    ·
      exact cr_X1_put_35 E d hd x1 x2 x3 a0 b0 hv0 x1 x2 x3 a0 hv0 (jfr_rf _ _) (show x1 = x1 from by omega) (show x2 = x2 from by omega) (show x3 = x3 from by omega) (show (((((x1 < 0 ∨ 7 < x1) ∨ x2 < 1) ∨ 500 < x2) ∨ x3 < 0) ∨ 50 < x3) from by omega) (by first | rfl | assumption) (by first | rfl | assumption) (by first | rfl | assumption) (by first | rfl | assumption)
    ·
      refine jt_eI (eq_X11_within E d (jd_le hd rfl) x3 0 50 a0 b0) ?_
      have h1964_ := f_X11_within_eq a0 b0 x3 0 50
      refine jt_ite (fun c1965_ => ?_) (fun c1965_ => ?_)
      ·
        exact cr_X1_put_35 E d hd x1 x2 x3 a0 b0 hv0 x1 x2 x3 a0 hv0 (jfr_rf _ _) (show x1 = x1 from by omega) (show x2 = x2 from by omega) (show x3 = x3 from by omega) (show (((((x1 < 0 ∨ 7 < x1) ∨ x2 < 1) ∨ 500 < x2) ∨ x3 < 0) ∨ 50 < x3) from by omega) (by first | rfl | assumption) (by first | rfl | assumption) (by first | rfl | assumption) (by first | rfl | assumption)
      ·
        exact cr_X1_put_31 E d hd x1 x2 x3 a0 b0 hv0 x1 x2 x3 a0 hv0 (jfr_rf _ _) (show 0 ≤ x1 from by omega) (show x1 ≤ 7 from by omega) (show 1 ≤ x2 from by omega) (show x2 ≤ 500 from by omega) (show 0 ≤ x3 from by omega) (show x3 ≤ 50 from by omega) (show x1 = x1 from by omega) (show x2 = x2 from by omega) (show x3 = x3 from by omega) (show (((((0 ≤ x1 ∧ x1 ≤ 7) ∧ 1 ≤ x2) ∧ x2 ≤ 500) ∧ 0 ≤ x3) ∧ x3 ≤ 50) from by omega) (by first | rfl | assumption) (by first | rfl | assumption) (by first | rfl | assumption) (by first | rfl | assumption)
abbrev jR_X11_stamps (x1 x2 x3 : Int) (a0 b0 : Nat → Nat → Int) : List jxV → (Nat → Nat → Int) → (Nat → Nat → Int) → Prop := rI (fun r a b => (iv a) ∧ (jfr jW_X11_stamps a0 a) ∧ (b0 = b) ∧ ((0 ≤ r ∧ r ≤ 1)) ∧ ((((((((r = 1 ∧ 0 ≤ x1) ∧ x1 ≤ 7) ∧ 1 ≤ x2) ∧ x2 ≤ 500) ∧ 0 ≤ x3) ∧ x3 ≤ 50) ∨ (r = 0 ∧ (((((x1 < 0 ∨ 7 < x1) ∨ x2 < 1) ∨ 500 < x2) ∨ x3 < 0) ∨ 50 < x3)))) ∧ (r = 1 → a 142 = rup (a0 142) x1.toNat x2 ∧ a 143 = rup (a0 143) x1.toNat x3) ∧ (r = 0 → a 142 = a0 142 ∧ a 143 = a0 143))
theorem sq_X11_stamps (E : jxE) (d : Nat) (hd : Nat.ble 3 d = true) (x1 x2 x3 : Int) (a0 b0 : Nat → Nat → Int) (hv0 : iv a0) : jt (jxC E d 193 [.inr (.inr (.inl 0)), .inl x1, .inl x2, .inl x3] (jxSH, a0, b0)) (jR_X11_stamps x1 x2 x3 a0 b0) := by
  obtain ⟨d, rfl⟩ := jd_succ hd
  refine jt_eq (bq_X11_stamps E d x1 x2 x3 a0 b0) ?_
  refine jt_bI (sq_X1_put E d (jd_le hd rfl) x1 x2 x3 a0 b0 hv0) (fun r1966_ a1966_ b1966_ h1966_ => ?_)
  obtain ⟨hv1966_, hf1966_, rfl, hq1966_0, hq1966_1, hq1966_2, hq1966_3⟩ := h1966_
  refine jt_grd (by omega) ?_
  have hf1967_ : jfr jW_X11_stamps a0 a1966_ := jfr_tr (jfr_rf _ _) hf1966_ rfl
  exact jt_rI ⟨hv1966_, hf1967_, rfl, (show (0 ≤ r1966_ ∧ r1966_ ≤ 1) from by omega), (show (((((((r1966_ = 1 ∧ 0 ≤ x1) ∧ x1 ≤ 7) ∧ 1 ≤ x2) ∧ x2 ≤ 500) ∧ 0 ≤ x3) ∧ x3 ≤ 50) ∨ (r1966_ = 0 ∧ (((((x1 < 0 ∨ 7 < x1) ∨ x2 < 1) ∨ 500 < x2) ∨ x3 < 0) ∨ 50 < x3))) from by omega), hq1966_2, hq1966_3⟩
abbrev jR_X12_count (x1 : Int) (a0 b0 : Nat → Nat → Int) : List jxV → (Nat → Nat → Int) → (Nat → Nat → Int) → Prop := rI (fun r a b => (a0 = a) ∧ (b0 = b) ∧ ((x1 = 0 → r = a0 146 0)) ∧ ((x1 = 1 → r = a0 146 2)) ∧ ((x1 = 3 → r = a0 146 9)) ∧ ((x1 = 4 → r = a0 146 17)) ∧ ((x1 = 5 → r = a0 146 49)) ∧ ((x1 = 6 → r = a0 146 55)) ∧ ((x1 = 7 → r = a0 146 68)) ∧ ((x1 = 8 → r = a0 146 22)) ∧ ((x1 = 9 → r = a0 146 42)) ∧ (((x1 = 2 ∧ a0 146 2 = 0) → r = 0)) ∧ (10 ≤ x1 ∧ x1 ≤ 14 → r = a0 171 (jxw (x1 - 10)).toNat) ∧ (20 ≤ x1 ∧ x1 ≤ 27 → r = a0 197 (jxw (x1 - 20)).toNat) ∧ (30 ≤ x1 ∧ x1 ≤ 37 → r = a0 196 (jxw (x1 - 30)).toNat) ∧ (((((x1 < 0 ∨ (14 < x1 ∧ x1 < 20)) ∨ (27 < x1 ∧ x1 < 30)) ∨ 37 < x1) → r = 0 - 1)) ∧ (x1 = 2 → r = THN (a0 152) (a0 146 2).toNat))
theorem cr_X12_count_68 (E : jxE) (d : Nat) (hd : Nat.ble 2 (d + 1) = true) (x1 : Int) (a0 b0 : Nat → Nat → Int) (hv0 : iv a0) : ∀ n : Nat, (∀ (y2 y3 : Int), (((40 - y3) * 1) + 0).toNat ≤ n → 0 ≤ y3 → y3 ≤ 39 → x1 = 2 → (a0 146 2 = 0 → y2 = 0) → 0 ≤ y3 → y3 < a0 146 2 → (y2 = THN (a0 152) (y3.toNat + 1)) → jt (jxX E d 289 93 [some (.inr (.inr (.inl 146))), none, some (.inl y2), some (.inl y3)] [] (jxSH, a0, b0)) (jR_X12_count x1 a0 b0)) ∧ (∀ (y2 y3 : Int), (((40 - y3) * 1) + 0).toNat ≤ n → 0 ≤ y3 → y3 ≤ 40 → x1 = 2 → (a0 146 2 = 0 → y2 = 0) → 0 ≤ y3 → y3 ≤ a0 146 2 → (y2 = THN (a0 152) y3.toNat) → jt (jxX E d 289 68 [some (.inr (.inr (.inl 146))), none, some (.inl y2), some (.inl y3)] [] (jxSH, a0, b0)) (jR_X12_count x1 a0 b0)) := by
  refine jx_ind fun n ih => ?_
  have ih93 : ∀ (y2 y3 : Int), (((40 - y3) * 1) + 0).toNat < n → 0 ≤ y3 → y3 ≤ 39 → x1 = 2 → (a0 146 2 = 0 → y2 = 0) → 0 ≤ y3 → y3 < a0 146 2 → (y2 = THN (a0 152) (y3.toNat + 1)) → jt (jxX E d 289 93 [some (.inr (.inr (.inl 146))), none, some (.inl y2), some (.inl y3)] [] (jxSH, a0, b0)) (jR_X12_count x1 a0 b0) := fun y2 y3 hlt i0 i1 i2 i3 i4 i5 i6 => (ih _ hlt).1 y2 y3 (Nat.le_refl _) i0 i1 i2 i3 i4 i5 i6
  have ih68 : ∀ (y2 y3 : Int), (((40 - y3) * 1) + 0).toNat < n → 0 ≤ y3 → y3 ≤ 40 → x1 = 2 → (a0 146 2 = 0 → y2 = 0) → 0 ≤ y3 → y3 ≤ a0 146 2 → (y2 = THN (a0 152) y3.toNat) → jt (jxX E d 289 68 [some (.inr (.inr (.inl 146))), none, some (.inl y2), some (.inl y3)] [] (jxSH, a0, b0)) (jR_X12_count x1 a0 b0) := fun y2 y3 hlt i0 i1 i2 i3 i4 i5 i6 => (ih _ hlt).2 y2 y3 (Nat.le_refl _) i0 i1 i2 i3 i4 i5 i6
  have hc93 : ∀ (y2 y3 : Int), (((40 - y3) * 1) + 0).toNat ≤ n → 0 ≤ y3 → y3 ≤ 39 → x1 = 2 → (a0 146 2 = 0 → y2 = 0) → 0 ≤ y3 → y3 < a0 146 2 → (y2 = THN (a0 152) (y3.toNat + 1)) → jt (jxX E d 289 93 [some (.inr (.inr (.inl 146))), none, some (.inl y2), some (.inl y3)] [] (jxSH, a0, b0)) (jR_X12_count x1 a0 b0) := by
    intro y2 y3 hm hi0 hi1 hi2 hi3 hi4 hi5 hth
    refine jt_eq (bq_X12_count_93 E d y2 y3 a0 b0) ?_
    have h1968_ := iv_get hv0 (k := 146) (j := 2) (l := 0) (u := 40) rfl
    have bt := THN_bd (a0 152) y3.toNat
    have i2 := iv_get hv0 (k := 146) (j := 2) (l := 0) (u := 40) rfl
    have h1969_ : jxw (y3 + 1) = y3 + 1 := jxw_id (by omega) (by omega)
    exact ih68 y2 (jxw (y3 + 1)) (show (((40 - (jxw (y3 + 1))) * 1) + 0).toNat < n from by omega) (show 0 ≤ jxw (y3 + 1) from by omega) (show jxw (y3 + 1) ≤ 40 from by omega) (show x1 = 2 from by omega) (show (a0 146 2 = 0 → y2 = 0) from by omega) (show 0 ≤ jxw (y3 + 1) from by omega) (show jxw (y3 + 1) ≤ a0 146 2 from by omega) (by rw [show (jxw (y3 + 1)).toNat = y3.toNat + 1 from by omega]; exact hth)
  have hc68 : ∀ (y2 y3 : Int), (((40 - y3) * 1) + 0).toNat ≤ n → 0 ≤ y3 → y3 ≤ 40 → x1 = 2 → (a0 146 2 = 0 → y2 = 0) → 0 ≤ y3 → y3 ≤ a0 146 2 → (y2 = THN (a0 152) y3.toNat) → jt (jxX E d 289 68 [some (.inr (.inr (.inl 146))), none, some (.inl y2), some (.inl y3)] [] (jxSH, a0, b0)) (jR_X12_count x1 a0 b0) := by
    intro y2 y3 hm hi0 hi1 hi2 hi3 hi4 hi5 hth
    refine jt_eq (bq_X12_count_68 E d y2 y3 a0 b0) ?_
    have h1970_ := iv_get hv0 (k := 146) (j := 2) (l := 0) (u := 40) rfl
    have bt := THN_bd (a0 152) y3.toNat
    have i2 := iv_get hv0 (k := 146) (j := 2) (l := 0) (u := 40) rfl
    refine jt_ite (fun c1971_ => ?_) (fun c1971_ => ?_)
    ·
      refine jt_grd (by omega) ?_
      have h1972_ := iv_get hv0 (k := 152) (j := y3.toNat) (l := 0) (u := 1) rfl
      refine jt_ite (fun c1973_ => ?_) (fun c1973_ => ?_)
      ·
        have h1974_ := jxw_im (y2 + 0)
        have h1975_ := jxw_rg (y2 + 0)
        exact hc93 (jxw (y2 + 0)) y3 (show (((40 - y3) * 1) + 0).toNat ≤ n from by omega) (show 0 ≤ y3 from by omega) (show y3 ≤ 39 from by omega) (show x1 = 2 from by omega) (show (a0 146 2 = 0 → jxw (y2 + 0) = 0) from by omega) (show 0 ≤ y3 from by omega) (show y3 < a0 146 2 from by omega) (by show _ = THN (a0 152) y3.toNat + (if a0 152 y3.toNat = 0 then 0 else 1); first | (rw [if_pos (by assumption), show jxw (y2 + 0) = y2 from by rw [Int.add_zero]; exact jxw_id (by omega) (by omega)]; omega) | (rw [if_neg (by assumption), show jxw (y2 + 1) = y2 + 1 from jxw_id (by omega) (by omega)]; omega))
      ·
        have h1976_ := jxw_im (y2 + 1)
        have h1977_ := jxw_rg (y2 + 1)
        exact hc93 (jxw (y2 + 1)) y3 (show (((40 - y3) * 1) + 0).toNat ≤ n from by omega) (show 0 ≤ y3 from by omega) (show y3 ≤ 39 from by omega) (show x1 = 2 from by omega) (show (a0 146 2 = 0 → jxw (y2 + 1) = 0) from by omega) (show 0 ≤ y3 from by omega) (show y3 < a0 146 2 from by omega) (by show _ = THN (a0 152) y3.toNat + (if a0 152 y3.toNat = 0 then 0 else 1); first | (rw [if_pos (by assumption), show jxw (y2 + 0) = y2 from by rw [Int.add_zero]; exact jxw_id (by omega) (by omega)]; omega) | (rw [if_neg (by assumption), show jxw (y2 + 1) = y2 + 1 from jxw_id (by omega) (by omega)]; omega))
    ·
      have h1978_ := iv_get hv0 (k := 146) (j := 0) (l := 0) (u := 1999) rfl
      have h1979_ := iv_get hv0 (k := 146) (j := 9) (l := 0) (u := 300) rfl
      have h1980_ := iv_get hv0 (k := 146) (j := 17) (l := 0) (u := 600) rfl
      have h1981_ := iv_get hv0 (k := 146) (j := 49) (l := 0) (u := 20) rfl
      have h1982_ := iv_get hv0 (k := 146) (j := 68) (l := 0) (u := 10) rfl
      have h1983_ := iv_get hv0 (k := 146) (j := 22) (l := 0) (u := 200) rfl
      have h1984_ := iv_get hv0 (k := 146) (j := 42) (l := 0) (u := 8) rfl
      exact jt_rI ⟨rfl, rfl, (show (x1 = 0 → y2 = a0 146 0) from by omega), (show (x1 = 1 → y2 = a0 146 2) from by omega), (show (x1 = 3 → y2 = a0 146 9) from by omega), (show (x1 = 4 → y2 = a0 146 17) from by omega), (show (x1 = 5 → y2 = a0 146 49) from by omega), (show (x1 = 6 → y2 = a0 146 55) from by omega), (show (x1 = 7 → y2 = a0 146 68) from by omega), (show (x1 = 8 → y2 = a0 146 22) from by omega), (show (x1 = 9 → y2 = a0 146 42) from by omega), (show ((x1 = 2 ∧ a0 146 2 = 0) → y2 = 0) from by omega), (by first | omega | (rw [← hyx]; omega)), (by first | omega | (rw [← hyx]; omega)), (by first | omega | (rw [← hyx]; omega)), (show ((((x1 < 0 ∨ (14 < x1 ∧ x1 < 20)) ∨ (27 < x1 ∧ x1 < 30)) ∨ 37 < x1) → y2 = 0 - 1) from by omega), (fun _ => by rw [show (a0 146 2).toNat = y3.toNat from by omega]; exact hth)⟩
  exact ⟨hc93, hc68⟩
theorem cr_X12_count_168 (E : jxE) (d : Nat) (hd : Nat.ble 2 (d + 1) = true) (x1 : Int) (a0 b0 : Nat → Nat → Int) (hv0 : iv a0) : ∀ (y1 : Int), 20 ≤ y1 → y1 ≤ 27 → (y1 = x1) → (20 ≤ x1 ∧ x1 ≤ 27) → jt (jxX E d 289 168 [some (.inr (.inr (.inl 146))), some (.inl y1), none, none] [] (jxSH, a0, b0)) (jR_X12_count x1 a0 b0) := by
  intro y1 hi0 hi1 hyx hi3
  refine jt_eq (bq_X12_count_168 E d y1 a0 b0) ?_
  have h1985_ : jxw (y1 - 20) = y1 - 20 := jxw_id (by omega) (by omega)
  refine jt_grd (by omega) ?_
  have h1986_ := iv_get hv0 (k := 197) (j := (jxw (y1 - 20)).toNat) (l := 0) (u := 50) rfl
  have h1987_ := iv_get hv0 (k := 146) (j := 0) (l := 0) (u := 1999) rfl
  have h1988_ := iv_get hv0 (k := 146) (j := 2) (l := 0) (u := 40) rfl
  have h1989_ := iv_get hv0 (k := 146) (j := 9) (l := 0) (u := 300) rfl
  have h1990_ := iv_get hv0 (k := 146) (j := 17) (l := 0) (u := 600) rfl
  have h1991_ := iv_get hv0 (k := 146) (j := 49) (l := 0) (u := 20) rfl
  have h1992_ := iv_get hv0 (k := 146) (j := 68) (l := 0) (u := 10) rfl
  have h1993_ := iv_get hv0 (k := 146) (j := 22) (l := 0) (u := 200) rfl
  have h1994_ := iv_get hv0 (k := 146) (j := 42) (l := 0) (u := 8) rfl
  exact jt_rI ⟨rfl, rfl, (show (x1 = 0 → a0 197 ((jxw (y1 - 20)).toNat) = a0 146 0) from by omega), (show (x1 = 1 → a0 197 ((jxw (y1 - 20)).toNat) = a0 146 2) from by omega), (show (x1 = 3 → a0 197 ((jxw (y1 - 20)).toNat) = a0 146 9) from by omega), (show (x1 = 4 → a0 197 ((jxw (y1 - 20)).toNat) = a0 146 17) from by omega), (show (x1 = 5 → a0 197 ((jxw (y1 - 20)).toNat) = a0 146 49) from by omega), (show (x1 = 6 → a0 197 ((jxw (y1 - 20)).toNat) = a0 146 55) from by omega), (show (x1 = 7 → a0 197 ((jxw (y1 - 20)).toNat) = a0 146 68) from by omega), (show (x1 = 8 → a0 197 ((jxw (y1 - 20)).toNat) = a0 146 22) from by omega), (show (x1 = 9 → a0 197 ((jxw (y1 - 20)).toNat) = a0 146 42) from by omega), (show ((x1 = 2 ∧ a0 146 2 = 0) → a0 197 ((jxw (y1 - 20)).toNat) = 0) from by omega), (by first | omega | (rw [← hyx]; omega)), (by first | omega | (rw [← hyx]; omega)), (by first | omega | (rw [← hyx]; omega)), (show ((((x1 < 0 ∨ (14 < x1 ∧ x1 < 20)) ∨ (27 < x1 ∧ x1 < 30)) ∨ 37 < x1) → a0 197 ((jxw (y1 - 20)).toNat) = 0 - 1) from by omega), (fun h => by exfalso; omega)⟩
theorem cr_X12_count_178 (E : jxE) (d : Nat) (hd : Nat.ble 2 (d + 1) = true) (x1 : Int) (a0 b0 : Nat → Nat → Int) (hv0 : iv a0) : ∀ (y1 : Int), (y1 = x1) → (x1 < 0 ∨ 14 < x1) → (x1 < 20 ∨ 27 < x1) → jt (jxX E d 289 178 [some (.inr (.inr (.inl 146))), some (.inl y1), none, none] [] (jxSH, a0, b0)) (jR_X12_count x1 a0 b0) := by
  intro y1 hyx hi1 hi2
  refine jt_eq (bq_X12_count_178 E d y1 a0 b0) ?_
  refine jt_eI (eq_X12_in E d (jd_le hd rfl) y1 30 37 a0 b0) ?_
  have h1995_ := f_X12_in_eq a0 b0 y1 30 37
  refine jt_ite (fun c1996_ => ?_) (fun c1996_ => ?_)
  ·
    have h1997_ := iv_get hv0 (k := 146) (j := 0) (l := 0) (u := 1999) rfl
    have h1998_ := iv_get hv0 (k := 146) (j := 2) (l := 0) (u := 40) rfl
    have h1999_ := iv_get hv0 (k := 146) (j := 9) (l := 0) (u := 300) rfl
    have h2000_ := iv_get hv0 (k := 146) (j := 17) (l := 0) (u := 600) rfl
    have h2001_ := iv_get hv0 (k := 146) (j := 49) (l := 0) (u := 20) rfl
    have h2002_ := iv_get hv0 (k := 146) (j := 68) (l := 0) (u := 10) rfl
    have h2003_ := iv_get hv0 (k := 146) (j := 22) (l := 0) (u := 200) rfl
    have h2004_ := iv_get hv0 (k := 146) (j := 42) (l := 0) (u := 8) rfl
    exact jt_rI ⟨rfl, rfl, (show (x1 = 0 → (-1) = a0 146 0) from by omega), (show (x1 = 1 → (-1) = a0 146 2) from by omega), (show (x1 = 3 → (-1) = a0 146 9) from by omega), (show (x1 = 4 → (-1) = a0 146 17) from by omega), (show (x1 = 5 → (-1) = a0 146 49) from by omega), (show (x1 = 6 → (-1) = a0 146 55) from by omega), (show (x1 = 7 → (-1) = a0 146 68) from by omega), (show (x1 = 8 → (-1) = a0 146 22) from by omega), (show (x1 = 9 → (-1) = a0 146 42) from by omega), (show ((x1 = 2 ∧ a0 146 2 = 0) → (-1) = 0) from by omega), (by first | omega | (rw [← hyx]; omega)), (by first | omega | (rw [← hyx]; omega)), (by first | omega | (rw [← hyx]; omega)), (show ((((x1 < 0 ∨ (14 < x1 ∧ x1 < 20)) ∨ (27 < x1 ∧ x1 < 30)) ∨ 37 < x1) → (-1) = 0 - 1) from by omega), (fun h => by exfalso; omega)⟩
  ·
    have h2005_ : jxw (y1 - 30) = y1 - 30 := jxw_id (by omega) (by omega)
    refine jt_grd (by omega) ?_
    have h2006_ := iv_get hv0 (k := 196) (j := (jxw (y1 - 30)).toNat) (l := (-1)) (u := 500) rfl
    have h2007_ := iv_get hv0 (k := 146) (j := 0) (l := 0) (u := 1999) rfl
    have h2008_ := iv_get hv0 (k := 146) (j := 2) (l := 0) (u := 40) rfl
    have h2009_ := iv_get hv0 (k := 146) (j := 9) (l := 0) (u := 300) rfl
    have h2010_ := iv_get hv0 (k := 146) (j := 17) (l := 0) (u := 600) rfl
    have h2011_ := iv_get hv0 (k := 146) (j := 49) (l := 0) (u := 20) rfl
    have h2012_ := iv_get hv0 (k := 146) (j := 68) (l := 0) (u := 10) rfl
    have h2013_ := iv_get hv0 (k := 146) (j := 22) (l := 0) (u := 200) rfl
    have h2014_ := iv_get hv0 (k := 146) (j := 42) (l := 0) (u := 8) rfl
    exact jt_rI ⟨rfl, rfl, (show (x1 = 0 → a0 196 ((jxw (y1 - 30)).toNat) = a0 146 0) from by omega), (show (x1 = 1 → a0 196 ((jxw (y1 - 30)).toNat) = a0 146 2) from by omega), (show (x1 = 3 → a0 196 ((jxw (y1 - 30)).toNat) = a0 146 9) from by omega), (show (x1 = 4 → a0 196 ((jxw (y1 - 30)).toNat) = a0 146 17) from by omega), (show (x1 = 5 → a0 196 ((jxw (y1 - 30)).toNat) = a0 146 49) from by omega), (show (x1 = 6 → a0 196 ((jxw (y1 - 30)).toNat) = a0 146 55) from by omega), (show (x1 = 7 → a0 196 ((jxw (y1 - 30)).toNat) = a0 146 68) from by omega), (show (x1 = 8 → a0 196 ((jxw (y1 - 30)).toNat) = a0 146 22) from by omega), (show (x1 = 9 → a0 196 ((jxw (y1 - 30)).toNat) = a0 146 42) from by omega), (show ((x1 = 2 ∧ a0 146 2 = 0) → a0 196 ((jxw (y1 - 30)).toNat) = 0) from by omega), (by first | omega | (rw [← hyx]; omega)), (by first | omega | (rw [← hyx]; omega)), (by first | omega | (rw [← hyx]; omega)), (show ((((x1 < 0 ∨ (14 < x1 ∧ x1 < 20)) ∨ (27 < x1 ∧ x1 < 30)) ∨ 37 < x1) → a0 196 ((jxw (y1 - 30)).toNat) = 0 - 1) from by omega), (fun h => by exfalso; omega)⟩
theorem sq_X12_count (E : jxE) (d : Nat) (hd : Nat.ble 2 d = true) (x1 : Int) (a0 b0 : Nat → Nat → Int) (hv0 : iv a0) : jt (jxC E d 289 [.inr (.inr (.inl 146)), .inl x1] (jxSH, a0, b0)) (jR_X12_count x1 a0 b0) := by
  obtain ⟨d, rfl⟩ := jd_succ hd
  refine jt_eq (bq_X12_count E d x1 a0 b0) ?_
  refine jt_ite (fun c2015_ => ?_) (fun c2015_ => ?_)
  ·
    refine jt_eI (eq_X12_in E d (jd_le hd rfl) x1 10 14 a0 b0) ?_
    have h2016_ := f_X12_in_eq a0 b0 x1 10 14
    refine jt_ite (fun c2017_ => ?_) (fun c2017_ => ?_)
    ·
      refine jt_eI (eq_X12_in E d (jd_le hd rfl) x1 20 27 a0 b0) ?_
      have h2018_ := f_X12_in_eq a0 b0 x1 20 27
      refine jt_ite (fun c2019_ => ?_) (fun c2019_ => ?_)
      ·
        exact cr_X12_count_178 E d hd x1 a0 b0 hv0 x1 (by first | rfl | assumption) (show (x1 < 0 ∨ 14 < x1) from by omega) (show (x1 < 20 ∨ 27 < x1) from by omega)
      ·
        exact cr_X12_count_168 E d hd x1 a0 b0 hv0 x1 (show 20 ≤ x1 from by omega) (show x1 ≤ 27 from by omega) (by first | rfl | assumption) (show (20 ≤ x1 ∧ x1 ≤ 27) from by omega)
    ·
      have h2020_ : jxw (x1 - 10) = x1 - 10 := jxw_id (by omega) (by omega)
      refine jt_grd (by omega) ?_
      have h2021_ := iv_get hv0 (k := 146) (j := 0) (l := 0) (u := 1999) rfl
      have h2022_ := iv_get hv0 (k := 146) (j := 2) (l := 0) (u := 40) rfl
      have h2023_ := iv_get hv0 (k := 146) (j := 9) (l := 0) (u := 300) rfl
      have h2024_ := iv_get hv0 (k := 146) (j := 17) (l := 0) (u := 600) rfl
      have h2025_ := iv_get hv0 (k := 146) (j := 49) (l := 0) (u := 20) rfl
      have h2026_ := iv_get hv0 (k := 146) (j := 68) (l := 0) (u := 10) rfl
      have h2027_ := iv_get hv0 (k := 146) (j := 22) (l := 0) (u := 200) rfl
      have h2028_ := iv_get hv0 (k := 146) (j := 42) (l := 0) (u := 8) rfl
      exact jt_rI ⟨rfl, rfl, (show (x1 = 0 → a0 171 ((jxw (x1 - 10)).toNat) = a0 146 0) from by omega), (show (x1 = 1 → a0 171 ((jxw (x1 - 10)).toNat) = a0 146 2) from by omega), (show (x1 = 3 → a0 171 ((jxw (x1 - 10)).toNat) = a0 146 9) from by omega), (show (x1 = 4 → a0 171 ((jxw (x1 - 10)).toNat) = a0 146 17) from by omega), (show (x1 = 5 → a0 171 ((jxw (x1 - 10)).toNat) = a0 146 49) from by omega), (show (x1 = 6 → a0 171 ((jxw (x1 - 10)).toNat) = a0 146 55) from by omega), (show (x1 = 7 → a0 171 ((jxw (x1 - 10)).toNat) = a0 146 68) from by omega), (show (x1 = 8 → a0 171 ((jxw (x1 - 10)).toNat) = a0 146 22) from by omega), (show (x1 = 9 → a0 171 ((jxw (x1 - 10)).toNat) = a0 146 42) from by omega), (show ((x1 = 2 ∧ a0 146 2 = 0) → a0 171 ((jxw (x1 - 10)).toNat) = 0) from by omega), (by first | omega | (rw [← hyx]; omega)), (by first | omega | (rw [← hyx]; omega)), (by first | omega | (rw [← hyx]; omega)), (show ((((x1 < 0 ∨ (14 < x1 ∧ x1 < 20)) ∨ (27 < x1 ∧ x1 < 30)) ∨ 37 < x1) → a0 171 ((jxw (x1 - 10)).toNat) = 0 - 1) from by omega), (fun h => by exfalso; omega)⟩
  ·
    refine jt_ite (fun c2029_ => ?_) (fun c2029_ => ?_)
    ·
      have h2030_ := iv_get hv0 (k := 146) (j := 0) (l := 0) (u := 1999) rfl
      have h2031_ := iv_get hv0 (k := 146) (j := 2) (l := 0) (u := 40) rfl
      have h2032_ := iv_get hv0 (k := 146) (j := 9) (l := 0) (u := 300) rfl
      have h2033_ := iv_get hv0 (k := 146) (j := 17) (l := 0) (u := 600) rfl
      have h2034_ := iv_get hv0 (k := 146) (j := 49) (l := 0) (u := 20) rfl
      have h2035_ := iv_get hv0 (k := 146) (j := 68) (l := 0) (u := 10) rfl
      have h2036_ := iv_get hv0 (k := 146) (j := 22) (l := 0) (u := 200) rfl
      have h2037_ := iv_get hv0 (k := 146) (j := 42) (l := 0) (u := 8) rfl
      exact jt_rI ⟨rfl, rfl, (show (x1 = 0 → a0 146 0 = a0 146 0) from by omega), (show (x1 = 1 → a0 146 0 = a0 146 2) from by omega), (show (x1 = 3 → a0 146 0 = a0 146 9) from by omega), (show (x1 = 4 → a0 146 0 = a0 146 17) from by omega), (show (x1 = 5 → a0 146 0 = a0 146 49) from by omega), (show (x1 = 6 → a0 146 0 = a0 146 55) from by omega), (show (x1 = 7 → a0 146 0 = a0 146 68) from by omega), (show (x1 = 8 → a0 146 0 = a0 146 22) from by omega), (show (x1 = 9 → a0 146 0 = a0 146 42) from by omega), (show ((x1 = 2 ∧ a0 146 2 = 0) → a0 146 0 = 0) from by omega), (by first | omega | (rw [← hyx]; omega)), (by first | omega | (rw [← hyx]; omega)), (by first | omega | (rw [← hyx]; omega)), (show ((((x1 < 0 ∨ (14 < x1 ∧ x1 < 20)) ∨ (27 < x1 ∧ x1 < 30)) ∨ 37 < x1) → a0 146 0 = 0 - 1) from by omega), (fun h => by exfalso; omega)⟩
    ·
      refine jt_ite (fun c2038_ => ?_) (fun c2038_ => ?_)
      ·
        have h2039_ := iv_get hv0 (k := 146) (j := 2) (l := 0) (u := 40) rfl
        have h2040_ := iv_get hv0 (k := 146) (j := 0) (l := 0) (u := 1999) rfl
        have h2041_ := iv_get hv0 (k := 146) (j := 9) (l := 0) (u := 300) rfl
        have h2042_ := iv_get hv0 (k := 146) (j := 17) (l := 0) (u := 600) rfl
        have h2043_ := iv_get hv0 (k := 146) (j := 49) (l := 0) (u := 20) rfl
        have h2044_ := iv_get hv0 (k := 146) (j := 68) (l := 0) (u := 10) rfl
        have h2045_ := iv_get hv0 (k := 146) (j := 22) (l := 0) (u := 200) rfl
        have h2046_ := iv_get hv0 (k := 146) (j := 42) (l := 0) (u := 8) rfl
        exact jt_rI ⟨rfl, rfl, (show (x1 = 0 → a0 146 2 = a0 146 0) from by omega), (show (x1 = 1 → a0 146 2 = a0 146 2) from by omega), (show (x1 = 3 → a0 146 2 = a0 146 9) from by omega), (show (x1 = 4 → a0 146 2 = a0 146 17) from by omega), (show (x1 = 5 → a0 146 2 = a0 146 49) from by omega), (show (x1 = 6 → a0 146 2 = a0 146 55) from by omega), (show (x1 = 7 → a0 146 2 = a0 146 68) from by omega), (show (x1 = 8 → a0 146 2 = a0 146 22) from by omega), (show (x1 = 9 → a0 146 2 = a0 146 42) from by omega), (show ((x1 = 2 ∧ a0 146 2 = 0) → a0 146 2 = 0) from by omega), (by first | omega | (rw [← hyx]; omega)), (by first | omega | (rw [← hyx]; omega)), (by first | omega | (rw [← hyx]; omega)), (show ((((x1 < 0 ∨ (14 < x1 ∧ x1 < 20)) ∨ (27 < x1 ∧ x1 < 30)) ∨ 37 < x1) → a0 146 2 = 0 - 1) from by omega), (fun h => by exfalso; omega)⟩
      ·
        refine jt_ite (fun c2047_ => ?_) (fun c2047_ => ?_)
        ·
          have h2048_ := iv_get hv0 (k := 146) (j := 2) (l := 0) (u := 40) rfl
          exact (cr_X12_count_68 E d hd x1 a0 b0 hv0 _).2 0 0 (Nat.le_refl _) (show 0 ≤ 0 from by omega) (show 0 ≤ 40 from by omega) (show x1 = 2 from by omega) (show (a0 146 2 = 0 → 0 = 0) from by omega) (show 0 ≤ 0 from by omega) (show 0 ≤ a0 146 2 from by omega) rfl
        ·
          refine jt_ite (fun c2049_ => ?_) (fun c2049_ => ?_)
          ·
            have h2050_ := iv_get hv0 (k := 146) (j := 9) (l := 0) (u := 300) rfl
            have h2051_ := iv_get hv0 (k := 146) (j := 0) (l := 0) (u := 1999) rfl
            have h2052_ := iv_get hv0 (k := 146) (j := 2) (l := 0) (u := 40) rfl
            have h2053_ := iv_get hv0 (k := 146) (j := 17) (l := 0) (u := 600) rfl
            have h2054_ := iv_get hv0 (k := 146) (j := 49) (l := 0) (u := 20) rfl
            have h2055_ := iv_get hv0 (k := 146) (j := 68) (l := 0) (u := 10) rfl
            have h2056_ := iv_get hv0 (k := 146) (j := 22) (l := 0) (u := 200) rfl
            have h2057_ := iv_get hv0 (k := 146) (j := 42) (l := 0) (u := 8) rfl
            exact jt_rI ⟨rfl, rfl, (show (x1 = 0 → a0 146 9 = a0 146 0) from by omega), (show (x1 = 1 → a0 146 9 = a0 146 2) from by omega), (show (x1 = 3 → a0 146 9 = a0 146 9) from by omega), (show (x1 = 4 → a0 146 9 = a0 146 17) from by omega), (show (x1 = 5 → a0 146 9 = a0 146 49) from by omega), (show (x1 = 6 → a0 146 9 = a0 146 55) from by omega), (show (x1 = 7 → a0 146 9 = a0 146 68) from by omega), (show (x1 = 8 → a0 146 9 = a0 146 22) from by omega), (show (x1 = 9 → a0 146 9 = a0 146 42) from by omega), (show ((x1 = 2 ∧ a0 146 2 = 0) → a0 146 9 = 0) from by omega), (by first | omega | (rw [← hyx]; omega)), (by first | omega | (rw [← hyx]; omega)), (by first | omega | (rw [← hyx]; omega)), (show ((((x1 < 0 ∨ (14 < x1 ∧ x1 < 20)) ∨ (27 < x1 ∧ x1 < 30)) ∨ 37 < x1) → a0 146 9 = 0 - 1) from by omega), (fun h => by exfalso; omega)⟩
          ·
            refine jt_ite (fun c2058_ => ?_) (fun c2058_ => ?_)
            ·
              have h2059_ := iv_get hv0 (k := 146) (j := 17) (l := 0) (u := 600) rfl
              have h2060_ := iv_get hv0 (k := 146) (j := 0) (l := 0) (u := 1999) rfl
              have h2061_ := iv_get hv0 (k := 146) (j := 2) (l := 0) (u := 40) rfl
              have h2062_ := iv_get hv0 (k := 146) (j := 9) (l := 0) (u := 300) rfl
              have h2063_ := iv_get hv0 (k := 146) (j := 49) (l := 0) (u := 20) rfl
              have h2064_ := iv_get hv0 (k := 146) (j := 68) (l := 0) (u := 10) rfl
              have h2065_ := iv_get hv0 (k := 146) (j := 22) (l := 0) (u := 200) rfl
              have h2066_ := iv_get hv0 (k := 146) (j := 42) (l := 0) (u := 8) rfl
              exact jt_rI ⟨rfl, rfl, (show (x1 = 0 → a0 146 17 = a0 146 0) from by omega), (show (x1 = 1 → a0 146 17 = a0 146 2) from by omega), (show (x1 = 3 → a0 146 17 = a0 146 9) from by omega), (show (x1 = 4 → a0 146 17 = a0 146 17) from by omega), (show (x1 = 5 → a0 146 17 = a0 146 49) from by omega), (show (x1 = 6 → a0 146 17 = a0 146 55) from by omega), (show (x1 = 7 → a0 146 17 = a0 146 68) from by omega), (show (x1 = 8 → a0 146 17 = a0 146 22) from by omega), (show (x1 = 9 → a0 146 17 = a0 146 42) from by omega), (show ((x1 = 2 ∧ a0 146 2 = 0) → a0 146 17 = 0) from by omega), (by first | omega | (rw [← hyx]; omega)), (by first | omega | (rw [← hyx]; omega)), (by first | omega | (rw [← hyx]; omega)), (show ((((x1 < 0 ∨ (14 < x1 ∧ x1 < 20)) ∨ (27 < x1 ∧ x1 < 30)) ∨ 37 < x1) → a0 146 17 = 0 - 1) from by omega), (fun h => by exfalso; omega)⟩
            ·
              refine jt_ite (fun c2067_ => ?_) (fun c2067_ => ?_)
              ·
                have h2068_ := iv_get hv0 (k := 146) (j := 49) (l := 0) (u := 20) rfl
                have h2069_ := iv_get hv0 (k := 146) (j := 0) (l := 0) (u := 1999) rfl
                have h2070_ := iv_get hv0 (k := 146) (j := 2) (l := 0) (u := 40) rfl
                have h2071_ := iv_get hv0 (k := 146) (j := 9) (l := 0) (u := 300) rfl
                have h2072_ := iv_get hv0 (k := 146) (j := 17) (l := 0) (u := 600) rfl
                have h2073_ := iv_get hv0 (k := 146) (j := 68) (l := 0) (u := 10) rfl
                have h2074_ := iv_get hv0 (k := 146) (j := 22) (l := 0) (u := 200) rfl
                have h2075_ := iv_get hv0 (k := 146) (j := 42) (l := 0) (u := 8) rfl
                exact jt_rI ⟨rfl, rfl, (show (x1 = 0 → a0 146 49 = a0 146 0) from by omega), (show (x1 = 1 → a0 146 49 = a0 146 2) from by omega), (show (x1 = 3 → a0 146 49 = a0 146 9) from by omega), (show (x1 = 4 → a0 146 49 = a0 146 17) from by omega), (show (x1 = 5 → a0 146 49 = a0 146 49) from by omega), (show (x1 = 6 → a0 146 49 = a0 146 55) from by omega), (show (x1 = 7 → a0 146 49 = a0 146 68) from by omega), (show (x1 = 8 → a0 146 49 = a0 146 22) from by omega), (show (x1 = 9 → a0 146 49 = a0 146 42) from by omega), (show ((x1 = 2 ∧ a0 146 2 = 0) → a0 146 49 = 0) from by omega), (by first | omega | (rw [← hyx]; omega)), (by first | omega | (rw [← hyx]; omega)), (by first | omega | (rw [← hyx]; omega)), (show ((((x1 < 0 ∨ (14 < x1 ∧ x1 < 20)) ∨ (27 < x1 ∧ x1 < 30)) ∨ 37 < x1) → a0 146 49 = 0 - 1) from by omega), (fun h => by exfalso; omega)⟩
              ·
                refine jt_ite (fun c2076_ => ?_) (fun c2076_ => ?_)
                ·
                  have h2077_ := iv_get hv0 (k := 146) (j := 0) (l := 0) (u := 1999) rfl
                  have h2078_ := iv_get hv0 (k := 146) (j := 2) (l := 0) (u := 40) rfl
                  have h2079_ := iv_get hv0 (k := 146) (j := 9) (l := 0) (u := 300) rfl
                  have h2080_ := iv_get hv0 (k := 146) (j := 17) (l := 0) (u := 600) rfl
                  have h2081_ := iv_get hv0 (k := 146) (j := 49) (l := 0) (u := 20) rfl
                  have h2082_ := iv_get hv0 (k := 146) (j := 68) (l := 0) (u := 10) rfl
                  have h2083_ := iv_get hv0 (k := 146) (j := 22) (l := 0) (u := 200) rfl
                  have h2084_ := iv_get hv0 (k := 146) (j := 42) (l := 0) (u := 8) rfl
                  exact jt_rI ⟨rfl, rfl, (show (x1 = 0 → a0 146 55 = a0 146 0) from by omega), (show (x1 = 1 → a0 146 55 = a0 146 2) from by omega), (show (x1 = 3 → a0 146 55 = a0 146 9) from by omega), (show (x1 = 4 → a0 146 55 = a0 146 17) from by omega), (show (x1 = 5 → a0 146 55 = a0 146 49) from by omega), (show (x1 = 6 → a0 146 55 = a0 146 55) from by omega), (show (x1 = 7 → a0 146 55 = a0 146 68) from by omega), (show (x1 = 8 → a0 146 55 = a0 146 22) from by omega), (show (x1 = 9 → a0 146 55 = a0 146 42) from by omega), (show ((x1 = 2 ∧ a0 146 2 = 0) → a0 146 55 = 0) from by omega), (by first | omega | (rw [← hyx]; omega)), (by first | omega | (rw [← hyx]; omega)), (by first | omega | (rw [← hyx]; omega)), (show ((((x1 < 0 ∨ (14 < x1 ∧ x1 < 20)) ∨ (27 < x1 ∧ x1 < 30)) ∨ 37 < x1) → a0 146 55 = 0 - 1) from by omega), (fun h => by exfalso; omega)⟩
                ·
                  refine jt_ite (fun c2085_ => ?_) (fun c2085_ => ?_)
                  ·
                    have h2086_ := iv_get hv0 (k := 146) (j := 68) (l := 0) (u := 10) rfl
                    have h2087_ := iv_get hv0 (k := 146) (j := 0) (l := 0) (u := 1999) rfl
                    have h2088_ := iv_get hv0 (k := 146) (j := 2) (l := 0) (u := 40) rfl
                    have h2089_ := iv_get hv0 (k := 146) (j := 9) (l := 0) (u := 300) rfl
                    have h2090_ := iv_get hv0 (k := 146) (j := 17) (l := 0) (u := 600) rfl
                    have h2091_ := iv_get hv0 (k := 146) (j := 49) (l := 0) (u := 20) rfl
                    have h2092_ := iv_get hv0 (k := 146) (j := 22) (l := 0) (u := 200) rfl
                    have h2093_ := iv_get hv0 (k := 146) (j := 42) (l := 0) (u := 8) rfl
                    exact jt_rI ⟨rfl, rfl, (show (x1 = 0 → a0 146 68 = a0 146 0) from by omega), (show (x1 = 1 → a0 146 68 = a0 146 2) from by omega), (show (x1 = 3 → a0 146 68 = a0 146 9) from by omega), (show (x1 = 4 → a0 146 68 = a0 146 17) from by omega), (show (x1 = 5 → a0 146 68 = a0 146 49) from by omega), (show (x1 = 6 → a0 146 68 = a0 146 55) from by omega), (show (x1 = 7 → a0 146 68 = a0 146 68) from by omega), (show (x1 = 8 → a0 146 68 = a0 146 22) from by omega), (show (x1 = 9 → a0 146 68 = a0 146 42) from by omega), (show ((x1 = 2 ∧ a0 146 2 = 0) → a0 146 68 = 0) from by omega), (by first | omega | (rw [← hyx]; omega)), (by first | omega | (rw [← hyx]; omega)), (by first | omega | (rw [← hyx]; omega)), (show ((((x1 < 0 ∨ (14 < x1 ∧ x1 < 20)) ∨ (27 < x1 ∧ x1 < 30)) ∨ 37 < x1) → a0 146 68 = 0 - 1) from by omega), (fun h => by exfalso; omega)⟩
                  ·
                    refine jt_ite (fun c2094_ => ?_) (fun c2094_ => ?_)
                    ·
                      have h2095_ := iv_get hv0 (k := 146) (j := 22) (l := 0) (u := 200) rfl
                      have h2096_ := iv_get hv0 (k := 146) (j := 0) (l := 0) (u := 1999) rfl
                      have h2097_ := iv_get hv0 (k := 146) (j := 2) (l := 0) (u := 40) rfl
                      have h2098_ := iv_get hv0 (k := 146) (j := 9) (l := 0) (u := 300) rfl
                      have h2099_ := iv_get hv0 (k := 146) (j := 17) (l := 0) (u := 600) rfl
                      have h2100_ := iv_get hv0 (k := 146) (j := 49) (l := 0) (u := 20) rfl
                      have h2101_ := iv_get hv0 (k := 146) (j := 68) (l := 0) (u := 10) rfl
                      have h2102_ := iv_get hv0 (k := 146) (j := 42) (l := 0) (u := 8) rfl
                      exact jt_rI ⟨rfl, rfl, (show (x1 = 0 → a0 146 22 = a0 146 0) from by omega), (show (x1 = 1 → a0 146 22 = a0 146 2) from by omega), (show (x1 = 3 → a0 146 22 = a0 146 9) from by omega), (show (x1 = 4 → a0 146 22 = a0 146 17) from by omega), (show (x1 = 5 → a0 146 22 = a0 146 49) from by omega), (show (x1 = 6 → a0 146 22 = a0 146 55) from by omega), (show (x1 = 7 → a0 146 22 = a0 146 68) from by omega), (show (x1 = 8 → a0 146 22 = a0 146 22) from by omega), (show (x1 = 9 → a0 146 22 = a0 146 42) from by omega), (show ((x1 = 2 ∧ a0 146 2 = 0) → a0 146 22 = 0) from by omega), (by first | omega | (rw [← hyx]; omega)), (by first | omega | (rw [← hyx]; omega)), (by first | omega | (rw [← hyx]; omega)), (show ((((x1 < 0 ∨ (14 < x1 ∧ x1 < 20)) ∨ (27 < x1 ∧ x1 < 30)) ∨ 37 < x1) → a0 146 22 = 0 - 1) from by omega), (fun h => by exfalso; omega)⟩
                    ·
                      refine jt_ite (fun c2103_ => ?_) (fun c2103_ => ?_)
                      ·
                        have h2104_ := iv_get hv0 (k := 146) (j := 42) (l := 0) (u := 8) rfl
                        have h2105_ := iv_get hv0 (k := 146) (j := 0) (l := 0) (u := 1999) rfl
                        have h2106_ := iv_get hv0 (k := 146) (j := 2) (l := 0) (u := 40) rfl
                        have h2107_ := iv_get hv0 (k := 146) (j := 9) (l := 0) (u := 300) rfl
                        have h2108_ := iv_get hv0 (k := 146) (j := 17) (l := 0) (u := 600) rfl
                        have h2109_ := iv_get hv0 (k := 146) (j := 49) (l := 0) (u := 20) rfl
                        have h2110_ := iv_get hv0 (k := 146) (j := 68) (l := 0) (u := 10) rfl
                        have h2111_ := iv_get hv0 (k := 146) (j := 22) (l := 0) (u := 200) rfl
                        exact jt_rI ⟨rfl, rfl, (show (x1 = 0 → a0 146 42 = a0 146 0) from by omega), (show (x1 = 1 → a0 146 42 = a0 146 2) from by omega), (show (x1 = 3 → a0 146 42 = a0 146 9) from by omega), (show (x1 = 4 → a0 146 42 = a0 146 17) from by omega), (show (x1 = 5 → a0 146 42 = a0 146 49) from by omega), (show (x1 = 6 → a0 146 42 = a0 146 55) from by omega), (show (x1 = 7 → a0 146 42 = a0 146 68) from by omega), (show (x1 = 8 → a0 146 42 = a0 146 22) from by omega), (show (x1 = 9 → a0 146 42 = a0 146 42) from by omega), (show ((x1 = 2 ∧ a0 146 2 = 0) → a0 146 42 = 0) from by omega), (by first | omega | (rw [← hyx]; omega)), (by first | omega | (rw [← hyx]; omega)), (by first | omega | (rw [← hyx]; omega)), (show ((((x1 < 0 ∨ (14 < x1 ∧ x1 < 20)) ∨ (27 < x1 ∧ x1 < 30)) ∨ 37 < x1) → a0 146 42 = 0 - 1) from by omega), (fun h => by exfalso; omega)⟩
                      ·
                        exact absurd (by omega : False) id
abbrev jR_X12_stamps (x1 x2 x3 : Int) (a0 b0 : Nat → Nat → Int) : List jxV → (Nat → Nat → Int) → (Nat → Nat → Int) → Prop := rI (fun r a b => (iv a) ∧ (jfr jW_X12_stamps a0 a) ∧ (b0 = b) ∧ ((0 ≤ r ∧ r ≤ 1)) ∧ (SV a) ∧ ((((((((r = 1 ∧ 0 ≤ x1) ∧ x1 ≤ 7) ∧ 1 ≤ x2) ∧ x2 ≤ 500) ∧ 0 ≤ x3) ∧ x3 ≤ 50) ∨ (r = 0 ∧ (((((x1 < 0 ∨ 7 < x1) ∨ x2 < 1) ∨ 500 < x2) ∨ x3 < 0) ∨ 50 < x3)))) ∧ (r = 1 → a 196 = rup (a0 196) x1.toNat x2 ∧ a 197 = rup (a0 197) x1.toNat x3) ∧ (r = 0 → a 196 = a0 196 ∧ a 197 = a0 197))
theorem cr_X12_stamps_31 (E : jxE) (d : Nat) (hd : Nat.ble 2 (d + 1) = true) (x1 x2 x3 : Int) (a0 b0 : Nat → Nat → Int) (hv0 : iv a0) (hp0 : SV a0) : ∀ (a : Nat → Nat → Int), iv a → jfr jW_X12_stamps a0 a → (((((x1 < 0 ∨ 7 < x1) ∨ x2 < 1) ∨ 500 < x2) ∨ x3 < 0) ∨ 50 < x3) → (a = a0) → (SV a) → jt (jxX E d 285 31 [none, none, none, none] [] (jxSH, a, b0)) (jR_X12_stamps x1 x2 x3 a0 b0) := by
  intro a hv hf hi0 hea hi2
  refine jt_eq (bq_X12_stamps_31 E d a b0) ?_
  exact jt_rI ⟨hv, hf, rfl, (show (0 ≤ 0 ∧ 0 ≤ 1) from by omega), hi2, (show (((((((0 = 1 ∧ 0 ≤ x1) ∧ x1 ≤ 7) ∧ 1 ≤ x2) ∧ x2 ≤ 500) ∧ 0 ≤ x3) ∧ x3 ≤ 50) ∨ (0 = 0 ∧ (((((x1 < 0 ∨ 7 < x1) ∨ x2 < 1) ∨ 500 < x2) ∨ x3 < 0) ∨ 50 < x3))) from by omega), (fun h => absurd h (by decide)), (fun _ => by rw [hea]; exact ⟨rfl, rfl⟩)⟩
theorem cr_X12_stamps_33 (E : jxE) (d : Nat) (hd : Nat.ble 2 (d + 1) = true) (x1 x2 x3 : Int) (a0 b0 : Nat → Nat → Int) (hv0 : iv a0) (hp0 : SV a0) : ∀ (y1 y2 y3 : Int) (a : Nat → Nat → Int), iv a → jfr jW_X12_stamps a0 a → 0 ≤ y1 → y1 ≤ 7 → 1 ≤ y2 → y2 ≤ 500 → 0 ≤ y3 → y3 ≤ 50 → y1 = x1 → y2 = x2 → y3 = x3 → (((((0 ≤ x1 ∧ x1 ≤ 7) ∧ 1 ≤ x2) ∧ x2 ≤ 500) ∧ 0 ≤ x3) ∧ x3 ≤ 50) → (a = a0) → (y1 = x1) → (y2 = x2) → (y3 = x3) → (SV a) → jt (jxX E d 285 33 [some (.inr (.inr (.inl 146))), some (.inl y1), some (.inl y2), some (.inl y3)] [] (jxSH, a, b0)) (jR_X12_stamps x1 x2 x3 a0 b0) := by
  intro y1 y2 y3 a hv hf hi0 hi1 hi2 hi3 hi4 hi5 hi6 hi7 hi8 hi9 hea hy1 hy2 hy3 hi14
  refine jt_eq (bq_X12_stamps_33 E d y1 y2 y3 a b0) ?_
  refine jt_grd (by omega) ?_
  refine jt_grd (by omega) ?_
  have hv2112_ : iv (jxu a 196 (y1.toNat) y2) := iv_put hv (l := (-1)) (u := 500) rfl (by omega) (by omega)
  have hv2113_ : iv (jxu (jxu a 196 (y1.toNat) y2) 197 (y1.toNat) y3) := iv_put hv2112_ (l := 0) (u := 50) rfl (by omega) (by omega)
  have hf2114_ : jfr jW_X12_stamps a0 (jxu a 196 (y1.toNat) y2) := jfr_put hf rfl
  have hf2115_ : jfr jW_X12_stamps a0 (jxu (jxu a 196 (y1.toNat) y2) 197 (y1.toNat) y3) := jfr_put hf2114_ rfl
  have hg2116_ : SV (jxu a 196 (y1.toNat) y2) := (SV_put196 hi14 (by omega))
  have h2117_ := iv_get hv (k := 197) (j := y1.toNat) (l := 0) (u := 50) rfl
  have h2118_ := iv_get hv2112_ (k := 196) (j := y1.toNat) (l := (-1)) (u := 500) rfl
  have h2119_ := jxu_sp a 196 (y1.toNat) y2 (y1.toNat)
  have h2120_ := iv_get hv (k := 196) (j := y1.toNat) (l := (-1)) (u := 500) rfl
  have hg2121_ : SV (jxu (jxu a 196 (y1.toNat) y2) 197 (y1.toNat) y3) := (SV_put197 hg2116_ (by first | (left; show y3 ≤ a 197 (y1.toNat); omega) | (right; show 1 ≤ (jxu a 196 (y1.toNat) y2) 196 (y1.toNat); omega)))
  exact jt_rI ⟨hv2113_, hf2115_, rfl, (show (0 ≤ 1 ∧ 1 ≤ 1) from by omega), hg2121_, (show (((((((1 = 1 ∧ 0 ≤ x1) ∧ x1 ≤ 7) ∧ 1 ≤ x2) ∧ x2 ≤ 500) ∧ 0 ≤ x3) ∧ x3 ≤ 50) ∨ (1 = 0 ∧ (((((x1 < 0 ∨ 7 < x1) ∨ x2 < 1) ∨ 500 < x2) ∨ x3 < 0) ∨ 50 < x3))) from by omega), (fun _ => by rw [← hea, ← hy1, ← hy2, ← hy3]; exact ⟨by rw [jxu_off (show ¬ 196 = 197 by decide), jxu_rup], by rw [jxu_rup, jxu_off (show ¬ 197 = 196 by decide)]⟩), (fun h => absurd h (by decide))⟩
theorem sq_X12_stamps (E : jxE) (d : Nat) (hd : Nat.ble 2 d = true) (x1 x2 x3 : Int) (a0 b0 : Nat → Nat → Int) (hv0 : iv a0) (hp0 : SV a0) : jt (jxC E d 285 [.inr (.inr (.inl 146)), .inl x1, .inl x2, .inl x3] (jxSH, a0, b0)) (jR_X12_stamps x1 x2 x3 a0 b0) := by
  obtain ⟨d, rfl⟩ := jd_succ hd
  refine jt_eq (bq_X12_stamps E d x1 x2 x3 a0 b0) ?_
  refine jt_eI (eq_X12_in E d (jd_le hd rfl) x1 0 7 a0 b0) ?_
  have h2122_ := f_X12_in_eq a0 b0 x1 0 7
  refine jt_ite (fun c2123_ => ?_) (fun c2123_ => ?_)
  ·
    exact cr_X12_stamps_31 E d hd x1 x2 x3 a0 b0 hv0 hp0 a0 hv0 (jfr_rf _ _) (show (((((x1 < 0 ∨ 7 < x1) ∨ x2 < 1) ∨ 500 < x2) ∨ x3 < 0) ∨ 50 < x3) from by omega) (by first | rfl | assumption) hp0
  ·
    refine jt_eI (eq_X12_in E d (jd_le hd rfl) x2 1 500 a0 b0) ?_
    have h2124_ := f_X12_in_eq a0 b0 x2 1 500
    refine jt_ite (fun c2125_ => ?_) (fun c2125_ => ?_)
    ·
      exact cr_X12_stamps_31 E d hd x1 x2 x3 a0 b0 hv0 hp0 a0 hv0 (jfr_rf _ _) (show (((((x1 < 0 ∨ 7 < x1) ∨ x2 < 1) ∨ 500 < x2) ∨ x3 < 0) ∨ 50 < x3) from by omega) (by first | rfl | assumption) hp0
    ·
      refine jt_eI (eq_X12_in E d (jd_le hd rfl) x3 0 50 a0 b0) ?_
      have h2126_ := f_X12_in_eq a0 b0 x3 0 50
      refine jt_ite (fun c2127_ => ?_) (fun c2127_ => ?_)
      ·
        exact cr_X12_stamps_31 E d hd x1 x2 x3 a0 b0 hv0 hp0 a0 hv0 (jfr_rf _ _) (show (((((x1 < 0 ∨ 7 < x1) ∨ x2 < 1) ∨ 500 < x2) ∨ x3 < 0) ∨ 50 < x3) from by omega) (by first | rfl | assumption) hp0
      ·
        exact cr_X12_stamps_33 E d hd x1 x2 x3 a0 b0 hv0 hp0 x1 x2 x3 a0 hv0 (jfr_rf _ _) (show 0 ≤ x1 from by omega) (show x1 ≤ 7 from by omega) (show 1 ≤ x2 from by omega) (show x2 ≤ 500 from by omega) (show 0 ≤ x3 from by omega) (show x3 ≤ 50 from by omega) (show x1 = x1 from by omega) (show x2 = x2 from by omega) (show x3 = x3 from by omega) (show (((((0 ≤ x1 ∧ x1 ≤ 7) ∧ 1 ≤ x2) ∧ x2 ≤ 500) ∧ 0 ≤ x3) ∧ x3 ≤ 50) from by omega) (by first | rfl | assumption) (by first | rfl | assumption) (by first | rfl | assumption) (by first | rfl | assumption) hp0
