abbrev jQ_X12_about (x1 x2 : Int) (a0 b0 : Nat → Nat → Int) : List jxV → (Nat → Nat → Int) → (Nat → Nat → Int) → Prop := rI (fun r a b => (a0 = a) ∧ (b0 = b) ∧ ((a0 146 2 = 0 → ((x2 = 5 ∧ r = 0 - 1000) ∨ (¬ x2 = 5 ∧ r = 0 - 1)))))
theorem sp_X12_about (E : jxE) (d : Nat) (hd : Nat.ble 7 d = true) (x1 x2 : Int) (a0 b0 : Nat → Nat → Int) (hv0 : iv a0) : jt (jxC E d 260 [.inr (.inr (.inl 146)), .inl x1, .inl x2] (jxSH, a0, b0)) (jQ_X12_about x1 x2 a0 b0) := by
  obtain ⟨d, rfl⟩ := jd_succ hd
  refine jt_eq (bq_X12_about E d x1 x2 a0 b0) ?_
  refine jt_eI (eq_X12_isMember E d (jd_le hd rfl) x1 a0 b0) ?_
  have h290_ := f_X12_isMember_eq a0 b0 x1
  have h291_ := iv_get hv0 (k := 146) (j := 2) (l := 0) (u := 40) rfl
  have h292_ : jxw ((a0 146 2) - 1) = (a0 146 2) - 1 := jxw_id (by omega) (by omega)
  have h293_ := f_X12_in_eq a0 b0 x1 0 (jxw ((a0 146 2) - 1))
  refine jt_ite (fun c294_ => ?_) (fun c294_ => ?_)
  ·
    refine jt_ite (fun c295_ => ?_) (fun c295_ => ?_)
    ·
      exact jt_rI ⟨rfl, rfl, (show (a0 146 2 = 0 → ((x2 = 5 ∧ (-1000) = 0 - 1000) ∨ (¬ x2 = 5 ∧ (-1000) = 0 - 1))) from by omega)⟩
    ·
      exact jt_rI ⟨rfl, rfl, (show (a0 146 2 = 0 → ((x2 = 5 ∧ (-1) = 0 - 1000) ∨ (¬ x2 = 5 ∧ (-1) = 0 - 1))) from by omega)⟩
  ·
    refine jt_ite (fun c296_ => ?_) (fun c296_ => ?_)
    ·
      exact jt_rI ⟨rfl, rfl, (show (a0 146 2 = 0 → ((x2 = 5 ∧ (-1) = 0 - 1000) ∨ (¬ x2 = 5 ∧ (-1) = 0 - 1))) from by omega)⟩
    ·
      refine jt_ite (fun c297_ => ?_) (fun c297_ => ?_)
      ·
        refine jt_bI (sp_X12_given E d (jd_le hd rfl) x1 a0 b0 hv0) (fun r298_ a298_ b298_ h298_ => ?_)
        obtain ⟨rfl, rfl, hq298_0, hq298_1⟩ := h298_
        exact jt_rI ⟨rfl, rfl, (show (a0 146 2 = 0 → ((x2 = 5 ∧ r298_ = 0 - 1000) ∨ (¬ x2 = 5 ∧ r298_ = 0 - 1))) from by omega)⟩
      ·
        refine jt_ite (fun c299_ => ?_) (fun c299_ => ?_)
        ·
          refine jt_bI (sp_X12_got E d (jd_le hd rfl) x1 a0 b0 hv0) (fun r300_ a300_ b300_ h300_ => ?_)
          obtain ⟨rfl, rfl, hq300_0, hq300_1⟩ := h300_
          exact jt_rI ⟨rfl, rfl, (show (a0 146 2 = 0 → ((x2 = 5 ∧ r300_ = 0 - 1000) ∨ (¬ x2 = 5 ∧ r300_ = 0 - 1))) from by omega)⟩
        ·
          refine jt_ite (fun c301_ => ?_) (fun c301_ => ?_)
          ·
            refine jt_bI (sp_X12_coming E d (jd_le hd rfl) x1 a0 b0 hv0) (fun r302_ a302_ b302_ h302_ => ?_)
            obtain ⟨rfl, rfl, hq302_0, hq302_1⟩ := h302_
            exact jt_rI ⟨rfl, rfl, (show (a0 146 2 = 0 → ((x2 = 5 ∧ r302_ = 0 - 1000) ∨ (¬ x2 = 5 ∧ r302_ = 0 - 1))) from by omega)⟩
          ·
            refine jt_ite (fun c303_ => ?_) (fun c303_ => ?_)
            ·
              refine jt_bI (sp_X12_ofHis E d (jd_le hd rfl) x1 0 a0 b0 hv0) (fun r304_ a304_ b304_ h304_ => ?_)
              obtain ⟨rfl, rfl, hq304_0, hq304_1⟩ := h304_
              exact jt_rI ⟨rfl, rfl, (show (a0 146 2 = 0 → ((x2 = 5 ∧ r304_ = 0 - 1000) ∨ (¬ x2 = 5 ∧ r304_ = 0 - 1))) from by omega)⟩
            ·
              refine jt_ite (fun c305_ => ?_) (fun c305_ => ?_)
              ·
                refine jt_grd (by omega) ?_
                exact jt_rI ⟨rfl, rfl, (show (a0 146 2 = 0 → ((x2 = 5 ∧ a0 153 (x1.toNat) = 0 - 1000) ∨ (¬ x2 = 5 ∧ a0 153 (x1.toNat) = 0 - 1))) from by omega)⟩
              ·
                refine jt_ite (fun c306_ => ?_) (fun c306_ => ?_)
                ·
                  refine jt_bI (sp_X12_owed E d (jd_le hd rfl) x1 a0 b0 hv0 (show (0 ≤ x1 ∧ x1 ≤ 39) from by omega)) (fun r307_ a307_ b307_ h307_ => ?_)
                  obtain ⟨rfl, rfl⟩ := h307_
                  exact jt_rI ⟨rfl, rfl, (show (a0 146 2 = 0 → ((x2 = 5 ∧ r307_ = 0 - 1000) ∨ (¬ x2 = 5 ∧ r307_ = 0 - 1))) from by omega)⟩
                ·
                  refine jt_ite (fun c308_ => ?_) (fun c308_ => ?_)
                  ·
                    refine jt_bI (sp_X12_mayAsk E d (jd_le hd rfl) x1 a0 b0 hv0 (show (0 ≤ x1 ∧ x1 ≤ 39) from by omega)) (fun r309_ a309_ b309_ h309_ => ?_)
                    obtain ⟨rfl, rfl, hq309_0⟩ := h309_
                    refine jt_ite (fun c310_ => ?_) (fun c310_ => ?_)
                    ·
                      exact jt_rI ⟨rfl, rfl, (show (a0 146 2 = 0 → ((x2 = 5 ∧ 0 = 0 - 1000) ∨ (¬ x2 = 5 ∧ 0 = 0 - 1))) from by omega)⟩
                    ·
                      exact jt_rI ⟨rfl, rfl, (show (a0 146 2 = 0 → ((x2 = 5 ∧ 1 = 0 - 1000) ∨ (¬ x2 = 5 ∧ 1 = 0 - 1))) from by omega)⟩
                  ·
                    refine jt_ite (fun c311_ => ?_) (fun c311_ => ?_)
                    ·
                      refine jt_grd (by omega) ?_
                      have h312_ := iv_get hv0 (k := 148) (j := x1.toNat) (l := 0) (u := 15) rfl
                      exact jt_rI ⟨rfl, rfl, (show (a0 146 2 = 0 → ((x2 = 5 ∧ a0 148 (x1.toNat) = 0 - 1000) ∨ (¬ x2 = 5 ∧ a0 148 (x1.toNat) = 0 - 1))) from by omega)⟩
                    ·
                      refine jt_ite (fun c313_ => ?_) (fun c313_ => ?_)
                      ·
                        refine jt_grd (by omega) ?_
                        have h314_ := iv_get hv0 (k := 152) (j := x1.toNat) (l := 0) (u := 1) rfl
                        refine jt_ite (fun c315_ => ?_) (fun c315_ => ?_)
                        ·
                          exact jt_rI ⟨rfl, rfl, (show (a0 146 2 = 0 → ((x2 = 5 ∧ 0 = 0 - 1000) ∨ (¬ x2 = 5 ∧ 0 = 0 - 1))) from by omega)⟩
                        ·
                          exact jt_rI ⟨rfl, rfl, (show (a0 146 2 = 0 → ((x2 = 5 ∧ 1 = 0 - 1000) ∨ (¬ x2 = 5 ∧ 1 = 0 - 1))) from by omega)⟩
                      ·
                        refine jt_ite (fun c316_ => ?_) (fun c316_ => ?_)
                        ·
                          refine jt_grd (by omega) ?_
                          exact jt_rI ⟨rfl, rfl, (show (a0 146 2 = 0 → ((x2 = 5 ∧ a0 151 (x1.toNat) = 0 - 1000) ∨ (¬ x2 = 5 ∧ a0 151 (x1.toNat) = 0 - 1))) from by omega)⟩
                        ·
                          refine jt_ite (fun c317_ => ?_) (fun c317_ => ?_)
                          ·
                            refine jt_bI (sp_X12_ofHis E d (jd_le hd rfl) x1 2 a0 b0 hv0) (fun r318_ a318_ b318_ h318_ => ?_)
                            obtain ⟨rfl, rfl, hq318_0, hq318_1⟩ := h318_
                            exact jt_rI ⟨rfl, rfl, (show (a0 146 2 = 0 → ((x2 = 5 ∧ r318_ = 0 - 1000) ∨ (¬ x2 = 5 ∧ r318_ = 0 - 1))) from by omega)⟩
                          ·
                            exact absurd (by omega : False) id
abbrev jQ_X12_album (x1 : Int) (a0 b0 : Nat → Nat → Int) : List jxV → (Nat → Nat → Int) → (Nat → Nat → Int) → Prop := rI (fun r a b => (a0 = a) ∧ (b0 = b) ∧ ((a0 146 2 = 0 → r = 0 - 1)))
theorem cp_X12_album_14 (E : jxE) (d : Nat) (hd : Nat.ble 5 (d + 1) = true) (x1 : Int) (a0 b0 : Nat → Nat → Int) (hv0 : iv a0) : ∀ n : Nat, (∀ (y1 y2 y3 : Int), (((300 - y3) * 1) + 0).toNat ≤ n → 0 ≤ y1 → y1 ≤ 39 → 0 ≤ y3 → y3 ≤ 299 → 1 ≤ a0 146 2 → jt (jxX E d 261 56 [some (.inr (.inr (.inl 146))), some (.inl y1), some (.inl y2), some (.inl y3)] [] (jxSH, a0, b0)) (jQ_X12_album x1 a0 b0)) ∧ (∀ (y1 y2 y3 : Int), (((300 - y3) * 1) + 0).toNat ≤ n → 0 ≤ y1 → y1 ≤ 39 → 0 ≤ y3 → y3 ≤ 299 → 1 ≤ a0 146 2 → jt (jxX E d 261 40 [some (.inr (.inr (.inl 146))), some (.inl y1), some (.inl y2), some (.inl y3)] [] (jxSH, a0, b0)) (jQ_X12_album x1 a0 b0)) ∧ (∀ (y1 y2 y3 : Int), (((300 - y3) * 1) + 0).toNat ≤ n → 0 ≤ y1 → y1 ≤ 39 → 0 ≤ y3 → y3 ≤ 300 → 1 ≤ a0 146 2 → jt (jxX E d 261 14 [some (.inr (.inr (.inl 146))), some (.inl y1), some (.inl y2), some (.inl y3)] [] (jxSH, a0, b0)) (jQ_X12_album x1 a0 b0)) := by
  refine jx_ind fun n ih => ?_
  have ih56 : ∀ (y1 y2 y3 : Int), (((300 - y3) * 1) + 0).toNat < n → 0 ≤ y1 → y1 ≤ 39 → 0 ≤ y3 → y3 ≤ 299 → 1 ≤ a0 146 2 → jt (jxX E d 261 56 [some (.inr (.inr (.inl 146))), some (.inl y1), some (.inl y2), some (.inl y3)] [] (jxSH, a0, b0)) (jQ_X12_album x1 a0 b0) := fun y1 y2 y3 hlt i0 i1 i2 i3 i4 => (ih _ hlt).1 y1 y2 y3 (Nat.le_refl _) i0 i1 i2 i3 i4
  have ih40 : ∀ (y1 y2 y3 : Int), (((300 - y3) * 1) + 0).toNat < n → 0 ≤ y1 → y1 ≤ 39 → 0 ≤ y3 → y3 ≤ 299 → 1 ≤ a0 146 2 → jt (jxX E d 261 40 [some (.inr (.inr (.inl 146))), some (.inl y1), some (.inl y2), some (.inl y3)] [] (jxSH, a0, b0)) (jQ_X12_album x1 a0 b0) := fun y1 y2 y3 hlt i0 i1 i2 i3 i4 => (ih _ hlt).2.1 y1 y2 y3 (Nat.le_refl _) i0 i1 i2 i3 i4
  have ih14 : ∀ (y1 y2 y3 : Int), (((300 - y3) * 1) + 0).toNat < n → 0 ≤ y1 → y1 ≤ 39 → 0 ≤ y3 → y3 ≤ 300 → 1 ≤ a0 146 2 → jt (jxX E d 261 14 [some (.inr (.inr (.inl 146))), some (.inl y1), some (.inl y2), some (.inl y3)] [] (jxSH, a0, b0)) (jQ_X12_album x1 a0 b0) := fun y1 y2 y3 hlt i0 i1 i2 i3 i4 => (ih _ hlt).2.2 y1 y2 y3 (Nat.le_refl _) i0 i1 i2 i3 i4
  have hc56 : ∀ (y1 y2 y3 : Int), (((300 - y3) * 1) + 0).toNat ≤ n → 0 ≤ y1 → y1 ≤ 39 → 0 ≤ y3 → y3 ≤ 299 → 1 ≤ a0 146 2 → jt (jxX E d 261 56 [some (.inr (.inr (.inl 146))), some (.inl y1), some (.inl y2), some (.inl y3)] [] (jxSH, a0, b0)) (jQ_X12_album x1 a0 b0) := by
    intro y1 y2 y3 hm hi0 hi1 hi2 hi3 hi4
    refine jt_eq (bq_X12_album_56 E d y1 y2 y3 a0 b0) ?_
    have h319_ := iv_get hv0 (k := 146) (j := 2) (l := 0) (u := 40) rfl
    have h320_ : jxw (y3 + 1) = y3 + 1 := jxw_id (by omega) (by omega)
    exact ih14 y1 y2 (jxw (y3 + 1)) (show (((300 - (jxw (y3 + 1))) * 1) + 0).toNat < n from by omega) (show 0 ≤ y1 from by omega) (show y1 ≤ 39 from by omega) (show 0 ≤ jxw (y3 + 1) from by omega) (show jxw (y3 + 1) ≤ 300 from by omega) (show 1 ≤ a0 146 2 from by omega)
  have hc40 : ∀ (y1 y2 y3 : Int), (((300 - y3) * 1) + 0).toNat ≤ n → 0 ≤ y1 → y1 ≤ 39 → 0 ≤ y3 → y3 ≤ 299 → 1 ≤ a0 146 2 → jt (jxX E d 261 40 [some (.inr (.inr (.inl 146))), some (.inl y1), some (.inl y2), some (.inl y3)] [] (jxSH, a0, b0)) (jQ_X12_album x1 a0 b0) := by
    intro y1 y2 y3 hm hi0 hi1 hi2 hi3 hi4
    refine jt_eq (bq_X12_album_40 E d y1 y2 y3 a0 b0) ?_
    have h321_ := iv_get hv0 (k := 146) (j := 2) (l := 0) (u := 40) rfl
    refine jt_grd (by omega) ?_
    have h322_ := iv_get hv0 (k := 154) (j := y3.toNat) (l := 0) (u := 39) rfl
    refine jt_grd (by omega) ?_
    exact hc56 y1 (jxor y2 (jxshl 1 (a0 148 ((a0 154 (y3.toNat)).toNat)))) y3 (show (((300 - y3) * 1) + 0).toNat ≤ n from by omega) (show 0 ≤ y1 from by omega) (show y1 ≤ 39 from by omega) (show 0 ≤ y3 from by omega) (show y3 ≤ 299 from by omega) (show 1 ≤ a0 146 2 from by omega)
  have hc14 : ∀ (y1 y2 y3 : Int), (((300 - y3) * 1) + 0).toNat ≤ n → 0 ≤ y1 → y1 ≤ 39 → 0 ≤ y3 → y3 ≤ 300 → 1 ≤ a0 146 2 → jt (jxX E d 261 14 [some (.inr (.inr (.inl 146))), some (.inl y1), some (.inl y2), some (.inl y3)] [] (jxSH, a0, b0)) (jQ_X12_album x1 a0 b0) := by
    intro y1 y2 y3 hm hi0 hi1 hi2 hi3 hi4
    refine jt_eq (bq_X12_album_14 E d y1 y2 y3 a0 b0) ?_
    have h323_ := iv_get hv0 (k := 146) (j := 2) (l := 0) (u := 40) rfl
    have h324_ := iv_get hv0 (k := 146) (j := 9) (l := 0) (u := 300) rfl
    refine jt_ite (fun c325_ => ?_) (fun c325_ => ?_)
    ·
      refine jt_grd (by omega) ?_
      have h326_ := iv_get hv0 (k := 155) (j := y3.toNat) (l := 0) (u := 39) rfl
      refine jt_ite (fun c327_ => ?_) (fun c327_ => ?_)
      ·
        refine jt_bI (sp_X12_hasArrived E d (jd_le hd rfl) y3 a0 b0 hv0 (show (0 ≤ y3 ∧ y3 ≤ 299) from by omega)) (fun r328_ a328_ b328_ h328_ => ?_)
        obtain ⟨rfl, rfl, hq328_0⟩ := h328_
        refine jt_ite (fun c329_ => ?_) (fun c329_ => ?_)
        ·
          exact hc56 y1 y2 y3 (show (((300 - y3) * 1) + 0).toNat ≤ n from by omega) (show 0 ≤ y1 from by omega) (show y1 ≤ 39 from by omega) (show 0 ≤ y3 from by omega) (show y3 ≤ 299 from by omega) (show 1 ≤ a0 146 2 from by omega)
        ·
          exact hc40 y1 y2 y3 (show (((300 - y3) * 1) + 0).toNat ≤ n from by omega) (show 0 ≤ y1 from by omega) (show y1 ≤ 39 from by omega) (show 0 ≤ y3 from by omega) (show y3 ≤ 299 from by omega) (show 1 ≤ a0 146 2 from by omega)
      ·
        exact hc56 y1 y2 y3 (show (((300 - y3) * 1) + 0).toNat ≤ n from by omega) (show 0 ≤ y1 from by omega) (show y1 ≤ 39 from by omega) (show 0 ≤ y3 from by omega) (show y3 ≤ 299 from by omega) (show 1 ≤ a0 146 2 from by omega)
    ·
      exact jt_rI ⟨rfl, rfl, (show (a0 146 2 = 0 → y2 = 0 - 1) from by omega)⟩
  exact ⟨hc56, hc40, hc14⟩
theorem sp_X12_album (E : jxE) (d : Nat) (hd : Nat.ble 5 d = true) (x1 : Int) (a0 b0 : Nat → Nat → Int) (hv0 : iv a0) : jt (jxC E d 261 [.inr (.inr (.inl 146)), .inl x1] (jxSH, a0, b0)) (jQ_X12_album x1 a0 b0) := by
  obtain ⟨d, rfl⟩ := jd_succ hd
  refine jt_eq (bq_X12_album E d x1 a0 b0) ?_
  refine jt_eI (eq_X12_isMember E d (jd_le hd rfl) x1 a0 b0) ?_
  have h330_ := f_X12_isMember_eq a0 b0 x1
  have h331_ := iv_get hv0 (k := 146) (j := 2) (l := 0) (u := 40) rfl
  have h332_ : jxw ((a0 146 2) - 1) = (a0 146 2) - 1 := jxw_id (by omega) (by omega)
  have h333_ := f_X12_in_eq a0 b0 x1 0 (jxw ((a0 146 2) - 1))
  refine jt_ite (fun c334_ => ?_) (fun c334_ => ?_)
  ·
    exact jt_rI ⟨rfl, rfl, (show (a0 146 2 = 0 → (-1) = 0 - 1) from by omega)⟩
  ·
    exact (cp_X12_album_14 E d hd x1 a0 b0 hv0 _).2.2 x1 0 0 (Nat.le_refl _) (show 0 ≤ x1 from by omega) (show x1 ≤ 39 from by omega) (show 0 ≤ 0 from by omega) (show 0 ≤ 300 from by omega) (show 1 ≤ a0 146 2 from by omega)
