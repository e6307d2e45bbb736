def jW_X5_seatOpenOffers : List (Nat × Nat) := [(90, 3), (91, 9999)]
abbrev jQ_X5_seatOpenOffers (a0 b0 : Nat → Nat → Int) : List jxV → (Nat → Nat → Int) → (Nat → Nat → Int) → Prop := rV (fun a b => (iv a) ∧ (jfr jW_X5_seatOpenOffers a0 a) ∧ (b0 = b) ∧ ((a0 83 6 = 0 → a 90 3 = 0)) ∧ (SEAT (a0 87) (a0 83 6).toNat (a 90 3).toNat (a 91)))
theorem cp_X5_seatOpenOffers_7 (E : jxE) (d : Nat) (hd : Nat.ble 3 (d + 1) = true) (a0 b0 : Nat → Nat → Int) (hv0 : iv a0) : ∀ n : Nat, (∀ (y1 : Int) (a : Nat → Nat → Int), (((20 - y1) * 1) + 0).toNat ≤ n → iv a → jfr jW_X5_seatOpenOffers a0 a → 0 ≤ y1 → y1 ≤ 19 → 1 ≤ a0 83 6 → 0 ≤ y1 → y1 < a 83 6 → (GATH (opq (a0 87)) (fun i => (i : Int)) (y1.toNat + 1) (a 90 3).toNat (a 91)) → jt (jxX E d 83 55 [some (.inr (.inr (.inl 90))), some (.inl y1)] [] (jxSH, a, b0)) (jQ_X5_seatOpenOffers a0 b0)) ∧ (∀ (y1 : Int) (a : Nat → Nat → Int), (((20 - y1) * 1) + 0).toNat ≤ n → iv a → jfr jW_X5_seatOpenOffers a0 a → 0 ≤ y1 → y1 ≤ 19 → a 90 3 ≤ 11 → 1 ≤ a0 83 6 → 0 ≤ y1 → y1 < a 83 6 → a 90 3 ≤ 11 → (GATH (opq (a0 87)) (fun i => (i : Int)) y1.toNat (a 90 3).toNat (a 91)) → (¬ opq (a0 87) y1.toNat = 0) → jt (jxX E d 83 38 [some (.inr (.inr (.inl 90))), some (.inl y1)] [] (jxSH, a, b0)) (jQ_X5_seatOpenOffers a0 b0)) ∧ (∀ (y1 : Int) (a : Nat → Nat → Int), (((20 - y1) * 1) + 0).toNat ≤ n → iv a → jfr jW_X5_seatOpenOffers a0 a → 0 ≤ y1 → y1 ≤ 20 → (a0 83 6 = 0 → a 90 3 = 0) → 0 ≤ y1 → y1 ≤ a 83 6 → (GATH (opq (a0 87)) (fun i => (i : Int)) y1.toNat (a 90 3).toNat (a 91)) → jt (jxX E d 83 7 [some (.inr (.inr (.inl 90))), some (.inl y1)] [] (jxSH, a, b0)) (jQ_X5_seatOpenOffers a0 b0)) := by
  refine jx_ind fun n ih => ?_
  have ih55 : ∀ (y1 : Int) (a : Nat → Nat → Int), (((20 - y1) * 1) + 0).toNat < n → iv a → jfr jW_X5_seatOpenOffers a0 a → 0 ≤ y1 → y1 ≤ 19 → 1 ≤ a0 83 6 → 0 ≤ y1 → y1 < a 83 6 → (GATH (opq (a0 87)) (fun i => (i : Int)) (y1.toNat + 1) (a 90 3).toNat (a 91)) → jt (jxX E d 83 55 [some (.inr (.inr (.inl 90))), some (.inl y1)] [] (jxSH, a, b0)) (jQ_X5_seatOpenOffers a0 b0) := fun y1 a hlt i0 i1 i2 i3 i4 i5 i6 i7 => (ih _ hlt).1 y1 a (Nat.le_refl _) i0 i1 i2 i3 i4 i5 i6 i7
  have ih38 : ∀ (y1 : Int) (a : Nat → Nat → Int), (((20 - y1) * 1) + 0).toNat < n → iv a → jfr jW_X5_seatOpenOffers a0 a → 0 ≤ y1 → y1 ≤ 19 → a 90 3 ≤ 11 → 1 ≤ a0 83 6 → 0 ≤ y1 → y1 < a 83 6 → a 90 3 ≤ 11 → (GATH (opq (a0 87)) (fun i => (i : Int)) y1.toNat (a 90 3).toNat (a 91)) → (¬ opq (a0 87) y1.toNat = 0) → jt (jxX E d 83 38 [some (.inr (.inr (.inl 90))), some (.inl y1)] [] (jxSH, a, b0)) (jQ_X5_seatOpenOffers a0 b0) := fun y1 a hlt i0 i1 i2 i3 i4 i5 i6 i7 i8 i9 i10 => (ih _ hlt).2.1 y1 a (Nat.le_refl _) i0 i1 i2 i3 i4 i5 i6 i7 i8 i9 i10
  have ih7 : ∀ (y1 : Int) (a : Nat → Nat → Int), (((20 - y1) * 1) + 0).toNat < n → iv a → jfr jW_X5_seatOpenOffers a0 a → 0 ≤ y1 → y1 ≤ 20 → (a0 83 6 = 0 → a 90 3 = 0) → 0 ≤ y1 → y1 ≤ a 83 6 → (GATH (opq (a0 87)) (fun i => (i : Int)) y1.toNat (a 90 3).toNat (a 91)) → jt (jxX E d 83 7 [some (.inr (.inr (.inl 90))), some (.inl y1)] [] (jxSH, a, b0)) (jQ_X5_seatOpenOffers a0 b0) := fun y1 a hlt i0 i1 i2 i3 i4 i5 i6 i7 => (ih _ hlt).2.2 y1 a (Nat.le_refl _) i0 i1 i2 i3 i4 i5 i6 i7
  have hc55 : ∀ (y1 : Int) (a : Nat → Nat → Int), (((20 - y1) * 1) + 0).toNat ≤ n → iv a → jfr jW_X5_seatOpenOffers a0 a → 0 ≤ y1 → y1 ≤ 19 → 1 ≤ a0 83 6 → 0 ≤ y1 → y1 < a 83 6 → (GATH (opq (a0 87)) (fun i => (i : Int)) (y1.toNat + 1) (a 90 3).toNat (a 91)) → jt (jxX E d 83 55 [some (.inr (.inr (.inl 90))), some (.inl y1)] [] (jxSH, a, b0)) (jQ_X5_seatOpenOffers a0 b0) := by
    intro y1 a hm hv hf hi0 hi1 hi2 hi3 hi4 hg
    refine jt_eq (bq_X5_seatOpenOffers_55 E d y1 a b0) ?_
    have h970_ := iv_get hv0 (k := 83) (j := 6) (l := 0) (u := 20) rfl
    have h971_ := iv_get hv (k := 83) (j := 6) (l := 0) (u := 20) rfl
    have h972_ : a 83 6 = a0 83 6 := hf 83 6 rfl
    have h973_ : jxw (y1 + 1) = y1 + 1 := jxw_id (by omega) (by omega)
    have h974_ := iv_get hv (k := 90) (j := 3) (l := 0) (u := 12) rfl
    exact ih7 (jxw (y1 + 1)) a (show (((20 - (jxw (y1 + 1))) * 1) + 0).toNat < n from by omega) hv hf (show 0 ≤ jxw (y1 + 1) from by omega) (show jxw (y1 + 1) ≤ 20 from by omega) (show (a0 83 6 = 0 → a 90 3 = 0) from by omega) (show 0 ≤ jxw (y1 + 1) from by omega) (show jxw (y1 + 1) ≤ a 83 6 from by omega) (by rw [show (jxw (y1 + 1)).toNat = y1.toNat + 1 from by omega]; exact hg)
  have hc38 : ∀ (y1 : Int) (a : Nat → Nat → Int), (((20 - y1) * 1) + 0).toNat ≤ n → iv a → jfr jW_X5_seatOpenOffers a0 a → 0 ≤ y1 → y1 ≤ 19 → a 90 3 ≤ 11 → 1 ≤ a0 83 6 → 0 ≤ y1 → y1 < a 83 6 → a 90 3 ≤ 11 → (GATH (opq (a0 87)) (fun i => (i : Int)) y1.toNat (a 90 3).toNat (a 91)) → (¬ opq (a0 87) y1.toNat = 0) → jt (jxX E d 83 38 [some (.inr (.inr (.inl 90))), some (.inl y1)] [] (jxSH, a, b0)) (jQ_X5_seatOpenOffers a0 b0) := by
    intro y1 a hm hv hf hi0 hi1 hi2 hi3 hi4 hi5 hi6 hg hpo
    refine jt_eq (bq_X5_seatOpenOffers_38 E d y1 a b0) ?_
    have h975_ := iv_get hv (k := 90) (j := 3) (l := 0) (u := 12) rfl
    have h976_ := iv_get hv0 (k := 83) (j := 6) (l := 0) (u := 20) rfl
    have h977_ := iv_get hv (k := 83) (j := 6) (l := 0) (u := 20) rfl
    have h978_ : a 83 6 = a0 83 6 := hf 83 6 rfl
    refine jt_grd (by omega) ?_
    have h980_ : jxw ((a 90 3) + 1) = (a 90 3) + 1 := jxw_id (by omega) (by omega)
    have hv979_ : iv (jxu a 90 3 (jxw ((a 90 3) + 1))) := iv_put hv (l := 0) (u := 12) rfl (by omega) (by omega)
    have hv981_ : iv (jxu (jxu a 90 3 (jxw ((a 90 3) + 1))) 91 ((a 90 3).toNat) y1) := iv_putf hv979_ rfl
    have hf982_ : jfr jW_X5_seatOpenOffers a0 (jxu a 90 3 (jxw ((a 90 3) + 1))) := jfr_put hf rfl
    have hf983_ : jfr jW_X5_seatOpenOffers a0 (jxu (jxu a 90 3 (jxw ((a 90 3) + 1))) 91 ((a 90 3).toNat) y1) := jfr_put hf982_ rfl
    exact hc55 y1 (jxu (jxu a 90 3 (jxw ((a 90 3) + 1))) 91 ((a 90 3).toNat) y1) (show (((20 - y1) * 1) + 0).toNat ≤ n from by omega) hv981_ hf983_ (show 0 ≤ y1 from by omega) (show y1 ≤ 19 from by omega) (show 1 ≤ a0 83 6 from by omega) (show 0 ≤ y1 from by omega) (show y1 < a 83 6 from by omega) (by rw [jxu_nk (show ¬ 90 = 91 by decide), jxu_at, show (jxw ((a 90 3) + 1)).toNat = (a 90 3).toNat + 1 from by omega]; exact GATH_yes (GATH_row hg (fun j hj => by rw [jxu_nj (by omega)]; exact congrFun (jxu_off (show ¬ 91 = 90 by decide)) j)) hpo (by rw [jxu_at]; omega))
  have hc7 : ∀ (y1 : Int) (a : Nat → Nat → Int), (((20 - y1) * 1) + 0).toNat ≤ n → iv a → jfr jW_X5_seatOpenOffers a0 a → 0 ≤ y1 → y1 ≤ 20 → (a0 83 6 = 0 → a 90 3 = 0) → 0 ≤ y1 → y1 ≤ a 83 6 → (GATH (opq (a0 87)) (fun i => (i : Int)) y1.toNat (a 90 3).toNat (a 91)) → jt (jxX E d 83 7 [some (.inr (.inr (.inl 90))), some (.inl y1)] [] (jxSH, a, b0)) (jQ_X5_seatOpenOffers a0 b0) := by
    intro y1 a hm hv hf hi0 hi1 hi2 hi3 hi4 hg
    refine jt_eq (bq_X5_seatOpenOffers_7 E d y1 a b0) ?_
    have h984_ := iv_get hv0 (k := 83) (j := 6) (l := 0) (u := 20) rfl
    have h985_ := iv_get hv (k := 90) (j := 3) (l := 0) (u := 12) rfl
    have h986_ := iv_get hv (k := 83) (j := 6) (l := 0) (u := 20) rfl
    have h987_ : a 83 6 = a0 83 6 := hf 83 6 rfl
    have i836 := iv_get hv (k := 83) (j := 6) (l := 0) (u := 20) rfl
    have hop : y1 < a 83 6 → f_X4_isOpen a b0 y1 = opq (a0 87) y1.toNat := fun h => by unfold f_X4_isOpen f_X4_has opq; rw [if_neg (show ¬ y1 < 0 by omega), if_pos h, if_pos (show y1 < 20 by omega), if_neg (by decide), hf 87 _ rfl]
    refine jt_eI (eq_X4_size E d (jd_le hd rfl) a b0) ?_
    have h988_ := f_X4_size_eq a b0
    refine jt_ite (fun c989_ => ?_) (fun c989_ => ?_)
    ·
      refine jt_ite (fun c990_ => ?_) (fun c990_ => ?_)
      ·
        refine jt_eI (eq_X4_isOpen E d (jd_le hd rfl) y1 a b0) ?_
        have h991_ := f_X4_isOpen_eq a b0 y1
        have h992_ := f_X4_has_eq a b0 y1
        have h993_ : a 87 (y1.toNat) = a0 87 (y1.toNat) := hf 87 (y1.toNat) rfl
        refine jt_ite (fun c994_ => ?_) (fun c994_ => ?_)
        ·
          exact hc55 y1 a (show (((20 - y1) * 1) + 0).toNat ≤ n from by omega) hv hf (show 0 ≤ y1 from by omega) (show y1 ≤ 19 from by omega) (show 1 ≤ a0 83 6 from by omega) (show 0 ≤ y1 from by omega) (show y1 < a 83 6 from by omega) (GATH_no hg (by rw [← hop (by omega)]; assumption))
        ·
          exact hc38 y1 a (show (((20 - y1) * 1) + 0).toNat ≤ n from by omega) hv hf (show 0 ≤ y1 from by omega) (show y1 ≤ 19 from by omega) (show a 90 3 ≤ 11 from by omega) (show 1 ≤ a0 83 6 from by omega) (show 0 ≤ y1 from by omega) (show y1 < a 83 6 from by omega) (show a 90 3 ≤ 11 from by omega) hg (by rw [← hop (by omega)]; assumption)
      ·
        exact jt_rV ⟨hv, hf, rfl, (show (a0 83 6 = 0 → a 90 3 = 0) from by omega), ⟨y1.toNat, by have e := hf 83 6 rfl; omega, by omega, hg, by have e := hf 83 6 rfl; have e2 : f_X4_size a b0 = a 83 6 := rfl; omega⟩⟩
    ·
      exact jt_rV ⟨hv, hf, rfl, (show (a0 83 6 = 0 → a 90 3 = 0) from by omega), ⟨y1.toNat, by have e := hf 83 6 rfl; omega, by omega, hg, by have e := hf 83 6 rfl; have e2 : f_X4_size a b0 = a 83 6 := rfl; omega⟩⟩
  exact ⟨hc55, hc38, hc7⟩
theorem sp_X5_seatOpenOffers (E : jxE) (d : Nat) (hd : Nat.ble 3 d = true) (a0 b0 : Nat → Nat → Int) (hv0 : iv a0) : jt (jxC E d 83 [.inr (.inr (.inl 90))] (jxSH, a0, b0)) (jQ_X5_seatOpenOffers a0 b0) := by
  obtain ⟨d, rfl⟩ := jd_succ hd
  refine jt_eq (bq_X5_seatOpenOffers E d a0 b0) ?_
  have hv995_ : iv (jxu a0 90 3 0) := iv_put hv0 (l := 0) (u := 12) rfl (by omega) (by omega)
  have hf996_ : jfr jW_X5_seatOpenOffers a0 (jxu a0 90 3 0) := jfr_put (jfr_rf _ _) rfl
  have h997_ := iv_get hv0 (k := 83) (j := 6) (l := 0) (u := 20) rfl
  exact (cp_X5_seatOpenOffers_7 E d hd a0 b0 hv0 _).2.2 0 (jxu a0 90 3 0) (Nat.le_refl _) hv995_ hf996_ (show 0 ≤ 0 from by omega) (show 0 ≤ 20 from by omega) (show (a0 83 6 = 0 → 0 = 0) from by omega) (show 0 ≤ 0 from by omega) (show 0 ≤ a0 83 6 from by omega) (by rw [jxu_at]; exact GATH_0 _ _ _)
def jW_X5_linkSeats : List (Nat × Nat) := [(92, 9999), (93, 9999)]
abbrev jQ_X5_linkSeats (a0 b0 : Nat → Nat → Int) : List jxV → (Nat → Nat → Int) → (Nat → Nat → Int) → Prop := rV (fun a b => (iv a) ∧ (jfr jW_X5_linkSeats a0 a) ∧ (b0 = b) ∧ (∀ i : Nat, i < (a0 90 3).toNat → RB (a 92 i) (gC a0 b0 i) (a0 90 3).toNat ∧ RB (a 93 i) (kC a0 b0 i) (a0 90 3).toNat))
theorem cp_X5_linkSeats_2 (E : jxE) (d : Nat) (hd : Nat.ble 3 (d + 1) = true) (a0 b0 : Nat → Nat → Int) (hv0 : iv a0) : ∀ n : Nat, (∀ (y1 y2 : Int) (a : Nat → Nat → Int), (((((12 - y1) * 15) + 0) + ((12 - y2) * 1)) + 0).toNat ≤ n → iv a → jfr jW_X5_linkSeats a0 a → 0 ≤ y1 → y1 ≤ 11 → 0 ≤ y2 → y2 ≤ 11 → 1 ≤ a 90 3 → 0 ≤ y1 → y1 < a 90 3 → 0 ≤ y2 → y2 < a 90 3 → (∀ i : Nat, (i : Int) < y1 → RB (a 92 i) (gC a0 b0 i) (a0 90 3).toNat ∧ RB (a 93 i) (kC a0 b0 i) (a0 90 3).toNat) → (RB (a 92 y1.toNat) (gC a0 b0 y1.toNat) (y2.toNat + 1) ∧ RB (a 93 y1.toNat) (kC a0 b0 y1.toNat) (y2.toNat + 1)) → jt (jxX E d 84 130 [some (.inr (.inr (.inl 90))), some (.inl y1), some (.inl y2)] [] (jxSH, a, b0)) (jQ_X5_linkSeats a0 b0)) ∧ (∀ (y1 y2 : Int) (a : Nat → Nat → Int), (((((12 - y1) * 15) + 0) + ((12 - y2) * 1)) + 0).toNat ≤ n → iv a → jfr jW_X5_linkSeats a0 a → 0 ≤ y1 → y1 ≤ 11 → 0 ≤ y2 → y2 ≤ 11 → 1 ≤ a 90 3 → 0 ≤ y1 → y1 < a 90 3 → 0 ≤ y2 → y2 < a 90 3 → (∀ i : Nat, (i : Int) < y1 → RB (a 92 i) (gC a0 b0 i) (a0 90 3).toNat ∧ RB (a 93 i) (kC a0 b0 i) (a0 90 3).toNat) → (RB (a 92 y1.toNat) (gC a0 b0 y1.toNat) y2.toNat ∧ RB (a 93 y1.toNat) (kC a0 b0 y1.toNat) y2.toNat) → (kC a0 b0 y1.toNat y2.toNat = true ∧ gC a0 b0 y1.toNat y2.toNat = false) → jt (jxX E d 84 70 [some (.inr (.inr (.inl 90))), some (.inl y1), some (.inl y2)] [] (jxSH, a, b0)) (jQ_X5_linkSeats a0 b0)) ∧ (∀ (y1 y2 : Int) (a : Nat → Nat → Int), (((((12 - y1) * 15) + 0) + ((12 - y2) * 1)) + 0).toNat ≤ n → iv a → jfr jW_X5_linkSeats a0 a → 0 ≤ y1 → y1 ≤ 11 → 0 ≤ y2 → y2 ≤ 11 → 1 ≤ a 90 3 → 0 ≤ y1 → y1 < a 90 3 → 0 ≤ y2 → y2 < a 90 3 → (∀ i : Nat, (i : Int) < y1 → RB (a 92 i) (gC a0 b0 i) (a0 90 3).toNat ∧ RB (a 93 i) (kC a0 b0 i) (a0 90 3).toNat) → (RB (a 92 y1.toNat) (gC a0 b0 y1.toNat) y2.toNat ∧ RB (a 93 y1.toNat) (kC a0 b0 y1.toNat) y2.toNat) → (kC a0 b0 y1.toNat y2.toNat = false ∧ gC a0 b0 y1.toNat y2.toNat = true) → jt (jxX E d 84 118 [some (.inr (.inr (.inl 90))), some (.inl y1), some (.inl y2)] [] (jxSH, a, b0)) (jQ_X5_linkSeats a0 b0)) ∧ (∀ (y1 y2 : Int) (a : Nat → Nat → Int), (((((12 - y1) * 15) + 0) + ((12 - y2) * 1)) + 0).toNat ≤ n → iv a → jfr jW_X5_linkSeats a0 a → 0 ≤ y1 → y1 ≤ 11 → 0 ≤ y2 → y2 ≤ 11 → 1 ≤ a 90 3 → 0 ≤ y1 → y1 < a 90 3 → 0 ≤ y2 → y2 < a 90 3 → (∀ i : Nat, (i : Int) < y1 → RB (a 92 i) (gC a0 b0 i) (a0 90 3).toNat ∧ RB (a 93 i) (kC a0 b0 i) (a0 90 3).toNat) → (RB (a 92 y1.toNat) (gC a0 b0 y1.toNat) y2.toNat ∧ RB (a 93 y1.toNat) (kC a0 b0 y1.toNat) y2.toNat) → (kC a0 b0 y1.toNat y2.toNat = false ∧ f_X3_areKin a0 b0 (f_X4_memberOf a0 b0 (a0 91 y1.toNat)) (f_X4_memberOf a0 b0 (a0 91 y2.toNat)) = 0) → jt (jxX E d 84 85 [some (.inr (.inr (.inl 90))), some (.inl y1), some (.inl y2)] [] (jxSH, a, b0)) (jQ_X5_linkSeats a0 b0)) ∧ (∀ (y1 y2 : Int) (a : Nat → Nat → Int), (((((12 - y1) * 15) + 0) + ((12 - y2) * 1)) + 0).toNat ≤ n → iv a → jfr jW_X5_linkSeats a0 a → 0 ≤ y1 → y1 ≤ 11 → 0 ≤ y2 → y2 ≤ 12 → 1 ≤ a 90 3 → 0 ≤ y1 → y1 < a 90 3 → 0 ≤ y2 → y2 ≤ a 90 3 → (∀ i : Nat, (i : Int) < y1 → RB (a 92 i) (gC a0 b0 i) (a0 90 3).toNat ∧ RB (a 93 i) (kC a0 b0 i) (a0 90 3).toNat) → (RB (a 92 y1.toNat) (gC a0 b0 y1.toNat) y2.toNat ∧ RB (a 93 y1.toNat) (kC a0 b0 y1.toNat) y2.toNat) → jt (jxX E d 84 26 [some (.inr (.inr (.inl 90))), some (.inl y1), some (.inl y2)] [] (jxSH, a, b0)) (jQ_X5_linkSeats a0 b0)) ∧ (∀ (y1 : Int) (a : Nat → Nat → Int), (((12 - y1) * 15) + 14).toNat ≤ n → iv a → jfr jW_X5_linkSeats a0 a → 0 ≤ y1 → y1 ≤ 11 → 1 ≤ a 90 3 → 0 ≤ y1 → y1 < a 90 3 → (∀ i : Nat, (i : Int) < y1 → RB (a 92 i) (gC a0 b0 i) (a0 90 3).toNat ∧ RB (a 93 i) (kC a0 b0 i) (a0 90 3).toNat) → (RB (a 92 y1.toNat) (gC a0 b0 y1.toNat) 0 ∧ RB (a 93 y1.toNat) (kC a0 b0 y1.toNat) 0) → jt (jxX E d 84 24 [some (.inr (.inr (.inl 90))), some (.inl y1), none] [] (jxSH, a, b0)) (jQ_X5_linkSeats a0 b0)) ∧ (∀ (y1 : Int) (a : Nat → Nat → Int), (((12 - y1) * 15) + 14).toNat ≤ n → iv a → jfr jW_X5_linkSeats a0 a → 0 ≤ y1 → y1 ≤ 12 → 0 ≤ y1 → y1 ≤ a 90 3 → (∀ i : Nat, (i : Int) < y1 → RB (a 92 i) (gC a0 b0 i) (a0 90 3).toNat ∧ RB (a 93 i) (kC a0 b0 i) (a0 90 3).toNat) → jt (jxX E d 84 2 [some (.inr (.inr (.inl 90))), some (.inl y1), none] [] (jxSH, a, b0)) (jQ_X5_linkSeats a0 b0)) := by
  refine jx_ind fun n ih => ?_
  have ih130 : ∀ (y1 y2 : Int) (a : Nat → Nat → Int), (((((12 - y1) * 15) + 0) + ((12 - y2) * 1)) + 0).toNat < n → iv a → jfr jW_X5_linkSeats a0 a → 0 ≤ y1 → y1 ≤ 11 → 0 ≤ y2 → y2 ≤ 11 → 1 ≤ a 90 3 → 0 ≤ y1 → y1 < a 90 3 → 0 ≤ y2 → y2 < a 90 3 → (∀ i : Nat, (i : Int) < y1 → RB (a 92 i) (gC a0 b0 i) (a0 90 3).toNat ∧ RB (a 93 i) (kC a0 b0 i) (a0 90 3).toNat) → (RB (a 92 y1.toNat) (gC a0 b0 y1.toNat) (y2.toNat + 1) ∧ RB (a 93 y1.toNat) (kC a0 b0 y1.toNat) (y2.toNat + 1)) → jt (jxX E d 84 130 [some (.inr (.inr (.inl 90))), some (.inl y1), some (.inl y2)] [] (jxSH, a, b0)) (jQ_X5_linkSeats a0 b0) := fun y1 y2 a hlt i0 i1 i2 i3 i4 i5 i6 i7 i8 i9 i10 i11 i12 => (ih _ hlt).1 y1 y2 a (Nat.le_refl _) i0 i1 i2 i3 i4 i5 i6 i7 i8 i9 i10 i11 i12
  have ih70 : ∀ (y1 y2 : Int) (a : Nat → Nat → Int), (((((12 - y1) * 15) + 0) + ((12 - y2) * 1)) + 0).toNat < n → iv a → jfr jW_X5_linkSeats a0 a → 0 ≤ y1 → y1 ≤ 11 → 0 ≤ y2 → y2 ≤ 11 → 1 ≤ a 90 3 → 0 ≤ y1 → y1 < a 90 3 → 0 ≤ y2 → y2 < a 90 3 → (∀ i : Nat, (i : Int) < y1 → RB (a 92 i) (gC a0 b0 i) (a0 90 3).toNat ∧ RB (a 93 i) (kC a0 b0 i) (a0 90 3).toNat) → (RB (a 92 y1.toNat) (gC a0 b0 y1.toNat) y2.toNat ∧ RB (a 93 y1.toNat) (kC a0 b0 y1.toNat) y2.toNat) → (kC a0 b0 y1.toNat y2.toNat = true ∧ gC a0 b0 y1.toNat y2.toNat = false) → jt (jxX E d 84 70 [some (.inr (.inr (.inl 90))), some (.inl y1), some (.inl y2)] [] (jxSH, a, b0)) (jQ_X5_linkSeats a0 b0) := fun y1 y2 a hlt i0 i1 i2 i3 i4 i5 i6 i7 i8 i9 i10 i11 i12 i13 => (ih _ hlt).2.1 y1 y2 a (Nat.le_refl _) i0 i1 i2 i3 i4 i5 i6 i7 i8 i9 i10 i11 i12 i13
  have ih118 : ∀ (y1 y2 : Int) (a : Nat → Nat → Int), (((((12 - y1) * 15) + 0) + ((12 - y2) * 1)) + 0).toNat < n → iv a → jfr jW_X5_linkSeats a0 a → 0 ≤ y1 → y1 ≤ 11 → 0 ≤ y2 → y2 ≤ 11 → 1 ≤ a 90 3 → 0 ≤ y1 → y1 < a 90 3 → 0 ≤ y2 → y2 < a 90 3 → (∀ i : Nat, (i : Int) < y1 → RB (a 92 i) (gC a0 b0 i) (a0 90 3).toNat ∧ RB (a 93 i) (kC a0 b0 i) (a0 90 3).toNat) → (RB (a 92 y1.toNat) (gC a0 b0 y1.toNat) y2.toNat ∧ RB (a 93 y1.toNat) (kC a0 b0 y1.toNat) y2.toNat) → (kC a0 b0 y1.toNat y2.toNat = false ∧ gC a0 b0 y1.toNat y2.toNat = true) → jt (jxX E d 84 118 [some (.inr (.inr (.inl 90))), some (.inl y1), some (.inl y2)] [] (jxSH, a, b0)) (jQ_X5_linkSeats a0 b0) := fun y1 y2 a hlt i0 i1 i2 i3 i4 i5 i6 i7 i8 i9 i10 i11 i12 i13 => (ih _ hlt).2.2.1 y1 y2 a (Nat.le_refl _) i0 i1 i2 i3 i4 i5 i6 i7 i8 i9 i10 i11 i12 i13
  have ih85 : ∀ (y1 y2 : Int) (a : Nat → Nat → Int), (((((12 - y1) * 15) + 0) + ((12 - y2) * 1)) + 0).toNat < n → iv a → jfr jW_X5_linkSeats a0 a → 0 ≤ y1 → y1 ≤ 11 → 0 ≤ y2 → y2 ≤ 11 → 1 ≤ a 90 3 → 0 ≤ y1 → y1 < a 90 3 → 0 ≤ y2 → y2 < a 90 3 → (∀ i : Nat, (i : Int) < y1 → RB (a 92 i) (gC a0 b0 i) (a0 90 3).toNat ∧ RB (a 93 i) (kC a0 b0 i) (a0 90 3).toNat) → (RB (a 92 y1.toNat) (gC a0 b0 y1.toNat) y2.toNat ∧ RB (a 93 y1.toNat) (kC a0 b0 y1.toNat) y2.toNat) → (kC a0 b0 y1.toNat y2.toNat = false ∧ f_X3_areKin a0 b0 (f_X4_memberOf a0 b0 (a0 91 y1.toNat)) (f_X4_memberOf a0 b0 (a0 91 y2.toNat)) = 0) → jt (jxX E d 84 85 [some (.inr (.inr (.inl 90))), some (.inl y1), some (.inl y2)] [] (jxSH, a, b0)) (jQ_X5_linkSeats a0 b0) := fun y1 y2 a hlt i0 i1 i2 i3 i4 i5 i6 i7 i8 i9 i10 i11 i12 i13 => (ih _ hlt).2.2.2.1 y1 y2 a (Nat.le_refl _) i0 i1 i2 i3 i4 i5 i6 i7 i8 i9 i10 i11 i12 i13
  have ih26 : ∀ (y1 y2 : Int) (a : Nat → Nat → Int), (((((12 - y1) * 15) + 0) + ((12 - y2) * 1)) + 0).toNat < n → iv a → jfr jW_X5_linkSeats a0 a → 0 ≤ y1 → y1 ≤ 11 → 0 ≤ y2 → y2 ≤ 12 → 1 ≤ a 90 3 → 0 ≤ y1 → y1 < a 90 3 → 0 ≤ y2 → y2 ≤ a 90 3 → (∀ i : Nat, (i : Int) < y1 → RB (a 92 i) (gC a0 b0 i) (a0 90 3).toNat ∧ RB (a 93 i) (kC a0 b0 i) (a0 90 3).toNat) → (RB (a 92 y1.toNat) (gC a0 b0 y1.toNat) y2.toNat ∧ RB (a 93 y1.toNat) (kC a0 b0 y1.toNat) y2.toNat) → jt (jxX E d 84 26 [some (.inr (.inr (.inl 90))), some (.inl y1), some (.inl y2)] [] (jxSH, a, b0)) (jQ_X5_linkSeats a0 b0) := fun y1 y2 a hlt i0 i1 i2 i3 i4 i5 i6 i7 i8 i9 i10 i11 i12 => (ih _ hlt).2.2.2.2.1 y1 y2 a (Nat.le_refl _) i0 i1 i2 i3 i4 i5 i6 i7 i8 i9 i10 i11 i12
  have ih24 : ∀ (y1 : Int) (a : Nat → Nat → Int), (((12 - y1) * 15) + 14).toNat < n → iv a → jfr jW_X5_linkSeats a0 a → 0 ≤ y1 → y1 ≤ 11 → 1 ≤ a 90 3 → 0 ≤ y1 → y1 < a 90 3 → (∀ i : Nat, (i : Int) < y1 → RB (a 92 i) (gC a0 b0 i) (a0 90 3).toNat ∧ RB (a 93 i) (kC a0 b0 i) (a0 90 3).toNat) → (RB (a 92 y1.toNat) (gC a0 b0 y1.toNat) 0 ∧ RB (a 93 y1.toNat) (kC a0 b0 y1.toNat) 0) → jt (jxX E d 84 24 [some (.inr (.inr (.inl 90))), some (.inl y1), none] [] (jxSH, a, b0)) (jQ_X5_linkSeats a0 b0) := fun y1 a hlt i0 i1 i2 i3 i4 i5 i6 i7 i8 => (ih _ hlt).2.2.2.2.2.1 y1 a (Nat.le_refl _) i0 i1 i2 i3 i4 i5 i6 i7 i8
  have ih2 : ∀ (y1 : Int) (a : Nat → Nat → Int), (((12 - y1) * 15) + 14).toNat < n → iv a → jfr jW_X5_linkSeats a0 a → 0 ≤ y1 → y1 ≤ 12 → 0 ≤ y1 → y1 ≤ a 90 3 → (∀ i : Nat, (i : Int) < y1 → RB (a 92 i) (gC a0 b0 i) (a0 90 3).toNat ∧ RB (a 93 i) (kC a0 b0 i) (a0 90 3).toNat) → jt (jxX E d 84 2 [some (.inr (.inr (.inl 90))), some (.inl y1), none] [] (jxSH, a, b0)) (jQ_X5_linkSeats a0 b0) := fun y1 a hlt i0 i1 i2 i3 i4 i5 i6 => (ih _ hlt).2.2.2.2.2.2 y1 a (Nat.le_refl _) i0 i1 i2 i3 i4 i5 i6
  have hc130 : ∀ (y1 y2 : Int) (a : Nat → Nat → Int), (((((12 - y1) * 15) + 0) + ((12 - y2) * 1)) + 0).toNat ≤ n → iv a → jfr jW_X5_linkSeats a0 a → 0 ≤ y1 → y1 ≤ 11 → 0 ≤ y2 → y2 ≤ 11 → 1 ≤ a 90 3 → 0 ≤ y1 → y1 < a 90 3 → 0 ≤ y2 → y2 < a 90 3 → (∀ i : Nat, (i : Int) < y1 → RB (a 92 i) (gC a0 b0 i) (a0 90 3).toNat ∧ RB (a 93 i) (kC a0 b0 i) (a0 90 3).toNat) → (RB (a 92 y1.toNat) (gC a0 b0 y1.toNat) (y2.toNat + 1) ∧ RB (a 93 y1.toNat) (kC a0 b0 y1.toNat) (y2.toNat + 1)) → jt (jxX E d 84 130 [some (.inr (.inr (.inl 90))), some (.inl y1), some (.inl y2)] [] (jxSH, a, b0)) (jQ_X5_linkSeats a0 b0) := by
    intro y1 y2 a hm hv hf hi0 hi1 hi2 hi3 hi4 hi5 hi6 hi7 hi8 hi hcu
    refine jt_eq (bq_X5_linkSeats_130 E d y1 y2 a b0) ?_
    have h998_ := iv_get hv (k := 90) (j := 3) (l := 0) (u := 12) rfl
    have h999_ : a 90 3 = a0 90 3 := hf 90 3 rfl
    have h1000_ := iv_get hv0 (k := 90) (j := 3) (l := 0) (u := 12) rfl
    have h1001_ : jxw (y2 + 1) = y2 + 1 := jxw_id (by omega) (by omega)
    exact ih26 y1 (jxw (y2 + 1)) a (show (((((12 - y1) * 15) + 0) + ((12 - (jxw (y2 + 1))) * 1)) + 0).toNat < n from by omega) hv hf (show 0 ≤ y1 from by omega) (show y1 ≤ 11 from by omega) (show 0 ≤ jxw (y2 + 1) from by omega) (show jxw (y2 + 1) ≤ 12 from by omega) (show 1 ≤ a 90 3 from by omega) (show 0 ≤ y1 from by omega) (show y1 < a 90 3 from by omega) (show 0 ≤ jxw (y2 + 1) from by omega) (show jxw (y2 + 1) ≤ a 90 3 from by omega) hi (by rw [show (jxw (y2 + 1)).toNat = y2.toNat + 1 from by omega]; exact hcu)
  have hc70 : ∀ (y1 y2 : Int) (a : Nat → Nat → Int), (((((12 - y1) * 15) + 0) + ((12 - y2) * 1)) + 0).toNat ≤ n → iv a → jfr jW_X5_linkSeats a0 a → 0 ≤ y1 → y1 ≤ 11 → 0 ≤ y2 → y2 ≤ 11 → 1 ≤ a 90 3 → 0 ≤ y1 → y1 < a 90 3 → 0 ≤ y2 → y2 < a 90 3 → (∀ i : Nat, (i : Int) < y1 → RB (a 92 i) (gC a0 b0 i) (a0 90 3).toNat ∧ RB (a 93 i) (kC a0 b0 i) (a0 90 3).toNat) → (RB (a 92 y1.toNat) (gC a0 b0 y1.toNat) y2.toNat ∧ RB (a 93 y1.toNat) (kC a0 b0 y1.toNat) y2.toNat) → (kC a0 b0 y1.toNat y2.toNat = true ∧ gC a0 b0 y1.toNat y2.toNat = false) → jt (jxX E d 84 70 [some (.inr (.inr (.inl 90))), some (.inl y1), some (.inl y2)] [] (jxSH, a, b0)) (jQ_X5_linkSeats a0 b0) := by
    intro y1 y2 a hm hv hf hi0 hi1 hi2 hi3 hi4 hi5 hi6 hi7 hi8 hi hcu hkg
    refine jt_eq (bq_X5_linkSeats_70 E d y1 y2 a b0) ?_
    have h1002_ := iv_get hv (k := 90) (j := 3) (l := 0) (u := 12) rfl
    have h1003_ : a 90 3 = a0 90 3 := hf 90 3 rfl
    have h1004_ := iv_get hv0 (k := 90) (j := 3) (l := 0) (u := 12) rfl
    refine jt_grd (by omega) ?_
    refine jt_grd (by omega) ?_
    have hv1005_ : iv (jxu a 93 (y1.toNat) (jxor (a 93 (y1.toNat)) (jxshl 1 y2))) := iv_putf hv rfl
    have hf1006_ : jfr jW_X5_linkSeats a0 (jxu a 93 (y1.toNat) (jxor (a 93 (y1.toNat)) (jxshl 1 y2))) := jfr_put hf rfl
    exact hc130 y1 y2 (jxu a 93 (y1.toNat) (jxor (a 93 (y1.toNat)) (jxshl 1 y2))) (show (((((12 - y1) * 15) + 0) + ((12 - y2) * 1)) + 0).toNat ≤ n from by omega) hv1005_ hf1006_ (show 0 ≤ y1 from by omega) (show y1 ≤ 11 from by omega) (show 0 ≤ y2 from by omega) (show y2 ≤ 11 from by omega) (show 1 ≤ a 90 3 from by omega) (show 0 ≤ y1 from by omega) (show y1 < a 90 3 from by omega) (show 0 ≤ y2 from by omega) (show y2 < a 90 3 from by omega) (fun i h => by have q := hi i (by omega); refine ⟨?_, ?_⟩ <;> (repeat (first | rw [jxu_nj (by omega)] | rw [jxu_nk (by decide)])) <;> first | exact q.1 | exact q.2) ⟨by rw [jxu_nk (show ¬ 92 = 93 by decide)]; exact RB_no hcu.1 hkg.2, by rw [jxu_at]; exact RB_yes (by omega) (by omega) hcu.2 hkg.1⟩
  have hc118 : ∀ (y1 y2 : Int) (a : Nat → Nat → Int), (((((12 - y1) * 15) + 0) + ((12 - y2) * 1)) + 0).toNat ≤ n → iv a → jfr jW_X5_linkSeats a0 a → 0 ≤ y1 → y1 ≤ 11 → 0 ≤ y2 → y2 ≤ 11 → 1 ≤ a 90 3 → 0 ≤ y1 → y1 < a 90 3 → 0 ≤ y2 → y2 < a 90 3 → (∀ i : Nat, (i : Int) < y1 → RB (a 92 i) (gC a0 b0 i) (a0 90 3).toNat ∧ RB (a 93 i) (kC a0 b0 i) (a0 90 3).toNat) → (RB (a 92 y1.toNat) (gC a0 b0 y1.toNat) y2.toNat ∧ RB (a 93 y1.toNat) (kC a0 b0 y1.toNat) y2.toNat) → (kC a0 b0 y1.toNat y2.toNat = false ∧ gC a0 b0 y1.toNat y2.toNat = true) → jt (jxX E d 84 118 [some (.inr (.inr (.inl 90))), some (.inl y1), some (.inl y2)] [] (jxSH, a, b0)) (jQ_X5_linkSeats a0 b0) := by
    intro y1 y2 a hm hv hf hi0 hi1 hi2 hi3 hi4 hi5 hi6 hi7 hi8 hi hcu hkg
    refine jt_eq (bq_X5_linkSeats_118 E d y1 y2 a b0) ?_
    have h1007_ := iv_get hv (k := 90) (j := 3) (l := 0) (u := 12) rfl
    have h1008_ : a 90 3 = a0 90 3 := hf 90 3 rfl
    have h1009_ := iv_get hv0 (k := 90) (j := 3) (l := 0) (u := 12) rfl
    refine jt_grd (by omega) ?_
    refine jt_grd (by omega) ?_
    have hv1010_ : iv (jxu a 92 (y1.toNat) (jxor (a 92 (y1.toNat)) (jxshl 1 y2))) := iv_putf hv rfl
    have hf1011_ : jfr jW_X5_linkSeats a0 (jxu a 92 (y1.toNat) (jxor (a 92 (y1.toNat)) (jxshl 1 y2))) := jfr_put hf rfl
    exact hc130 y1 y2 (jxu a 92 (y1.toNat) (jxor (a 92 (y1.toNat)) (jxshl 1 y2))) (show (((((12 - y1) * 15) + 0) + ((12 - y2) * 1)) + 0).toNat ≤ n from by omega) hv1010_ hf1011_ (show 0 ≤ y1 from by omega) (show y1 ≤ 11 from by omega) (show 0 ≤ y2 from by omega) (show y2 ≤ 11 from by omega) (show 1 ≤ a 90 3 from by omega) (show 0 ≤ y1 from by omega) (show y1 < a 90 3 from by omega) (show 0 ≤ y2 from by omega) (show y2 < a 90 3 from by omega) (fun i h => by have q := hi i (by omega); refine ⟨?_, ?_⟩ <;> (repeat (first | rw [jxu_nj (by omega)] | rw [jxu_nk (by decide)])) <;> first | exact q.1 | exact q.2) ⟨by rw [jxu_at]; exact RB_yes (by omega) (by omega) hcu.1 hkg.2, by rw [jxu_nk (show ¬ 93 = 92 by decide)]; exact RB_no hcu.2 hkg.1⟩
  have hc85 : ∀ (y1 y2 : Int) (a : Nat → Nat → Int), (((((12 - y1) * 15) + 0) + ((12 - y2) * 1)) + 0).toNat ≤ n → iv a → jfr jW_X5_linkSeats a0 a → 0 ≤ y1 → y1 ≤ 11 → 0 ≤ y2 → y2 ≤ 11 → 1 ≤ a 90 3 → 0 ≤ y1 → y1 < a 90 3 → 0 ≤ y2 → y2 < a 90 3 → (∀ i : Nat, (i : Int) < y1 → RB (a 92 i) (gC a0 b0 i) (a0 90 3).toNat ∧ RB (a 93 i) (kC a0 b0 i) (a0 90 3).toNat) → (RB (a 92 y1.toNat) (gC a0 b0 y1.toNat) y2.toNat ∧ RB (a 93 y1.toNat) (kC a0 b0 y1.toNat) y2.toNat) → (kC a0 b0 y1.toNat y2.toNat = false ∧ f_X3_areKin a0 b0 (f_X4_memberOf a0 b0 (a0 91 y1.toNat)) (f_X4_memberOf a0 b0 (a0 91 y2.toNat)) = 0) → jt (jxX E d 84 85 [some (.inr (.inr (.inl 90))), some (.inl y1), some (.inl y2)] [] (jxSH, a, b0)) (jQ_X5_linkSeats a0 b0) := by
    intro y1 y2 a hm hv hf hi0 hi1 hi2 hi3 hi4 hi5 hi6 hi7 hi8 hi hcu hkg
    refine jt_eq (bq_X5_linkSeats_85 E d y1 y2 a b0) ?_
    have h1012_ := iv_get hv (k := 90) (j := 3) (l := 0) (u := 12) rfl
    have h1013_ : a 90 3 = a0 90 3 := hf 90 3 rfl
    have h1014_ := iv_get hv0 (k := 90) (j := 3) (l := 0) (u := 12) rfl
    have hlk := link_fr (b := b0) (b1 := b0) (hf 4 6 rfl) (hf 83 6 rfl) (funext fun j => hf 7 j rfl) (funext fun j => hf 84 j rfl) (funext fun j => hf 85 j rfl) (funext fun j => hf 86 j rfl) (funext fun j => hf 91 j rfl)
    have hk1 := hlk.1 y1.toNat y2.toNat
    have hk2 := hlk.2 y1.toNat y2.toNat
    refine jt_grd (by omega) ?_
    refine jt_eI (eq_X4_wantsOf E d (jd_le hd rfl) (a 91 (y2.toNat)) a b0) ?_
    refine jt_grd (by omega) ?_
    refine jt_eI (eq_X4_kindOf E d (jd_le hd rfl) (a 91 (y1.toNat)) a b0) ?_
    have h1015_ : a 91 (y2.toNat) = a0 91 (y2.toNat) := hf 91 (y2.toNat) rfl
    have h1016_ := f_X4_wantsOf_eq a b0 (a 91 (y2.toNat))
    have h1017_ := f_X4_has_eq a b0 (a 91 (y2.toNat))
    have h1018_ := iv_get hv (k := 83) (j := 6) (l := 0) (u := 20) rfl
    have h1019_ : a 83 6 = a0 83 6 := hf 83 6 rfl
    have h1020_ := iv_get hv0 (k := 83) (j := 6) (l := 0) (u := 20) rfl
    have h1021_ : a 86 ((a 91 (y2.toNat)).toNat) = a0 86 ((a 91 (y2.toNat)).toNat) := hf 86 ((a 91 (y2.toNat)).toNat) rfl
    have h1022_ : a 91 (y1.toNat) = a0 91 (y1.toNat) := hf 91 (y1.toNat) rfl
    have h1023_ := f_X4_kindOf_eq a b0 (a 91 (y1.toNat))
    have h1024_ := f_X11_entry_r85_eq a b0 (a 83 6) (a 91 (y1.toNat))
    have h1025_ : a 85 ((a 91 (y1.toNat)).toNat) = a0 85 ((a 91 (y1.toNat)).toNat) := hf 85 ((a 91 (y1.toNat)).toNat) rfl
    have h1026_ := jxshr_b (f_X4_wantsOf a b0 (a 91 (y2.toNat))) (f_X4_kindOf a b0 (a 91 (y1.toNat)))
    have h1027_ := jxand_r (jxshr (f_X4_wantsOf a b0 (a 91 (y2.toNat))) (f_X4_kindOf a b0 (a 91 (y1.toNat)))) 1 (by decide) (by decide)
    refine jt_ite (fun c1028_ => ?_) (fun c1028_ => ?_)
    ·
      exact hc118 y1 y2 a (show (((((12 - y1) * 15) + 0) + ((12 - y2) * 1)) + 0).toNat ≤ n from by omega) hv hf (show 0 ≤ y1 from by omega) (show y1 ≤ 11 from by omega) (show 0 ≤ y2 from by omega) (show y2 ≤ 11 from by omega) (show 1 ≤ a 90 3 from by omega) (show 0 ≤ y1 from by omega) (show y1 < a 90 3 from by omega) (show 0 ≤ y2 from by omega) (show y2 < a 90 3 from by omega) hi hcu ⟨hkg.1, decide_eq_true ⟨hkg.2, by rw [← hk2]; assumption⟩⟩
    ·
      exact hc130 y1 y2 a (show (((((12 - y1) * 15) + 0) + ((12 - y2) * 1)) + 0).toNat ≤ n from by omega) hv hf (show 0 ≤ y1 from by omega) (show y1 ≤ 11 from by omega) (show 0 ≤ y2 from by omega) (show y2 ≤ 11 from by omega) (show 1 ≤ a 90 3 from by omega) (show 0 ≤ y1 from by omega) (show y1 < a 90 3 from by omega) (show 0 ≤ y2 from by omega) (show y2 < a 90 3 from by omega) hi ⟨RB_no hcu.1 (decide_eq_false (fun z => by have z2 := z.2; rw [← hk2] at z2; exact absurd z2 (by assumption))), RB_no hcu.2 hkg.1⟩
  have hc26 : ∀ (y1 y2 : Int) (a : Nat → Nat → Int), (((((12 - y1) * 15) + 0) + ((12 - y2) * 1)) + 0).toNat ≤ n → iv a → jfr jW_X5_linkSeats a0 a → 0 ≤ y1 → y1 ≤ 11 → 0 ≤ y2 → y2 ≤ 12 → 1 ≤ a 90 3 → 0 ≤ y1 → y1 < a 90 3 → 0 ≤ y2 → y2 ≤ a 90 3 → (∀ i : Nat, (i : Int) < y1 → RB (a 92 i) (gC a0 b0 i) (a0 90 3).toNat ∧ RB (a 93 i) (kC a0 b0 i) (a0 90 3).toNat) → (RB (a 92 y1.toNat) (gC a0 b0 y1.toNat) y2.toNat ∧ RB (a 93 y1.toNat) (kC a0 b0 y1.toNat) y2.toNat) → jt (jxX E d 84 26 [some (.inr (.inr (.inl 90))), some (.inl y1), some (.inl y2)] [] (jxSH, a, b0)) (jQ_X5_linkSeats a0 b0) := by
    intro y1 y2 a hm hv hf hi0 hi1 hi2 hi3 hi4 hi5 hi6 hi7 hi8 hi hcu
    refine jt_eq (bq_X5_linkSeats_26 E d y1 y2 a b0) ?_
    have h1029_ := iv_get hv (k := 90) (j := 3) (l := 0) (u := 12) rfl
    have h1030_ : a 90 3 = a0 90 3 := hf 90 3 rfl
    have h1031_ := iv_get hv0 (k := 90) (j := 3) (l := 0) (u := 12) rfl
    have hlk := link_fr (b := b0) (b1 := b0) (hf 4 6 rfl) (hf 83 6 rfl) (funext fun j => hf 7 j rfl) (funext fun j => hf 84 j rfl) (funext fun j => hf 85 j rfl) (funext fun j => hf 86 j rfl) (funext fun j => hf 91 j rfl)
    have hk1 := hlk.1 y1.toNat y2.toNat
    have hk2 := hlk.2 y1.toNat y2.toNat
    refine jt_ite (fun c1032_ => ?_) (fun c1032_ => ?_)
    ·
      refine jt_grd (by omega) ?_
      refine jt_eI (eq_X4_memberOf E d (jd_le hd rfl) (a 91 (y1.toNat)) a b0) ?_
      refine jt_grd (by omega) ?_
      refine jt_eI (eq_X4_memberOf E d (jd_le hd rfl) (a 91 (y2.toNat)) a b0) ?_
      refine jt_eI (eq_X3_areKin E d (jd_le hd rfl) (f_X4_memberOf a b0 (a 91 (y1.toNat))) (f_X4_memberOf a b0 (a 91 (y2.toNat))) a b0) ?_
      have h1033_ : a 91 (y1.toNat) = a0 91 (y1.toNat) := hf 91 (y1.toNat) rfl
      have h1034_ := f_X4_memberOf_eq a b0 (a 91 (y1.toNat))
      have h1035_ := iv_get hv (k := 83) (j := 6) (l := 0) (u := 20) rfl
      have h1036_ : a 83 6 = a0 83 6 := hf 83 6 rfl
      have h1037_ := iv_get hv0 (k := 83) (j := 6) (l := 0) (u := 20) rfl
      have h1038_ := f_X11_entry_r84_eq a b0 (a 83 6) (a 91 (y1.toNat))
      have h1039_ : a 84 ((a 91 (y1.toNat)).toNat) = a0 84 ((a 91 (y1.toNat)).toNat) := hf 84 ((a 91 (y1.toNat)).toNat) rfl
      have h1040_ : a 91 (y2.toNat) = a0 91 (y2.toNat) := hf 91 (y2.toNat) rfl
      have h1041_ := f_X4_memberOf_eq a b0 (a 91 (y2.toNat))
      have h1042_ := f_X11_entry_r84_eq a b0 (a 83 6) (a 91 (y2.toNat))
      have h1043_ : a 84 ((a 91 (y2.toNat)).toNat) = a0 84 ((a 91 (y2.toNat)).toNat) := hf 84 ((a 91 (y2.toNat)).toNat) rfl
      have h1044_ := f_X3_areKin_bool a b0 (f_X4_memberOf a b0 (a 91 (y1.toNat))) (f_X4_memberOf a b0 (a 91 (y2.toNat)))
      refine jt_ite (fun c1045_ => ?_) (fun c1045_ => ?_)
      ·
        exact hc85 y1 y2 a (show (((((12 - y1) * 15) + 0) + ((12 - y2) * 1)) + 0).toNat ≤ n from by omega) hv hf (show 0 ≤ y1 from by omega) (show y1 ≤ 11 from by omega) (show 0 ≤ y2 from by omega) (show y2 ≤ 11 from by omega) (show 1 ≤ a 90 3 from by omega) (show 0 ≤ y1 from by omega) (show y1 < a 90 3 from by omega) (show 0 ≤ y2 from by omega) (show y2 < a 90 3 from by omega) hi hcu ⟨decide_eq_false (fun z => z (by rw [← hk1]; assumption)), by rw [← hk1]; assumption⟩
      ·
        exact hc70 y1 y2 a (show (((((12 - y1) * 15) + 0) + ((12 - y2) * 1)) + 0).toNat ≤ n from by omega) hv hf (show 0 ≤ y1 from by omega) (show y1 ≤ 11 from by omega) (show 0 ≤ y2 from by omega) (show y2 ≤ 11 from by omega) (show 1 ≤ a 90 3 from by omega) (show 0 ≤ y1 from by omega) (show y1 < a 90 3 from by omega) (show 0 ≤ y2 from by omega) (show y2 < a 90 3 from by omega) hi hcu ⟨decide_eq_true (by rw [← hk1]; assumption), decide_eq_false (fun z => by have z1 := z.1; rw [← hk1] at z1; exact absurd z1 (by assumption))⟩
    ·
      have h1046_ : jxw (y1 + 1) = y1 + 1 := jxw_id (by omega) (by omega)
      exact ih2 (jxw (y1 + 1)) a (show (((12 - (jxw (y1 + 1))) * 15) + 14).toNat < n from by omega) hv hf (show 0 ≤ jxw (y1 + 1) from by omega) (show jxw (y1 + 1) ≤ 12 from by omega) (show 0 ≤ jxw (y1 + 1) from by omega) (show jxw (y1 + 1) ≤ a 90 3 from by omega) (fun i h => by have e90 := hf 90 3 rfl; by_cases e : i = y1.toNat <;> first | (rw [e]; rw [show (a0 90 3).toNat = y2.toNat from by omega]; exact hcu) | exact hi i (by omega))
  have hc24 : ∀ (y1 : Int) (a : Nat → Nat → Int), (((12 - y1) * 15) + 14).toNat ≤ n → iv a → jfr jW_X5_linkSeats a0 a → 0 ≤ y1 → y1 ≤ 11 → 1 ≤ a 90 3 → 0 ≤ y1 → y1 < a 90 3 → (∀ i : Nat, (i : Int) < y1 → RB (a 92 i) (gC a0 b0 i) (a0 90 3).toNat ∧ RB (a 93 i) (kC a0 b0 i) (a0 90 3).toNat) → (RB (a 92 y1.toNat) (gC a0 b0 y1.toNat) 0 ∧ RB (a 93 y1.toNat) (kC a0 b0 y1.toNat) 0) → jt (jxX E d 84 24 [some (.inr (.inr (.inl 90))), some (.inl y1), none] [] (jxSH, a, b0)) (jQ_X5_linkSeats a0 b0) := by
    intro y1 a hm hv hf hi0 hi1 hi2 hi3 hi4 hi hcu
    refine jt_eq (bq_X5_linkSeats_24 E d y1 a b0) ?_
    have h1047_ := iv_get hv (k := 90) (j := 3) (l := 0) (u := 12) rfl
    have h1048_ : a 90 3 = a0 90 3 := hf 90 3 rfl
    have h1049_ := iv_get hv0 (k := 90) (j := 3) (l := 0) (u := 12) rfl
    exact hc26 y1 0 a (show (((((12 - y1) * 15) + 0) + ((12 - 0) * 1)) + 0).toNat ≤ n from by omega) hv hf (show 0 ≤ y1 from by omega) (show y1 ≤ 11 from by omega) (show 0 ≤ 0 from by omega) (show 0 ≤ 12 from by omega) (show 1 ≤ a 90 3 from by omega) (show 0 ≤ y1 from by omega) (show y1 < a 90 3 from by omega) (show 0 ≤ 0 from by omega) (show 0 ≤ a 90 3 from by omega) hi hcu
  have hc2 : ∀ (y1 : Int) (a : Nat → Nat → Int), (((12 - y1) * 15) + 14).toNat ≤ n → iv a → jfr jW_X5_linkSeats a0 a → 0 ≤ y1 → y1 ≤ 12 → 0 ≤ y1 → y1 ≤ a 90 3 → (∀ i : Nat, (i : Int) < y1 → RB (a 92 i) (gC a0 b0 i) (a0 90 3).toNat ∧ RB (a 93 i) (kC a0 b0 i) (a0 90 3).toNat) → jt (jxX E d 84 2 [some (.inr (.inr (.inl 90))), some (.inl y1), none] [] (jxSH, a, b0)) (jQ_X5_linkSeats a0 b0) := by
    intro y1 a hm hv hf hi0 hi1 hi2 hi3 hi
    refine jt_eq (bq_X5_linkSeats_2 E d y1 a b0) ?_
    have h1050_ := iv_get hv (k := 90) (j := 3) (l := 0) (u := 12) rfl
    have h1051_ : a 90 3 = a0 90 3 := hf 90 3 rfl
    have h1052_ := iv_get hv0 (k := 90) (j := 3) (l := 0) (u := 12) rfl
    refine jt_ite (fun c1053_ => ?_) (fun c1053_ => ?_)
    ·
      refine jt_grd (by omega) ?_
      refine jt_grd (by omega) ?_
      have hv1054_ : iv (jxu a 92 (y1.toNat) 0) := iv_putf hv rfl
      have hv1055_ : iv (jxu (jxu a 92 (y1.toNat) 0) 93 (y1.toNat) 0) := iv_putf hv1054_ rfl
      have hf1056_ : jfr jW_X5_linkSeats a0 (jxu a 92 (y1.toNat) 0) := jfr_put hf rfl
      have hf1057_ : jfr jW_X5_linkSeats a0 (jxu (jxu a 92 (y1.toNat) 0) 93 (y1.toNat) 0) := jfr_put hf1056_ rfl
      exact hc24 y1 (jxu (jxu a 92 (y1.toNat) 0) 93 (y1.toNat) 0) (show (((12 - y1) * 15) + 14).toNat ≤ n from by omega) hv1055_ hf1057_ (show 0 ≤ y1 from by omega) (show y1 ≤ 11 from by omega) (show 1 ≤ a 90 3 from by omega) (show 0 ≤ y1 from by omega) (show y1 < a 90 3 from by omega) (fun i h => by have q := hi i (by omega); refine ⟨?_, ?_⟩ <;> (repeat (first | rw [jxu_nj (by omega)] | rw [jxu_nk (by decide)])) <;> first | exact q.1 | exact q.2) (by refine ⟨?_, ?_⟩ <;> (repeat (first | rw [jxu_at] | rw [jxu_nk (by decide)])) <;> exact RB_0 _)
    ·
      exact jt_rV ⟨hv, hf, rfl, (fun i h => hi i (by have e90 := hf 90 3 rfl; omega))⟩
  exact ⟨hc130, hc70, hc118, hc85, hc26, hc24, hc2⟩
theorem sp_X5_linkSeats (E : jxE) (d : Nat) (hd : Nat.ble 3 d = true) (a0 b0 : Nat → Nat → Int) (hv0 : iv a0) : jt (jxC E d 84 [.inr (.inr (.inl 90))] (jxSH, a0, b0)) (jQ_X5_linkSeats a0 b0) := by
  obtain ⟨d, rfl⟩ := jd_succ hd
  refine jt_eq (bq_X5_linkSeats E d a0 b0) ?_
  have h1058_ := iv_get hv0 (k := 90) (j := 3) (l := 0) (u := 12) rfl
  exact (cp_X5_linkSeats_2 E d hd a0 b0 hv0 _).2.2.2.2.2.2 0 a0 (Nat.le_refl _) hv0 (jfr_rf _ _) (show 0 ≤ 0 from by omega) (show 0 ≤ 12 from by omega) (show 0 ≤ 0 from by omega) (show 0 ≤ a0 90 3 from by omega) (fun i h => absurd h (by omega))
