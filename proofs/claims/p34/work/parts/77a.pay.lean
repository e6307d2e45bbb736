abbrev jQ_X1_dearestStamp (a0 b0 : Nat → Nat → Int) : List jxV → (Nat → Nat → Int) → (Nat → Nat → Int) → Prop := rI (fun r a b => (a0 = a) ∧ (b0 = b) ∧ (DRH (a0 142) (a0 143) → 0 ≤ r ∧ r ≤ 500 ∧ ∀ k : Nat, k < 8 → 0 < a0 143 k → a0 142 k ≤ r))
theorem cp_X1_dearestStamp_4 (E : jxE) (d : Nat) (hd : Nat.ble 2 (d + 1) = true) (a0 b0 : Nat → Nat → Int) (hv0 : iv a0) : ∀ n : Nat, (∀ (y1 y2 : Int), (((8 - y2) * 1) + 0).toNat ≤ n → 0 ≤ y1 → 0 ≤ y2 → y2 ≤ 7 → 0 ≤ y2 → y2 < 8 → (DRH (a0 142) (a0 143) → 0 ≤ y1 ∧ y1 ≤ 500 ∧ ∀ k : Nat, (k : Int) ≤ y2 → 0 < a0 143 k → a0 142 k ≤ y1) → jt (jxX E d 34 30 [some (.inr (.inr (.inl 141))), some (.inl y1), some (.inl y2)] [] (jxSH, a0, b0)) (jQ_X1_dearestStamp a0 b0)) ∧ (∀ (y1 y2 : Int), (((8 - y2) * 1) + 0).toNat ≤ n → 0 ≤ y1 → 0 ≤ y2 → y2 ≤ 8 → 0 ≤ y2 → y2 ≤ 8 → (DRH (a0 142) (a0 143) → 0 ≤ y1 ∧ y1 ≤ 500 ∧ ∀ k : Nat, (k : Int) < y2 → 0 < a0 143 k → a0 142 k ≤ y1) → jt (jxX E d 34 4 [some (.inr (.inr (.inl 141))), some (.inl y1), some (.inl y2)] [] (jxSH, a0, b0)) (jQ_X1_dearestStamp a0 b0)) := by
  refine jx_ind fun n ih => ?_
  have ih30 : ∀ (y1 y2 : Int), (((8 - y2) * 1) + 0).toNat < n → 0 ≤ y1 → 0 ≤ y2 → y2 ≤ 7 → 0 ≤ y2 → y2 < 8 → (DRH (a0 142) (a0 143) → 0 ≤ y1 ∧ y1 ≤ 500 ∧ ∀ k : Nat, (k : Int) ≤ y2 → 0 < a0 143 k → a0 142 k ≤ y1) → jt (jxX E d 34 30 [some (.inr (.inr (.inl 141))), some (.inl y1), some (.inl y2)] [] (jxSH, a0, b0)) (jQ_X1_dearestStamp a0 b0) := fun y1 y2 hlt i0 i1 i2 i3 i4 i5 => (ih _ hlt).1 y1 y2 (Nat.le_refl _) i0 i1 i2 i3 i4 i5
  have ih4 : ∀ (y1 y2 : Int), (((8 - y2) * 1) + 0).toNat < n → 0 ≤ y1 → 0 ≤ y2 → y2 ≤ 8 → 0 ≤ y2 → y2 ≤ 8 → (DRH (a0 142) (a0 143) → 0 ≤ y1 ∧ y1 ≤ 500 ∧ ∀ k : Nat, (k : Int) < y2 → 0 < a0 143 k → a0 142 k ≤ y1) → jt (jxX E d 34 4 [some (.inr (.inr (.inl 141))), some (.inl y1), some (.inl y2)] [] (jxSH, a0, b0)) (jQ_X1_dearestStamp a0 b0) := fun y1 y2 hlt i0 i1 i2 i3 i4 i5 => (ih _ hlt).2 y1 y2 (Nat.le_refl _) i0 i1 i2 i3 i4 i5
  have hc30 : ∀ (y1 y2 : Int), (((8 - y2) * 1) + 0).toNat ≤ n → 0 ≤ y1 → 0 ≤ y2 → y2 ≤ 7 → 0 ≤ y2 → y2 < 8 → (DRH (a0 142) (a0 143) → 0 ≤ y1 ∧ y1 ≤ 500 ∧ ∀ k : Nat, (k : Int) ≤ y2 → 0 < a0 143 k → a0 142 k ≤ y1) → jt (jxX E d 34 30 [some (.inr (.inr (.inl 141))), some (.inl y1), some (.inl y2)] [] (jxSH, a0, b0)) (jQ_X1_dearestStamp a0 b0) := by
    intro y1 y2 hm hi0 hi1 hi2 hi3 hi4 hds
    refine jt_eq (bq_X1_dearestStamp_30 E d y1 y2 a0 b0) ?_
    have h2128_ : jxw (y2 + 1) = y2 + 1 := jxw_id (by omega) (by omega)
    exact ih4 y1 (jxw (y2 + 1)) (show (((8 - (jxw (y2 + 1))) * 1) + 0).toNat < n from by omega) (show 0 ≤ y1 from by omega) (show 0 ≤ jxw (y2 + 1) from by omega) (show jxw (y2 + 1) ≤ 8 from by omega) (show 0 ≤ jxw (y2 + 1) from by omega) (show jxw (y2 + 1) ≤ 8 from by omega) (fun h => by obtain ⟨h1, h2, h3⟩ := hds h; exact ⟨h1, h2, fun k hk => h3 k (by omega)⟩)
  have hc4 : ∀ (y1 y2 : Int), (((8 - y2) * 1) + 0).toNat ≤ n → 0 ≤ y1 → 0 ≤ y2 → y2 ≤ 8 → 0 ≤ y2 → y2 ≤ 8 → (DRH (a0 142) (a0 143) → 0 ≤ y1 ∧ y1 ≤ 500 ∧ ∀ k : Nat, (k : Int) < y2 → 0 < a0 143 k → a0 142 k ≤ y1) → jt (jxX E d 34 4 [some (.inr (.inr (.inl 141))), some (.inl y1), some (.inl y2)] [] (jxSH, a0, b0)) (jQ_X1_dearestStamp a0 b0) := by
    intro y1 y2 hm hi0 hi1 hi2 hi3 hi4 hds
    refine jt_eq (bq_X1_dearestStamp_4 E d y1 y2 a0 b0) ?_
    refine jt_ite (fun c2129_ => ?_) (fun c2129_ => ?_)
    ·
      refine jt_grd (by omega) ?_
      refine jt_ite (fun c2130_ => ?_) (fun c2130_ => ?_)
      ·
        refine jt_grd (by omega) ?_
        refine jt_eI (eq_J9_max_7cf53 E d (jd_le hd rfl) y1 (a0 142 (y2.toNat)) a0 b0) ?_
        have h2131_ := f_J9_max_7cf53_eq a0 b0 y1 (a0 142 (y2.toNat))
        exact hc30 (f_J9_max_7cf53 a0 b0 y1 (a0 142 (y2.toNat))) y2 (show (((8 - y2) * 1) + 0).toNat ≤ n from by omega) (show 0 ≤ f_J9_max_7cf53 a0 b0 y1 (a0 142 (y2.toNat)) from by omega) (show 0 ≤ y2 from by omega) (show y2 ≤ 7 from by omega) (show 0 ≤ y2 from by omega) (show y2 < 8 from by omega) (fun h => by obtain ⟨h1, h2, h3⟩ := hds h; have d := h y2.toNat (by omega); refine ⟨by omega, by omega, fun k hk hp => ?_⟩; rcases Int.lt_or_le (k : Int) y2 with z | z <;> first | (have := h3 k z hp; omega) | (have e : k = y2.toNat := (by omega); rw [e] at hp ⊢; omega))
      ·
        exact hc30 y1 y2 (show (((8 - y2) * 1) + 0).toNat ≤ n from by omega) (show 0 ≤ y1 from by omega) (show 0 ≤ y2 from by omega) (show y2 ≤ 7 from by omega) (show 0 ≤ y2 from by omega) (show y2 < 8 from by omega) (fun h => by obtain ⟨h1, h2, h3⟩ := hds h; have d := h y2.toNat (by omega); refine ⟨by omega, by omega, fun k hk hp => ?_⟩; rcases Int.lt_or_le (k : Int) y2 with z | z <;> first | (have := h3 k z hp; omega) | (have e : k = y2.toNat := (by omega); rw [e] at hp ⊢; omega))
    ·
      exact jt_rI ⟨rfl, rfl, (fun h => by obtain ⟨h1, h2, h3⟩ := hds h; exact ⟨h1, h2, fun k hk => h3 k (by omega)⟩)⟩
  exact ⟨hc30, hc4⟩
theorem sp_X1_dearestStamp (E : jxE) (d : Nat) (hd : Nat.ble 2 d = true) (a0 b0 : Nat → Nat → Int) (hv0 : iv a0) : jt (jxC E d 34 [.inr (.inr (.inl 141))] (jxSH, a0, b0)) (jQ_X1_dearestStamp a0 b0) := by
  obtain ⟨d, rfl⟩ := jd_succ hd
  refine jt_eq (bq_X1_dearestStamp E d a0 b0) ?_
  exact (cp_X1_dearestStamp_4 E d hd a0 b0 hv0 _).2 0 0 (Nat.le_refl _) (show 0 ≤ 0 from by omega) (show 0 ≤ 0 from by omega) (show 0 ≤ 8 from by omega) (show 0 ≤ 0 from by omega) (show 0 ≤ 8 from by omega) (fun h => ⟨by decide, by decide, fun k hk => absurd hk (by omega)⟩)
abbrev jQ_X1_tryBundle (x1 x2 x3 : Int) (a0 b0 : Nat → Nat → Int) : List jxV → (Nat → Nat → Int) → (Nat → Nat → Int) → Prop := rV (fun a b => (a0 = a) ∧ (TBH a0 b0 x1 x2 x3 → ∀ y : Nat, (y : Int) ≤ x3 → b 145 y = TBF (b0 145) (x2 * a0 142 x1.toNat) (x2 * SCK x1.toNat) y))
theorem cp_X1_tryBundle_34 (E : jxE) (d : Nat) (hd : Nat.ble 2 (d + 1) = true) (x1 x2 x3 : Int) (a0 b0 : Nat → Nat → Int) (hv0 : iv a0) (hp0 : 0 ≤ x1) (hp1 : x1 ≤ 7) : ∀ n : Nat, (∀ (y4 y5 y7 : Int) (b : Nat → Nat → Int), ((y7 * 1) + 0).toNat ≤ n → 1 ≤ y4 → y4 ≤ 1399 → 1 ≤ y7 → y7 ≤ 1399 → 0 < y4 → y4 ≤ y7 → (TBH a0 b0 x1 x2 x3 → y4 = (x2 * a0 142 x1.toNat) ∧ y5 = (x2 * SCK x1.toNat) ∧ y7 ≤ x3 ∧ TBI (b0 145) (b 145) (x2 * a0 142 x1.toNat) (x2 * SCK x1.toNat) x3 (y7 - 1)) → jt (jxX E d 37 93 [some (.inr (.inr (.inl 141))), none, none, none, some (.inl y4), some (.inr (.inl y5)), none, some (.inl y7)] [] (jxSH, a0, b)) (jQ_X1_tryBundle x1 x2 x3 a0 b0)) ∧ (∀ (y4 y5 y7 : Int) (b : Nat → Nat → Int), ((y7 * 1) + 0).toNat ≤ n → 1 ≤ y4 → y4 ≤ 1399 → 1 ≤ y7 → y7 ≤ 1399 → 0 < y4 → y4 ≤ y7 → (TBH a0 b0 x1 x2 x3 → y4 = (x2 * a0 142 x1.toNat) ∧ y5 = (x2 * SCK x1.toNat) ∧ y7 ≤ x3 ∧ TBI (b0 145) (b 145) (x2 * a0 142 x1.toNat) (x2 * SCK x1.toNat) x3 y7) → (¬ b 145 ((jxw (y7 - y4)).toNat) = 4611686018427387904) → jt (jxX E d 37 63 [some (.inr (.inr (.inl 141))), none, none, none, some (.inl y4), some (.inr (.inl y5)), none, some (.inl y7)] [] (jxSH, a0, b)) (jQ_X1_tryBundle x1 x2 x3 a0 b0)) ∧ (∀ (y4 y5 y7 : Int) (b : Nat → Nat → Int), ((y7 * 1) + 0).toNat ≤ n → y7 ≤ 1399 → (TBH a0 b0 x1 x2 x3 → y4 = (x2 * a0 142 x1.toNat) ∧ y5 = (x2 * SCK x1.toNat) ∧ y7 ≤ x3 ∧ TBI (b0 145) (b 145) (x2 * a0 142 x1.toNat) (x2 * SCK x1.toNat) x3 y7) → jt (jxX E d 37 34 [some (.inr (.inr (.inl 141))), none, none, none, some (.inl y4), some (.inr (.inl y5)), none, some (.inl y7)] [] (jxSH, a0, b)) (jQ_X1_tryBundle x1 x2 x3 a0 b0)) := by
  refine jx_ind fun n ih => ?_
  have ih93 : ∀ (y4 y5 y7 : Int) (b : Nat → Nat → Int), ((y7 * 1) + 0).toNat < n → 1 ≤ y4 → y4 ≤ 1399 → 1 ≤ y7 → y7 ≤ 1399 → 0 < y4 → y4 ≤ y7 → (TBH a0 b0 x1 x2 x3 → y4 = (x2 * a0 142 x1.toNat) ∧ y5 = (x2 * SCK x1.toNat) ∧ y7 ≤ x3 ∧ TBI (b0 145) (b 145) (x2 * a0 142 x1.toNat) (x2 * SCK x1.toNat) x3 (y7 - 1)) → jt (jxX E d 37 93 [some (.inr (.inr (.inl 141))), none, none, none, some (.inl y4), some (.inr (.inl y5)), none, some (.inl y7)] [] (jxSH, a0, b)) (jQ_X1_tryBundle x1 x2 x3 a0 b0) := fun y4 y5 y7 b hlt i0 i1 i2 i3 i4 i5 i6 => (ih _ hlt).1 y4 y5 y7 b (Nat.le_refl _) i0 i1 i2 i3 i4 i5 i6
  have ih63 : ∀ (y4 y5 y7 : Int) (b : Nat → Nat → Int), ((y7 * 1) + 0).toNat < n → 1 ≤ y4 → y4 ≤ 1399 → 1 ≤ y7 → y7 ≤ 1399 → 0 < y4 → y4 ≤ y7 → (TBH a0 b0 x1 x2 x3 → y4 = (x2 * a0 142 x1.toNat) ∧ y5 = (x2 * SCK x1.toNat) ∧ y7 ≤ x3 ∧ TBI (b0 145) (b 145) (x2 * a0 142 x1.toNat) (x2 * SCK x1.toNat) x3 y7) → (¬ b 145 ((jxw (y7 - y4)).toNat) = 4611686018427387904) → jt (jxX E d 37 63 [some (.inr (.inr (.inl 141))), none, none, none, some (.inl y4), some (.inr (.inl y5)), none, some (.inl y7)] [] (jxSH, a0, b)) (jQ_X1_tryBundle x1 x2 x3 a0 b0) := fun y4 y5 y7 b hlt i0 i1 i2 i3 i4 i5 i6 i7 => (ih _ hlt).2.1 y4 y5 y7 b (Nat.le_refl _) i0 i1 i2 i3 i4 i5 i6 i7
  have ih34 : ∀ (y4 y5 y7 : Int) (b : Nat → Nat → Int), ((y7 * 1) + 0).toNat < n → y7 ≤ 1399 → (TBH a0 b0 x1 x2 x3 → y4 = (x2 * a0 142 x1.toNat) ∧ y5 = (x2 * SCK x1.toNat) ∧ y7 ≤ x3 ∧ TBI (b0 145) (b 145) (x2 * a0 142 x1.toNat) (x2 * SCK x1.toNat) x3 y7) → jt (jxX E d 37 34 [some (.inr (.inr (.inl 141))), none, none, none, some (.inl y4), some (.inr (.inl y5)), none, some (.inl y7)] [] (jxSH, a0, b)) (jQ_X1_tryBundle x1 x2 x3 a0 b0) := fun y4 y5 y7 b hlt i0 i1 => (ih _ hlt).2.2 y4 y5 y7 b (Nat.le_refl _) i0 i1
  have hc93 : ∀ (y4 y5 y7 : Int) (b : Nat → Nat → Int), ((y7 * 1) + 0).toNat ≤ n → 1 ≤ y4 → y4 ≤ 1399 → 1 ≤ y7 → y7 ≤ 1399 → 0 < y4 → y4 ≤ y7 → (TBH a0 b0 x1 x2 x3 → y4 = (x2 * a0 142 x1.toNat) ∧ y5 = (x2 * SCK x1.toNat) ∧ y7 ≤ x3 ∧ TBI (b0 145) (b 145) (x2 * a0 142 x1.toNat) (x2 * SCK x1.toNat) x3 (y7 - 1)) → jt (jxX E d 37 93 [some (.inr (.inr (.inl 141))), none, none, none, some (.inl y4), some (.inr (.inl y5)), none, some (.inl y7)] [] (jxSH, a0, b)) (jQ_X1_tryBundle x1 x2 x3 a0 b0) := by
    intro y4 y5 y7 b hm hi0 hi1 hi2 hi3 hi4 hi5 hw
    refine jt_eq (bq_X1_tryBundle_93 E d y4 y5 y7 a0 b) ?_
    have h2132_ : jxw (y7 + (-1)) = y7 + (-1) := jxw_id (by omega) (by omega)
    exact ih34 y4 y5 (jxw (y7 + (-1))) b (show (((jxw (y7 + (-1))) * 1) + 0).toNat < n from by omega) (show jxw (y7 + (-1)) ≤ 1399 from by omega) (fun h => by obtain ⟨w1, w2, w3, w4⟩ := hw h; rw [show jxw (y7 + (-1)) = y7 - 1 from by omega]; exact ⟨w1, w2, by omega, w4⟩)
  have hc63 : ∀ (y4 y5 y7 : Int) (b : Nat → Nat → Int), ((y7 * 1) + 0).toNat ≤ n → 1 ≤ y4 → y4 ≤ 1399 → 1 ≤ y7 → y7 ≤ 1399 → 0 < y4 → y4 ≤ y7 → (TBH a0 b0 x1 x2 x3 → y4 = (x2 * a0 142 x1.toNat) ∧ y5 = (x2 * SCK x1.toNat) ∧ y7 ≤ x3 ∧ TBI (b0 145) (b 145) (x2 * a0 142 x1.toNat) (x2 * SCK x1.toNat) x3 y7) → (¬ b 145 ((jxw (y7 - y4)).toNat) = 4611686018427387904) → jt (jxX E d 37 63 [some (.inr (.inr (.inl 141))), none, none, none, some (.inl y4), some (.inr (.inl y5)), none, some (.inl y7)] [] (jxSH, a0, b)) (jQ_X1_tryBundle x1 x2 x3 a0 b0) := by
    intro y4 y5 y7 b hm hi0 hi1 hi2 hi3 hi4 hi5 hw hni
    refine jt_eq (bq_X1_tryBundle_63 E d y4 y5 y7 a0 b) ?_
    refine jt_grd (by omega) ?_
    have h2133_ : jxw (y7 - y4) = y7 - y4 := jxw_id (by omega) (by omega)
    refine jt_grd (by omega) ?_
    refine jt_eJ (eq_J9_min_f86c9 E d (jd_le hd rfl) (b 145 (y7.toNat)) (jxwl ((b 145 ((jxw (y7 - y4)).toNat)) + y5)) a0 b) ?_
    refine jt_grd (by omega) ?_
    exact hc93 y4 y5 y7 (jxu b 145 (y7.toNat) (f_J9_min_f86c9 a0 b (b 145 (y7.toNat)) (jxwl ((b 145 ((jxw (y7 - y4)).toNat)) + y5)))) (show ((y7 * 1) + 0).toNat ≤ n from by omega) (show 1 ≤ y4 from by omega) (show y4 ≤ 1399 from by omega) (show 1 ≤ y7 from by omega) (show y7 ≤ 1399 from by omega) (show 0 < y4 from by omega) (show y4 ≤ y7 from by omega) (fun h => by obtain ⟨w1, w2, w3, w4⟩ := hw h; have wp := TB_w h; have wc := TB_c h (by omega) (by omega); have e74 : (jxw (y7 - y4)).toNat = (y7 - x2 * a0 142 x1.toNat).toNat := (by omega); refine ⟨w1, w2, w3, ?_⟩; have q := TBI_yes (v := f_J9_min_f86c9 a0 b (b 145 (y7.toNat)) (jxwl ((b 145 ((jxw (y7 - y4)).toNat)) + y5))) w4 (by omega) (by omega) w3 h.2.2.2.2.2 ⟨wc.1, wc.2.1⟩ (by rw [← e74]; exact hni) (by rw [← e74, ← w2]; rfl); rw [jxu_rup]; exact q)
  have hc34 : ∀ (y4 y5 y7 : Int) (b : Nat → Nat → Int), ((y7 * 1) + 0).toNat ≤ n → y7 ≤ 1399 → (TBH a0 b0 x1 x2 x3 → y4 = (x2 * a0 142 x1.toNat) ∧ y5 = (x2 * SCK x1.toNat) ∧ y7 ≤ x3 ∧ TBI (b0 145) (b 145) (x2 * a0 142 x1.toNat) (x2 * SCK x1.toNat) x3 y7) → jt (jxX E d 37 34 [some (.inr (.inr (.inl 141))), none, none, none, some (.inl y4), some (.inr (.inl y5)), none, some (.inl y7)] [] (jxSH, a0, b)) (jQ_X1_tryBundle x1 x2 x3 a0 b0) := by
    intro y4 y5 y7 b hm hi0 hw
    refine jt_eq (bq_X1_tryBundle_34 E d y4 y5 y7 a0 b) ?_
    refine jt_ite (fun c2134_ => ?_) (fun c2134_ => ?_)
    ·
      refine jt_ite (fun c2135_ => ?_) (fun c2135_ => ?_)
      ·
        exact jt_rV ⟨rfl, (fun h => by obtain ⟨w1, w2, w3, w4⟩ := hw h; have wp := TB_w h; exact TBI_end w4 (by omega))⟩
      ·
        have h2136_ : jxw (y7 - y4) = y7 - y4 := jxw_id (by omega) (by omega)
        refine jt_grd (by omega) ?_
        have h2137_ := jxlcmp_b (b 145 ((jxw (y7 - y4)).toNat)) 4611686018427387904
        refine jt_ite (fun c2138_ => ?_) (fun c2138_ => ?_)
        ·
          exact hc93 y4 y5 y7 b (show ((y7 * 1) + 0).toNat ≤ n from by omega) (show 1 ≤ y4 from by omega) (show y4 ≤ 1399 from by omega) (show 1 ≤ y7 from by omega) (show y7 ≤ 1399 from by omega) (show 0 < y4 from by omega) (show y4 ≤ y7 from by omega) (fun h => by obtain ⟨w1, w2, w3, w4⟩ := hw h; have wp := TB_w h; have e74 : (jxw (y7 - y4)).toNat = (y7 - x2 * a0 142 x1.toNat).toNat := (by omega); exact ⟨w1, w2, w3, TBI_no w4 (by omega) (by omega) (by rw [← e74]; have q := jxlcmp_b (b 145 ((jxw (y7 - y4)).toNat)) 4611686018427387904; show b 145 _ = 4611686018427387904; omega)⟩)
        ·
          exact hc63 y4 y5 y7 b (show ((y7 * 1) + 0).toNat ≤ n from by omega) (show 1 ≤ y4 from by omega) (show y4 ≤ 1399 from by omega) (show 1 ≤ y7 from by omega) (show y7 ≤ 1399 from by omega) (show 0 < y4 from by omega) (show y4 ≤ y7 from by omega) hw (by have q := jxlcmp_b (b 145 ((jxw (y7 - y4)).toNat)) 4611686018427387904; omega)
    ·
      exact jt_rV ⟨rfl, (fun h => by obtain ⟨w1, w2, w3, w4⟩ := hw h; have wp := TB_w h; exact TBI_end w4 (by omega))⟩
  exact ⟨hc93, hc63, hc34⟩
theorem cp_X1_tryBundle_25 (E : jxE) (d : Nat) (hd : Nat.ble 2 (d + 1) = true) (x1 x2 x3 : Int) (a0 b0 : Nat → Nat → Int) (hv0 : iv a0) (hp0 : 0 ≤ x1) (hp1 : x1 ≤ 7) : ∀ (y3 y4 y5 : Int) (b : Nat → Nat → Int), (TBH a0 b0 x1 x2 x3 → y4 = (x2 * a0 142 x1.toNat) ∧ y5 = (x2 * SCK x1.toNat)) → (y3 = x3) → (b = b0) → jt (jxX E d 37 25 [some (.inr (.inr (.inl 141))), none, none, some (.inl y3), some (.inl y4), some (.inr (.inl y5)), none, none] [] (jxSH, a0, b)) (jQ_X1_tryBundle x1 x2 x3 a0 b0) := by
  intro y3 y4 y5 b hw hy3 heb
  refine jt_eq (bq_X1_tryBundle_25 E d y3 y4 y5 a0 b) ?_
  refine jt_eI (eq_J9_min_7cf53 E d (jd_le hd rfl) y3 1399 a0 b) ?_
  have h2139_ := f_J9_min_7cf53_eq a0 b y3 1399
  exact (cp_X1_tryBundle_34 E d hd x1 x2 x3 a0 b0 hv0 hp0 hp1 _).2.2 y4 y5 (f_J9_min_7cf53 a0 b y3 1399) b (Nat.le_refl _) (show f_J9_min_7cf53 a0 b y3 1399 ≤ 1399 from by omega) (fun h => ⟨(hw h).1, (hw h).2, by have := h.2.2.1; omega, by have eb : b 145 = b0 145 := (by rw [heb]); rw [eb]; exact TBI_0 (by have := h.2.2.1; omega)⟩)
theorem sp_X1_tryBundle (E : jxE) (d : Nat) (hd : Nat.ble 2 d = true) (x1 x2 x3 : Int) (a0 b0 : Nat → Nat → Int) (hv0 : iv a0) (hp0 : 0 ≤ x1) (hp1 : x1 ≤ 7) : jt (jxC E d 37 [.inr (.inr (.inl 141)), .inl x1, .inl x2, .inl x3] (jxSH, a0, b0)) (jQ_X1_tryBundle x1 x2 x3 a0 b0) := by
  obtain ⟨d, rfl⟩ := jd_succ hd
  refine jt_eq (bq_X1_tryBundle E d x1 x2 x3 a0 b0) ?_
  refine jt_grd (by omega) ?_
  refine jt_eI (eq_X1_shiftOf E d (jd_le hd rfl) x1 a0 b0) ?_
  have h2140_ := jxw_im (x2 * (a0 142 (x1.toNat)))
  have h2141_ := jxw_rg (x2 * (a0 142 (x1.toNat)))
  have h2142_ := f_X1_shiftOf_eq a0 b0 x1
  have h2143_ : jxw (7 - x1) = 7 - x1 := jxw_id (by omega) (by omega)
  have h2144_ : jxw (6 * (jxw (7 - x1))) = 6 * (jxw (7 - x1)) := jxw_id (by omega) (by omega)
  exact cp_X1_tryBundle_25 E d hd x1 x2 x3 a0 b0 hv0 hp0 hp1 x3 (jxw (x2 * (a0 142 (x1.toNat)))) (jxwl (x2 * (jxwl (281474976710656 - (jxshll 1 (f_X1_shiftOf a0 b0 x1)))))) b0 (fun h => ⟨(TB_w h).2.2, (TB_c h (by omega) (by omega)).2.2⟩) (by first | rfl | assumption) rfl
abbrev jQ_X1_tryKind (x1 x2 : Int) (a0 b0 : Nat → Nat → Int) : List jxV → (Nat → Nat → Int) → (Nat → Nat → Int) → Prop := rV (fun a b => (a0 = a) ∧ (DRH (a0 142) (a0 143) → x2 ≤ 1399 → TBL (cN (a0 143)) (a0 142) x1.toNat 0 (b0 145) x2 → TBL (cN (a0 143)) (a0 142) (x1.toNat + 1) 0 (b 145) x2))
theorem cp_X1_tryKind_10 (E : jxE) (d : Nat) (hd : Nat.ble 3 (d + 1) = true) (x1 x2 : Int) (a0 b0 : Nat → Nat → Int) (hv0 : iv a0) (hp0 : 0 ≤ x1) (hp1 : x1 ≤ 7) : ∀ n : Nat, (∀ (y1 y2 y3 y4 y5 : Int) (b : Nat → Nat → Int), (((100 - y4) * 1) + 0).toNat ≤ n → 0 ≤ y1 → y1 ≤ 7 → 1 ≤ y3 → 1 ≤ y4 → y4 ≤ 50 → 1 ≤ y5 → y5 ≤ 50 → (y1 = x1) → (y2 = x2) → (DRH (a0 142) (a0 143) → x2 ≤ 1399 → TBL (cN (a0 143)) (a0 142) x1.toNat 0 (b0 145) x2 → 0 ≤ y3 ∧ y3 ≤ a0 143 x1.toNat ∧ 1 ≤ y4 ∧ y4 = a0 143 x1.toNat - y3 + 1 ∧ (y5 = y4 ∨ y5 = y3) ∧ y5 ≤ y3 ∧ y5 ≤ y4 ∧ TBL (cN (a0 143)) (a0 142) x1.toNat (a0 143 x1.toNat - (y3 - y5)).toNat (b 145) x2) → 0 < y3 → y4 ≤ 50 → jt (jxX E d 36 37 [some (.inr (.inr (.inl 141))), some (.inl y1), some (.inl y2), some (.inl y3), some (.inl y4), some (.inl y5)] [] (jxSH, a0, b)) (jQ_X1_tryKind x1 x2 a0 b0)) ∧ (∀ (y1 y2 y3 y4 : Int) (b : Nat → Nat → Int), (((100 - y4) * 1) + 0).toNat ≤ n → 0 ≤ y1 → y1 ≤ 7 → 1 ≤ y4 → y4 ≤ 100 → (y1 = x1) → (y2 = x2) → (DRH (a0 142) (a0 143) → x2 ≤ 1399 → TBL (cN (a0 143)) (a0 142) x1.toNat 0 (b0 145) x2 → 0 ≤ y3 ∧ y3 ≤ a0 143 x1.toNat ∧ 1 ≤ y4 ∧ (y3 = 0 ∨ y4 = a0 143 x1.toNat - y3 + 1) ∧ TBL (cN (a0 143)) (a0 142) x1.toNat (a0 143 x1.toNat - y3).toNat (b 145) x2) → jt (jxX E d 36 10 [some (.inr (.inr (.inl 141))), some (.inl y1), some (.inl y2), some (.inl y3), some (.inl y4), none] [] (jxSH, a0, b)) (jQ_X1_tryKind x1 x2 a0 b0)) := by
  refine jx_ind fun n ih => ?_
  have ih37 : ∀ (y1 y2 y3 y4 y5 : Int) (b : Nat → Nat → Int), (((100 - y4) * 1) + 0).toNat < n → 0 ≤ y1 → y1 ≤ 7 → 1 ≤ y3 → 1 ≤ y4 → y4 ≤ 50 → 1 ≤ y5 → y5 ≤ 50 → (y1 = x1) → (y2 = x2) → (DRH (a0 142) (a0 143) → x2 ≤ 1399 → TBL (cN (a0 143)) (a0 142) x1.toNat 0 (b0 145) x2 → 0 ≤ y3 ∧ y3 ≤ a0 143 x1.toNat ∧ 1 ≤ y4 ∧ y4 = a0 143 x1.toNat - y3 + 1 ∧ (y5 = y4 ∨ y5 = y3) ∧ y5 ≤ y3 ∧ y5 ≤ y4 ∧ TBL (cN (a0 143)) (a0 142) x1.toNat (a0 143 x1.toNat - (y3 - y5)).toNat (b 145) x2) → 0 < y3 → y4 ≤ 50 → jt (jxX E d 36 37 [some (.inr (.inr (.inl 141))), some (.inl y1), some (.inl y2), some (.inl y3), some (.inl y4), some (.inl y5)] [] (jxSH, a0, b)) (jQ_X1_tryKind x1 x2 a0 b0) := fun y1 y2 y3 y4 y5 b hlt i0 i1 i2 i3 i4 i5 i6 i7 i8 i9 i10 i11 => (ih _ hlt).1 y1 y2 y3 y4 y5 b (Nat.le_refl _) i0 i1 i2 i3 i4 i5 i6 i7 i8 i9 i10 i11
  have ih10 : ∀ (y1 y2 y3 y4 : Int) (b : Nat → Nat → Int), (((100 - y4) * 1) + 0).toNat < n → 0 ≤ y1 → y1 ≤ 7 → 1 ≤ y4 → y4 ≤ 100 → (y1 = x1) → (y2 = x2) → (DRH (a0 142) (a0 143) → x2 ≤ 1399 → TBL (cN (a0 143)) (a0 142) x1.toNat 0 (b0 145) x2 → 0 ≤ y3 ∧ y3 ≤ a0 143 x1.toNat ∧ 1 ≤ y4 ∧ (y3 = 0 ∨ y4 = a0 143 x1.toNat - y3 + 1) ∧ TBL (cN (a0 143)) (a0 142) x1.toNat (a0 143 x1.toNat - y3).toNat (b 145) x2) → jt (jxX E d 36 10 [some (.inr (.inr (.inl 141))), some (.inl y1), some (.inl y2), some (.inl y3), some (.inl y4), none] [] (jxSH, a0, b)) (jQ_X1_tryKind x1 x2 a0 b0) := fun y1 y2 y3 y4 b hlt i0 i1 i2 i3 i4 i5 i6 => (ih _ hlt).2 y1 y2 y3 y4 b (Nat.le_refl _) i0 i1 i2 i3 i4 i5 i6
  have hc37 : ∀ (y1 y2 y3 y4 y5 : Int) (b : Nat → Nat → Int), (((100 - y4) * 1) + 0).toNat ≤ n → 0 ≤ y1 → y1 ≤ 7 → 1 ≤ y3 → 1 ≤ y4 → y4 ≤ 50 → 1 ≤ y5 → y5 ≤ 50 → (y1 = x1) → (y2 = x2) → (DRH (a0 142) (a0 143) → x2 ≤ 1399 → TBL (cN (a0 143)) (a0 142) x1.toNat 0 (b0 145) x2 → 0 ≤ y3 ∧ y3 ≤ a0 143 x1.toNat ∧ 1 ≤ y4 ∧ y4 = a0 143 x1.toNat - y3 + 1 ∧ (y5 = y4 ∨ y5 = y3) ∧ y5 ≤ y3 ∧ y5 ≤ y4 ∧ TBL (cN (a0 143)) (a0 142) x1.toNat (a0 143 x1.toNat - (y3 - y5)).toNat (b 145) x2) → 0 < y3 → y4 ≤ 50 → jt (jxX E d 36 37 [some (.inr (.inr (.inl 141))), some (.inl y1), some (.inl y2), some (.inl y3), some (.inl y4), some (.inl y5)] [] (jxSH, a0, b)) (jQ_X1_tryKind x1 x2 a0 b0) := by
    intro y1 y2 y3 y4 y5 b hm hi0 hi1 hi2 hi3 hi4 hi5 hi6 hy1 hy2 hk hi10 hi11
    refine jt_eq (bq_X1_tryKind_37 E d y1 y2 y3 y4 y5 a0 b) ?_
    have h2145_ : jxw (y4 * 2) = y4 * 2 := jxw_id (by omega) (by omega)
    have h2146_ := jxw_im (y3 - y5)
    have h2147_ := jxw_rg (y3 - y5)
    exact ih10 y1 y2 (jxw (y3 - y5)) (jxw (y4 * 2)) b (show (((100 - (jxw (y4 * 2))) * 1) + 0).toNat < n from by omega) (show 0 ≤ y1 from by omega) (show y1 ≤ 7 from by omega) (show 1 ≤ jxw (y4 * 2) from by omega) (show jxw (y4 * 2) ≤ 100 from by omega) (by first | rfl | assumption) (by first | rfl | assumption) (fun h h2 h3 => by have d := h x1.toNat (by omega); obtain ⟨k1, k2, k3, k4, k5, k6, k7, k8⟩ := hk h h2 h3; have e3 : jxw (y3 - y5) = y3 - y5 := (by omega); have e4 : jxw (y4 * 2) = y4 * 2 := (by omega); rw [e3, e4]; exact ⟨by omega, by omega, by omega, by omega, k8⟩)
  have hc10 : ∀ (y1 y2 y3 y4 : Int) (b : Nat → Nat → Int), (((100 - y4) * 1) + 0).toNat ≤ n → 0 ≤ y1 → y1 ≤ 7 → 1 ≤ y4 → y4 ≤ 100 → (y1 = x1) → (y2 = x2) → (DRH (a0 142) (a0 143) → x2 ≤ 1399 → TBL (cN (a0 143)) (a0 142) x1.toNat 0 (b0 145) x2 → 0 ≤ y3 ∧ y3 ≤ a0 143 x1.toNat ∧ 1 ≤ y4 ∧ (y3 = 0 ∨ y4 = a0 143 x1.toNat - y3 + 1) ∧ TBL (cN (a0 143)) (a0 142) x1.toNat (a0 143 x1.toNat - y3).toNat (b 145) x2) → jt (jxX E d 36 10 [some (.inr (.inr (.inl 141))), some (.inl y1), some (.inl y2), some (.inl y3), some (.inl y4), none] [] (jxSH, a0, b)) (jQ_X1_tryKind x1 x2 a0 b0) := by
    intro y1 y2 y3 y4 b hm hi0 hi1 hi2 hi3 hy1 hy2 hk
    refine jt_eq (bq_X1_tryKind_10 E d y1 y2 y3 y4 a0 b) ?_
    refine jt_ite (fun c2148_ => ?_) (fun c2148_ => ?_)
    ·
      refine jt_ite (fun c2149_ => ?_) (fun c2149_ => ?_)
      ·
        exact jt_rV ⟨rfl, (fun h h2 h3 => by have d := h x1.toNat (by omega); obtain ⟨k1, k2, k3, k4, k5⟩ := hk h h2 h3; have e3 : y3 = 0 := (by omega); rw [e3, Int.sub_zero] at k5; exact TBL_next k5)⟩
      ·
        refine jt_eI (eq_J9_min_7cf53 E d (jd_le hd rfl) y4 y3 a0 b) ?_
        refine jt_bV (sp_X1_tryBundle E d (jd_le hd rfl) y1 (f_J9_min_7cf53 a0 b y4 y3) y2 a0 b hv0 (show 0 ≤ y1 from by omega) (show y1 ≤ 7 from by omega)) (fun a2150_ b2150_ h2150_ => ?_)
        obtain ⟨rfl, hq2150_0⟩ := h2150_
        have h2151_ := f_J9_min_7cf53_eq a0 b y4 y3
        exact hc37 y1 y2 y3 y4 (f_J9_min_7cf53 a0 b y4 y3) b2150_ (show (((100 - y4) * 1) + 0).toNat ≤ n from by omega) (show 0 ≤ y1 from by omega) (show y1 ≤ 7 from by omega) (show 1 ≤ y3 from by omega) (show 1 ≤ y4 from by omega) (show y4 ≤ 50 from by omega) (show 1 ≤ f_J9_min_7cf53 a0 b y4 y3 from by omega) (show f_J9_min_7cf53 a0 b y4 y3 ≤ 50 from by omega) (by first | rfl | assumption) (by first | rfl | assumption) (fun h h2 h3 => by obtain ⟨k1, k2, k3, k4, k5⟩ := hk h h2 h3; have q := hq2150_0; rw [hy1, hy2] at q; refine ⟨k1, k2, k3, by omega, by omega, by omega, by omega, ?_⟩; exact TK_step h (by omega) (by omega) h2 (by omega) k2 k3 (by omega) (by omega) (by omega) (by omega) k5 q) (show 0 < y3 from by omega) (show y4 ≤ 50 from by omega)
    ·
      exact jt_rV ⟨rfl, (fun h h2 h3 => by have d := h x1.toNat (by omega); obtain ⟨k1, k2, k3, k4, k5⟩ := hk h h2 h3; have e3 : y3 = 0 := (by omega); rw [e3, Int.sub_zero] at k5; exact TBL_next k5)⟩
  exact ⟨hc37, hc10⟩
theorem sp_X1_tryKind (E : jxE) (d : Nat) (hd : Nat.ble 3 d = true) (x1 x2 : Int) (a0 b0 : Nat → Nat → Int) (hv0 : iv a0) (hp0 : 0 ≤ x1) (hp1 : x1 ≤ 7) : jt (jxC E d 36 [.inr (.inr (.inl 141)), .inl x1, .inl x2] (jxSH, a0, b0)) (jQ_X1_tryKind x1 x2 a0 b0) := by
  obtain ⟨d, rfl⟩ := jd_succ hd
  refine jt_eq (bq_X1_tryKind E d x1 x2 a0 b0) ?_
  refine jt_grd (by omega) ?_
  exact (cp_X1_tryKind_10 E d hd x1 x2 a0 b0 hv0 hp0 hp1 _).2 x1 x2 (a0 143 (x1.toNat)) 1 b0 (Nat.le_refl _) (show 0 ≤ x1 from by omega) (show x1 ≤ 7 from by omega) (show 1 ≤ 1 from by omega) (show 1 ≤ 100 from by omega) (by first | rfl | assumption) (by first | rfl | assumption) (fun h h2 h3 => by have d := h x1.toNat (by omega); refine ⟨d.1, Int.le_refl _, by decide, by omega, ?_⟩; rw [Int.sub_self]; exact h3)
abbrev jQ_X1_findBestWays (x1 : Int) (a0 b0 : Nat → Nat → Int) : List jxV → (Nat → Nat → Int) → (Nat → Nat → Int) → Prop := rV (fun a b => (a0 = a) ∧ (DRH (a0 142) (a0 143) → x1 ≤ 1399 → TBL (cN (a0 143)) (a0 142) 8 0 (b 145) x1))
theorem cp_X1_findBestWays_38 (E : jxE) (d : Nat) (hd : Nat.ble 4 (d + 1) = true) (x1 : Int) (a0 b0 : Nat → Nat → Int) (hv0 : iv a0) : ∀ n : Nat, (∀ (y1 y2 : Int) (b : Nat → Nat → Int), (((8 - y2) * 1) + 0).toNat ≤ n → 0 ≤ y2 → y2 ≤ 8 → (y1 = x1) → 0 ≤ y2 → y2 ≤ 8 → (DRH (a0 142) (a0 143) → x1 ≤ 1399 → TBL (cN (a0 143)) (a0 142) y2.toNat 0 (b 145) x1) → jt (jxX E d 35 38 [some (.inr (.inr (.inl 141))), some (.inl y1), some (.inl y2)] [] (jxSH, a0, b)) (jQ_X1_findBestWays x1 a0 b0)) := by
  refine jx_ind fun n ih => ?_
  have ih38 : ∀ (y1 y2 : Int) (b : Nat → Nat → Int), (((8 - y2) * 1) + 0).toNat < n → 0 ≤ y2 → y2 ≤ 8 → (y1 = x1) → 0 ≤ y2 → y2 ≤ 8 → (DRH (a0 142) (a0 143) → x1 ≤ 1399 → TBL (cN (a0 143)) (a0 142) y2.toNat 0 (b 145) x1) → jt (jxX E d 35 38 [some (.inr (.inr (.inl 141))), some (.inl y1), some (.inl y2)] [] (jxSH, a0, b)) (jQ_X1_findBestWays x1 a0 b0) := fun y1 y2 b hlt i0 i1 i2 i3 i4 i5 => (ih _ hlt) y1 y2 b (Nat.le_refl _) i0 i1 i2 i3 i4 i5
  have hc38 : ∀ (y1 y2 : Int) (b : Nat → Nat → Int), (((8 - y2) * 1) + 0).toNat ≤ n → 0 ≤ y2 → y2 ≤ 8 → (y1 = x1) → 0 ≤ y2 → y2 ≤ 8 → (DRH (a0 142) (a0 143) → x1 ≤ 1399 → TBL (cN (a0 143)) (a0 142) y2.toNat 0 (b 145) x1) → jt (jxX E d 35 38 [some (.inr (.inr (.inl 141))), some (.inl y1), some (.inl y2)] [] (jxSH, a0, b)) (jQ_X1_findBestWays x1 a0 b0) := by
    intro y1 y2 b hm hi0 hi1 hy1 hi3 hi4 ht
    refine jt_eq (bq_X1_findBestWays_38 E d y1 y2 a0 b) ?_
    refine jt_ite (fun c2152_ => ?_) (fun c2152_ => ?_)
    ·
      refine jt_bV (sp_X1_tryKind E d (jd_le hd rfl) y2 y1 a0 b hv0 (show 0 ≤ y2 from by omega) (show y2 ≤ 7 from by omega)) (fun a2153_ b2153_ h2153_ => ?_)
      obtain ⟨rfl, hq2153_0⟩ := h2153_
      have h2154_ : jxw (y2 + 1) = y2 + 1 := jxw_id (by omega) (by omega)
      exact ih38 y1 (jxw (y2 + 1)) b2153_ (show (((8 - (jxw (y2 + 1))) * 1) + 0).toNat < n from by omega) (show 0 ≤ jxw (y2 + 1) from by omega) (show jxw (y2 + 1) ≤ 8 from by omega) (by first | rfl | assumption) (show 0 ≤ jxw (y2 + 1) from by omega) (show jxw (y2 + 1) ≤ 8 from by omega) (fun h h2 => by have q := hq2153_0; rw [hy1] at q; have q2 := q h h2 (ht h h2); rw [show (jxw (y2 + 1)).toNat = y2.toNat + 1 from by omega]; exact q2)
    ·
      exact jt_rV ⟨rfl, (fun h h2 => by have q := ht h h2; rw [show y2.toNat = 8 from by omega] at q; exact q)⟩
  exact hc38
theorem cp_X1_findBestWays_29 (E : jxE) (d : Nat) (hd : Nat.ble 4 (d + 1) = true) (x1 : Int) (a0 b0 : Nat → Nat → Int) (hv0 : iv a0) : ∀ (y1 : Int) (b : Nat → Nat → Int), (y1 = x1) → (∀ y : Nat, 1 ≤ y → (y : Int) ≤ x1 → (y : Int) ≤ 1399 → b 145 y = 4611686018427387904) → jt (jxX E d 35 29 [some (.inr (.inr (.inl 141))), some (.inl y1), none] [] (jxSH, a0, b)) (jQ_X1_findBestWays x1 a0 b0) := by
  intro y1 b hy1 hz
  refine jt_eq (bq_X1_findBestWays_29 E d y1 a0 b) ?_
  exact (cp_X1_findBestWays_38 E d hd x1 a0 b0 hv0 _) y1 0 (jxu b 145 0 0) (Nat.le_refl _) (show 0 ≤ 0 from by omega) (show 0 ≤ 8 from by omega) (by first | rfl | assumption) (show 0 ≤ 0 from by omega) (show 0 ≤ 8 from by omega) (fun h h2 => TBL_0 (jxu_at _ _ _ _) (fun y h3 h4 => by rw [jxu_nj (by omega)]; exact hz y h3 h4 (by omega)))
theorem cp_X1_findBestWays_2 (E : jxE) (d : Nat) (hd : Nat.ble 4 (d + 1) = true) (x1 : Int) (a0 b0 : Nat → Nat → Int) (hv0 : iv a0) : ∀ n : Nat, (∀ (y1 y2 : Int) (b : Nat → Nat → Int), (((1400 - y2) * 1) + 0).toNat ≤ n → 1 ≤ y2 → y2 ≤ 1400 → (y1 = x1) → 1 ≤ y2 → (∀ y : Nat, 1 ≤ y → (y : Int) < y2 → b 145 y = 4611686018427387904) → jt (jxX E d 35 2 [some (.inr (.inr (.inl 141))), some (.inl y1), some (.inl y2)] [] (jxSH, a0, b)) (jQ_X1_findBestWays x1 a0 b0)) := by
  refine jx_ind fun n ih => ?_
  have ih2 : ∀ (y1 y2 : Int) (b : Nat → Nat → Int), (((1400 - y2) * 1) + 0).toNat < n → 1 ≤ y2 → y2 ≤ 1400 → (y1 = x1) → 1 ≤ y2 → (∀ y : Nat, 1 ≤ y → (y : Int) < y2 → b 145 y = 4611686018427387904) → jt (jxX E d 35 2 [some (.inr (.inr (.inl 141))), some (.inl y1), some (.inl y2)] [] (jxSH, a0, b)) (jQ_X1_findBestWays x1 a0 b0) := fun y1 y2 b hlt i0 i1 i2 i3 i4 => (ih _ hlt) y1 y2 b (Nat.le_refl _) i0 i1 i2 i3 i4
  have hc2 : ∀ (y1 y2 : Int) (b : Nat → Nat → Int), (((1400 - y2) * 1) + 0).toNat ≤ n → 1 ≤ y2 → y2 ≤ 1400 → (y1 = x1) → 1 ≤ y2 → (∀ y : Nat, 1 ≤ y → (y : Int) < y2 → b 145 y = 4611686018427387904) → jt (jxX E d 35 2 [some (.inr (.inr (.inl 141))), some (.inl y1), some (.inl y2)] [] (jxSH, a0, b)) (jQ_X1_findBestWays x1 a0 b0) := by
    intro y1 y2 b hm hi0 hi1 hy1 hi3 hz
    refine jt_eq (bq_X1_findBestWays_2 E d y1 y2 a0 b) ?_
    refine jt_ite (fun c2155_ => ?_) (fun c2155_ => ?_)
    ·
      exact cp_X1_findBestWays_29 E d hd x1 a0 b0 hv0 y1 b (by first | rfl | assumption) (fun y h1 h2 h3 => hz y h1 (by omega))
    ·
      refine jt_ite (fun c2156_ => ?_) (fun c2156_ => ?_)
      ·
        refine jt_grd (by omega) ?_
        have h2157_ : jxw (y2 + 1) = y2 + 1 := jxw_id (by omega) (by omega)
        exact ih2 y1 (jxw (y2 + 1)) (jxu b 145 (y2.toNat) 4611686018427387904) (show (((1400 - (jxw (y2 + 1))) * 1) + 0).toNat < n from by omega) (show 1 ≤ jxw (y2 + 1) from by omega) (show jxw (y2 + 1) ≤ 1400 from by omega) (by first | rfl | assumption) (show 1 ≤ jxw (y2 + 1) from by omega) (fun y h1 h2 => by by_cases e : y = y2.toNat <;> first | (rw [e, jxu_at]) | (rw [jxu_nj e]; exact hz y h1 (by omega)))
      ·
        exact cp_X1_findBestWays_29 E d hd x1 a0 b0 hv0 y1 b (by first | rfl | assumption) (fun y h1 h2 h3 => hz y h1 (by omega))
  exact hc2
theorem sp_X1_findBestWays (E : jxE) (d : Nat) (hd : Nat.ble 4 d = true) (x1 : Int) (a0 b0 : Nat → Nat → Int) (hv0 : iv a0) : jt (jxC E d 35 [.inr (.inr (.inl 141)), .inl x1] (jxSH, a0, b0)) (jQ_X1_findBestWays x1 a0 b0) := by
  obtain ⟨d, rfl⟩ := jd_succ hd
  refine jt_eq (bq_X1_findBestWays E d x1 a0 b0) ?_
  exact (cp_X1_findBestWays_2 E d hd x1 a0 b0 hv0 _) x1 1 b0 (Nat.le_refl _) (show 1 ≤ 1 from by omega) (show 1 ≤ 1400 from by omega) (by first | rfl | assumption) (show 1 ≤ 1 from by omega) (fun y h1 h2 => absurd h1 (by omega))
def jW_X1_takeOut : List (Nat × Nat) := [(143, 9999), (144, 9999)]
abbrev jQ_X1_takeOut (x1 : Int) (a0 b0 : Nat → Nat → Int) : List jxV → (Nat → Nat → Int) → (Nat → Nat → Int) → Prop := rV (fun a b => (iv a) ∧ (jfr jW_X1_takeOut a0 a) ∧ (b0 = b) ∧ (∀ n : Nat → Nat, (∀ i, n i ≤ 50) → x1 = SCOD n → (∀ i, i < 8 → (n i : Int) ≤ a0 143 i ∧ a0 143 i ≤ 50) → ∀ k : Nat, k < 8 → a 144 k = (n k : Int) ∧ a 143 k = a0 143 k - (n k : Int)))
theorem cp_X1_takeOut_22 (E : jxE) (d : Nat) (hd : Nat.ble 2 (d + 1) = true) (x1 : Int) (a0 b0 : Nat → Nat → Int) (hv0 : iv a0) : ∀ n : Nat, (∀ (y5 y7 : Int) (a : Nat → Nat → Int), (((8 - y7) * 1) + 0).toNat ≤ n → iv a → jfr jW_X1_takeOut a0 a → 0 ≤ y7 → y7 ≤ 7 → (∀ n : Nat → Nat, (∀ i, n i ≤ 50) → x1 = SCOD n → y5 = ORD 8 n) → 0 ≤ y7 → y7 < 8 → (∀ n : Nat → Nat, (∀ i, n i ≤ 50) → x1 = SCOD n → (∀ i, i < 8 → (n i : Int) ≤ a0 143 i ∧ a0 143 i ≤ 50) → ∀ k : Nat, (k : Int) < y7 → a 144 k = (n k : Int) ∧ a 143 k = a0 143 k - (n k : Int)) → (∀ k : Nat, y7 ≤ (k : Int) → a 143 k = a0 143 k) → (∀ n : Nat → Nat, (∀ i, n i ≤ 50) → x1 = SCOD n → (∀ i, i < 8 → (n i : Int) ≤ a0 143 i ∧ a0 143 i ≤ 50) → a 144 y7.toNat = (n y7.toNat : Int)) → jt (jxX E d 38 48 [some (.inr (.inr (.inl 141))), none, none, none, none, some (.inr (.inl y5)), none, some (.inl y7)] [] (jxSH, a, b0)) (jQ_X1_takeOut x1 a0 b0)) ∧ (∀ (y5 y7 : Int) (a : Nat → Nat → Int), (((8 - y7) * 1) + 0).toNat ≤ n → iv a → jfr jW_X1_takeOut a0 a → 0 ≤ y7 → y7 ≤ 8 → (∀ n : Nat → Nat, (∀ i, n i ≤ 50) → x1 = SCOD n → y5 = ORD 8 n) → 0 ≤ y7 → y7 ≤ 8 → (∀ n : Nat → Nat, (∀ i, n i ≤ 50) → x1 = SCOD n → (∀ i, i < 8 → (n i : Int) ≤ a0 143 i ∧ a0 143 i ≤ 50) → ∀ k : Nat, (k : Int) < y7 → a 144 k = (n k : Int) ∧ a 143 k = a0 143 k - (n k : Int)) → (∀ k : Nat, y7 ≤ (k : Int) → a 143 k = a0 143 k) → jt (jxX E d 38 22 [some (.inr (.inr (.inl 141))), none, none, none, none, some (.inr (.inl y5)), none, some (.inl y7)] [] (jxSH, a, b0)) (jQ_X1_takeOut x1 a0 b0)) := by
  refine jx_ind fun n ih => ?_
  have ih48 : ∀ (y5 y7 : Int) (a : Nat → Nat → Int), (((8 - y7) * 1) + 0).toNat < n → iv a → jfr jW_X1_takeOut a0 a → 0 ≤ y7 → y7 ≤ 7 → (∀ n : Nat → Nat, (∀ i, n i ≤ 50) → x1 = SCOD n → y5 = ORD 8 n) → 0 ≤ y7 → y7 < 8 → (∀ n : Nat → Nat, (∀ i, n i ≤ 50) → x1 = SCOD n → (∀ i, i < 8 → (n i : Int) ≤ a0 143 i ∧ a0 143 i ≤ 50) → ∀ k : Nat, (k : Int) < y7 → a 144 k = (n k : Int) ∧ a 143 k = a0 143 k - (n k : Int)) → (∀ k : Nat, y7 ≤ (k : Int) → a 143 k = a0 143 k) → (∀ n : Nat → Nat, (∀ i, n i ≤ 50) → x1 = SCOD n → (∀ i, i < 8 → (n i : Int) ≤ a0 143 i ∧ a0 143 i ≤ 50) → a 144 y7.toNat = (n y7.toNat : Int)) → jt (jxX E d 38 48 [some (.inr (.inr (.inl 141))), none, none, none, none, some (.inr (.inl y5)), none, some (.inl y7)] [] (jxSH, a, b0)) (jQ_X1_takeOut x1 a0 b0) := fun y5 y7 a hlt i0 i1 i2 i3 i4 i5 i6 i7 i8 i9 => (ih _ hlt).1 y5 y7 a (Nat.le_refl _) i0 i1 i2 i3 i4 i5 i6 i7 i8 i9
  have ih22 : ∀ (y5 y7 : Int) (a : Nat → Nat → Int), (((8 - y7) * 1) + 0).toNat < n → iv a → jfr jW_X1_takeOut a0 a → 0 ≤ y7 → y7 ≤ 8 → (∀ n : Nat → Nat, (∀ i, n i ≤ 50) → x1 = SCOD n → y5 = ORD 8 n) → 0 ≤ y7 → y7 ≤ 8 → (∀ n : Nat → Nat, (∀ i, n i ≤ 50) → x1 = SCOD n → (∀ i, i < 8 → (n i : Int) ≤ a0 143 i ∧ a0 143 i ≤ 50) → ∀ k : Nat, (k : Int) < y7 → a 144 k = (n k : Int) ∧ a 143 k = a0 143 k - (n k : Int)) → (∀ k : Nat, y7 ≤ (k : Int) → a 143 k = a0 143 k) → jt (jxX E d 38 22 [some (.inr (.inr (.inl 141))), none, none, none, none, some (.inr (.inl y5)), none, some (.inl y7)] [] (jxSH, a, b0)) (jQ_X1_takeOut x1 a0 b0) := fun y5 y7 a hlt i0 i1 i2 i3 i4 i5 i6 i7 i8 => (ih _ hlt).2 y5 y7 a (Nat.le_refl _) i0 i1 i2 i3 i4 i5 i6 i7 i8
  have hc48 : ∀ (y5 y7 : Int) (a : Nat → Nat → Int), (((8 - y7) * 1) + 0).toNat ≤ n → iv a → jfr jW_X1_takeOut a0 a → 0 ≤ y7 → y7 ≤ 7 → (∀ n : Nat → Nat, (∀ i, n i ≤ 50) → x1 = SCOD n → y5 = ORD 8 n) → 0 ≤ y7 → y7 < 8 → (∀ n : Nat → Nat, (∀ i, n i ≤ 50) → x1 = SCOD n → (∀ i, i < 8 → (n i : Int) ≤ a0 143 i ∧ a0 143 i ≤ 50) → ∀ k : Nat, (k : Int) < y7 → a 144 k = (n k : Int) ∧ a 143 k = a0 143 k - (n k : Int)) → (∀ k : Nat, y7 ≤ (k : Int) → a 143 k = a0 143 k) → (∀ n : Nat → Nat, (∀ i, n i ≤ 50) → x1 = SCOD n → (∀ i, i < 8 → (n i : Int) ≤ a0 143 i ∧ a0 143 i ≤ 50) → a 144 y7.toNat = (n y7.toNat : Int)) → jt (jxX E d 38 48 [some (.inr (.inr (.inl 141))), none, none, none, none, some (.inr (.inl y5)), none, some (.inl y7)] [] (jxSH, a, b0)) (jQ_X1_takeOut x1 a0 b0) := by
    intro y5 y7 a hm hv hf hi0 hi1 ho hi3 hi4 ht hr hn
    refine jt_eq (bq_X1_takeOut_48 E d y5 y7 a b0) ?_
    refine jt_grd (by omega) ?_
    refine jt_grd (by omega) ?_
    refine jt_grd (by omega) ?_
    have hv2158_ : iv (jxu a 143 (y7.toNat) (jxw ((a 143 (y7.toNat)) - (a 144 (y7.toNat))))) := iv_putf hv rfl
    have hf2159_ : jfr jW_X1_takeOut a0 (jxu a 143 (y7.toNat) (jxw ((a 143 (y7.toNat)) - (a 144 (y7.toNat))))) := jfr_put hf rfl
    have h2160_ : jxw (y7 + 1) = y7 + 1 := jxw_id (by omega) (by omega)
    exact ih22 y5 (jxw (y7 + 1)) (jxu a 143 (y7.toNat) (jxw ((a 143 (y7.toNat)) - (a 144 (y7.toNat))))) (show (((8 - (jxw (y7 + 1))) * 1) + 0).toNat < n from by omega) hv2158_ hf2159_ (show 0 ≤ jxw (y7 + 1) from by omega) (show jxw (y7 + 1) ≤ 8 from by omega) ho (show 0 ≤ jxw (y7 + 1) from by omega) (show jxw (y7 + 1) ≤ 8 from by omega) (fun n h e h2 k hk => by have z := h2 k (by omega); have p0 : 0 ≤ (n k : Int) := Int.natCast_nonneg _; have e7 : jxw (y7 + 1) = y7 + 1 := (by omega); rcases Int.lt_or_le (k : Int) y7 with g | g <;> first | (have w := ht n h e h2 k g; rw [jxu_nk (show ¬ 144 = 143 by decide), jxu_nj (show ¬ k = y7.toNat by omega)]; exact w) | (obtain rfl : k = y7.toNat := (by omega); have w1 := hn n h e h2; have w2 := hr y7.toNat (by omega); rw [jxu_nk (show ¬ 144 = 143 by decide), jxu_at, w1, w2]; exact ⟨rfl, jxw_id (by omega) (by omega)⟩)) (fun k hk => by rw [jxu_nj (by omega)]; exact hr k (by omega))
  have hc22 : ∀ (y5 y7 : Int) (a : Nat → Nat → Int), (((8 - y7) * 1) + 0).toNat ≤ n → iv a → jfr jW_X1_takeOut a0 a → 0 ≤ y7 → y7 ≤ 8 → (∀ n : Nat → Nat, (∀ i, n i ≤ 50) → x1 = SCOD n → y5 = ORD 8 n) → 0 ≤ y7 → y7 ≤ 8 → (∀ n : Nat → Nat, (∀ i, n i ≤ 50) → x1 = SCOD n → (∀ i, i < 8 → (n i : Int) ≤ a0 143 i ∧ a0 143 i ≤ 50) → ∀ k : Nat, (k : Int) < y7 → a 144 k = (n k : Int) ∧ a 143 k = a0 143 k - (n k : Int)) → (∀ k : Nat, y7 ≤ (k : Int) → a 143 k = a0 143 k) → jt (jxX E d 38 22 [some (.inr (.inr (.inl 141))), none, none, none, none, some (.inr (.inl y5)), none, some (.inl y7)] [] (jxSH, a, b0)) (jQ_X1_takeOut x1 a0 b0) := by
    intro y5 y7 a hm hv hf hi0 hi1 ho hi3 hi4 ht hr
    refine jt_eq (bq_X1_takeOut_22 E d y5 y7 a b0) ?_
    refine jt_ite (fun c2161_ => ?_) (fun c2161_ => ?_)
    ·
      refine jt_eI (eq_X1_shiftOf E d (jd_le hd rfl) y7 a b0) ?_
      refine jt_grd (by omega) ?_
      have hv2162_ : iv (jxu a 144 (y7.toNat) (jxand (jxw (jxshrl y5 (f_X1_shiftOf a b0 y7))) 63)) := iv_putf hv rfl
      have hf2163_ : jfr jW_X1_takeOut a0 (jxu a 144 (y7.toNat) (jxand (jxw (jxshrl y5 (f_X1_shiftOf a b0 y7))) 63)) := jfr_put hf rfl
      exact hc48 y5 y7 (jxu a 144 (y7.toNat) (jxand (jxw (jxshrl y5 (f_X1_shiftOf a b0 y7))) 63)) (show (((8 - y7) * 1) + 0).toNat ≤ n from by omega) hv2162_ hf2163_ (show 0 ≤ y7 from by omega) (show y7 ≤ 7 from by omega) ho (show 0 ≤ y7 from by omega) (show y7 < 8 from by omega) (fun n h e h2 k hk => by rw [jxu_nj (show ¬ k = y7.toNat by omega), jxu_nk (show ¬ 143 = 144 by decide)]; exact ht n h e h2 k hk) (fun k hk => by rw [jxu_nk (show ¬ 143 = 144 by decide)]; exact hr k hk) (fun n h e h2 => by rw [jxu_at, ho n h e]; have q := code_dig (q := n) (i := y7.toNat) h (by omega); rw [Int.toNat_of_nonneg (show 0 ≤ y7 by omega)] at q; exact q)
    ·
      exact jt_rV ⟨hv, hf, rfl, (fun n h e h2 k hk => ht n h e h2 k (by omega))⟩
  exact ⟨hc48, hc22⟩
theorem cp_X1_takeOut_19 (E : jxE) (d : Nat) (hd : Nat.ble 2 (d + 1) = true) (x1 : Int) (a0 b0 : Nat → Nat → Int) (hv0 : iv a0) : ∀ (y5 : Int) (a : Nat → Nat → Int), iv a → jfr jW_X1_takeOut a0 a → (∀ n : Nat → Nat, (∀ i, n i ≤ 50) → x1 = SCOD n → y5 = ORD 8 n) → (a = a0) → jt (jxX E d 38 19 [some (.inr (.inr (.inl 141))), none, none, none, none, some (.inr (.inl y5)), none, none] [] (jxSH, a, b0)) (jQ_X1_takeOut x1 a0 b0) := by
  intro y5 a hv hf ho hea
  refine jt_eq (bq_X1_takeOut_19 E d y5 a b0) ?_
  exact (cp_X1_takeOut_22 E d hd x1 a0 b0 hv0 _).2 y5 0 a (Nat.le_refl _) hv hf (show 0 ≤ 0 from by omega) (show 0 ≤ 8 from by omega) ho (show 0 ≤ 0 from by omega) (show 0 ≤ 8 from by omega) (fun n h e h2 k hk => absurd hk (by omega)) (fun k hk => by rw [hea])
theorem sp_X1_takeOut (E : jxE) (d : Nat) (hd : Nat.ble 2 d = true) (x1 : Int) (a0 b0 : Nat → Nat → Int) (hv0 : iv a0) : jt (jxC E d 38 [.inr (.inr (.inl 141)), .inr (.inl x1)] (jxSH, a0, b0)) (jQ_X1_takeOut x1 a0 b0) := by
  obtain ⟨d, rfl⟩ := jd_succ hd
  refine jt_eq (bq_X1_takeOut E d x1 a0 b0) ?_
  exact cp_X1_takeOut_19 E d hd x1 a0 b0 hv0 (jxwl ((jxshll (jxshrl (jxwl ((jxwl (x1 + 281474976710656)) - 1)) 48) 48) - x1)) a0 hv0 (jfr_rf _ _) (fun n h e => by rw [e]; exact SCOD_parts h) rfl
def jW_X1_payAtLeast : List (Nat × Nat) := [(143, 9999), (144, 9999)]
abbrev jQ_X1_payAtLeast (x1 : Int) (a0 b0 : Nat → Nat → Int) : List jxV → (Nat → Nat → Int) → (Nat → Nat → Int) → Prop := rI (fun r a b => (iv a) ∧ (jfr jW_X1_payAtLeast a0 a) ∧ (DRH (a0 142) (a0 143) → 1 ≤ x1 → x1 ≤ 900 → (r = -1 ∧ PAYX (cN (a0 143)) (a0 142) x1 ∧ a = a0) ∨ (0 ≤ r ∧ ∃ q : Nat → Nat, PAYC (cN (a0 143)) (a0 142) x1 r q ∧ ∀ k : Nat, k < 8 → a 144 k = (q k : Int) ∧ a 143 k = a0 143 k - (q k : Int))))
theorem cp_X1_payAtLeast_54 (E : jxE) (d : Nat) (hd : Nat.ble 5 (d + 1) = true) (x1 : Int) (a0 b0 : Nat → Nat → Int) (hv0 : iv a0) : ∀ (y3 : Int) (a b : Nat → Nat → Int), iv a → jfr jW_X1_payAtLeast a0 a → 0 ≤ y3 → y3 ≤ 1399 → 0 ≤ y3 → (DRH (a0 142) (a0 143) → 1 ≤ x1 → x1 ≤ 900 → ∃ q : Nat → Nat, PAYC (cN (a0 143)) (a0 142) x1 y3 q ∧ ∀ k : Nat, k < 8 → a 144 k = (q k : Int) ∧ a 143 k = a0 143 k - (q k : Int)) → jt (jxX E d 33 54 [none, none, none, some (.inl y3)] [] (jxSH, a, b)) (jQ_X1_payAtLeast x1 a0 b0) := by
  intro y3 a b hv hf hi0 hi1 hi2 hp
  refine jt_eq (bq_X1_payAtLeast_54 E d y3 a b) ?_
  exact jt_rI ⟨hv, hf, (fun h h1 h2 => Or.inr ⟨by omega, hp h h1 h2⟩)⟩
theorem cp_X1_payAtLeast_26 (E : jxE) (d : Nat) (hd : Nat.ble 5 (d + 1) = true) (x1 : Int) (a0 b0 : Nat → Nat → Int) (hv0 : iv a0) : ∀ n : Nat, (∀ (y2 y3 : Int) (a b : Nat → Nat → Int), (((1400 - y3) * 1) + 0).toNat ≤ n → iv a → jfr jW_X1_payAtLeast a0 a → y2 ≤ 1399 → 0 ≤ y3 → (a = a0) → 0 ≤ y3 → (DRH (a0 142) (a0 143) → 1 ≤ x1 → x1 ≤ 900 → PLI (cN (a0 143)) (a0 142) (b 145) x1 y2 y3) → jt (jxX E d 33 26 [some (.inr (.inr (.inl 141))), none, some (.inl y2), some (.inl y3)] [] (jxSH, a, b)) (jQ_X1_payAtLeast x1 a0 b0)) := by
  refine jx_ind fun n ih => ?_
  have ih26 : ∀ (y2 y3 : Int) (a b : Nat → Nat → Int), (((1400 - y3) * 1) + 0).toNat < n → iv a → jfr jW_X1_payAtLeast a0 a → y2 ≤ 1399 → 0 ≤ y3 → (a = a0) → 0 ≤ y3 → (DRH (a0 142) (a0 143) → 1 ≤ x1 → x1 ≤ 900 → PLI (cN (a0 143)) (a0 142) (b 145) x1 y2 y3) → jt (jxX E d 33 26 [some (.inr (.inr (.inl 141))), none, some (.inl y2), some (.inl y3)] [] (jxSH, a, b)) (jQ_X1_payAtLeast x1 a0 b0) := fun y2 y3 a b hlt i0 i1 i2 i3 i4 i5 i6 => (ih _ hlt) y2 y3 a b (Nat.le_refl _) i0 i1 i2 i3 i4 i5 i6
  have hc26 : ∀ (y2 y3 : Int) (a b : Nat → Nat → Int), (((1400 - y3) * 1) + 0).toNat ≤ n → iv a → jfr jW_X1_payAtLeast a0 a → y2 ≤ 1399 → 0 ≤ y3 → (a = a0) → 0 ≤ y3 → (DRH (a0 142) (a0 143) → 1 ≤ x1 → x1 ≤ 900 → PLI (cN (a0 143)) (a0 142) (b 145) x1 y2 y3) → jt (jxX E d 33 26 [some (.inr (.inr (.inl 141))), none, some (.inl y2), some (.inl y3)] [] (jxSH, a, b)) (jQ_X1_payAtLeast x1 a0 b0) := by
    intro y2 y3 a b hm hv hf hi0 hi1 hea hi3 hp
    refine jt_eq (bq_X1_payAtLeast_26 E d y2 y3 a b) ?_
    refine jt_ite (fun c2164_ => ?_) (fun c2164_ => ?_)
    ·
      exact jt_rI ⟨hv, hf, (fun h h1 h2 => Or.inl ⟨rfl, PLI_end h1 (DRH_c h).2 (hp h h1 h2) (by omega), hea⟩)⟩
    ·
      refine jt_grd (by omega) ?_
      have h2165_ := jxlcmp_b (b 145 (y3.toNat)) 4611686018427387904
      refine jt_ite (fun c2166_ => ?_) (fun c2166_ => ?_)
      ·
        have h2167_ : jxw (y3 + 1) = y3 + 1 := jxw_id (by omega) (by omega)
        exact ih26 y2 (jxw (y3 + 1)) a b (show (((1400 - (jxw (y3 + 1))) * 1) + 0).toNat < n from by omega) hv hf (show y2 ≤ 1399 from by omega) (show 0 ≤ jxw (y3 + 1) from by omega) (by first | rfl | assumption) (show 0 ≤ jxw (y3 + 1) from by omega) (fun h h1 h2 => by have p := hp h h1 h2; rw [show jxw (y3 + 1) = y3 + 1 from by omega]; exact PLI_on h1 p (by omega) (by have q := jxlcmp_b (b 145 (y3.toNat)) 4611686018427387904; show b 145 _ = 4611686018427387904; omega))
      ·
        refine jt_grd (by omega) ?_
        refine jt_bV (sp_X1_takeOut E d (jd_le hd rfl) (b 145 (y3.toNat)) a b hv) (fun a2168_ b2168_ h2168_ => ?_)
        obtain ⟨hv2168_, hf2168_, rfl, hq2168_0⟩ := h2168_
        have hf2169_ : jfr jW_X1_payAtLeast a0 a2168_ := jfr_tr hf hf2168_ rfl
        exact cp_X1_payAtLeast_54 E d hd x1 a0 b0 hv0 y3 a2168_ b hv2168_ hf2169_ (show 0 ≤ y3 from by omega) (show y3 ≤ 1399 from by omega) (show 0 ≤ y3 from by omega) (fun h h1 h2 => by have p := hp h h1 h2; have c := DRH_c h; obtain ⟨q, q1, q2⟩ := PLI_hit h1 c.1 p (by omega) (by have z := jxlcmp_b (b 145 (y3.toNat)) 4611686018427387904; show ¬ b 145 _ = 4611686018427387904; omega); have t := hq2168_0 q q1.2.2.2.2.1 q2 (fun i hi => by have w := q1.2.2.2.1.1 i hi; have d := h i hi; unfold cN at w; rw [hea]; omega); rw [hea] at t; exact ⟨q, q1, t⟩)
  exact hc26
theorem sp_X1_payAtLeast (E : jxE) (d : Nat) (hd : Nat.ble 5 d = true) (x1 : Int) (a0 b0 : Nat → Nat → Int) (hv0 : iv a0) : jt (jxC E d 33 [.inr (.inr (.inl 141)), .inl x1] (jxSH, a0, b0)) (jQ_X1_payAtLeast x1 a0 b0) := by
  obtain ⟨d, rfl⟩ := jd_succ hd
  refine jt_eq (bq_X1_payAtLeast E d x1 a0 b0) ?_
  refine jt_bI (sp_X1_dearestStamp E d (jd_le hd rfl) a0 b0 hv0) (fun r2170_ a2170_ b2170_ h2170_ => ?_)
  obtain ⟨rfl, rfl, hq2170_0⟩ := h2170_
  refine jt_eI (eq_J9_min_7cf53 E d (jd_le hd rfl) (jxw ((jxw (x1 + r2170_)) - 1)) 1399 a0 b0) ?_
  refine jt_bV (sp_X1_findBestWays E d (jd_le hd rfl) (f_J9_min_7cf53 a0 b0 (jxw ((jxw (x1 + r2170_)) - 1)) 1399) a0 b0 hv0) (fun a2171_ b2171_ h2171_ => ?_)
  obtain ⟨rfl, hq2171_0⟩ := h2171_
  refine jt_eI (eq_J9_max_7cf53 E d (jd_le hd rfl) x1 0 a0 b2171_) ?_
  have h2172_ := jxw_im (x1 + r2170_)
  have h2173_ := jxw_rg (x1 + r2170_)
  have h2174_ := jxw_im ((jxw (x1 + r2170_)) - 1)
  have h2175_ := jxw_rg ((jxw (x1 + r2170_)) - 1)
  have h2176_ := f_J9_min_7cf53_eq a0 b0 (jxw ((jxw (x1 + r2170_)) - 1)) 1399
  have h2177_ := f_J9_max_7cf53_eq a0 b2171_ x1 0
  exact (cp_X1_payAtLeast_26 E d hd x1 a0 b0 hv0 _) (f_J9_min_7cf53 a0 b0 (jxw ((jxw (x1 + r2170_)) - 1)) 1399) (f_J9_max_7cf53 a0 b2171_ x1 0) a0 b2171_ (Nat.le_refl _) hv0 (jfr_rf _ _) (show f_J9_min_7cf53 a0 b0 (jxw ((jxw (x1 + r2170_)) - 1)) 1399 ≤ 1399 from by omega) (show 0 ≤ f_J9_max_7cf53 a0 b2171_ x1 0 from by omega) (by first | rfl | assumption) (show 0 ≤ f_J9_max_7cf53 a0 b2171_ x1 0 from by omega) (fun h h1 h2 => by have q := hq2170_0 h; have f := hq2171_0 h (by omega); have ec : ∀ i, i < 8 → 0 < cN (a0 143) i → a0 142 i ≤ r2170_ := (fun i hi hp => q.2.2 i hi (by unfold cN at hp; omega)); exact ⟨by omega, f, ⟨r2170_, q.1, ec, by omega, by omega⟩, fun s s1 s2 => absurd s1 (by omega)⟩)
def jW_X11_pay : List (Nat × Nat) := [(143, 9999), (144, 9999)]
abbrev jQ_X11_pay (x1 x2 : Int) (a0 b0 : Nat → Nat → Int) : List jxV → (Nat → Nat → Int) → (Nat → Nat → Int) → Prop := rI (fun r a b => (iv a) ∧ (jfr jW_X11_pay a0 a) ∧ ((a0 58 8 = 0 → r = 0 - 1)) ∧ ((0 ≤ x1 ∧ x1 < a0 58 8 ∧ 1 ≤ x2 ∧ x2 ≤ 500) → (0 ≤ (f_X3_landOf a0 b0 (f_X0_fromOf a0 b0 x1)) ∧ (f_X3_landOf a0 b0 (f_X0_fromOf a0 b0 x1)) ≤ 15) → (0 ≤ (f_X3_landOf a0 b0 (f_X0_toOf a0 b0 x1)) ∧ (f_X3_landOf a0 b0 (f_X0_toOf a0 b0 x1)) ≤ 15) → PAO a0 a (PR1 a0 (ZN (f_X3_landOf a0 b0 (f_X0_fromOf a0 b0 x1)) (f_X3_landOf a0 b0 (f_X0_toOf a0 b0 x1)) (a0 1 (16 * (f_X3_landOf a0 b0 (f_X0_fromOf a0 b0 x1)) + (f_X3_landOf a0 b0 (f_X0_toOf a0 b0 x1))).toNat)) x2 (a0 0 0)) r) ∧ (¬ (0 ≤ x1 ∧ x1 < a0 58 8 ∧ 1 ≤ x2 ∧ x2 ≤ 500) → r = -1 ∧ a = a0))
theorem cp_X11_pay_78 (E : jxE) (d : Nat) (hd : Nat.ble 6 (d + 1) = true) (x1 x2 : Int) (a0 b0 : Nat → Nat → Int) (hv0 : iv a0) : ∀ (y5 : Int) (a b : Nat → Nat → Int), iv a → jfr jW_X11_pay a0 a → 0 ≤ x1 → x1 < a0 58 8 → 1 ≤ x2 → x2 ≤ 500 → (a = a0) → ((0 ≤ (f_X3_landOf a0 b0 (f_X0_fromOf a0 b0 x1)) ∧ (f_X3_landOf a0 b0 (f_X0_fromOf a0 b0 x1)) ≤ 15) → (0 ≤ (f_X3_landOf a0 b0 (f_X0_toOf a0 b0 x1)) ∧ (f_X3_landOf a0 b0 (f_X0_toOf a0 b0 x1)) ≤ 15) → ((y5 = -1 ∧ (PR1 a0 (ZN (f_X3_landOf a0 b0 (f_X0_fromOf a0 b0 x1)) (f_X3_landOf a0 b0 (f_X0_toOf a0 b0 x1)) (a0 1 (16 * (f_X3_landOf a0 b0 (f_X0_fromOf a0 b0 x1)) + (f_X3_landOf a0 b0 (f_X0_toOf a0 b0 x1))).toNat)) x2 (a0 0 0)) = -2) ∨ (0 ≤ y5 ∧ (PR1 a0 (ZN (f_X3_landOf a0 b0 (f_X0_fromOf a0 b0 x1)) (f_X3_landOf a0 b0 (f_X0_toOf a0 b0 x1)) (a0 1 (16 * (f_X3_landOf a0 b0 (f_X0_fromOf a0 b0 x1)) + (f_X3_landOf a0 b0 (f_X0_toOf a0 b0 x1))).toNat)) x2 (a0 0 0)) = y5))) → 1 ≤ a0 58 8 → jt (jxX E d 194 78 [some (.inr (.inr (.inl 0))), none, none, none, none, some (.inl y5), none] [] (jxSH, a, b)) (jQ_X11_pay x1 x2 a0 b0) := by
  intro y5 a b hv hf hi0 hi1 hi2 hi3 hea hp5 hi6
  refine jt_eq (bq_X11_pay_78 E d y5 a b) ?_
  have h2178_ := iv_get hv0 (k := 58) (j := 8) (l := 0) (u := 300) rfl
  refine jt_ite (fun c2179_ => ?_) (fun c2179_ => ?_)
  ·
    exact jt_rI ⟨hv, hf, (show (a0 58 8 = 0 → (-2) = 0 - 1) from by omega), (fun _ h1 h2 => Or.inl (by rcases hp5 h1 h2 with z | z <;> first | exact ⟨z.2, rfl, hea⟩ | (exfalso; omega))), (fun h => absurd ⟨by omega, by omega, by omega, by omega⟩ h)⟩
  ·
    refine jt_bI (sp_X1_payAtLeast E d (jd_le hd rfl) y5 a b hv) (fun r2180_ a2180_ b2180_ h2180_ => ?_)
    obtain ⟨hv2180_, hf2180_, hq2180_0⟩ := h2180_
    refine jt_ite (fun c2181_ => ?_) (fun c2181_ => ?_)
    ·
      have hf2182_ : jfr jW_X11_pay a0 a2180_ := jfr_tr hf hf2180_ rfl
      exact jt_rI ⟨hv2180_, hf2182_, (show (a0 58 8 = 0 → (-3) = 0 - 1) from by omega), (fun _ h1 h2 => by rcases hp5 h1 h2 with z | z <;> first | (exfalso; omega) | (rw [z.2]; refine Or.inr ⟨by omega, fun d p1 p2 => ?_⟩; have q := hq2180_0; rw [hea] at q; rcases q d p1 p2 with w | w <;> first | (have w1 := w.1; first | (exfalso; omega) | exact Or.inl ⟨rfl, w.2.1, w.2.2⟩) | (have w1 := w.1; first | (exfalso; omega) | exact Or.inr w))), (fun h => absurd ⟨by omega, by omega, by omega, by omega⟩ h)⟩
    ·
      have hf2183_ : jfr jW_X11_pay a0 a2180_ := jfr_tr hf hf2180_ rfl
      exact jt_rI ⟨hv2180_, hf2183_, (show (a0 58 8 = 0 → r2180_ = 0 - 1) from by omega), (fun _ h1 h2 => by rcases hp5 h1 h2 with z | z <;> first | (exfalso; omega) | (rw [z.2]; refine Or.inr ⟨by omega, fun d p1 p2 => ?_⟩; have q := hq2180_0; rw [hea] at q; rcases q d p1 p2 with w | w <;> first | (have w1 := w.1; first | (exfalso; omega) | exact Or.inl ⟨rfl, w.2.1, w.2.2⟩) | (have w1 := w.1; first | (exfalso; omega) | exact Or.inr w))), (fun h => absurd ⟨by omega, by omega, by omega, by omega⟩ h)⟩
theorem cp_X11_pay_40 (E : jxE) (d : Nat) (hd : Nat.ble 6 (d + 1) = true) (x1 x2 : Int) (a0 b0 : Nat → Nat → Int) (hv0 : iv a0) : ∀ (y1 y2 y3 : Int) (a b : Nat → Nat → Int), iv a → jfr jW_X11_pay a0 a → 0 ≤ y1 → y1 ≤ 299 → 1 ≤ y2 → y2 ≤ 500 → (y1 = x1) → (y2 = x2) → 0 ≤ x1 → x1 < a0 58 8 → 1 ≤ x2 → x2 ≤ 500 → (a = a0) → (b = b0) → (y3 = (f_X3_landOf a0 b0 (f_X0_fromOf a0 b0 x1))) → 1 ≤ a0 58 8 → jt (jxX E d 194 40 [some (.inr (.inr (.inl 0))), some (.inl y1), some (.inl y2), some (.inl y3), none, none, none] [] (jxSH, a, b)) (jQ_X11_pay x1 x2 a0 b0) := by
  intro y1 y2 y3 a b hv hf hi0 hi1 hi2 hi3 hy1 hy2 hi6 hi7 hi8 hi9 hea heb hy3 hi13
  refine jt_eq (bq_X11_pay_40 E d y1 y2 y3 a b) ?_
  have h2184_ := iv_get hv0 (k := 58) (j := 8) (l := 0) (u := 300) rfl
  refine jt_eI (eq_X0_toOf E d (jd_le hd rfl) y1 a b) ?_
  refine jt_eI (eq_X3_landOf E d (jd_le hd rfl) (f_X0_toOf a b y1) a b) ?_
  refine jt_eI (eq_X11_zone E d (jd_le hd rfl) y3 (f_X3_landOf a b (f_X0_toOf a b y1)) a b) ?_
  refine jt_bI (sp_X9_coinsFor E d (jd_le hd rfl) (f_X11_zone a b y3 (f_X3_landOf a b (f_X0_toOf a b y1))) y2 (a 0 0) a b hv) (fun r2185_ a2185_ b2185_ h2185_ => ?_)
  obtain ⟨rfl, rfl, hq2185_0, hq2185_1⟩ := h2185_
  have h2186_ := iv_get hv (k := 105) (j := 5) (l := 0) (u := 10) rfl
  have h2187_ : a 105 5 = a0 105 5 := hf 105 5 rfl
  have h2188_ := iv_get hv0 (k := 105) (j := 5) (l := 0) (u := 10) rfl
  exact cp_X11_pay_78 E d hd x1 x2 a0 b0 hv0 r2185_ a b hv hf (show 0 ≤ x1 from by omega) (show x1 < a0 58 8 from by omega) (show 1 ≤ x2 from by omega) (show x2 ≤ 500 from by omega) (by first | rfl | assumption) (fun h1 h2 => by have e := hq2185_1; rw [hy3, hy1, hy2, hea, heb, zn11 a0 b0 _ _ h1 h2] at e; exact PR1_of hv0 e) (show 1 ≤ a0 58 8 from by omega)
theorem sp_X11_pay (E : jxE) (d : Nat) (hd : Nat.ble 6 d = true) (x1 x2 : Int) (a0 b0 : Nat → Nat → Int) (hv0 : iv a0) : jt (jxC E d 194 [.inr (.inr (.inl 0)), .inl x1, .inl x2] (jxSH, a0, b0)) (jQ_X11_pay x1 x2 a0 b0) := by
  obtain ⟨d, rfl⟩ := jd_succ hd
  refine jt_eq (bq_X11_pay E d x1 x2 a0 b0) ?_
  refine jt_eI (eq_X0_has E d (jd_le hd rfl) x1 a0 b0) ?_
  have h2189_ := f_X0_has_eq a0 b0 x1
  have h2190_ := iv_get hv0 (k := 58) (j := 8) (l := 0) (u := 300) rfl
  refine jt_ite (fun c2191_ => ?_) (fun c2191_ => ?_)
  ·
    exact jt_rI ⟨hv0, (jfr_rf _ _), (show (a0 58 8 = 0 → (-1) = 0 - 1) from by omega), (fun h => absurd h (by omega)), (fun _ => ⟨rfl, rfl⟩)⟩
  ·
    refine jt_eI (eq_X11_within E d (jd_le hd rfl) x2 1 500 a0 b0) ?_
    have h2192_ := f_X11_within_eq a0 b0 x2 1 500
    refine jt_ite (fun c2193_ => ?_) (fun c2193_ => ?_)
    ·
      exact jt_rI ⟨hv0, (jfr_rf _ _), (show (a0 58 8 = 0 → (-1) = 0 - 1) from by omega), (fun h => absurd h (by omega)), (fun _ => ⟨rfl, rfl⟩)⟩
    ·
      refine jt_eI (eq_X0_fromOf E d (jd_le hd rfl) x1 a0 b0) ?_
      refine jt_eI (eq_X3_landOf E d (jd_le hd rfl) (f_X0_fromOf a0 b0 x1) a0 b0) ?_
      have h2194_ := f_X0_fromOf_eq a0 b0 x1
      have h2195_ := f_X11_entry_r59_eq a0 b0 (a0 58 8) x1
      have h2196_ := f_X3_landOf_eq a0 b0 (f_X0_fromOf a0 b0 x1)
      have h2197_ := iv_get hv0 (k := 4) (j := 6) (l := 0) (u := 40) rfl
      have h2198_ := f_X11_entry_r5_eq a0 b0 (a0 4 6) (f_X0_fromOf a0 b0 x1)
      exact cp_X11_pay_40 E d hd x1 x2 a0 b0 hv0 x1 x2 (f_X3_landOf a0 b0 (f_X0_fromOf a0 b0 x1)) a0 b0 hv0 (jfr_rf _ _) (show 0 ≤ x1 from by omega) (show x1 ≤ 299 from by omega) (show 1 ≤ x2 from by omega) (show x2 ≤ 500 from by omega) (by first | rfl | assumption) (by first | rfl | assumption) (show 0 ≤ x1 from by omega) (show x1 < a0 58 8 from by omega) (show 1 ≤ x2 from by omega) (show x2 ≤ 500 from by omega) (by first | rfl | assumption) (by first | rfl | assumption) (by first | rfl | assumption) (show 1 ≤ a0 58 8 from by omega)
