abbrev jQ_X12_deep (a0 b0 : Nat → Nat → Int) : List jxV → (Nat → Nat → Int) → (Nat → Nat → Int) → Prop := rI (fun r a b => (a0 = a) ∧ (b0 = b) ∧ (r = jdp (a0 169) (a0 146 35).toNat))
theorem cp_X12_deep_4 (E : jxE) (d : Nat) (hd : Nat.ble 1 (d + 1) = true) (a0 b0 : Nat → Nat → Int) (hv0 : iv a0) : ∀ n : Nat, (∀ (y1 y2 : Int), (((64 - y2) * 1) + 0).toNat ≤ n → 0 ≤ y1 → y1 ≤ 65 → 0 ≤ y2 → y2 ≤ 63 → y1 ≤ y2 + 1 → y2 < a0 146 35 → (y1 = jdp (a0 169) (y2.toNat + 1)) → jt (jxX E d 219 41 [some (.inr (.inr (.inl 146))), some (.inl y1), some (.inl y2)] [] (jxSH, a0, b0)) (jQ_X12_deep a0 b0)) ∧ (∀ (y1 y2 : Int), (((64 - y2) * 1) + 0).toNat ≤ n → 0 ≤ y1 → y1 ≤ 64 → 0 ≤ y2 → y2 ≤ 64 → y1 ≤ y2 → y2 ≤ a0 146 35 → (y1 = jdp (a0 169) y2.toNat) → jt (jxX E d 219 4 [some (.inr (.inr (.inl 146))), some (.inl y1), some (.inl y2)] [] (jxSH, a0, b0)) (jQ_X12_deep a0 b0)) := by
  refine jx_ind fun n ih => ?_
  have ih41 : ∀ (y1 y2 : Int), (((64 - y2) * 1) + 0).toNat < n → 0 ≤ y1 → y1 ≤ 65 → 0 ≤ y2 → y2 ≤ 63 → y1 ≤ y2 + 1 → y2 < a0 146 35 → (y1 = jdp (a0 169) (y2.toNat + 1)) → jt (jxX E d 219 41 [some (.inr (.inr (.inl 146))), some (.inl y1), some (.inl y2)] [] (jxSH, a0, b0)) (jQ_X12_deep a0 b0) := fun y1 y2 hlt i0 i1 i2 i3 i4 i5 i6 => (ih _ hlt).1 y1 y2 (Nat.le_refl _) i0 i1 i2 i3 i4 i5 i6
  have ih4 : ∀ (y1 y2 : Int), (((64 - y2) * 1) + 0).toNat < n → 0 ≤ y1 → y1 ≤ 64 → 0 ≤ y2 → y2 ≤ 64 → y1 ≤ y2 → y2 ≤ a0 146 35 → (y1 = jdp (a0 169) y2.toNat) → jt (jxX E d 219 4 [some (.inr (.inr (.inl 146))), some (.inl y1), some (.inl y2)] [] (jxSH, a0, b0)) (jQ_X12_deep a0 b0) := fun y1 y2 hlt i0 i1 i2 i3 i4 i5 i6 => (ih _ hlt).2 y1 y2 (Nat.le_refl _) i0 i1 i2 i3 i4 i5 i6
  have hc41 : ∀ (y1 y2 : Int), (((64 - y2) * 1) + 0).toNat ≤ n → 0 ≤ y1 → y1 ≤ 65 → 0 ≤ y2 → y2 ≤ 63 → y1 ≤ y2 + 1 → y2 < a0 146 35 → (y1 = jdp (a0 169) (y2.toNat + 1)) → jt (jxX E d 219 41 [some (.inr (.inr (.inl 146))), some (.inl y1), some (.inl y2)] [] (jxSH, a0, b0)) (jQ_X12_deep a0 b0) := by
    intro y1 y2 hm hi0 hi1 hi2 hi3 hi4 hi5 hi6
    refine jt_eq (bq_X12_deep_41 E d y1 y2 a0 b0) ?_
    have h1_ := iv_get hv0 (k := 146) (j := 35) (l := 0) (u := 64) rfl
    have h2_ : jxw (y2 + 1) = y2 + 1 := jxw_id (by omega) (by omega)
    exact ih4 y1 (jxw (y2 + 1)) (show (((64 - (jxw (y2 + 1))) * 1) + 0).toNat < n from by omega) (show 0 ≤ y1 from by omega) (show y1 ≤ 64 from by omega) (show 0 ≤ jxw (y2 + 1) from by omega) (show jxw (y2 + 1) ≤ 64 from by omega) (show y1 ≤ jxw (y2 + 1) from by omega) (show jxw (y2 + 1) ≤ a0 146 35 from by omega) (by first | rfl | (rw [show (jxw (y2 + 1)).toNat = y2.toNat + 1 from (by omega)]; assumption))
  have hc4 : ∀ (y1 y2 : Int), (((64 - y2) * 1) + 0).toNat ≤ n → 0 ≤ y1 → y1 ≤ 64 → 0 ≤ y2 → y2 ≤ 64 → y1 ≤ y2 → y2 ≤ a0 146 35 → (y1 = jdp (a0 169) y2.toNat) → jt (jxX E d 219 4 [some (.inr (.inr (.inl 146))), some (.inl y1), some (.inl y2)] [] (jxSH, a0, b0)) (jQ_X12_deep a0 b0) := by
    intro y1 y2 hm hi0 hi1 hi2 hi3 hi4 hi5 hi6
    refine jt_eq (bq_X12_deep_4 E d y1 y2 a0 b0) ?_
    have h3_ := iv_get hv0 (k := 146) (j := 35) (l := 0) (u := 64) rfl
    have hd : jdp (a0 169) (y2.toNat + 1) = jdp (a0 169) y2.toNat + (if a0 169 (y2.toNat) = 2 ∨ a0 169 (y2.toNat) = 100 then 1 else 0) := rfl
    refine jt_ite (fun c4_ => ?_) (fun c4_ => ?_)
    ·
      refine jt_grd (by omega) ?_
      have h5_ := iv_get hv0 (k := 169) (j := y2.toNat) (l := 0) (u := 100) rfl
      refine jt_ite (fun c6_ => ?_) (fun c6_ => ?_)
      ·
        have h7_ : jxw (y1 + 1) = y1 + 1 := jxw_id (by omega) (by omega)
        exact hc41 (jxw (y1 + 1)) y2 (show (((64 - y2) * 1) + 0).toNat ≤ n from by omega) (show 0 ≤ jxw (y1 + 1) from by omega) (show jxw (y1 + 1) ≤ 65 from by omega) (show 0 ≤ y2 from by omega) (show y2 ≤ 63 from by omega) (show jxw (y1 + 1) ≤ y2 + 1 from by omega) (show y2 < a0 146 35 from by omega) (by rw [hd]; omega)
      ·
        refine jt_grd (by omega) ?_
        refine jt_ite (fun c8_ => ?_) (fun c8_ => ?_)
        ·
          have h9_ : jxw (y1 + 1) = y1 + 1 := jxw_id (by omega) (by omega)
          exact hc41 (jxw (y1 + 1)) y2 (show (((64 - y2) * 1) + 0).toNat ≤ n from by omega) (show 0 ≤ jxw (y1 + 1) from by omega) (show jxw (y1 + 1) ≤ 65 from by omega) (show 0 ≤ y2 from by omega) (show y2 ≤ 63 from by omega) (show jxw (y1 + 1) ≤ y2 + 1 from by omega) (show y2 < a0 146 35 from by omega) (by rw [hd]; omega)
        ·
          have h10_ : jxw (y1 + 0) = y1 + 0 := jxw_id (by omega) (by omega)
          exact hc41 (jxw (y1 + 0)) y2 (show (((64 - y2) * 1) + 0).toNat ≤ n from by omega) (show 0 ≤ jxw (y1 + 0) from by omega) (show jxw (y1 + 0) ≤ 65 from by omega) (show 0 ≤ y2 from by omega) (show y2 ≤ 63 from by omega) (show jxw (y1 + 0) ≤ y2 + 1 from by omega) (show y2 < a0 146 35 from by omega) (by rw [hd]; omega)
    ·
      exact jt_rI ⟨rfl, rfl, (by rw [show (a0 146 35).toNat = y2.toNat from (by omega)]; assumption)⟩
  exact ⟨hc41, hc4⟩
theorem sp_X12_deep (E : jxE) (d : Nat) (hd : Nat.ble 1 d = true) (a0 b0 : Nat → Nat → Int) (hv0 : iv a0) : jt (jxC E d 219 [.inr (.inr (.inl 146))] (jxSH, a0, b0)) (jQ_X12_deep a0 b0) := by
  obtain ⟨d, rfl⟩ := jd_succ hd
  refine jt_eq (bq_X12_deep E d a0 b0) ?_
  have h11_ := iv_get hv0 (k := 146) (j := 35) (l := 0) (u := 64) rfl
  exact (cp_X12_deep_4 E d hd a0 b0 hv0 _).2 0 0 (Nat.le_refl _) (show 0 ≤ 0 from by omega) (show 0 ≤ 64 from by omega) (show 0 ≤ 0 from by omega) (show 0 ≤ 64 from by omega) (show 0 ≤ 0 from by omega) (show 0 ≤ a0 146 35 from by omega) (by first | rfl | (rw [show (jxw (y2 + 1)).toNat = y2.toNat + 1 from (by omega)]; assumption))
def jW_X12_closesDown : List (Nat × Nat) := [(146, 32), (146, 35), (168, 9999)]
abbrev jQ_X12_closesDown (x1 : Int) (a0 b0 : Nat → Nat → Int) : List jxV → (Nat → Nat → Int) → (Nat → Nat → Int) → Prop := rV (fun a b => (iv a) ∧ (jfr jW_X12_closesDown a0 a) ∧ (b0 = b) ∧ (PS a 1) ∧ (a 146 35 = 0 ∨ a 169 ((jxw ((a 146 35) - 1)).toNat) = 100 ∨ a 169 ((jxw ((a 146 35) - 1)).toNat) < x1) ∧ (QC a0 a0 1 → (x1 = 1 ∨ (x1 = 0 ∧ ¬ TW (UB (a0 164)) (a0 146 22).toNat (SK (UB (a0 164)) (a0 146 22).toNat (a0 146 23).toNat) 1)) → QC a0 a 1))
theorem cp_X12_closesDown_66 (E : jxE) (d : Nat) (hd : Nat.ble 2 (d + 1) = true) (x1 : Int) (a0 b0 : Nat → Nat → Int) (hv0 : iv a0) (hp0 : PS a0 1) (hp1 : a0 146 23 ≤ 100) (hp2 : 0 ≤ x1) : ∀ (a : Nat → Nat → Int), iv a → jfr jW_X12_closesDown a0 a → (PS a 1) → (a 146 35 = 0 ∨ a 169 ((jxw ((a 146 35) - 1)).toNat) = 100 ∨ a 169 ((jxw ((a 146 35) - 1)).toNat) < x1) → (QC a0 a0 1 → (x1 = 1 ∨ (x1 = 0 ∧ ¬ TW (UB (a0 164)) (a0 146 22).toNat (SK (UB (a0 164)) (a0 146 22).toNat (a0 146 23).toNat) 1)) → QC a0 a 1) → jt (jxX E d 222 66 [none, none] [] (jxSH, a, b0)) (jQ_X12_closesDown x1 a0 b0) := by
  intro a hv hf hps htop hqc
  refine jt_eq (bq_X12_closesDown_66 E d a b0) ?_
  exact jt_rV ⟨hv, hf, rfl, (by assumption), (by first | assumption | (left; omega) | (right; left; assumption) | (right; right; omega)), hqc⟩
theorem cp_X12_closesDown_0 (E : jxE) (d : Nat) (hd : Nat.ble 2 (d + 1) = true) (x1 : Int) (a0 b0 : Nat → Nat → Int) (hv0 : iv a0) (hp0 : PS a0 1) (hp1 : a0 146 23 ≤ 100) (hp2 : 0 ≤ x1) : ∀ n : Nat, (∀ (y1 : Int) (a : Nat → Nat → Int), (((a 146 35) * 2) + 1).toNat ≤ n → iv a → jfr jW_X12_closesDown a0 a → 0 ≤ y1 → y1 ≤ 99 → a 146 35 ≤ 63 → (y1 = x1) → (PS a 1) → (QC a0 a0 1 → (x1 = 1 ∨ (x1 = 0 ∧ ¬ TW (UB (a0 164)) (a0 146 22).toNat (SK (UB (a0 164)) (a0 146 22).toNat (a0 146 23).toNat) 1)) → QC a0 a 1) → jt (jxX E d 222 63 [some (.inr (.inr (.inl 146))), some (.inl y1)] [] (jxSH, a, b0)) (jQ_X12_closesDown x1 a0 b0)) ∧ (∀ (y1 : Int) (a : Nat → Nat → Int), (((a 146 35) * 2) + 0).toNat ≤ n → iv a → jfr jW_X12_closesDown a0 a → 0 ≤ y1 → y1 ≤ 99 → 1 ≤ a 146 35 → (y1 = x1) → (PS a 1) → 1 ≤ a 146 35 → (¬ a 169 ((jxw ((a 146 35) - 1)).toNat) = 100) → (QC a0 a0 1 → (x1 = 1 ∨ (x1 = 0 ∧ ¬ TW (UB (a0 164)) (a0 146 22).toNat (SK (UB (a0 164)) (a0 146 22).toNat (a0 146 23).toNat) 1)) → QC a0 a 1) → (y1 ≤ a 169 ((jxw ((a 146 35) - 1)).toNat)) → jt (jxX E d 222 38 [some (.inr (.inr (.inl 146))), some (.inl y1)] [] (jxSH, a, b0)) (jQ_X12_closesDown x1 a0 b0)) ∧ (∀ (y1 : Int) (a : Nat → Nat → Int), (((a 146 35) * 2) + 0).toNat ≤ n → iv a → jfr jW_X12_closesDown a0 a → 0 ≤ y1 → y1 ≤ 99 → a 146 35 ≤ 63 → (y1 = x1) → (PS a 1) → (QC a0 a0 1 → (x1 = 1 ∨ (x1 = 0 ∧ ¬ TW (UB (a0 164)) (a0 146 22).toNat (SK (UB (a0 164)) (a0 146 22).toNat (a0 146 23).toNat) 1)) → QC a0 a 1) → jt (jxX E d 222 0 [some (.inr (.inr (.inl 146))), some (.inl y1)] [] (jxSH, a, b0)) (jQ_X12_closesDown x1 a0 b0)) := by
  refine jx_ind fun n ih => ?_
  have ih63 : ∀ (y1 : Int) (a : Nat → Nat → Int), (((a 146 35) * 2) + 1).toNat < n → iv a → jfr jW_X12_closesDown a0 a → 0 ≤ y1 → y1 ≤ 99 → a 146 35 ≤ 63 → (y1 = x1) → (PS a 1) → (QC a0 a0 1 → (x1 = 1 ∨ (x1 = 0 ∧ ¬ TW (UB (a0 164)) (a0 146 22).toNat (SK (UB (a0 164)) (a0 146 22).toNat (a0 146 23).toNat) 1)) → QC a0 a 1) → jt (jxX E d 222 63 [some (.inr (.inr (.inl 146))), some (.inl y1)] [] (jxSH, a, b0)) (jQ_X12_closesDown x1 a0 b0) := fun y1 a hlt i0 i1 i2 i3 i4 i5 i6 i7 => (ih _ hlt).1 y1 a (Nat.le_refl _) i0 i1 i2 i3 i4 i5 i6 i7
  have ih38 : ∀ (y1 : Int) (a : Nat → Nat → Int), (((a 146 35) * 2) + 0).toNat < n → iv a → jfr jW_X12_closesDown a0 a → 0 ≤ y1 → y1 ≤ 99 → 1 ≤ a 146 35 → (y1 = x1) → (PS a 1) → 1 ≤ a 146 35 → (¬ a 169 ((jxw ((a 146 35) - 1)).toNat) = 100) → (QC a0 a0 1 → (x1 = 1 ∨ (x1 = 0 ∧ ¬ TW (UB (a0 164)) (a0 146 22).toNat (SK (UB (a0 164)) (a0 146 22).toNat (a0 146 23).toNat) 1)) → QC a0 a 1) → (y1 ≤ a 169 ((jxw ((a 146 35) - 1)).toNat)) → jt (jxX E d 222 38 [some (.inr (.inr (.inl 146))), some (.inl y1)] [] (jxSH, a, b0)) (jQ_X12_closesDown x1 a0 b0) := fun y1 a hlt i0 i1 i2 i3 i4 i5 i6 i7 i8 i9 i10 => (ih _ hlt).2.1 y1 a (Nat.le_refl _) i0 i1 i2 i3 i4 i5 i6 i7 i8 i9 i10
  have ih0 : ∀ (y1 : Int) (a : Nat → Nat → Int), (((a 146 35) * 2) + 0).toNat < n → iv a → jfr jW_X12_closesDown a0 a → 0 ≤ y1 → y1 ≤ 99 → a 146 35 ≤ 63 → (y1 = x1) → (PS a 1) → (QC a0 a0 1 → (x1 = 1 ∨ (x1 = 0 ∧ ¬ TW (UB (a0 164)) (a0 146 22).toNat (SK (UB (a0 164)) (a0 146 22).toNat (a0 146 23).toNat) 1)) → QC a0 a 1) → jt (jxX E d 222 0 [some (.inr (.inr (.inl 146))), some (.inl y1)] [] (jxSH, a, b0)) (jQ_X12_closesDown x1 a0 b0) := fun y1 a hlt i0 i1 i2 i3 i4 i5 i6 i7 => (ih _ hlt).2.2 y1 a (Nat.le_refl _) i0 i1 i2 i3 i4 i5 i6 i7
  have hc63 : ∀ (y1 : Int) (a : Nat → Nat → Int), (((a 146 35) * 2) + 1).toNat ≤ n → iv a → jfr jW_X12_closesDown a0 a → 0 ≤ y1 → y1 ≤ 99 → a 146 35 ≤ 63 → (y1 = x1) → (PS a 1) → (QC a0 a0 1 → (x1 = 1 ∨ (x1 = 0 ∧ ¬ TW (UB (a0 164)) (a0 146 22).toNat (SK (UB (a0 164)) (a0 146 22).toNat (a0 146 23).toNat) 1)) → QC a0 a 1) → jt (jxX E d 222 63 [some (.inr (.inr (.inl 146))), some (.inl y1)] [] (jxSH, a, b0)) (jQ_X12_closesDown x1 a0 b0) := by
    intro y1 a hm hv hf hi0 hi1 hi2 hy1 hps hqc
    refine jt_eq (bq_X12_closesDown_63 E d y1 a b0) ?_
    have h12_ := iv_get hv (k := 146) (j := 35) (l := 0) (u := 64) rfl
    exact ih0 y1 a (show (((a 146 35) * 2) + 0).toNat < n from by omega) hv hf (show 0 ≤ y1 from by omega) (show y1 ≤ 99 from by omega) (show a 146 35 ≤ 63 from by omega) (by first | rfl | assumption) (by assumption) hqc
  have hc38 : ∀ (y1 : Int) (a : Nat → Nat → Int), (((a 146 35) * 2) + 0).toNat ≤ n → iv a → jfr jW_X12_closesDown a0 a → 0 ≤ y1 → y1 ≤ 99 → 1 ≤ a 146 35 → (y1 = x1) → (PS a 1) → 1 ≤ a 146 35 → (¬ a 169 ((jxw ((a 146 35) - 1)).toNat) = 100) → (QC a0 a0 1 → (x1 = 1 ∨ (x1 = 0 ∧ ¬ TW (UB (a0 164)) (a0 146 22).toNat (SK (UB (a0 164)) (a0 146 22).toNat (a0 146 23).toNat) 1)) → QC a0 a 1) → (y1 ≤ a 169 ((jxw ((a 146 35) - 1)).toNat)) → jt (jxX E d 222 38 [some (.inr (.inr (.inl 146))), some (.inl y1)] [] (jxSH, a, b0)) (jQ_X12_closesDown x1 a0 b0) := by
    intro y1 a hm hv hf hi0 hi1 hi2 hy1 hps hi5 hi6 hqc hle
    refine jt_eq (bq_X12_closesDown_38 E d y1 a b0) ?_
    have h13_ := iv_get hv (k := 146) (j := 35) (l := 0) (u := 64) rfl
    have h23 := hf 146 23 rfl
    have hroom := PS_room hps (by omega)
    have i35 := iv_get hv (k := 146) (j := 35) (l := 0) (u := 64) rfl
    have i32 := iv_get hv (k := 146) (j := 32) (l := 0) (u := 64) rfl
    have h14_ : jxw ((a 146 35) - 1) = (a 146 35) - 1 := jxw_id (by omega) (by omega)
    refine jt_grd (by omega) ?_
    have h15_ := iv_get hv (k := 146) (j := 32) (l := 0) (u := 64) rfl
    refine jt_bV (sp_X12_writes E d (jd_le hd rfl) (a 169 ((jxw ((a 146 35) - 1)).toNat)) a b0 hv (show a 146 32 < 64 from by omega)) (fun a16_ b16_ h16_ => ?_)
    obtain ⟨hv16_, hf16_, rfl, hq16_0, hq16_1, hq16_2⟩ := h16_
    have h17_ := iv_get hv16_ (k := 146) (j := 32) (l := 0) (u := 64) rfl
    have h19_ := iv_get hv16_ (k := 146) (j := 35) (l := 0) (u := 64) rfl
    have h20_ : a16_ 146 35 = a 146 35 := hf16_ 146 35 rfl
    have h21_ : jxw ((a16_ 146 35) - 1) = (a16_ 146 35) - 1 := jxw_id (by omega) (by omega)
    have hv18_ : iv (jxu a16_ 146 35 (jxw ((a16_ 146 35) - 1))) := iv_put hv16_ (l := 0) (u := 64) rfl (by omega) (by omega)
    have hf22_ : jfr jW_X12_closesDown a0 a16_ := jfr_tr hf hf16_ rfl
    have hf23_ : jfr jW_X12_closesDown a0 (jxu a16_ 146 35 (jxw ((a16_ 146 35) - 1))) := jfr_put hf22_ rfl
    exact hc63 y1 (jxu a16_ 146 35 (jxw ((a16_ 146 35) - 1))) (show (((jxw ((a16_ 146 35) - 1)) * 2) + 1).toNat ≤ n from by omega) hv18_ hf23_ (show 0 ≤ y1 from by omega) (show y1 ≤ 99 from by omega) (show jxw ((a16_ 146 35) - 1) ≤ 63 from by omega) (by first | rfl | assumption) (PSW_pop (PSW_mk hps (by omega) (by omega) (jxw_id (x := a 146 35 - 1) (by omega) (by omega)) rfl (by assumption) (by have := iv_get hv (k := 169) (j := (jxw ((a 146 35) - 1)).toNat) (l := 0) (u := 100) rfl; omega) hq16_0 hq16_1 hq16_2 hf16_) (by omega)) (fun h c => (QC_pop (a := a) (a1 := jxu a16_ 146 35 (jxw ((a16_ 146 35) - 1))) (t := (a 169 ((jxw ((a 146 35) - 1)).toNat))) (hqc h c) (by omega) (by omega) ((congrArg (a 169) (show (a 146 35).toNat - 1 = (jxw ((a 146 35) - 1)).toNat by rw [jxw_id (by omega) (by omega)]; omega)).trans (by first | assumption | rfl)) (by assumption) (fun e => by rw [h23]; exact (c.resolve_left (fun e1 => by omega)).2) hq16_1 hq16_2 hq16_0 (show jxw ((a16_ 146 35) - 1) = a 146 35 - 1 by rw [hf16_ 146 35 rfl]; exact jxw_id (by omega) (by omega)) (fun j => hf16_ 169 j rfl) (hf16_ 146 24 rfl) (hf16_ 146 23 rfl) (hf16_ 146 33 rfl)))
  have hc0 : ∀ (y1 : Int) (a : Nat → Nat → Int), (((a 146 35) * 2) + 0).toNat ≤ n → iv a → jfr jW_X12_closesDown a0 a → 0 ≤ y1 → y1 ≤ 99 → a 146 35 ≤ 63 → (y1 = x1) → (PS a 1) → (QC a0 a0 1 → (x1 = 1 ∨ (x1 = 0 ∧ ¬ TW (UB (a0 164)) (a0 146 22).toNat (SK (UB (a0 164)) (a0 146 22).toNat (a0 146 23).toNat) 1)) → QC a0 a 1) → jt (jxX E d 222 0 [some (.inr (.inr (.inl 146))), some (.inl y1)] [] (jxSH, a, b0)) (jQ_X12_closesDown x1 a0 b0) := by
    intro y1 a hm hv hf hi0 hi1 hi2 hy1 hps hqc
    refine jt_eq (bq_X12_closesDown_0 E d y1 a b0) ?_
    have h24_ := iv_get hv (k := 146) (j := 35) (l := 0) (u := 64) rfl
    have h23 := hf 146 23 rfl
    have hroom := PS_room hps (by omega)
    refine jt_ite (fun c25_ => ?_) (fun c25_ => ?_)
    ·
      have h26_ : jxw ((a 146 35) - 1) = (a 146 35) - 1 := jxw_id (by omega) (by omega)
      refine jt_grd (by omega) ?_
      have h27_ := iv_get hv (k := 169) (j := (jxw ((a 146 35) - 1)).toNat) (l := 0) (u := 100) rfl
      have h28_ : a 169 ((jxw ((a 146 35) - 1)).toNat) = a0 169 ((jxw ((a 146 35) - 1)).toNat) := hf 169 ((jxw ((a 146 35) - 1)).toNat) rfl
      have h29_ := iv_get hv0 (k := 169) (j := (jxw ((a 146 35) - 1)).toNat) (l := 0) (u := 100) rfl
      refine jt_ite (fun c30_ => ?_) (fun c30_ => ?_)
      ·
        exact cp_X12_closesDown_66 E d hd x1 a0 b0 hv0 hp0 hp1 hp2 a hv hf (by assumption) (by first | assumption | (left; omega) | (right; left; assumption) | (right; right; omega)) hqc
      ·
        refine jt_grd (by omega) ?_
        refine jt_ite (fun c31_ => ?_) (fun c31_ => ?_)
        ·
          exact cp_X12_closesDown_66 E d hd x1 a0 b0 hv0 hp0 hp1 hp2 a hv hf (by assumption) (by first | assumption | (left; omega) | (right; left; assumption) | (right; right; omega)) hqc
        ·
          exact hc38 y1 a (show (((a 146 35) * 2) + 0).toNat ≤ n from by omega) hv hf (show 0 ≤ y1 from by omega) (show y1 ≤ 99 from by omega) (show 1 ≤ a 146 35 from by omega) (by first | rfl | assumption) (by assumption) (show 1 ≤ a 146 35 from by omega) (by assumption) hqc (by omega)
    ·
      exact cp_X12_closesDown_66 E d hd x1 a0 b0 hv0 hp0 hp1 hp2 a hv hf (by assumption) (by first | assumption | (left; omega) | (right; left; assumption) | (right; right; omega)) hqc
  exact ⟨hc63, hc38, hc0⟩
theorem sp_X12_closesDown (E : jxE) (d : Nat) (hd : Nat.ble 2 d = true) (x1 : Int) (a0 b0 : Nat → Nat → Int) (hv0 : iv a0) (hp0 : PS a0 1) (hp1 : a0 146 23 ≤ 100) (hp2 : 0 ≤ x1) : jt (jxC E d 222 [.inr (.inr (.inl 146)), .inl x1] (jxSH, a0, b0)) (jQ_X12_closesDown x1 a0 b0) := by
  obtain ⟨d, rfl⟩ := jd_succ hd
  refine jt_eq (bq_X12_closesDown E d x1 a0 b0) ?_
  have h32_ := iv_get hv0 (k := 146) (j := 23) (l := 0) (u := 200) rfl
  have hps := hp0
  have hroom := PS_room hp0 (by omega)
  have h33_ := iv_get hv0 (k := 146) (j := 35) (l := 0) (u := 64) rfl
  refine jt_ite (fun c34_ => ?_) (fun c34_ => ?_)
  ·
    have h35_ : jxw ((a0 146 35) - 1) = (a0 146 35) - 1 := jxw_id (by omega) (by omega)
    refine jt_grd (by omega) ?_
    have h36_ := iv_get hv0 (k := 169) (j := (jxw ((a0 146 35) - 1)).toNat) (l := 0) (u := 100) rfl
    refine jt_ite (fun c37_ => ?_) (fun c37_ => ?_)
    ·
      exact cp_X12_closesDown_66 E d hd x1 a0 b0 hv0 hp0 hp1 hp2 a0 hv0 (jfr_rf _ _) (by assumption) (by first | assumption | (left; omega) | (right; left; assumption) | (right; right; omega)) (fun h _ => h)
    ·
      refine jt_grd (by omega) ?_
      refine jt_ite (fun c38_ => ?_) (fun c38_ => ?_)
      ·
        exact cp_X12_closesDown_66 E d hd x1 a0 b0 hv0 hp0 hp1 hp2 a0 hv0 (jfr_rf _ _) (by assumption) (by first | assumption | (left; omega) | (right; left; assumption) | (right; right; omega)) (fun h _ => h)
      ·
        exact (cp_X12_closesDown_0 E d hd x1 a0 b0 hv0 hp0 hp1 hp2 _).2.1 x1 a0 (Nat.le_refl _) hv0 (jfr_rf _ _) (show 0 ≤ x1 from by omega) (show x1 ≤ 99 from by omega) (show 1 ≤ a0 146 35 from by omega) (by first | rfl | assumption) (by assumption) (show 1 ≤ a0 146 35 from by omega) (by assumption) (fun h _ => h) (by omega)
  ·
    exact cp_X12_closesDown_66 E d hd x1 a0 b0 hv0 hp0 hp1 hp2 a0 hv0 (jfr_rf _ _) (by assumption) (by first | assumption | (left; omega) | (right; left; assumption) | (right; right; omega)) (fun h _ => h)
def jW_X12_closesNots : List (Nat × Nat) := [(146, 32), (146, 35), (168, 9999)]
abbrev jQ_X12_closesNots (a0 b0 : Nat → Nat → Int) : List jxV → (Nat → Nat → Int) → (Nat → Nat → Int) → Prop := rV (fun a b => (iv a) ∧ (jfr jW_X12_closesNots a0 a) ∧ (b0 = b) ∧ (PS a 1) ∧ (QC a0 a0 1 → QC a0 a 1))
theorem cp_X12_closesNots_0 (E : jxE) (d : Nat) (hd : Nat.ble 2 (d + 1) = true) (a0 b0 : Nat → Nat → Int) (hv0 : iv a0) (hp0 : PS a0 1) (hp1 : a0 146 23 ≤ 100) : ∀ n : Nat, (∀ (a : Nat → Nat → Int), (((a 146 35) * 1) + 0).toNat ≤ n → iv a → jfr jW_X12_closesNots a0 a → 1 ≤ a 146 35 → (PSW a 2) → 1 ≤ a 146 35 → (QC a0 a0 1 → QC a0 (jxu a 146 35 (jxw ((a 146 35) - 1))) 1) → jt (jxX E d 221 27 [some (.inr (.inr (.inl 146)))] [] (jxSH, a, b0)) (jQ_X12_closesNots a0 b0)) ∧ (∀ (a : Nat → Nat → Int), (((a 146 35) * 1) + 0).toNat ≤ n → iv a → jfr jW_X12_closesNots a0 a → a 146 35 ≤ 63 → (PS a 1) → (QC a0 a0 1 → QC a0 a 1) → jt (jxX E d 221 0 [some (.inr (.inr (.inl 146)))] [] (jxSH, a, b0)) (jQ_X12_closesNots a0 b0)) := by
  refine jx_ind fun n ih => ?_
  have ih27 : ∀ (a : Nat → Nat → Int), (((a 146 35) * 1) + 0).toNat < n → iv a → jfr jW_X12_closesNots a0 a → 1 ≤ a 146 35 → (PSW a 2) → 1 ≤ a 146 35 → (QC a0 a0 1 → QC a0 (jxu a 146 35 (jxw ((a 146 35) - 1))) 1) → jt (jxX E d 221 27 [some (.inr (.inr (.inl 146)))] [] (jxSH, a, b0)) (jQ_X12_closesNots a0 b0) := fun a hlt i0 i1 i2 i3 i4 i5 => (ih _ hlt).1 a (Nat.le_refl _) i0 i1 i2 i3 i4 i5
  have ih0 : ∀ (a : Nat → Nat → Int), (((a 146 35) * 1) + 0).toNat < n → iv a → jfr jW_X12_closesNots a0 a → a 146 35 ≤ 63 → (PS a 1) → (QC a0 a0 1 → QC a0 a 1) → jt (jxX E d 221 0 [some (.inr (.inr (.inl 146)))] [] (jxSH, a, b0)) (jQ_X12_closesNots a0 b0) := fun a hlt i0 i1 i2 i3 i4 => (ih _ hlt).2 a (Nat.le_refl _) i0 i1 i2 i3 i4
  have hc27 : ∀ (a : Nat → Nat → Int), (((a 146 35) * 1) + 0).toNat ≤ n → iv a → jfr jW_X12_closesNots a0 a → 1 ≤ a 146 35 → (PSW a 2) → 1 ≤ a 146 35 → (QC a0 a0 1 → QC a0 (jxu a 146 35 (jxw ((a 146 35) - 1))) 1) → jt (jxX E d 221 27 [some (.inr (.inr (.inl 146)))] [] (jxSH, a, b0)) (jQ_X12_closesNots a0 b0) := by
    intro a hm hv hf hi0 hpw hi2 hqq
    refine jt_eq (bq_X12_closesNots_27 E d a b0) ?_
    have h39_ := iv_get hv (k := 146) (j := 35) (l := 0) (u := 64) rfl
    have i35 := iv_get hv (k := 146) (j := 35) (l := 0) (u := 64) rfl
    have h41_ : jxw ((a 146 35) - 1) = (a 146 35) - 1 := jxw_id (by omega) (by omega)
    have hv40_ : iv (jxu a 146 35 (jxw ((a 146 35) - 1))) := iv_put hv (l := 0) (u := 64) rfl (by omega) (by omega)
    have hf42_ : jfr jW_X12_closesNots a0 (jxu a 146 35 (jxw ((a 146 35) - 1))) := jfr_put hf rfl
    exact ih0 (jxu a 146 35 (jxw ((a 146 35) - 1))) (show (((jxw ((a 146 35) - 1)) * 1) + 0).toNat < n from by omega) hv40_ hf42_ (show jxw ((a 146 35) - 1) ≤ 63 from by omega) (PSW_pop hpw (by omega)) hqq
  have hc0 : ∀ (a : Nat → Nat → Int), (((a 146 35) * 1) + 0).toNat ≤ n → iv a → jfr jW_X12_closesNots a0 a → a 146 35 ≤ 63 → (PS a 1) → (QC a0 a0 1 → QC a0 a 1) → jt (jxX E d 221 0 [some (.inr (.inr (.inl 146)))] [] (jxSH, a, b0)) (jQ_X12_closesNots a0 b0) := by
    intro a hm hv hf hi0 hps hqc
    refine jt_eq (bq_X12_closesNots_0 E d a b0) ?_
    have h43_ := iv_get hv (k := 146) (j := 35) (l := 0) (u := 64) rfl
    have h23 := hf 146 23 rfl
    have hroom := PS_room hps (by omega)
    have i35 := iv_get hv (k := 146) (j := 35) (l := 0) (u := 64) rfl
    have i32 := iv_get hv (k := 146) (j := 32) (l := 0) (u := 64) rfl
    refine jt_ite (fun c44_ => ?_) (fun c44_ => ?_)
    ·
      have h45_ : jxw ((a 146 35) - 1) = (a 146 35) - 1 := jxw_id (by omega) (by omega)
      refine jt_grd (by omega) ?_
      have h46_ := iv_get hv (k := 169) (j := (jxw ((a 146 35) - 1)).toNat) (l := 0) (u := 100) rfl
      have h47_ : a 169 ((jxw ((a 146 35) - 1)).toNat) = a0 169 ((jxw ((a 146 35) - 1)).toNat) := hf 169 ((jxw ((a 146 35) - 1)).toNat) rfl
      have h48_ := iv_get hv0 (k := 169) (j := (jxw ((a 146 35) - 1)).toNat) (l := 0) (u := 100) rfl
      refine jt_ite (fun c49_ => ?_) (fun c49_ => ?_)
      ·
        have h50_ := iv_get hv (k := 146) (j := 32) (l := 0) (u := 64) rfl
        refine jt_bV (sp_X12_writes E d (jd_le hd rfl) 2 a b0 hv (show a 146 32 < 64 from by omega)) (fun a51_ b51_ h51_ => ?_)
        obtain ⟨hv51_, hf51_, rfl, hq51_0, hq51_1, hq51_2⟩ := h51_
        have h52_ := iv_get hv51_ (k := 146) (j := 32) (l := 0) (u := 64) rfl
        have hf53_ : jfr jW_X12_closesNots a0 a51_ := jfr_tr hf hf51_ rfl
        have h54_ := iv_get hv51_ (k := 146) (j := 35) (l := 0) (u := 64) rfl
        have h55_ : a51_ 146 35 = a 146 35 := hf51_ 146 35 rfl
        exact hc27 a51_ (show (((a51_ 146 35) * 1) + 0).toNat ≤ n from by omega) hv51_ hf53_ (show 1 ≤ a51_ 146 35 from by omega) (PSW_mk hps (by omega) (by omega) (jxw_id (x := a 146 35 - 1) (by omega) (by omega)) (by assumption) (by decide) (by decide) hq51_0 hq51_1 hq51_2 hf51_) (show 1 ≤ a51_ 146 35 from by omega) (fun h => (QC_pop (a := a) (a1 := jxu a51_ 146 35 (jxw ((a51_ 146 35) - 1))) (t := 2) (hqc h) (by omega) (by omega) ((congrArg (a 169) (show (a 146 35).toNat - 1 = (jxw ((a 146 35) - 1)).toNat by rw [jxw_id (by omega) (by omega)]; omega)).trans (by first | assumption | rfl)) (by decide) (fun e => absurd e (by decide)) hq51_1 hq51_2 hq51_0 (show jxw ((a51_ 146 35) - 1) = a 146 35 - 1 by rw [hf51_ 146 35 rfl]; exact jxw_id (by omega) (by omega)) (fun j => hf51_ 169 j rfl) (hf51_ 146 24 rfl) (hf51_ 146 23 rfl) (hf51_ 146 33 rfl)))
      ·
        exact jt_rV ⟨hv, hf, rfl, (by assumption), hqc⟩
    ·
      exact jt_rV ⟨hv, hf, rfl, (by assumption), hqc⟩
  exact ⟨hc27, hc0⟩
theorem sp_X12_closesNots (E : jxE) (d : Nat) (hd : Nat.ble 2 d = true) (a0 b0 : Nat → Nat → Int) (hv0 : iv a0) (hp0 : PS a0 1) (hp1 : a0 146 23 ≤ 100) : jt (jxC E d 221 [.inr (.inr (.inl 146))] (jxSH, a0, b0)) (jQ_X12_closesNots a0 b0) := by
  obtain ⟨d, rfl⟩ := jd_succ hd
  refine jt_eq (bq_X12_closesNots E d a0 b0) ?_
  have h56_ := iv_get hv0 (k := 146) (j := 23) (l := 0) (u := 200) rfl
  have hroom := PS_room hp0 (by omega)
  have i35 := iv_get hv0 (k := 146) (j := 35) (l := 0) (u := 64) rfl
  have i32 := iv_get hv0 (k := 146) (j := 32) (l := 0) (u := 64) rfl
  have h57_ := iv_get hv0 (k := 146) (j := 35) (l := 0) (u := 64) rfl
  refine jt_ite (fun c58_ => ?_) (fun c58_ => ?_)
  ·
    have h59_ : jxw ((a0 146 35) - 1) = (a0 146 35) - 1 := jxw_id (by omega) (by omega)
    refine jt_grd (by omega) ?_
    have h60_ := iv_get hv0 (k := 169) (j := (jxw ((a0 146 35) - 1)).toNat) (l := 0) (u := 100) rfl
    refine jt_ite (fun c61_ => ?_) (fun c61_ => ?_)
    ·
      have h62_ := iv_get hv0 (k := 146) (j := 32) (l := 0) (u := 64) rfl
      refine jt_bV (sp_X12_writes E d (jd_le hd rfl) 2 a0 b0 hv0 (show a0 146 32 < 64 from by omega)) (fun a63_ b63_ h63_ => ?_)
      obtain ⟨hv63_, hf63_, rfl, hq63_0, hq63_1, hq63_2⟩ := h63_
      have h64_ := iv_get hv63_ (k := 146) (j := 32) (l := 0) (u := 64) rfl
      have hf65_ : jfr jW_X12_closesNots a0 a63_ := jfr_tr (jfr_rf _ _) hf63_ rfl
      have h66_ := iv_get hv63_ (k := 146) (j := 35) (l := 0) (u := 64) rfl
      have h67_ : a63_ 146 35 = a0 146 35 := hf63_ 146 35 rfl
      exact (cp_X12_closesNots_0 E d hd a0 b0 hv0 hp0 hp1 _).1 a63_ (Nat.le_refl _) hv63_ hf65_ (show 1 ≤ a63_ 146 35 from by omega) (PSW_mk hp0 (by omega) (by omega) (jxw_id (x := a0 146 35 - 1) (by omega) (by omega)) (by assumption) (by decide) (by decide) hq63_0 hq63_1 hq63_2 hf63_) (show 1 ≤ a63_ 146 35 from by omega) (fun h => (QC_pop (a := a0) (a1 := jxu a63_ 146 35 (jxw ((a63_ 146 35) - 1))) (t := 2) h (by omega) (by omega) ((congrArg (a0 169) (show (a0 146 35).toNat - 1 = (jxw ((a0 146 35) - 1)).toNat by rw [jxw_id (by omega) (by omega)]; omega)).trans (by first | assumption | rfl)) (by decide) (fun e => absurd e (by decide)) hq63_1 hq63_2 hq63_0 (show jxw ((a63_ 146 35) - 1) = a0 146 35 - 1 by rw [hf63_ 146 35 rfl]; exact jxw_id (by omega) (by omega)) (fun j => hf63_ 169 j rfl) (hf63_ 146 24 rfl) (hf63_ 146 23 rfl) (hf63_ 146 33 rfl)))
    ·
      exact jt_rV ⟨hv0, (jfr_rf _ _), rfl, (by assumption), (fun h => h)⟩
  ·
    exact jt_rV ⟨hv0, (jfr_rf _ _), rfl, (by assumption), (fun h => h)⟩
