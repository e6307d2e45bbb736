abbrev jQ_X2_tryReceiver (x1 : Int) (a0 b0 : Nat → Nat → Int) : List jxV → (Nat → Nat → Int) → (Nat → Nat → Int) → Prop := rV (fun a b => (a0 = a) ∧ (∀ (A : Nat → Nat → Prop) (p : Nat → Nat → Int), PBD A p (a0 79 3).toNat → PROW A p (a0 79 3).toNat x1.toNat (b0 82) → DPC A p (a0 79 3).toNat x1.toNat (b0 80) (b0 81) → DPC A p (a0 79 3).toNat (x1.toNat + 1) (b 80) (b 81)) ∧ (∀ i : Nat, i < 8 → b 82 i = IMPO) ∧ (jbf [80, 81, 82] b0 b))
theorem cp_X2_tryReceiver_9 (E : jxE) (d : Nat) (hd : Nat.ble 3 (d + 1) = true) (x1 : Int) (a0 b0 : Nat → Nat → Int) (hv0 : iv a0) (hp0 : (0 ≤ x1 ∧ x1 ≤ 39)) : ∀ n : Nat, (∀ (y1 y2 y3 : Int) (b : Nat → Nat → Int), (((((y2 + 0) * 11) + 0) + ((8 - y3) * 1)) + 0).toNat ≤ n → 0 ≤ y1 → y1 ≤ 39 → 1 ≤ y2 → y2 ≤ 255 → 0 ≤ y3 → y3 ≤ 7 → y1 = x1 → 0 ≤ y2 → (0 ≤ x1 ∧ x1 ≤ 39) → (jbf [80, 81] b0 b) → (y2 < 2 ^ (a0 79 3).toNat) → 0 < y2 → 0 ≤ y3 → y3 < a0 79 3 → (∀ (A : Nat → Nat → Prop) (p : Nat → Nat → Int), PBD A p (a0 79 3).toNat → PROW A p (a0 79 3).toNat x1.toNat (b0 82) → DPC A p (a0 79 3).toNat x1.toNat (b0 80) (b0 81) → TRS A p (a0 79 3).toNat x1.toNat (b 80) (b 81) y2.toNat (y3.toNat + 1)) → jt (jxX E d 44 52 [some (.inr (.inr (.inl 79))), some (.inl y1), some (.inl y2), some (.inl y3)] [] (jxSH, a0, b)) (jQ_X2_tryReceiver x1 a0 b0)) ∧ (∀ (y1 y2 y3 : Int) (b : Nat → Nat → Int), (((((y2 + 0) * 11) + 0) + ((8 - y3) * 1)) + 0).toNat ≤ n → 0 ≤ y1 → y1 ≤ 39 → 1 ≤ y2 → y2 ≤ 255 → 0 ≤ y3 → y3 ≤ 7 → y1 = x1 → 0 ≤ y2 → (0 ≤ x1 ∧ x1 ≤ 39) → (jbf [80, 81] b0 b) → (y2 < 2 ^ (a0 79 3).toNat) → 0 < y2 → 0 ≤ y3 → y3 < a0 79 3 → (∀ (A : Nat → Nat → Prop) (p : Nat → Nat → Int), PBD A p (a0 79 3).toNat → PROW A p (a0 79 3).toNat x1.toNat (b0 82) → DPC A p (a0 79 3).toNat x1.toNat (b0 80) (b0 81) → TRS A p (a0 79 3).toNat x1.toNat (b 80) (b 81) y2.toNat y3.toNat) → (y2.toNat.testBit y3.toNat = true) → (¬ b0 82 y3.toNat = IMPO) → jt (jxX E d 44 45 [some (.inr (.inr (.inl 79))), some (.inl y1), some (.inl y2), some (.inl y3)] [] (jxSH, a0, b)) (jQ_X2_tryReceiver x1 a0 b0)) ∧ (∀ (y1 y2 y3 : Int) (b : Nat → Nat → Int), (((((y2 + 0) * 11) + 0) + ((8 - y3) * 1)) + 0).toNat ≤ n → 0 ≤ y1 → y1 ≤ 39 → 1 ≤ y2 → y2 ≤ 255 → 0 ≤ y3 → y3 ≤ 8 → y1 = x1 → 0 ≤ y2 → (0 ≤ x1 ∧ x1 ≤ 39) → (jbf [80, 81] b0 b) → (y2 < 2 ^ (a0 79 3).toNat) → 0 < y2 → 0 ≤ y3 → y3 ≤ a0 79 3 → (∀ (A : Nat → Nat → Prop) (p : Nat → Nat → Int), PBD A p (a0 79 3).toNat → PROW A p (a0 79 3).toNat x1.toNat (b0 82) → DPC A p (a0 79 3).toNat x1.toNat (b0 80) (b0 81) → TRS A p (a0 79 3).toNat x1.toNat (b 80) (b 81) y2.toNat y3.toNat) → jt (jxX E d 44 15 [some (.inr (.inr (.inl 79))), some (.inl y1), some (.inl y2), some (.inl y3)] [] (jxSH, a0, b)) (jQ_X2_tryReceiver x1 a0 b0)) ∧ (∀ (y1 y2 : Int) (b : Nat → Nat → Int), (((y2 + 0) * 11) + 10).toNat ≤ n → 0 ≤ y1 → y1 ≤ 39 → 0 ≤ y2 → y2 ≤ 255 → y1 = x1 → 0 ≤ y2 → (0 ≤ x1 ∧ x1 ≤ 39) → (jbf [80, 81] b0 b) → (y2 < 2 ^ (a0 79 3).toNat) → (∀ (A : Nat → Nat → Prop) (p : Nat → Nat → Int), PBD A p (a0 79 3).toNat → PROW A p (a0 79 3).toNat x1.toNat (b0 82) → DPC A p (a0 79 3).toNat x1.toNat (b0 80) (b0 81) → TRS A p (a0 79 3).toNat x1.toNat (b 80) (b 81) y2.toNat 0) → jt (jxX E d 44 9 [some (.inr (.inr (.inl 79))), some (.inl y1), some (.inl y2), none] [] (jxSH, a0, b)) (jQ_X2_tryReceiver x1 a0 b0)) := by
  refine jx_ind fun n ih => ?_
  have ih52 : ∀ (y1 y2 y3 : Int) (b : Nat → Nat → Int), (((((y2 + 0) * 11) + 0) + ((8 - y3) * 1)) + 0).toNat < n → 0 ≤ y1 → y1 ≤ 39 → 1 ≤ y2 → y2 ≤ 255 → 0 ≤ y3 → y3 ≤ 7 → y1 = x1 → 0 ≤ y2 → (0 ≤ x1 ∧ x1 ≤ 39) → (jbf [80, 81] b0 b) → (y2 < 2 ^ (a0 79 3).toNat) → 0 < y2 → 0 ≤ y3 → y3 < a0 79 3 → (∀ (A : Nat → Nat → Prop) (p : Nat → Nat → Int), PBD A p (a0 79 3).toNat → PROW A p (a0 79 3).toNat x1.toNat (b0 82) → DPC A p (a0 79 3).toNat x1.toNat (b0 80) (b0 81) → TRS A p (a0 79 3).toNat x1.toNat (b 80) (b 81) y2.toNat (y3.toNat + 1)) → jt (jxX E d 44 52 [some (.inr (.inr (.inl 79))), some (.inl y1), some (.inl y2), some (.inl y3)] [] (jxSH, a0, b)) (jQ_X2_tryReceiver x1 a0 b0) := fun y1 y2 y3 b hlt i0 i1 i2 i3 i4 i5 i6 i7 i8 i9 i10 i11 i12 i13 i14 => (ih _ hlt).1 y1 y2 y3 b (Nat.le_refl _) i0 i1 i2 i3 i4 i5 i6 i7 i8 i9 i10 i11 i12 i13 i14
  have ih45 : ∀ (y1 y2 y3 : Int) (b : Nat → Nat → Int), (((((y2 + 0) * 11) + 0) + ((8 - y3) * 1)) + 0).toNat < n → 0 ≤ y1 → y1 ≤ 39 → 1 ≤ y2 → y2 ≤ 255 → 0 ≤ y3 → y3 ≤ 7 → y1 = x1 → 0 ≤ y2 → (0 ≤ x1 ∧ x1 ≤ 39) → (jbf [80, 81] b0 b) → (y2 < 2 ^ (a0 79 3).toNat) → 0 < y2 → 0 ≤ y3 → y3 < a0 79 3 → (∀ (A : Nat → Nat → Prop) (p : Nat → Nat → Int), PBD A p (a0 79 3).toNat → PROW A p (a0 79 3).toNat x1.toNat (b0 82) → DPC A p (a0 79 3).toNat x1.toNat (b0 80) (b0 81) → TRS A p (a0 79 3).toNat x1.toNat (b 80) (b 81) y2.toNat y3.toNat) → (y2.toNat.testBit y3.toNat = true) → (¬ b0 82 y3.toNat = IMPO) → jt (jxX E d 44 45 [some (.inr (.inr (.inl 79))), some (.inl y1), some (.inl y2), some (.inl y3)] [] (jxSH, a0, b)) (jQ_X2_tryReceiver x1 a0 b0) := fun y1 y2 y3 b hlt i0 i1 i2 i3 i4 i5 i6 i7 i8 i9 i10 i11 i12 i13 i14 i15 i16 => (ih _ hlt).2.1 y1 y2 y3 b (Nat.le_refl _) i0 i1 i2 i3 i4 i5 i6 i7 i8 i9 i10 i11 i12 i13 i14 i15 i16
  have ih15 : ∀ (y1 y2 y3 : Int) (b : Nat → Nat → Int), (((((y2 + 0) * 11) + 0) + ((8 - y3) * 1)) + 0).toNat < n → 0 ≤ y1 → y1 ≤ 39 → 1 ≤ y2 → y2 ≤ 255 → 0 ≤ y3 → y3 ≤ 8 → y1 = x1 → 0 ≤ y2 → (0 ≤ x1 ∧ x1 ≤ 39) → (jbf [80, 81] b0 b) → (y2 < 2 ^ (a0 79 3).toNat) → 0 < y2 → 0 ≤ y3 → y3 ≤ a0 79 3 → (∀ (A : Nat → Nat → Prop) (p : Nat → Nat → Int), PBD A p (a0 79 3).toNat → PROW A p (a0 79 3).toNat x1.toNat (b0 82) → DPC A p (a0 79 3).toNat x1.toNat (b0 80) (b0 81) → TRS A p (a0 79 3).toNat x1.toNat (b 80) (b 81) y2.toNat y3.toNat) → jt (jxX E d 44 15 [some (.inr (.inr (.inl 79))), some (.inl y1), some (.inl y2), some (.inl y3)] [] (jxSH, a0, b)) (jQ_X2_tryReceiver x1 a0 b0) := fun y1 y2 y3 b hlt i0 i1 i2 i3 i4 i5 i6 i7 i8 i9 i10 i11 i12 i13 i14 => (ih _ hlt).2.2.1 y1 y2 y3 b (Nat.le_refl _) i0 i1 i2 i3 i4 i5 i6 i7 i8 i9 i10 i11 i12 i13 i14
  have ih9 : ∀ (y1 y2 : Int) (b : Nat → Nat → Int), (((y2 + 0) * 11) + 10).toNat < n → 0 ≤ y1 → y1 ≤ 39 → 0 ≤ y2 → y2 ≤ 255 → y1 = x1 → 0 ≤ y2 → (0 ≤ x1 ∧ x1 ≤ 39) → (jbf [80, 81] b0 b) → (y2 < 2 ^ (a0 79 3).toNat) → (∀ (A : Nat → Nat → Prop) (p : Nat → Nat → Int), PBD A p (a0 79 3).toNat → PROW A p (a0 79 3).toNat x1.toNat (b0 82) → DPC A p (a0 79 3).toNat x1.toNat (b0 80) (b0 81) → TRS A p (a0 79 3).toNat x1.toNat (b 80) (b 81) y2.toNat 0) → jt (jxX E d 44 9 [some (.inr (.inr (.inl 79))), some (.inl y1), some (.inl y2), none] [] (jxSH, a0, b)) (jQ_X2_tryReceiver x1 a0 b0) := fun y1 y2 b hlt i0 i1 i2 i3 i4 i5 i6 i7 i8 i9 => (ih _ hlt).2.2.2 y1 y2 b (Nat.le_refl _) i0 i1 i2 i3 i4 i5 i6 i7 i8 i9
  have hc52 : ∀ (y1 y2 y3 : Int) (b : Nat → Nat → Int), (((((y2 + 0) * 11) + 0) + ((8 - y3) * 1)) + 0).toNat ≤ n → 0 ≤ y1 → y1 ≤ 39 → 1 ≤ y2 → y2 ≤ 255 → 0 ≤ y3 → y3 ≤ 7 → y1 = x1 → 0 ≤ y2 → (0 ≤ x1 ∧ x1 ≤ 39) → (jbf [80, 81] b0 b) → (y2 < 2 ^ (a0 79 3).toNat) → 0 < y2 → 0 ≤ y3 → y3 < a0 79 3 → (∀ (A : Nat → Nat → Prop) (p : Nat → Nat → Int), PBD A p (a0 79 3).toNat → PROW A p (a0 79 3).toNat x1.toNat (b0 82) → DPC A p (a0 79 3).toNat x1.toNat (b0 80) (b0 81) → TRS A p (a0 79 3).toNat x1.toNat (b 80) (b 81) y2.toNat (y3.toNat + 1)) → jt (jxX E d 44 52 [some (.inr (.inr (.inl 79))), some (.inl y1), some (.inl y2), some (.inl y3)] [] (jxSH, a0, b)) (jQ_X2_tryReceiver x1 a0 b0) := by
    intro y1 y2 y3 b hm hi0 hi1 hi2 hi3 hi4 hi5 hi6 hi7 hi8 hbf hm2 hi11 hi12 hi13 ht
    refine jt_eq (bq_X2_tryReceiver_52 E d y1 y2 y3 a0 b) ?_
    have h1099_ := iv_get hv0 (k := 79) (j := 3) (l := 0) (u := 8) rfl
    have i793 := iv_get hv0 (k := 79) (j := 3) (l := 0) (u := 8) rfl
    have h1100_ : jxw (y3 + 1) = y3 + 1 := jxw_id (by omega) (by omega)
    exact ih15 y1 y2 (jxw (y3 + 1)) b (show (((((y2 + 0) * 11) + 0) + ((8 - (jxw (y3 + 1))) * 1)) + 0).toNat < n from by omega) (show 0 ≤ y1 from by omega) (show y1 ≤ 39 from by omega) (show 1 ≤ y2 from by omega) (show y2 ≤ 255 from by omega) (show 0 ≤ jxw (y3 + 1) from by omega) (show jxw (y3 + 1) ≤ 8 from by omega) (show y1 = x1 from by omega) (show 0 ≤ y2 from by omega) (show (0 ≤ x1 ∧ x1 ≤ 39) from by omega) hbf (by first | exact hm2 | (have e := pow79 i793.1 i793.2; omega)) (show 0 < y2 from by omega) (show 0 ≤ jxw (y3 + 1) from by omega) (show jxw (y3 + 1) ≤ a0 79 3 from by omega) (by rw [show (jxw (y3 + 1)).toNat = y3.toNat + 1 from by omega]; exact ht)
  have hc45 : ∀ (y1 y2 y3 : Int) (b : Nat → Nat → Int), (((((y2 + 0) * 11) + 0) + ((8 - y3) * 1)) + 0).toNat ≤ n → 0 ≤ y1 → y1 ≤ 39 → 1 ≤ y2 → y2 ≤ 255 → 0 ≤ y3 → y3 ≤ 7 → y1 = x1 → 0 ≤ y2 → (0 ≤ x1 ∧ x1 ≤ 39) → (jbf [80, 81] b0 b) → (y2 < 2 ^ (a0 79 3).toNat) → 0 < y2 → 0 ≤ y3 → y3 < a0 79 3 → (∀ (A : Nat → Nat → Prop) (p : Nat → Nat → Int), PBD A p (a0 79 3).toNat → PROW A p (a0 79 3).toNat x1.toNat (b0 82) → DPC A p (a0 79 3).toNat x1.toNat (b0 80) (b0 81) → TRS A p (a0 79 3).toNat x1.toNat (b 80) (b 81) y2.toNat y3.toNat) → (y2.toNat.testBit y3.toNat = true) → (¬ b0 82 y3.toNat = IMPO) → jt (jxX E d 44 45 [some (.inr (.inr (.inl 79))), some (.inl y1), some (.inl y2), some (.inl y3)] [] (jxSH, a0, b)) (jQ_X2_tryReceiver x1 a0 b0) := by
    intro y1 y2 y3 b hm hi0 hi1 hi2 hi3 hi4 hi5 hi6 hi7 hi8 hbf hm2 hi11 hi12 hi13 ht hbit hnp
    refine jt_eq (bq_X2_tryReceiver_45 E d y1 y2 y3 a0 b) ?_
    have h1101_ := iv_get hv0 (k := 79) (j := 3) (l := 0) (u := 8) rfl
    have i793 := iv_get hv0 (k := 79) (j := 3) (l := 0) (u := 8) rfl
    have e79 := pow79 i793.1 i793.2
    refine jt_bV (sp_X2_tryPair E d (jd_le hd rfl) y2 y3 y1 a0 b hv0 (show 0 ≤ y2 from by omega) (show y2 ≤ 255 from by omega) (show 0 ≤ y3 from by omega) (show y3 ≤ 7 from by omega)) (fun a1102_ b1102_ h1102_ => ?_)
    obtain ⟨rfl, hq1102_0⟩ := h1102_
    exact hc52 y1 y2 y3 b1102_ (show (((((y2 + 0) * 11) + 0) + ((8 - y3) * 1)) + 0).toNat ≤ n from by omega) (show 0 ≤ y1 from by omega) (show y1 ≤ 39 from by omega) (show 1 ≤ y2 from by omega) (show y2 ≤ 255 from by omega) (show 0 ≤ y3 from by omega) (show y3 ≤ 7 from by omega) (show y1 = x1 from by omega) (show 0 ≤ y2 from by omega) (show (0 ≤ x1 ∧ x1 ≤ 39) from by omega) (jbf_tr hbf (TPR_fr hq1102_0).1 rfl) (by first | exact hm2 | (have e := pow79 i793.1 i793.2; omega)) (show 0 < y2 from by omega) (show 0 ≤ y3 from by omega) (show y3 < a0 79 3 from by omega) (fun A p h1_ h2_ h3_ => by have q := hq1102_0; have pr := (h2_ y3.toNat (by omega)).resolve_right (fun z => hnp z.2); rw [show y1 = ((x1.toNat : Nat) : Int) from by omega, show y2 = ((y2.toNat : Nat) : Int) from by omega, show y3 = ((y3.toNat : Nat) : Int) from by omega] at q; exact TRS_pair (by omega) (by omega) (by omega) hbit (by omega) pr.1 ((hbf 82 _ rfl).trans pr.2.1) h1_ (ht A p h1_ h2_ h3_) q)
  have hc15 : ∀ (y1 y2 y3 : Int) (b : Nat → Nat → Int), (((((y2 + 0) * 11) + 0) + ((8 - y3) * 1)) + 0).toNat ≤ n → 0 ≤ y1 → y1 ≤ 39 → 1 ≤ y2 → y2 ≤ 255 → 0 ≤ y3 → y3 ≤ 8 → y1 = x1 → 0 ≤ y2 → (0 ≤ x1 ∧ x1 ≤ 39) → (jbf [80, 81] b0 b) → (y2 < 2 ^ (a0 79 3).toNat) → 0 < y2 → 0 ≤ y3 → y3 ≤ a0 79 3 → (∀ (A : Nat → Nat → Prop) (p : Nat → Nat → Int), PBD A p (a0 79 3).toNat → PROW A p (a0 79 3).toNat x1.toNat (b0 82) → DPC A p (a0 79 3).toNat x1.toNat (b0 80) (b0 81) → TRS A p (a0 79 3).toNat x1.toNat (b 80) (b 81) y2.toNat y3.toNat) → jt (jxX E d 44 15 [some (.inr (.inr (.inl 79))), some (.inl y1), some (.inl y2), some (.inl y3)] [] (jxSH, a0, b)) (jQ_X2_tryReceiver x1 a0 b0) := by
    intro y1 y2 y3 b hm hi0 hi1 hi2 hi3 hi4 hi5 hi6 hi7 hi8 hbf hm2 hi11 hi12 hi13 ht
    refine jt_eq (bq_X2_tryReceiver_15 E d y1 y2 y3 a0 b) ?_
    have h1103_ := iv_get hv0 (k := 79) (j := 3) (l := 0) (u := 8) rfl
    have i793 := iv_get hv0 (k := 79) (j := 3) (l := 0) (u := 8) rfl
    refine jt_ite (fun c1104_ => ?_) (fun c1104_ => ?_)
    ·
      have h1105_ := jxshr_b y2 y3
      have h1106_ := jxand_r (jxshr y2 y3) 1 (by decide) (by decide)
      refine jt_ite (fun c1107_ => ?_) (fun c1107_ => ?_)
      ·
        refine jt_grd (by omega) ?_
        have h1108_ := jxlcmp_b (b 82 (y3.toNat)) 4611686018427387904
        refine jt_ite (fun c1109_ => ?_) (fun c1109_ => ?_)
        ·
          exact hc52 y1 y2 y3 b (show (((((y2 + 0) * 11) + 0) + ((8 - y3) * 1)) + 0).toNat ≤ n from by omega) (show 0 ≤ y1 from by omega) (show y1 ≤ 39 from by omega) (show 1 ≤ y2 from by omega) (show y2 ≤ 255 from by omega) (show 0 ≤ y3 from by omega) (show y3 ≤ 7 from by omega) (show y1 = x1 from by omega) (show 0 ≤ y2 from by omega) (show (0 ≤ x1 ∧ x1 ≤ 39) from by omega) hbf (by first | exact hm2 | (have e := pow79 i793.1 i793.2; omega)) (show 0 < y2 from by omega) (show 0 ≤ y3 from by omega) (show y3 < a0 79 3 from by omega) (by first | exact (fun A p h1_ h2_ h3_ => TRS_skip (ht A p h1_ h2_ h3_) (Or.inl (fun z => by have hbt : jxand (jxshr y2 y3) 1 = if y2.toNat.testBit y3.toNat then 1 else 0 := (by have q := jxbit_nat y2.toNat y3.toNat (by have e := pow79 i793.1 i793.2; omega) (by omega); rw [Int.toNat_of_nonneg (by omega), Int.toNat_of_nonneg (by omega)] at q; exact q); rw [z] at hbt; rw [if_pos rfl] at hbt; omega))) | exact (fun A p h1_ h2_ h3_ => TRS_skip (ht A p h1_ h2_ h3_) (Or.inr (fun z => by have pr := (h2_ y3.toNat (by omega)).resolve_right (fun w => w.1 z); apply pr.2.2; rw [← hbf 82 _ rfl]; show b 82 (y3.toNat) = 4611686018427387904; omega))))
        ·
          exact hc45 y1 y2 y3 b (show (((((y2 + 0) * 11) + 0) + ((8 - y3) * 1)) + 0).toNat ≤ n from by omega) (show 0 ≤ y1 from by omega) (show y1 ≤ 39 from by omega) (show 1 ≤ y2 from by omega) (show y2 ≤ 255 from by omega) (show 0 ≤ y3 from by omega) (show y3 ≤ 7 from by omega) (show y1 = x1 from by omega) (show 0 ≤ y2 from by omega) (show (0 ≤ x1 ∧ x1 ≤ 39) from by omega) hbf (by first | exact hm2 | (have e := pow79 i793.1 i793.2; omega)) (show 0 < y2 from by omega) (show 0 ≤ y3 from by omega) (show y3 < a0 79 3 from by omega) ht (by have hbt : jxand (jxshr y2 y3) 1 = if y2.toNat.testBit y3.toNat then 1 else 0 := (by have q := jxbit_nat y2.toNat y3.toNat (by have e := pow79 i793.1 i793.2; omega) (by omega); rw [Int.toNat_of_nonneg (by omega), Int.toNat_of_nonneg (by omega)] at q; exact q); cases c : y2.toNat.testBit y3.toNat <;> first | rfl | (rw [c] at hbt; exact absurd hbt (by rw [if_neg (by decide)]; omega))) (by rw [← hbf 82 _ rfl]; show ¬ b 82 (y3.toNat) = 4611686018427387904; omega)
      ·
        exact hc52 y1 y2 y3 b (show (((((y2 + 0) * 11) + 0) + ((8 - y3) * 1)) + 0).toNat ≤ n from by omega) (show 0 ≤ y1 from by omega) (show y1 ≤ 39 from by omega) (show 1 ≤ y2 from by omega) (show y2 ≤ 255 from by omega) (show 0 ≤ y3 from by omega) (show y3 ≤ 7 from by omega) (show y1 = x1 from by omega) (show 0 ≤ y2 from by omega) (show (0 ≤ x1 ∧ x1 ≤ 39) from by omega) hbf (by first | exact hm2 | (have e := pow79 i793.1 i793.2; omega)) (show 0 < y2 from by omega) (show 0 ≤ y3 from by omega) (show y3 < a0 79 3 from by omega) (by first | exact (fun A p h1_ h2_ h3_ => TRS_skip (ht A p h1_ h2_ h3_) (Or.inl (fun z => by have hbt : jxand (jxshr y2 y3) 1 = if y2.toNat.testBit y3.toNat then 1 else 0 := (by have q := jxbit_nat y2.toNat y3.toNat (by have e := pow79 i793.1 i793.2; omega) (by omega); rw [Int.toNat_of_nonneg (by omega), Int.toNat_of_nonneg (by omega)] at q; exact q); rw [z] at hbt; rw [if_pos rfl] at hbt; omega))) | exact (fun A p h1_ h2_ h3_ => TRS_skip (ht A p h1_ h2_ h3_) (Or.inr (fun z => by have pr := (h2_ y3.toNat (by omega)).resolve_right (fun w => w.1 z); apply pr.2.2; rw [← hbf 82 _ rfl]; show b 82 (y3.toNat) = 4611686018427387904; omega))))
    ·
      have h1110_ : jxw (y2 + (-1)) = y2 + (-1) := jxw_id (by omega) (by omega)
      exact ih9 y1 (jxw (y2 + (-1))) b (show ((((jxw (y2 + (-1))) + 0) * 11) + 10).toNat < n from by omega) (show 0 ≤ y1 from by omega) (show y1 ≤ 39 from by omega) (show 0 ≤ jxw (y2 + (-1)) from by omega) (show jxw (y2 + (-1)) ≤ 255 from by omega) (show y1 = x1 from by omega) (show 0 ≤ jxw (y2 + (-1)) from by omega) (show (0 ≤ x1 ∧ x1 ≤ 39) from by omega) hbf (by first | exact hm2 | (have e := pow79 i793.1 i793.2; omega)) (fun A p h1_ h2_ h3_ => by have q := ht A p h1_ h2_ h3_; rw [show y3.toNat = (a0 79 3).toNat from by omega] at q; have q2 := TRS_next (by omega) q; rw [show y2.toNat - 1 = (jxw (y2 + (-1))).toNat from by omega] at q2; exact q2)
  have hc9 : ∀ (y1 y2 : Int) (b : Nat → Nat → Int), (((y2 + 0) * 11) + 10).toNat ≤ n → 0 ≤ y1 → y1 ≤ 39 → 0 ≤ y2 → y2 ≤ 255 → y1 = x1 → 0 ≤ y2 → (0 ≤ x1 ∧ x1 ≤ 39) → (jbf [80, 81] b0 b) → (y2 < 2 ^ (a0 79 3).toNat) → (∀ (A : Nat → Nat → Prop) (p : Nat → Nat → Int), PBD A p (a0 79 3).toNat → PROW A p (a0 79 3).toNat x1.toNat (b0 82) → DPC A p (a0 79 3).toNat x1.toNat (b0 80) (b0 81) → TRS A p (a0 79 3).toNat x1.toNat (b 80) (b 81) y2.toNat 0) → jt (jxX E d 44 9 [some (.inr (.inr (.inl 79))), some (.inl y1), some (.inl y2), none] [] (jxSH, a0, b)) (jQ_X2_tryReceiver x1 a0 b0) := by
    intro y1 y2 b hm hi0 hi1 hi2 hi3 hi4 hi5 hi6 hbf hm2 ht
    refine jt_eq (bq_X2_tryReceiver_9 E d y1 y2 a0 b) ?_
    have i793 := iv_get hv0 (k := 79) (j := 3) (l := 0) (u := 8) rfl
    refine jt_ite (fun c1111_ => ?_) (fun c1111_ => ?_)
    ·
      have h1112_ := iv_get hv0 (k := 79) (j := 3) (l := 0) (u := 8) rfl
      exact hc15 y1 y2 0 b (show (((((y2 + 0) * 11) + 0) + ((8 - 0) * 1)) + 0).toNat ≤ n from by omega) (show 0 ≤ y1 from by omega) (show y1 ≤ 39 from by omega) (show 1 ≤ y2 from by omega) (show y2 ≤ 255 from by omega) (show 0 ≤ 0 from by omega) (show 0 ≤ 8 from by omega) (show y1 = x1 from by omega) (show 0 ≤ y2 from by omega) (show (0 ≤ x1 ∧ x1 ≤ 39) from by omega) hbf (by first | exact hm2 | (have e := pow79 i793.1 i793.2; omega)) (show 0 < y2 from by omega) (show 0 ≤ 0 from by omega) (show 0 ≤ a0 79 3 from by omega) (fun A p h1_ h2_ h3_ => ht A p h1_ h2_ h3_)
    ·
      refine jt_bV (sp_X2_forbidAll E d (jd_le hd rfl) a0 b hv0) (fun a1113_ b1113_ h1113_ => ?_)
      obtain ⟨rfl, hq1113_0, hq1113_1⟩ := h1113_
      exact jt_rV ⟨rfl, (fun A p h1_ h2_ h3_ => by have q := ht A p h1_ h2_ h3_; rw [show y2.toNat = 0 from by omega] at q; have q2 := TRS_end q; rw [show b1113_ 80 = b 80 from funext fun j => hq1113_1 80 j rfl, show b1113_ 81 = b 81 from funext fun j => hq1113_1 81 j rfl]; exact q2), hq1113_0, (jbf_tr (jbf_tr (jbf_rf [80, 81, 82] b0) hbf rfl) hq1113_1 rfl)⟩
  exact ⟨hc52, hc45, hc15, hc9⟩
theorem sp_X2_tryReceiver (E : jxE) (d : Nat) (hd : Nat.ble 3 d = true) (x1 : Int) (a0 b0 : Nat → Nat → Int) (hv0 : iv a0) (hp0 : (0 ≤ x1 ∧ x1 ≤ 39)) : jt (jxC E d 44 [.inr (.inr (.inl 79)), .inl x1] (jxSH, a0, b0)) (jQ_X2_tryReceiver x1 a0 b0) := by
  obtain ⟨d, rfl⟩ := jd_succ hd
  refine jt_eq (bq_X2_tryReceiver E d x1 a0 b0) ?_
  have i793 := iv_get hv0 (k := 79) (j := 3) (l := 0) (u := 8) rfl
  have e79 := pow79 i793.1 i793.2
  have h1 : jxw (jxshl 1 (a0 79 3) - 1) = jxshl 1 (a0 79 3) - 1 := jxw_id (by omega) (by omega)
  have h1114_ := iv_get hv0 (k := 79) (j := 3) (l := 0) (u := 8) rfl
  have h1115_ := jxshl1_b (a0 79 3)
  have h1116_ : jxw ((jxshl 1 (a0 79 3)) - 1) = (jxshl 1 (a0 79 3)) - 1 := jxw_id (by omega) (by omega)
  exact (cp_X2_tryReceiver_9 E d hd x1 a0 b0 hv0 hp0 _).2.2.2 x1 (jxw ((jxshl 1 (a0 79 3)) - 1)) b0 (Nat.le_refl _) (show 0 ≤ x1 from by omega) (show x1 ≤ 39 from by omega) (show 0 ≤ jxw ((jxshl 1 (a0 79 3)) - 1) from by omega) (show jxw ((jxshl 1 (a0 79 3)) - 1) ≤ 255 from by omega) (show x1 = x1 from by omega) (show 0 ≤ jxw ((jxshl 1 (a0 79 3)) - 1) from by omega) (show (0 ≤ x1 ∧ x1 ≤ 39) from by omega) (jbf_rf _ _) (by first | exact hm2 | (have e := pow79 i793.1 i793.2; omega)) (fun A p h1_ h2_ h3_ => by have q := TRS_start h3_; rw [show (2 : Nat) ^ (a0 79 3).toNat - 1 = (jxw ((jxshl 1 (a0 79 3)) - 1)).toNat from by omega] at q; exact q)
def jW_X3_goAway : List (Nat × Nat) := [(10, 9999)]
abbrev jQ_X3_goAway (x1 : Int) (a0 b0 : Nat → Nat → Int) : List jxV → (Nat → Nat → Int) → (Nat → Nat → Int) → Prop := rV (fun a b => (iv a) ∧ (jfr jW_X3_goAway a0 a) ∧ (b0 = b) ∧ (0 ≤ x1 ∧ x1 < a0 4 6 ∧ x1 < 40 → UP (a0 10) (a 10) x1.toNat 0))
theorem sp_X3_goAway (E : jxE) (d : Nat) (hd : Nat.ble 2 d = true) (x1 : Int) (a0 b0 : Nat → Nat → Int) (hv0 : iv a0) : jt (jxC E d 55 [.inr (.inr (.inl 4)), .inl x1] (jxSH, a0, b0)) (jQ_X3_goAway x1 a0 b0) := by
  obtain ⟨d, rfl⟩ := jd_succ hd
  refine jt_eq (bq_X3_goAway E d x1 a0 b0) ?_
  refine jt_eI (eq_X3_has E d (jd_le hd rfl) x1 a0 b0) ?_
  have h1117_ := f_X3_has_eq a0 b0 x1
  have h1118_ := iv_get hv0 (k := 4) (j := 6) (l := 0) (u := 40) rfl
  refine jt_ite (fun c1119_ => ?_) (fun c1119_ => ?_)
  ·
    exact jt_rV ⟨hv0, (jfr_rf _ _), rfl, (by first | (intro h; exact absurd h (by omega)) | (intro _; exact UP_put (fun _ => rfl)))⟩
  ·
    refine jt_grd (by omega) ?_
    have hv1120_ : iv (jxu a0 10 (x1.toNat) 0) := iv_putf hv0 rfl
    have hf1121_ : jfr jW_X3_goAway a0 (jxu a0 10 (x1.toNat) 0) := jfr_put (jfr_rf _ _) rfl
    exact jt_rV ⟨hv1120_, hf1121_, rfl, (by first | (intro h; exact absurd h (by omega)) | (intro _; exact UP_put (fun _ => rfl)))⟩
def jW_X11_list : List (Nat × Nat) := [(0, 9), (76, 9999)]
abbrev jQ_X11_list (x1 : Int) (a0 b0 : Nat → Nat → Int) : List jxV → (Nat → Nat → Int) → (Nat → Nat → Int) → Prop := rI (fun r a b => (iv a) ∧ (jfr jW_X11_list a0 a) ∧ (b0 = b) ∧ ((a0 4 6 = 0 → r = 0 - 1)))
theorem cp_X11_list_67 (E : jxE) (d : Nat) (hd : Nat.ble 2 (d + 1) = true) (x1 : Int) (a0 b0 : Nat → Nat → Int) (hv0 : iv a0) : ∀ (a : Nat → Nat → Int), iv a → jfr jW_X11_list a0 a → 1 ≤ a 0 9 → 1 ≤ a0 4 6 → jt (jxX E d 167 67 [some (.inr (.inr (.inl 0))), none, none] [] (jxSH, a, b0)) (jQ_X11_list x1 a0 b0) := by
  intro a hv hf hi0 hi1
  refine jt_eq (bq_X11_list_67 E d a b0) ?_
  have h1122_ := iv_get hv (k := 0) (j := 9) (l := 0) (u := 8) rfl
  have h1123_ := iv_get hv0 (k := 4) (j := 6) (l := 0) (u := 40) rfl
  exact jt_rI ⟨hv, hf, rfl, (show (a0 4 6 = 0 → a 0 9 = 0 - 1) from by omega)⟩
theorem cp_X11_list_24 (E : jxE) (d : Nat) (hd : Nat.ble 2 (d + 1) = true) (x1 : Int) (a0 b0 : Nat → Nat → Int) (hv0 : iv a0) : ∀ n : Nat, (∀ (y1 y2 : Int) (a : Nat → Nat → Int), (((7 - y2) * 1) + 0).toNat ≤ n → iv a → jfr jW_X11_list a0 a → 0 ≤ y1 → y1 ≤ 39 → 0 ≤ y2 → y2 ≤ 7 → a 0 9 ≤ 7 → 1 ≤ a0 4 6 → jt (jxX E d 167 24 [some (.inr (.inr (.inl 0))), some (.inl y1), some (.inl y2)] [] (jxSH, a, b0)) (jQ_X11_list x1 a0 b0)) := by
  refine jx_ind fun n ih => ?_
  have ih24 : ∀ (y1 y2 : Int) (a : Nat → Nat → Int), (((7 - y2) * 1) + 0).toNat < n → iv a → jfr jW_X11_list a0 a → 0 ≤ y1 → y1 ≤ 39 → 0 ≤ y2 → y2 ≤ 7 → a 0 9 ≤ 7 → 1 ≤ a0 4 6 → jt (jxX E d 167 24 [some (.inr (.inr (.inl 0))), some (.inl y1), some (.inl y2)] [] (jxSH, a, b0)) (jQ_X11_list x1 a0 b0) := fun y1 y2 a hlt i0 i1 i2 i3 i4 i5 i6 i7 => (ih _ hlt) y1 y2 a (Nat.le_refl _) i0 i1 i2 i3 i4 i5 i6 i7
  have hc24 : ∀ (y1 y2 : Int) (a : Nat → Nat → Int), (((7 - y2) * 1) + 0).toNat ≤ n → iv a → jfr jW_X11_list a0 a → 0 ≤ y1 → y1 ≤ 39 → 0 ≤ y2 → y2 ≤ 7 → a 0 9 ≤ 7 → 1 ≤ a0 4 6 → jt (jxX E d 167 24 [some (.inr (.inr (.inl 0))), some (.inl y1), some (.inl y2)] [] (jxSH, a, b0)) (jQ_X11_list x1 a0 b0) := by
    intro y1 y2 a hm hv hf hi0 hi1 hi2 hi3 hi4 hi5
    refine jt_eq (bq_X11_list_24 E d y1 y2 a b0) ?_
    have h1124_ := iv_get hv (k := 0) (j := 9) (l := 0) (u := 8) rfl
    have h1125_ := iv_get hv0 (k := 4) (j := 6) (l := 0) (u := 40) rfl
    refine jt_ite (fun c1126_ => ?_) (fun c1126_ => ?_)
    ·
      refine jt_grd (by omega) ?_
      refine jt_ite (fun c1127_ => ?_) (fun c1127_ => ?_)
      ·
        exact jt_rI ⟨hv, hf, rfl, (show (a0 4 6 = 0 → (-1) = 0 - 1) from by omega)⟩
      ·
        have h1128_ : jxw (y2 + 1) = y2 + 1 := jxw_id (by omega) (by omega)
        exact ih24 y1 (jxw (y2 + 1)) a (show (((7 - (jxw (y2 + 1))) * 1) + 0).toNat < n from by omega) hv hf (show 0 ≤ y1 from by omega) (show y1 ≤ 39 from by omega) (show 0 ≤ jxw (y2 + 1) from by omega) (show jxw (y2 + 1) ≤ 7 from by omega) (show a 0 9 ≤ 7 from by omega) (show 1 ≤ a0 4 6 from by omega)
    ·
      refine jt_grd (by omega) ?_
      have h1130_ : jxw ((a 0 9) + 1) = (a 0 9) + 1 := jxw_id (by omega) (by omega)
      have hv1129_ : iv (jxu a 0 9 (jxw ((a 0 9) + 1))) := iv_put hv (l := 0) (u := 8) rfl (by omega) (by omega)
      have hv1131_ : iv (jxu (jxu a 0 9 (jxw ((a 0 9) + 1))) 76 ((a 0 9).toNat) y1) := iv_putf hv1129_ rfl
      have hf1132_ : jfr jW_X11_list a0 (jxu a 0 9 (jxw ((a 0 9) + 1))) := jfr_put hf rfl
      have hf1133_ : jfr jW_X11_list a0 (jxu (jxu a 0 9 (jxw ((a 0 9) + 1))) 76 ((a 0 9).toNat) y1) := jfr_put hf1132_ rfl
      exact cp_X11_list_67 E d hd x1 a0 b0 hv0 (jxu (jxu a 0 9 (jxw ((a 0 9) + 1))) 76 ((a 0 9).toNat) y1) hv1131_ hf1133_ (show 1 ≤ jxw ((a 0 9) + 1) from by omega) (show 1 ≤ a0 4 6 from by omega)
  exact hc24
theorem sp_X11_list (E : jxE) (d : Nat) (hd : Nat.ble 2 d = true) (x1 : Int) (a0 b0 : Nat → Nat → Int) (hv0 : iv a0) : jt (jxC E d 167 [.inr (.inr (.inl 0)), .inl x1] (jxSH, a0, b0)) (jQ_X11_list x1 a0 b0) := by
  obtain ⟨d, rfl⟩ := jd_succ hd
  refine jt_eq (bq_X11_list E d x1 a0 b0) ?_
  refine jt_eI (eq_X3_has E d (jd_le hd rfl) x1 a0 b0) ?_
  have h1134_ := f_X3_has_eq a0 b0 x1
  have h1135_ := iv_get hv0 (k := 4) (j := 6) (l := 0) (u := 40) rfl
  refine jt_ite (fun c1136_ => ?_) (fun c1136_ => ?_)
  ·
    exact jt_rI ⟨hv0, (jfr_rf _ _), rfl, (show (a0 4 6 = 0 → (-1) = 0 - 1) from by omega)⟩
  ·
    have h1137_ := iv_get hv0 (k := 0) (j := 9) (l := 0) (u := 8) rfl
    refine jt_ite (fun c1138_ => ?_) (fun c1138_ => ?_)
    ·
      exact (cp_X11_list_24 E d hd x1 a0 b0 hv0 _) x1 0 a0 (Nat.le_refl _) hv0 (jfr_rf _ _) (show 0 ≤ x1 from by omega) (show x1 ≤ 39 from by omega) (show 0 ≤ 0 from by omega) (show 0 ≤ 7 from by omega) (show a0 0 9 ≤ 7 from by omega) (show 1 ≤ a0 4 6 from by omega)
    ·
      exact jt_rI ⟨hv0, (jfr_rf _ _), rfl, (show (a0 4 6 = 0 → (-1) = 0 - 1) from by omega)⟩
def jW_X11_may : List (Nat × Nat) := [(70, 9999), (71, 9999), (72, 9999), (73, 9999), (74, 9999), (75, 9999)]
abbrev jQ_X11_may (x1 x2 : Int) (a0 b0 : Nat → Nat → Int) : List jxV → (Nat → Nat → Int) → (Nat → Nat → Int) → Prop := rI (fun r a b => (iv a) ∧ (jfr jW_X11_may a0 a) ∧ (b0 = b) ∧ ((a0 4 6 = 0 → r = 0 - 1)) ∧ (0 ≤ x1 → x1 < a0 4 6 → 0 ≤ x2 → x2 < a0 4 6 → MAYC a0 b0 x1 x2 r) ∧ (((((x1 < 0 ∨ a0 4 6 ≤ x1) ∨ x2 < 0) ∨ a0 4 6 ≤ x2) → r = 0 - 1)))
theorem cp_X11_may_39 (E : jxE) (d : Nat) (hd : Nat.ble 8 (d + 1) = true) (x1 x2 : Int) (a0 b0 : Nat → Nat → Int) (hv0 : iv a0) (hp0 : WISHR a0) : ∀ (y1 y2 : Int) (a : Nat → Nat → Int), iv a → jfr jW_X11_may a0 a → 0 ≤ y1 → y1 ≤ 39 → 0 ≤ y2 → y2 ≤ 39 → (jfr jWtk a0 a) → (y1 = x1) → (y2 = x2) → (((0 ≤ x1 ∧ x1 < a 4 6) ∧ 0 ≤ x2) ∧ x2 < a 4 6) → (TSUM a0 b0 (a0 0 0) a (a0 58 8).toNat) → 1 ≤ a0 4 6 → jt (jxX E d 166 39 [some (.inr (.inr (.inl 0))), some (.inl y1), some (.inl y2)] [] (jxSH, a, b0)) (jQ_X11_may x1 x2 a0 b0) := by
  intro y1 y2 a hv hf hi0 hi1 hi2 hi3 hfe hy1 hy2 hi7 hts hi9
  refine jt_eq (bq_X11_may_39 E d y1 y2 a b0) ?_
  have h1139_ := iv_get hv (k := 4) (j := 6) (l := 0) (u := 40) rfl
  have h1140_ : a 4 6 = a0 4 6 := hf 4 6 rfl
  have h1141_ := iv_get hv0 (k := 4) (j := 6) (l := 0) (u := 40) rfl
  refine jt_bJ (sp_X0_reachedBy E d (jd_le hd rfl) y1 a b0 hv) (fun r1142_ a1142_ b1142_ h1142_ => ?_)
  obtain ⟨rfl, rfl, hq1142_0⟩ := h1142_
  refine jt_bI (sp_X11_mayGet E d (jd_le hd rfl) y1 y2 r1142_ a b0 hv (WISHR_fr hp0 hf (fun _ => rfl) (fun _ => rfl) (fun _ => rfl) (fun _ => rfl))) (fun r1143_ a1143_ b1143_ h1143_ => ?_)
  obtain ⟨rfl, rfl, hq1143_0, hq1143_1⟩ := h1143_
  refine jt_ite (fun c1144_ => ?_) (fun c1144_ => ?_)
  ·
    exact jt_rI ⟨hv, hf, rfl, (show (a0 4 6 = 0 → 0 = 0 - 1) from by omega), (fun h1 h2 h3 h4 => ⟨a, hfe, hts, by have q := hq1143_1 (by omega) (by omega); rw [hq1142_0, hy1, hy2, hfe 58 8 rfl] at q; omega⟩), (show ((((x1 < 0 ∨ a0 4 6 ≤ x1) ∨ x2 < 0) ∨ a0 4 6 ≤ x2) → 0 = 0 - 1) from by omega)⟩
  ·
    exact jt_rI ⟨hv, hf, rfl, (show (a0 4 6 = 0 → 1 = 0 - 1) from by omega), (fun h1 h2 h3 h4 => ⟨a, hfe, hts, by have q := hq1143_1 (by omega) (by omega); rw [hq1142_0, hy1, hy2, hfe 58 8 rfl] at q; omega⟩), (show ((((x1 < 0 ∨ a0 4 6 ≤ x1) ∨ x2 < 0) ∨ a0 4 6 ≤ x2) → 1 = 0 - 1) from by omega)⟩
theorem sp_X11_may (E : jxE) (d : Nat) (hd : Nat.ble 8 d = true) (x1 x2 : Int) (a0 b0 : Nat → Nat → Int) (hv0 : iv a0) (hp0 : WISHR a0) : jt (jxC E d 166 [.inr (.inr (.inl 0)), .inl x1, .inl x2] (jxSH, a0, b0)) (jQ_X11_may x1 x2 a0 b0) := by
  obtain ⟨d, rfl⟩ := jd_succ hd
  refine jt_eq (bq_X11_may E d x1 x2 a0 b0) ?_
  refine jt_eI (eq_X3_has E d (jd_le hd rfl) x1 a0 b0) ?_
  have h1145_ := f_X3_has_eq a0 b0 x1
  have h1146_ := iv_get hv0 (k := 4) (j := 6) (l := 0) (u := 40) rfl
  refine jt_ite (fun c1147_ => ?_) (fun c1147_ => ?_)
  ·
    exact jt_rI ⟨hv0, (jfr_rf _ _), rfl, (show (a0 4 6 = 0 → (-1) = 0 - 1) from by omega), (fun h1 h2 h3 h4 => absurd (by omega : False) id), (show ((((x1 < 0 ∨ a0 4 6 ≤ x1) ∨ x2 < 0) ∨ a0 4 6 ≤ x2) → (-1) = 0 - 1) from by omega)⟩
  ·
    refine jt_eI (eq_X3_has E d (jd_le hd rfl) x2 a0 b0) ?_
    have h1148_ := f_X3_has_eq a0 b0 x2
    refine jt_ite (fun c1149_ => ?_) (fun c1149_ => ?_)
    ·
      exact jt_rI ⟨hv0, (jfr_rf _ _), rfl, (show (a0 4 6 = 0 → (-1) = 0 - 1) from by omega), (fun h1 h2 h3 h4 => absurd (by omega : False) id), (show ((((x1 < 0 ∨ a0 4 6 ≤ x1) ∨ x2 < 0) ∨ a0 4 6 ≤ x2) → (-1) = 0 - 1) from by omega)⟩
    ·
      refine jt_bV (sp_X7_take_r58 E d (jd_le hd rfl) (a0 0 0) a0 b0 hv0) (fun a1150_ b1150_ h1150_ => ?_)
      obtain ⟨hv1150_, hf1150_, rfl, hq1150_0⟩ := h1150_
      have hf1151_ : jfr jW_X11_may a0 a1150_ := jfr_tr (jfr_rf _ _) hf1150_ rfl
      have hf1152_ : jfr jWtk a0 a1150_ := jfr_tr (jfr_rf _ _) hf1150_ rfl
      have h1153_ := iv_get hv1150_ (k := 4) (j := 6) (l := 0) (u := 40) rfl
      have h1154_ : a1150_ 4 6 = a0 4 6 := hf1150_ 4 6 rfl
      exact cp_X11_may_39 E d hd x1 x2 a0 b0 hv0 hp0 x1 x2 a1150_ hv1150_ hf1151_ (show 0 ≤ x1 from by omega) (show x1 ≤ 39 from by omega) (show 0 ≤ x2 from by omega) (show x2 ≤ 39 from by omega) hf1152_ (by first | rfl | assumption) (by first | rfl | assumption) (show (((0 ≤ x1 ∧ x1 < a1150_ 4 6) ∧ 0 ≤ x2) ∧ x2 < a1150_ 4 6) from by omega) hq1150_0 (show 1 ≤ a0 4 6 from by omega)
abbrev jQ_X11_meets (x1 x2 : Int) (a0 b0 : Nat → Nat → Int) : List jxV → (Nat → Nat → Int) → (Nat → Nat → Int) → Prop := rI (fun r a b => (a0 = a) ∧ (b0 = b) ∧ ((a0 4 6 = 0 → r = 0 - 1)) ∧ (0 ≤ x1 → x1 < a0 4 6 → 0 ≤ x2 → x2 < a0 4 6 → ¬ x1 = x2 → r = METX a0 b0 x1 x2 (a0 0 0)) ∧ ((((((x1 < 0 ∨ a0 4 6 ≤ x1) ∨ x2 < 0) ∨ a0 4 6 ≤ x2) ∨ x1 = x2) → r = 0 - 1)))
theorem cp_X11_meets_45 (E : jxE) (d : Nat) (hd : Nat.ble 6 (d + 1) = true) (x1 x2 : Int) (a0 b0 : Nat → Nat → Int) (hv0 : iv a0) (hp0 : WISHR a0) : ((((0 ≤ x1 ∧ x1 < a0 4 6) ∧ 0 ≤ x2) ∧ x2 < a0 4 6) ∧ ¬ x1 = x2) → (METX a0 b0 x1 x2 (a0 0 0) = 1) → 1 ≤ a0 4 6 → jt (jxX E d 163 45 [none, none, none] [] (jxSH, a0, b0)) (jQ_X11_meets x1 x2 a0 b0) := by
  intro hi0 hmx hi2
  refine jt_eq (bq_X11_meets_45 E d a0 b0) ?_
  have h1155_ := iv_get hv0 (k := 4) (j := 6) (l := 0) (u := 40) rfl
  exact jt_rI ⟨rfl, rfl, (show (a0 4 6 = 0 → 1 = 0 - 1) from by omega), (fun _ _ _ _ _ => hmx.symm), (show (((((x1 < 0 ∨ a0 4 6 ≤ x1) ∨ x2 < 0) ∨ a0 4 6 ≤ x2) ∨ x1 = x2) → 1 = 0 - 1) from by omega)⟩
theorem cp_X11_meets_49 (E : jxE) (d : Nat) (hd : Nat.ble 6 (d + 1) = true) (x1 x2 : Int) (a0 b0 : Nat → Nat → Int) (hv0 : iv a0) (hp0 : WISHR a0) : ((((0 ≤ x1 ∧ x1 < a0 4 6) ∧ 0 ≤ x2) ∧ x2 < a0 4 6) ∧ ¬ x1 = x2) → (METX a0 b0 x1 x2 (a0 0 0) = 0) → 1 ≤ a0 4 6 → jt (jxX E d 163 49 [none, none, none] [] (jxSH, a0, b0)) (jQ_X11_meets x1 x2 a0 b0) := by
  intro hi0 hmx hi2
  refine jt_eq (bq_X11_meets_49 E d a0 b0) ?_
  have h1156_ := iv_get hv0 (k := 4) (j := 6) (l := 0) (u := 40) rfl
  exact jt_rI ⟨rfl, rfl, (show (a0 4 6 = 0 → 0 = 0 - 1) from by omega), (fun _ _ _ _ _ => hmx.symm), (show (((((x1 < 0 ∨ a0 4 6 ≤ x1) ∨ x2 < 0) ∨ a0 4 6 ≤ x2) ∨ x1 = x2) → 0 = 0 - 1) from by omega)⟩
theorem sp_X11_meets (E : jxE) (d : Nat) (hd : Nat.ble 6 d = true) (x1 x2 : Int) (a0 b0 : Nat → Nat → Int) (hv0 : iv a0) (hp0 : WISHR a0) : jt (jxC E d 163 [.inr (.inr (.inl 0)), .inl x1, .inl x2] (jxSH, a0, b0)) (jQ_X11_meets x1 x2 a0 b0) := by
  obtain ⟨d, rfl⟩ := jd_succ hd
  refine jt_eq (bq_X11_meets E d x1 x2 a0 b0) ?_
  refine jt_eI (eq_X3_has E d (jd_le hd rfl) x1 a0 b0) ?_
  have h1157_ := f_X3_has_eq a0 b0 x1
  have h1158_ := iv_get hv0 (k := 4) (j := 6) (l := 0) (u := 40) rfl
  refine jt_ite (fun c1159_ => ?_) (fun c1159_ => ?_)
  ·
    exact jt_rI ⟨rfl, rfl, (show (a0 4 6 = 0 → (-1) = 0 - 1) from by omega), (fun h1 h2 h3 h4 h5 => by omega), (show (((((x1 < 0 ∨ a0 4 6 ≤ x1) ∨ x2 < 0) ∨ a0 4 6 ≤ x2) ∨ x1 = x2) → (-1) = 0 - 1) from by omega)⟩
  ·
    refine jt_eI (eq_X3_has E d (jd_le hd rfl) x2 a0 b0) ?_
    have h1160_ := f_X3_has_eq a0 b0 x2
    refine jt_ite (fun c1161_ => ?_) (fun c1161_ => ?_)
    ·
      exact jt_rI ⟨rfl, rfl, (show (a0 4 6 = 0 → (-1) = 0 - 1) from by omega), (fun h1 h2 h3 h4 h5 => by omega), (show (((((x1 < 0 ∨ a0 4 6 ≤ x1) ∨ x2 < 0) ∨ a0 4 6 ≤ x2) ∨ x1 = x2) → (-1) = 0 - 1) from by omega)⟩
    ·
      refine jt_ite (fun c1162_ => ?_) (fun c1162_ => ?_)
      ·
        exact jt_rI ⟨rfl, rfl, (show (a0 4 6 = 0 → (-1) = 0 - 1) from by omega), (fun h1 h2 h3 h4 h5 => by omega), (show (((((x1 < 0 ∨ a0 4 6 ≤ x1) ∨ x2 < 0) ∨ a0 4 6 ≤ x2) ∨ x1 = x2) → (-1) = 0 - 1) from by omega)⟩
      ·
        refine jt_bI (sp_X10_isMet E d (jd_le hd rfl) x1 x2 (a0 0 0) a0 b0 hv0 hp0) (fun r1163_ a1163_ b1163_ h1163_ => ?_)
        obtain ⟨rfl, rfl, hq1163_0, hq1163_1⟩ := h1163_
        refine jt_ite (fun c1164_ => ?_) (fun c1164_ => ?_)
        ·
          exact cp_X11_meets_49 E d hd x1 x2 a0 b0 hv0 hp0 (show ((((0 ≤ x1 ∧ x1 < a0 4 6) ∧ 0 ≤ x2) ∧ x2 < a0 4 6) ∧ ¬ x1 = x2) from by omega) (by have q := hq1163_1 (by omega) (by omega) (by omega) (by omega); omega) (show 1 ≤ a0 4 6 from by omega)
        ·
          exact cp_X11_meets_45 E d hd x1 x2 a0 b0 hv0 hp0 (show ((((0 ≤ x1 ∧ x1 < a0 4 6) ∧ 0 ≤ x2) ∧ x2 < a0 4 6) ∧ ¬ x1 = x2) from by omega) (by have q := hq1163_1 (by omega) (by omega) (by omega) (by omega); omega) (show 1 ≤ a0 4 6 from by omega)
def jW_X3_add : List (Nat × Nat) := [(4, 6), (5, 9999), (6, 9999), (7, 9999), (8, 9999), (10, 9999)]
abbrev jQ_X3_add (x1 x2 x3 x4 : Int) (a0 b0 : Nat → Nat → Int) : List jxV → (Nat → Nat → Int) → (Nat → Nat → Int) → Prop := rI (fun r a b => (iv a) ∧ (jfr jW_X3_add a0 a) ∧ (b0 = b) ∧ ((((a0 4 6 < 40 ∧ r = a0 4 6) ∧ a 4 6 = (a0 4 6) + 1) ∨ ((40 ≤ a0 4 6 ∧ r = 0 - 1) ∧ a 4 6 = a0 4 6))) ∧ (0 ≤ r → MAD a0 a 5 6 7 8 10 r.toNat x1 x2 x3 x4) ∧ (r < 0 → MSA a0 a 5 6 7 8 10))
theorem cp_X3_add_62 (E : jxE) (d : Nat) (hd : Nat.ble 1 (d + 1) = true) (x1 x2 x3 x4 : Int) (a0 b0 : Nat → Nat → Int) (hv0 : iv a0) : ∀ (a : Nat → Nat → Int), iv a → jfr jW_X3_add a0 a → a 4 6 ≤ 39 → a 4 6 = a0 4 6 → a 4 6 ≤ 39 → (MAD a0 a 5 6 7 8 10 (a0 4 6).toNat x1 x2 x3 x4) → jt (jxX E d 54 62 [some (.inr (.inr (.inl 4))), none, none, none, none] [] (jxSH, a, b0)) (jQ_X3_add x1 x2 x3 x4 a0 b0) := by
  intro a hv hf hi0 hi1 hi2 hmad
  refine jt_eq (bq_X3_add_62 E d a b0) ?_
  have h1165_ := iv_get hv (k := 4) (j := 6) (l := 0) (u := 40) rfl
  have h1166_ := iv_get hv0 (k := 4) (j := 6) (l := 0) (u := 40) rfl
  have h1168_ : jxw ((a 4 6) + 1) = (a 4 6) + 1 := jxw_id (by omega) (by omega)
  have hv1167_ : iv (jxu a 4 6 (jxw ((a 4 6) + 1))) := iv_put hv (l := 0) (u := 40) rfl (by omega) (by omega)
  have hf1169_ : jfr jW_X3_add a0 (jxu a 4 6 (jxw ((a 4 6) + 1))) := jfr_put hf rfl
  exact jt_rI ⟨hv1167_, hf1169_, rfl, (show (((a0 4 6 < 40 ∧ a 4 6 = a0 4 6) ∧ jxw ((a 4 6) + 1) = (a0 4 6) + 1) ∨ ((40 ≤ a0 4 6 ∧ a 4 6 = 0 - 1) ∧ jxw ((a 4 6) + 1) = a0 4 6)) from by omega), (by first | (intro h; exact absurd h (by decide)) | (intro _; rw [show (a 4 6).toNat = (a0 4 6).toNat from by omega]; exact hmad)), (by first | (intro _; exact MSA_rf _ _ _ _ _ _) | (intro h; exact absurd h (by omega)))⟩
theorem cp_X3_add_31 (E : jxE) (d : Nat) (hd : Nat.ble 1 (d + 1) = true) (x1 x2 x3 x4 : Int) (a0 b0 : Nat → Nat → Int) (hv0 : iv a0) : ∀ (y3 y4 : Int) (a : Nat → Nat → Int), iv a → jfr jW_X3_add a0 a → a 4 6 ≤ 39 → a 4 6 = a0 4 6 → a 4 6 ≤ 39 → (UP (a0 5) (a 5) (a0 4 6).toNat x1 ∧ UP (a0 6) (a 6) (a0 4 6).toNat x2) → (y3 = x3) → (y4 = x4) → ((∀ j, a 7 j = a0 7 j) ∧ (∀ j, a 8 j = a0 8 j) ∧ (∀ j, a 10 j = a0 10 j)) → jt (jxX E d 54 31 [some (.inr (.inr (.inl 4))), none, none, some (.inl y3), some (.inl y4)] [] (jxSH, a, b0)) (jQ_X3_add x1 x2 x3 x4 a0 b0) := by
  intro y3 y4 a hv hf hi0 hi1 hi2 hu hy3 hy4 hs
  refine jt_eq (bq_X3_add_31 E d y3 y4 a b0) ?_
  have h1170_ := iv_get hv (k := 4) (j := 6) (l := 0) (u := 40) rfl
  have h1171_ := iv_get hv0 (k := 4) (j := 6) (l := 0) (u := 40) rfl
  refine jt_grd (by omega) ?_
  refine jt_grd (by omega) ?_
  refine jt_grd (by omega) ?_
  have hv1172_ : iv (jxu a 7 ((a 4 6).toNat) y3) := iv_putf hv rfl
  have hv1173_ : iv (jxu (jxu a 7 ((a 4 6).toNat) y3) 8 ((a 4 6).toNat) y4) := iv_putf hv1172_ rfl
  have hv1174_ : iv (jxu (jxu (jxu a 7 ((a 4 6).toNat) y3) 8 ((a 4 6).toNat) y4) 10 ((a 4 6).toNat) 1) := iv_putf hv1173_ rfl
  have hf1175_ : jfr jW_X3_add a0 (jxu a 7 ((a 4 6).toNat) y3) := jfr_put hf rfl
  have hf1176_ : jfr jW_X3_add a0 (jxu (jxu a 7 ((a 4 6).toNat) y3) 8 ((a 4 6).toNat) y4) := jfr_put hf1175_ rfl
  have hf1177_ : jfr jW_X3_add a0 (jxu (jxu (jxu a 7 ((a 4 6).toNat) y3) 8 ((a 4 6).toNat) y4) 10 ((a 4 6).toNat) 1) := jfr_put hf1176_ rfl
  exact cp_X3_add_62 E d hd x1 x2 x3 x4 a0 b0 hv0 (jxu (jxu (jxu a 7 ((a 4 6).toNat) y3) 8 ((a 4 6).toNat) y4) 10 ((a 4 6).toNat) 1) hv1174_ hf1177_ (show a 4 6 ≤ 39 from by omega) (show a 4 6 = a0 4 6 from by omega) (show a 4 6 ≤ 39 from by omega) (by subst hy3; subst hy4; rw [show (a 4 6).toNat = (a0 4 6).toNat from by omega]; exact ⟨hu.1, hu.2, UP_put hs.1, UP_put hs.2.1, UP_put hs.2.2⟩)
theorem sp_X3_add (E : jxE) (d : Nat) (hd : Nat.ble 1 d = true) (x1 x2 x3 x4 : Int) (a0 b0 : Nat → Nat → Int) (hv0 : iv a0) : jt (jxC E d 54 [.inr (.inr (.inl 4)), .inl x1, .inl x2, .inl x3, .inl x4] (jxSH, a0, b0)) (jQ_X3_add x1 x2 x3 x4 a0 b0) := by
  obtain ⟨d, rfl⟩ := jd_succ hd
  refine jt_eq (bq_X3_add E d x1 x2 x3 x4 a0 b0) ?_
  have h1178_ := iv_get hv0 (k := 4) (j := 6) (l := 0) (u := 40) rfl
  refine jt_ite (fun c1179_ => ?_) (fun c1179_ => ?_)
  ·
    refine jt_grd (by omega) ?_
    refine jt_grd (by omega) ?_
    have hv1180_ : iv (jxu a0 5 ((a0 4 6).toNat) x1) := iv_putf hv0 rfl
    have hv1181_ : iv (jxu (jxu a0 5 ((a0 4 6).toNat) x1) 6 ((a0 4 6).toNat) x2) := iv_putf hv1180_ rfl
    have hf1182_ : jfr jW_X3_add a0 (jxu a0 5 ((a0 4 6).toNat) x1) := jfr_put (jfr_rf _ _) rfl
    have hf1183_ : jfr jW_X3_add a0 (jxu (jxu a0 5 ((a0 4 6).toNat) x1) 6 ((a0 4 6).toNat) x2) := jfr_put hf1182_ rfl
    exact cp_X3_add_31 E d hd x1 x2 x3 x4 a0 b0 hv0 x3 x4 (jxu (jxu a0 5 ((a0 4 6).toNat) x1) 6 ((a0 4 6).toNat) x2) hv1181_ hf1183_ (show a0 4 6 ≤ 39 from by omega) (show a0 4 6 = a0 4 6 from by omega) (show a0 4 6 ≤ 39 from by omega) ⟨UP_put (fun _ => rfl), UP_put (fun _ => rfl)⟩ (by first | rfl | assumption) (by first | rfl | assumption) ⟨fun _ => rfl, fun _ => rfl, fun _ => rfl⟩
  ·
    exact jt_rI ⟨hv0, (jfr_rf _ _), rfl, (show (((a0 4 6 < 40 ∧ (-1) = a0 4 6) ∧ a0 4 6 = (a0 4 6) + 1) ∨ ((40 ≤ a0 4 6 ∧ (-1) = 0 - 1) ∧ a0 4 6 = a0 4 6)) from by omega), (by first | (intro h; exact absurd h (by decide)) | (intro _; rw [show (a 4 6).toNat = (a0 4 6).toNat from by omega]; exact hmad)), (by first | (intro _; exact MSA_rf _ _ _ _ _ _) | (intro h; exact absurd h (by omega)))⟩
def jWeM : List (Nat × Nat) := []
def jW_X11_member : List (Nat × Nat) := [(4, 6), (5, 9999), (6, 9999), (7, 9999), (8, 9999), (10, 9999)]
abbrev jQ_X11_member (x1 x2 x3 : Int) (a0 b0 : Nat → Nat → Int) : List jxV → (Nat → Nat → Int) → (Nat → Nat → Int) → Prop := rI (fun r a b => (iv a) ∧ (jfr jW_X11_member a0 a) ∧ (b0 = b) ∧ ((((((((((0 ≤ x1 ∧ x1 ≤ 15) ∧ 0 ≤ x2) ∧ x2 ≤ 65535) ∧ 0 - 1 ≤ x3) ∧ x3 ≤ 19) ∧ a0 4 6 < 40) ∧ r = a0 4 6) ∧ a 4 6 = (a0 4 6) + 1) ∨ ((((((((x1 < 0 ∨ 15 < x1) ∨ x2 < 0) ∨ 65535 < x2) ∨ x3 < 0 - 1) ∨ 19 < x3) ∨ 40 ≤ a0 4 6) ∧ r = 0 - 1) ∧ a 4 6 = a0 4 6))) ∧ (0 ≤ r → MAD a0 a 5 6 7 8 10 r.toNat x1 x2 x3 (a0 0 0)) ∧ (r < 0 → MSA a0 a 5 6 7 8 10))
theorem cp_X11_member_32 (E : jxE) (d : Nat) (hd : Nat.ble 3 (d + 1) = true) (x1 x2 x3 : Int) (a0 b0 : Nat → Nat → Int) (hv0 : iv a0) : ∀ (y1 y2 y3 s0 : Int) (a : Nat → Nat → Int), iv a → jfr jW_X11_member a0 a → 0 ≤ s0 → s0 ≤ 1 → y1 = x1 → y2 = x2 → y3 = x3 → (((((((s0 = 1 ∧ 0 ≤ x1) ∧ x1 ≤ 15) ∧ 0 ≤ x2) ∧ x2 ≤ 65535) ∧ 0 - 1 ≤ x3) ∧ x3 ≤ 19) ∨ (s0 = 0 ∧ (((((x1 < 0 ∨ 15 < x1) ∨ x2 < 0) ∨ 65535 < x2) ∨ x3 < 0 - 1) ∨ 19 < x3))) → a 4 6 = a0 4 6 → (jfr jWeM a0 a) → jt (jxX E d 156 32 [some (.inr (.inr (.inl 0))), some (.inl y1), some (.inl y2), some (.inl y3), none] [.inl s0] (jxSH, a, b0)) (jQ_X11_member x1 x2 x3 a0 b0) := by
  intro y1 y2 y3 s0 a hv hf hi0 hi1 hi2 hi3 hi4 hi5 hi6 hfe
  refine jt_eq (bq_X11_member_32 E d y1 y2 y3 s0 a b0) ?_
  have h1184_ := iv_get hv (k := 4) (j := 6) (l := 0) (u := 40) rfl
  have h1185_ := iv_get hv0 (k := 4) (j := 6) (l := 0) (u := 40) rfl
  refine jt_ite (fun c1186_ => ?_) (fun c1186_ => ?_)
  ·
    exact jt_rI ⟨hv, hf, rfl, (show (((((((((0 ≤ x1 ∧ x1 ≤ 15) ∧ 0 ≤ x2) ∧ x2 ≤ 65535) ∧ 0 - 1 ≤ x3) ∧ x3 ≤ 19) ∧ a0 4 6 < 40) ∧ (-1) = a0 4 6) ∧ a 4 6 = (a0 4 6) + 1) ∨ ((((((((x1 < 0 ∨ 15 < x1) ∨ x2 < 0) ∨ 65535 < x2) ∨ x3 < 0 - 1) ∨ 19 < x3) ∨ 40 ≤ a0 4 6) ∧ (-1) = 0 - 1) ∧ a 4 6 = a0 4 6)) from by omega), (fun h => absurd h (by decide)), (fun _ => MSA_e hfe)⟩
  ·
    refine jt_bI (sp_X3_add E d (jd_le hd rfl) y1 y2 y3 (a 0 0) a b0 hv) (fun r1187_ a1187_ b1187_ h1187_ => ?_)
    obtain ⟨hv1187_, hf1187_, rfl, hq1187_0, hq1187_1, hq1187_2⟩ := h1187_
    have h1188_ := iv_get hv1187_ (k := 4) (j := 6) (l := 0) (u := 40) rfl
    have hf1189_ : jfr jW_X11_member a0 a1187_ := jfr_tr hf hf1187_ rfl
    exact jt_rI ⟨hv1187_, hf1189_, rfl, (show (((((((((0 ≤ x1 ∧ x1 ≤ 15) ∧ 0 ≤ x2) ∧ x2 ≤ 65535) ∧ 0 - 1 ≤ x3) ∧ x3 ≤ 19) ∧ a0 4 6 < 40) ∧ r1187_ = a0 4 6) ∧ a1187_ 4 6 = (a0 4 6) + 1) ∨ ((((((((x1 < 0 ∨ 15 < x1) ∨ x2 < 0) ∨ 65535 < x2) ∨ x3 < 0 - 1) ∨ 19 < x3) ∨ 40 ≤ a0 4 6) ∧ r1187_ = 0 - 1) ∧ a1187_ 4 6 = a0 4 6)) from by omega), (fun h => MAD_e hfe (by rw [show x1 = y1 from by omega, show x2 = y2 from by omega, show x3 = y3 from by omega, show a0 0 0 = a 0 0 from (hfe 0 0 rfl).symm]; exact hq1187_1 h)), (fun h => MSA_e2 hfe (hq1187_2 h))⟩
theorem cp_X11_member_31 (E : jxE) (d : Nat) (hd : Nat.ble 3 (d + 1) = true) (x1 x2 x3 : Int) (a0 b0 : Nat → Nat → Int) (hv0 : iv a0) : ∀ (y1 y2 y3 : Int) (a : Nat → Nat → Int), iv a → jfr jW_X11_member a0 a → y1 = x1 → y2 = x2 → y3 = x3 → (((((x1 < 0 ∨ 15 < x1) ∨ x2 < 0) ∨ 65535 < x2) ∨ x3 < 0 - 1) ∨ 19 < x3) → a 4 6 = a0 4 6 → (jfr jWeM a0 a) → jt (jxX E d 156 31 [some (.inr (.inr (.inl 0))), some (.inl y1), some (.inl y2), some (.inl y3), none] [] (jxSH, a, b0)) (jQ_X11_member x1 x2 x3 a0 b0) := by
  intro y1 y2 y3 a hv hf hi0 hi1 hi2 hi3 hi4 hfe
  refine jt_eq (bq_X11_member_31 E d y1 y2 y3 a b0) ?_
  have h1190_ := iv_get hv (k := 4) (j := 6) (l := 0) (u := 40) rfl
  have h1191_ := iv_get hv0 (k := 4) (j := 6) (l := 0) (u := 40) rfl
  exact cp_X11_member_32 E d hd x1 x2 x3 a0 b0 hv0 y1 y2 y3 0 a hv hf (show 0 ≤ 0 from by omega) (show 0 ≤ 1 from by omega) (show y1 = x1 from by omega) (show y2 = x2 from by omega) (show y3 = x3 from by omega) (show (((((((0 = 1 ∧ 0 ≤ x1) ∧ x1 ≤ 15) ∧ 0 ≤ x2) ∧ x2 ≤ 65535) ∧ 0 - 1 ≤ x3) ∧ x3 ≤ 19) ∨ (0 = 0 ∧ (((((x1 < 0 ∨ 15 < x1) ∨ x2 < 0) ∨ 65535 < x2) ∨ x3 < 0 - 1) ∨ 19 < x3))) from by omega) (show a 4 6 = a0 4 6 from by omega) hfe
theorem sp_X11_member (E : jxE) (d : Nat) (hd : Nat.ble 3 d = true) (x1 x2 x3 : Int) (a0 b0 : Nat → Nat → Int) (hv0 : iv a0) : jt (jxC E d 156 [.inr (.inr (.inl 0)), .inl x1, .inl x2, .inl x3] (jxSH, a0, b0)) (jQ_X11_member x1 x2 x3 a0 b0) := by
  obtain ⟨d, rfl⟩ := jd_succ hd
  refine jt_eq (bq_X11_member E d x1 x2 x3 a0 b0) ?_
  refine jt_eI (eq_X11_isLand E d (jd_le hd rfl) x1 a0 b0) ?_
  have h1192_ := f_X11_isLand_eq a0 b0 x1
  have h1193_ := f_X11_within_eq a0 b0 x1 0 15
  refine jt_ite (fun c1194_ => ?_) (fun c1194_ => ?_)
  ·
    have h1195_ := iv_get hv0 (k := 4) (j := 6) (l := 0) (u := 40) rfl
    exact cp_X11_member_31 E d hd x1 x2 x3 a0 b0 hv0 x1 x2 x3 a0 hv0 (jfr_rf _ _) (show x1 = x1 from by omega) (show x2 = x2 from by omega) (show x3 = x3 from by omega) (show (((((x1 < 0 ∨ 15 < x1) ∨ x2 < 0) ∨ 65535 < x2) ∨ x3 < 0 - 1) ∨ 19 < x3) from by omega) (show a0 4 6 = a0 4 6 from by omega) (jfr_rf _ _)
  ·
    refine jt_eI (eq_X11_within E d (jd_le hd rfl) x2 0 65535 a0 b0) ?_
    have h1196_ := f_X11_within_eq a0 b0 x2 0 65535
    refine jt_ite (fun c1197_ => ?_) (fun c1197_ => ?_)
    ·
      have h1198_ := iv_get hv0 (k := 4) (j := 6) (l := 0) (u := 40) rfl
      exact cp_X11_member_31 E d hd x1 x2 x3 a0 b0 hv0 x1 x2 x3 a0 hv0 (jfr_rf _ _) (show x1 = x1 from by omega) (show x2 = x2 from by omega) (show x3 = x3 from by omega) (show (((((x1 < 0 ∨ 15 < x1) ∨ x2 < 0) ∨ 65535 < x2) ∨ x3 < 0 - 1) ∨ 19 < x3) from by omega) (show a0 4 6 = a0 4 6 from by omega) (jfr_rf _ _)
    ·
      refine jt_eI (eq_X11_within E d (jd_le hd rfl) x3 (-1) 19 a0 b0) ?_
      have h1199_ := f_X11_within_eq a0 b0 x3 (-1) 19
      refine jt_ite (fun c1200_ => ?_) (fun c1200_ => ?_)
      ·
        have h1201_ := iv_get hv0 (k := 4) (j := 6) (l := 0) (u := 40) rfl
        exact cp_X11_member_31 E d hd x1 x2 x3 a0 b0 hv0 x1 x2 x3 a0 hv0 (jfr_rf _ _) (show x1 = x1 from by omega) (show x2 = x2 from by omega) (show x3 = x3 from by omega) (show (((((x1 < 0 ∨ 15 < x1) ∨ x2 < 0) ∨ 65535 < x2) ∨ x3 < 0 - 1) ∨ 19 < x3) from by omega) (show a0 4 6 = a0 4 6 from by omega) (jfr_rf _ _)
      ·
        have h1202_ := iv_get hv0 (k := 4) (j := 6) (l := 0) (u := 40) rfl
        exact cp_X11_member_32 E d hd x1 x2 x3 a0 b0 hv0 x1 x2 x3 1 a0 hv0 (jfr_rf _ _) (show 0 ≤ 1 from by omega) (show 1 ≤ 1 from by omega) (show x1 = x1 from by omega) (show x2 = x2 from by omega) (show x3 = x3 from by omega) (show (((((((1 = 1 ∧ 0 ≤ x1) ∧ x1 ≤ 15) ∧ 0 ≤ x2) ∧ x2 ≤ 65535) ∧ 0 - 1 ≤ x3) ∧ x3 ≤ 19) ∨ (1 = 0 ∧ (((((x1 < 0 ∨ 15 < x1) ∨ x2 < 0) ∨ 65535 < x2) ∨ x3 < 0 - 1) ∨ 19 < x3))) from by omega) (show a0 4 6 = a0 4 6 from by omega) (jfr_rf _ _)
def jW_X4_add : List (Nat × Nat) := [(83, 6), (84, 9999), (85, 9999), (86, 9999), (87, 9999), (88, 9999), (89, 9999)]
abbrev jQ_X4_add (x1 x2 x3 : Int) (a0 b0 : Nat → Nat → Int) : List jxV → (Nat → Nat → Int) → (Nat → Nat → Int) → Prop := rI (fun r a b => (iv a) ∧ (jfr jW_X4_add a0 a) ∧ (b0 = b) ∧ ((((a0 83 6 < 20 ∧ r = a0 83 6) ∧ a 83 6 = (a0 83 6) + 1) ∨ ((20 ≤ a0 83 6 ∧ r = 0 - 1) ∧ a 83 6 = a0 83 6))))
theorem cp_X4_add_61 (E : jxE) (d : Nat) (hd : Nat.ble 1 (d + 1) = true) (x1 x2 x3 : Int) (a0 b0 : Nat → Nat → Int) (hv0 : iv a0) : ∀ (a : Nat → Nat → Int), iv a → jfr jW_X4_add a0 a → a 83 6 ≤ 19 → a 83 6 = a0 83 6 → a 83 6 ≤ 19 → jt (jxX E d 66 61 [some (.inr (.inr (.inl 83))), none, none, none] [] (jxSH, a, b0)) (jQ_X4_add x1 x2 x3 a0 b0) := by
  intro a hv hf hi0 hi1 hi2
  refine jt_eq (bq_X4_add_61 E d a b0) ?_
  have h1203_ := iv_get hv (k := 83) (j := 6) (l := 0) (u := 20) rfl
  have h1204_ := iv_get hv0 (k := 83) (j := 6) (l := 0) (u := 20) rfl
  refine jt_grd (by omega) ?_
  have hv1205_ : iv (jxu a 89 ((a 83 6).toNat) (-1)) := iv_putf hv rfl
  have h1207_ : jxw ((a 83 6) + 1) = (a 83 6) + 1 := jxw_id (by omega) (by omega)
  have hv1206_ : iv (jxu (jxu a 89 ((a 83 6).toNat) (-1)) 83 6 (jxw ((a 83 6) + 1))) := iv_put hv1205_ (l := 0) (u := 20) rfl (by omega) (by omega)
  have hf1208_ : jfr jW_X4_add a0 (jxu a 89 ((a 83 6).toNat) (-1)) := jfr_put hf rfl
  have hf1209_ : jfr jW_X4_add a0 (jxu (jxu a 89 ((a 83 6).toNat) (-1)) 83 6 (jxw ((a 83 6) + 1))) := jfr_put hf1208_ rfl
  exact jt_rI ⟨hv1206_, hf1209_, rfl, (show (((a0 83 6 < 20 ∧ a 83 6 = a0 83 6) ∧ jxw ((a 83 6) + 1) = (a0 83 6) + 1) ∨ ((20 ≤ a0 83 6 ∧ a 83 6 = 0 - 1) ∧ jxw ((a 83 6) + 1) = a0 83 6)) from by omega)⟩
theorem cp_X4_add_31 (E : jxE) (d : Nat) (hd : Nat.ble 1 (d + 1) = true) (x1 x2 x3 : Int) (a0 b0 : Nat → Nat → Int) (hv0 : iv a0) : ∀ (y3 : Int) (a : Nat → Nat → Int), iv a → jfr jW_X4_add a0 a → a 83 6 ≤ 19 → a 83 6 = a0 83 6 → a 83 6 ≤ 19 → jt (jxX E d 66 31 [some (.inr (.inr (.inl 83))), none, none, some (.inl y3)] [] (jxSH, a, b0)) (jQ_X4_add x1 x2 x3 a0 b0) := by
  intro y3 a hv hf hi0 hi1 hi2
  refine jt_eq (bq_X4_add_31 E d y3 a b0) ?_
  have h1210_ := iv_get hv (k := 83) (j := 6) (l := 0) (u := 20) rfl
  have h1211_ := iv_get hv0 (k := 83) (j := 6) (l := 0) (u := 20) rfl
  refine jt_grd (by omega) ?_
  refine jt_grd (by omega) ?_
  refine jt_grd (by omega) ?_
  have hv1212_ : iv (jxu a 86 ((a 83 6).toNat) y3) := iv_putf hv rfl
  have hv1213_ : iv (jxu (jxu a 86 ((a 83 6).toNat) y3) 87 ((a 83 6).toNat) 0) := iv_putf hv1212_ rfl
  have hv1214_ : iv (jxu (jxu (jxu a 86 ((a 83 6).toNat) y3) 87 ((a 83 6).toNat) 0) 88 ((a 83 6).toNat) (-1)) := iv_putf hv1213_ rfl
  have hf1215_ : jfr jW_X4_add a0 (jxu a 86 ((a 83 6).toNat) y3) := jfr_put hf rfl
  have hf1216_ : jfr jW_X4_add a0 (jxu (jxu a 86 ((a 83 6).toNat) y3) 87 ((a 83 6).toNat) 0) := jfr_put hf1215_ rfl
  have hf1217_ : jfr jW_X4_add a0 (jxu (jxu (jxu a 86 ((a 83 6).toNat) y3) 87 ((a 83 6).toNat) 0) 88 ((a 83 6).toNat) (-1)) := jfr_put hf1216_ rfl
  exact cp_X4_add_61 E d hd x1 x2 x3 a0 b0 hv0 (jxu (jxu (jxu a 86 ((a 83 6).toNat) y3) 87 ((a 83 6).toNat) 0) 88 ((a 83 6).toNat) (-1)) hv1214_ hf1217_ (show a 83 6 ≤ 19 from by omega) (show a 83 6 = a0 83 6 from by omega) (show a 83 6 ≤ 19 from by omega)
theorem sp_X4_add (E : jxE) (d : Nat) (hd : Nat.ble 1 d = true) (x1 x2 x3 : Int) (a0 b0 : Nat → Nat → Int) (hv0 : iv a0) : jt (jxC E d 66 [.inr (.inr (.inl 83)), .inl x1, .inl x2, .inl x3] (jxSH, a0, b0)) (jQ_X4_add x1 x2 x3 a0 b0) := by
  obtain ⟨d, rfl⟩ := jd_succ hd
  refine jt_eq (bq_X4_add E d x1 x2 x3 a0 b0) ?_
  have h1218_ := iv_get hv0 (k := 83) (j := 6) (l := 0) (u := 20) rfl
  refine jt_ite (fun c1219_ => ?_) (fun c1219_ => ?_)
  ·
    refine jt_grd (by omega) ?_
    refine jt_grd (by omega) ?_
    have hv1220_ : iv (jxu a0 84 ((a0 83 6).toNat) x1) := iv_putf hv0 rfl
    have hv1221_ : iv (jxu (jxu a0 84 ((a0 83 6).toNat) x1) 85 ((a0 83 6).toNat) x2) := iv_putf hv1220_ rfl
    have hf1222_ : jfr jW_X4_add a0 (jxu a0 84 ((a0 83 6).toNat) x1) := jfr_put (jfr_rf _ _) rfl
    have hf1223_ : jfr jW_X4_add a0 (jxu (jxu a0 84 ((a0 83 6).toNat) x1) 85 ((a0 83 6).toNat) x2) := jfr_put hf1222_ rfl
    exact cp_X4_add_31 E d hd x1 x2 x3 a0 b0 hv0 x3 (jxu (jxu a0 84 ((a0 83 6).toNat) x1) 85 ((a0 83 6).toNat) x2) hv1221_ hf1223_ (show a0 83 6 ≤ 19 from by omega) (show a0 83 6 = a0 83 6 from by omega) (show a0 83 6 ≤ 19 from by omega)
  ·
    exact jt_rI ⟨hv0, (jfr_rf _ _), rfl, (show (((a0 83 6 < 20 ∧ (-1) = a0 83 6) ∧ a0 83 6 = (a0 83 6) + 1) ∨ ((20 ≤ a0 83 6 ∧ (-1) = 0 - 1) ∧ a0 83 6 = a0 83 6)) from by omega)⟩
def jW_X11_offer : List (Nat × Nat) := [(83, 6), (84, 9999), (85, 9999), (86, 9999), (87, 9999), (88, 9999), (89, 9999)]
abbrev jQ_X11_offer (x1 x2 x3 : Int) (a0 b0 : Nat → Nat → Int) : List jxV → (Nat → Nat → Int) → (Nat → Nat → Int) → Prop := rI (fun r a b => (iv a) ∧ (jfr jW_X11_offer a0 a) ∧ (b0 = b) ∧ ((a0 4 6 = 0 → r = 0 - 1)) ∧ (((((((((0 ≤ x1 ∧ x1 < a0 4 6) ∧ ¬ a0 10 (x1.toNat) = 0) ∧ 0 ≤ x2) ∧ x2 ≤ 31) ∧ a0 83 6 < 20) ∧ r = a0 83 6) ∧ a 83 6 = (a0 83 6) + 1) ∨ (((((((x1 < 0 ∨ a0 4 6 ≤ x1) ∨ a0 10 (x1.toNat) = 0) ∨ x2 < 0) ∨ 31 < x2) ∨ 20 ≤ a0 83 6) ∧ r = 0 - 1) ∧ a 83 6 = a0 83 6))))
theorem sp_X11_offer (E : jxE) (d : Nat) (hd : Nat.ble 3 d = true) (x1 x2 x3 : Int) (a0 b0 : Nat → Nat → Int) (hv0 : iv a0) : jt (jxC E d 184 [.inr (.inr (.inl 0)), .inl x1, .inl x2, .inl x3] (jxSH, a0, b0)) (jQ_X11_offer x1 x2 x3 a0 b0) := by
  obtain ⟨d, rfl⟩ := jd_succ hd
  refine jt_eq (bq_X11_offer E d x1 x2 x3 a0 b0) ?_
  refine jt_eI (eq_X3_isThere E d (jd_le hd rfl) x1 a0 b0) ?_
  have h1224_ := f_X3_isThere_eq a0 b0 x1
  have h1225_ := f_X3_has_eq a0 b0 x1
  have h1226_ := iv_get hv0 (k := 4) (j := 6) (l := 0) (u := 40) rfl
  refine jt_ite (fun c1227_ => ?_) (fun c1227_ => ?_)
  ·
    have h1228_ := iv_get hv0 (k := 83) (j := 6) (l := 0) (u := 20) rfl
    exact jt_rI ⟨hv0, (jfr_rf _ _), rfl, (show (a0 4 6 = 0 → (-1) = 0 - 1) from by omega), (show ((((((((0 ≤ x1 ∧ x1 < a0 4 6) ∧ ¬ a0 10 (x1.toNat) = 0) ∧ 0 ≤ x2) ∧ x2 ≤ 31) ∧ a0 83 6 < 20) ∧ (-1) = a0 83 6) ∧ a0 83 6 = (a0 83 6) + 1) ∨ (((((((x1 < 0 ∨ a0 4 6 ≤ x1) ∨ a0 10 (x1.toNat) = 0) ∨ x2 < 0) ∨ 31 < x2) ∨ 20 ≤ a0 83 6) ∧ (-1) = 0 - 1) ∧ a0 83 6 = a0 83 6)) from by omega)⟩
  ·
    refine jt_eI (eq_X11_within E d (jd_le hd rfl) x2 0 31 a0 b0) ?_
    have h1229_ := f_X11_within_eq a0 b0 x2 0 31
    refine jt_ite (fun c1230_ => ?_) (fun c1230_ => ?_)
    ·
      have h1231_ := iv_get hv0 (k := 83) (j := 6) (l := 0) (u := 20) rfl
      exact jt_rI ⟨hv0, (jfr_rf _ _), rfl, (show (a0 4 6 = 0 → (-1) = 0 - 1) from by omega), (show ((((((((0 ≤ x1 ∧ x1 < a0 4 6) ∧ ¬ a0 10 (x1.toNat) = 0) ∧ 0 ≤ x2) ∧ x2 ≤ 31) ∧ a0 83 6 < 20) ∧ (-1) = a0 83 6) ∧ a0 83 6 = (a0 83 6) + 1) ∨ (((((((x1 < 0 ∨ a0 4 6 ≤ x1) ∨ a0 10 (x1.toNat) = 0) ∨ x2 < 0) ∨ 31 < x2) ∨ 20 ≤ a0 83 6) ∧ (-1) = 0 - 1) ∧ a0 83 6 = a0 83 6)) from by omega)⟩
    ·
      refine jt_bI (sp_X4_add E d (jd_le hd rfl) x1 x2 x3 a0 b0 hv0) (fun r1232_ a1232_ b1232_ h1232_ => ?_)
      obtain ⟨hv1232_, hf1232_, rfl, hq1232_0⟩ := h1232_
      have h1233_ := iv_get hv0 (k := 83) (j := 6) (l := 0) (u := 20) rfl
      have h1234_ := iv_get hv1232_ (k := 83) (j := 6) (l := 0) (u := 20) rfl
      have hf1235_ : jfr jW_X11_offer a0 a1232_ := jfr_tr (jfr_rf _ _) hf1232_ rfl
      exact jt_rI ⟨hv1232_, hf1235_, rfl, (show (a0 4 6 = 0 → r1232_ = 0 - 1) from by omega), (show ((((((((0 ≤ x1 ∧ x1 < a0 4 6) ∧ ¬ a0 10 (x1.toNat) = 0) ∧ 0 ≤ x2) ∧ x2 ≤ 31) ∧ a0 83 6 < 20) ∧ r1232_ = a0 83 6) ∧ a1232_ 83 6 = (a0 83 6) + 1) ∨ (((((((x1 < 0 ∨ a0 4 6 ≤ x1) ∨ a0 10 (x1.toNat) = 0) ∨ x2 < 0) ∨ 31 < x2) ∨ 20 ≤ a0 83 6) ∧ r1232_ = 0 - 1) ∧ a1232_ 83 6 = a0 83 6)) from by omega)⟩
abbrev jQ_X9_holdingOn (x1 : Int) (a0 b0 : Nat → Nat → Int) : List jxV → (Nat → Nat → Int) → (Nat → Nat → Int) → Prop := rI (fun r a b => (a0 = a) ∧ (b0 = b) ∧ ((a0 105 5 = 0 → r = 0 - 1)) ∧ (r = HO (a0 106) x1 (a0 105 5).toNat))
theorem cp_X9_holdingOn_4 (E : jxE) (d : Nat) (hd : Nat.ble 1 (d + 1) = true) (x1 : Int) (a0 b0 : Nat → Nat → Int) (hv0 : iv a0) : ∀ n : Nat, (∀ (y1 y2 y3 : Int), (((10 - y3) * 1) + 0).toNat ≤ n → 0 - 1 ≤ y2 → y2 ≤ 9 → 0 ≤ y3 → y3 ≤ 9 → 1 ≤ a0 105 5 → (y1 = x1) → y3 < a0 105 5 → (y2 = HO (a0 106) x1 (y3.toNat + 1)) → jt (jxX E d 139 44 [some (.inr (.inr (.inl 105))), some (.inl y1), some (.inl y2), some (.inl y3)] [] (jxSH, a0, b0)) (jQ_X9_holdingOn x1 a0 b0)) ∧ (∀ (y1 y3 : Int), (((10 - y3) * 1) + 0).toNat ≤ n → 0 ≤ y3 → y3 ≤ 9 → 1 ≤ a0 105 5 → (y1 = x1) → y3 < a0 105 5 → (HO (a0 106) x1 (y3.toNat + 1) = y3) → jt (jxX E d 139 42 [some (.inr (.inr (.inl 105))), some (.inl y1), none, some (.inl y3)] [] (jxSH, a0, b0)) (jQ_X9_holdingOn x1 a0 b0)) ∧ (∀ (y1 y2 y3 : Int), (((10 - y3) * 1) + 0).toNat ≤ n → 0 - 1 ≤ y2 → y2 ≤ 9 → 0 ≤ y3 → y3 ≤ 10 → (a0 105 5 = 0 → y2 = 0 - 1) → (y1 = x1) → y3 ≤ a0 105 5 → (y2 = HO (a0 106) x1 y3.toNat) → jt (jxX E d 139 4 [some (.inr (.inr (.inl 105))), some (.inl y1), some (.inl y2), some (.inl y3)] [] (jxSH, a0, b0)) (jQ_X9_holdingOn x1 a0 b0)) := by
  refine jx_ind fun n ih => ?_
  have ih44 : ∀ (y1 y2 y3 : Int), (((10 - y3) * 1) + 0).toNat < n → 0 - 1 ≤ y2 → y2 ≤ 9 → 0 ≤ y3 → y3 ≤ 9 → 1 ≤ a0 105 5 → (y1 = x1) → y3 < a0 105 5 → (y2 = HO (a0 106) x1 (y3.toNat + 1)) → jt (jxX E d 139 44 [some (.inr (.inr (.inl 105))), some (.inl y1), some (.inl y2), some (.inl y3)] [] (jxSH, a0, b0)) (jQ_X9_holdingOn x1 a0 b0) := fun y1 y2 y3 hlt i0 i1 i2 i3 i4 i5 i6 i7 => (ih _ hlt).1 y1 y2 y3 (Nat.le_refl _) i0 i1 i2 i3 i4 i5 i6 i7
  have ih42 : ∀ (y1 y3 : Int), (((10 - y3) * 1) + 0).toNat < n → 0 ≤ y3 → y3 ≤ 9 → 1 ≤ a0 105 5 → (y1 = x1) → y3 < a0 105 5 → (HO (a0 106) x1 (y3.toNat + 1) = y3) → jt (jxX E d 139 42 [some (.inr (.inr (.inl 105))), some (.inl y1), none, some (.inl y3)] [] (jxSH, a0, b0)) (jQ_X9_holdingOn x1 a0 b0) := fun y1 y3 hlt i0 i1 i2 i3 i4 i5 => (ih _ hlt).2.1 y1 y3 (Nat.le_refl _) i0 i1 i2 i3 i4 i5
  have ih4 : ∀ (y1 y2 y3 : Int), (((10 - y3) * 1) + 0).toNat < n → 0 - 1 ≤ y2 → y2 ≤ 9 → 0 ≤ y3 → y3 ≤ 10 → (a0 105 5 = 0 → y2 = 0 - 1) → (y1 = x1) → y3 ≤ a0 105 5 → (y2 = HO (a0 106) x1 y3.toNat) → jt (jxX E d 139 4 [some (.inr (.inr (.inl 105))), some (.inl y1), some (.inl y2), some (.inl y3)] [] (jxSH, a0, b0)) (jQ_X9_holdingOn x1 a0 b0) := fun y1 y2 y3 hlt i0 i1 i2 i3 i4 i5 i6 i7 => (ih _ hlt).2.2 y1 y2 y3 (Nat.le_refl _) i0 i1 i2 i3 i4 i5 i6 i7
  have hc44 : ∀ (y1 y2 y3 : Int), (((10 - y3) * 1) + 0).toNat ≤ n → 0 - 1 ≤ y2 → y2 ≤ 9 → 0 ≤ y3 → y3 ≤ 9 → 1 ≤ a0 105 5 → (y1 = x1) → y3 < a0 105 5 → (y2 = HO (a0 106) x1 (y3.toNat + 1)) → jt (jxX E d 139 44 [some (.inr (.inr (.inl 105))), some (.inl y1), some (.inl y2), some (.inl y3)] [] (jxSH, a0, b0)) (jQ_X9_holdingOn x1 a0 b0) := by
    intro y1 y2 y3 hm hi0 hi1 hi2 hi3 hi4 hy1 hi6 hho
    refine jt_eq (bq_X9_holdingOn_44 E d y1 y2 y3 a0 b0) ?_
    have h1236_ := iv_get hv0 (k := 105) (j := 5) (l := 0) (u := 10) rfl
    have h1237_ : jxw (y3 + 1) = y3 + 1 := jxw_id (by omega) (by omega)
    exact ih4 y1 y2 (jxw (y3 + 1)) (show (((10 - (jxw (y3 + 1))) * 1) + 0).toNat < n from by omega) (show 0 - 1 ≤ y2 from by omega) (show y2 ≤ 9 from by omega) (show 0 ≤ jxw (y3 + 1) from by omega) (show jxw (y3 + 1) ≤ 10 from by omega) (show (a0 105 5 = 0 → y2 = 0 - 1) from by omega) (by first | rfl | assumption) (show jxw (y3 + 1) ≤ a0 105 5 from by omega) (by first | rfl | (rw [show (jxw (y3 + 1)).toNat = y3.toNat + 1 from by omega]; exact hho))
  have hc42 : ∀ (y1 y3 : Int), (((10 - y3) * 1) + 0).toNat ≤ n → 0 ≤ y3 → y3 ≤ 9 → 1 ≤ a0 105 5 → (y1 = x1) → y3 < a0 105 5 → (HO (a0 106) x1 (y3.toNat + 1) = y3) → jt (jxX E d 139 42 [some (.inr (.inr (.inl 105))), some (.inl y1), none, some (.inl y3)] [] (jxSH, a0, b0)) (jQ_X9_holdingOn x1 a0 b0) := by
    intro y1 y3 hm hi0 hi1 hi2 hy1 hi4 hh
    refine jt_eq (bq_X9_holdingOn_42 E d y1 y3 a0 b0) ?_
    have h1238_ := iv_get hv0 (k := 105) (j := 5) (l := 0) (u := 10) rfl
    exact hc44 y1 y3 y3 (show (((10 - y3) * 1) + 0).toNat ≤ n from by omega) (show 0 - 1 ≤ y3 from by omega) (show y3 ≤ 9 from by omega) (show 0 ≤ y3 from by omega) (show y3 ≤ 9 from by omega) (show 1 ≤ a0 105 5 from by omega) (by first | rfl | assumption) (show y3 < a0 105 5 from by omega) (by first | (rw [HO_s2 (Or.inl (by rw [← hy1]; omega))]; exact hho) | (rw [HO_s2 (Or.inr ⟨by rw [← hho]; omega, by rw [← hho]; omega⟩)]; exact hho) | exact hh.symm)
  have hc4 : ∀ (y1 y2 y3 : Int), (((10 - y3) * 1) + 0).toNat ≤ n → 0 - 1 ≤ y2 → y2 ≤ 9 → 0 ≤ y3 → y3 ≤ 10 → (a0 105 5 = 0 → y2 = 0 - 1) → (y1 = x1) → y3 ≤ a0 105 5 → (y2 = HO (a0 106) x1 y3.toNat) → jt (jxX E d 139 4 [some (.inr (.inr (.inl 105))), some (.inl y1), some (.inl y2), some (.inl y3)] [] (jxSH, a0, b0)) (jQ_X9_holdingOn x1 a0 b0) := by
    intro y1 y2 y3 hm hi0 hi1 hi2 hi3 hi4 hy1 hi6 hho
    refine jt_eq (bq_X9_holdingOn_4 E d y1 y2 y3 a0 b0) ?_
    have h1239_ := iv_get hv0 (k := 105) (j := 5) (l := 0) (u := 10) rfl
    refine jt_ite (fun c1240_ => ?_) (fun c1240_ => ?_)
    ·
      refine jt_grd (by omega) ?_
      refine jt_ite (fun c1241_ => ?_) (fun c1241_ => ?_)
      ·
        exact hc44 y1 y2 y3 (show (((10 - y3) * 1) + 0).toNat ≤ n from by omega) (show 0 - 1 ≤ y2 from by omega) (show y2 ≤ 9 from by omega) (show 0 ≤ y3 from by omega) (show y3 ≤ 9 from by omega) (show 1 ≤ a0 105 5 from by omega) (by first | rfl | assumption) (show y3 < a0 105 5 from by omega) (by first | (rw [HO_s2 (Or.inl (by rw [← hy1]; omega))]; exact hho) | (rw [HO_s2 (Or.inr ⟨by rw [← hho]; omega, by rw [← hho]; omega⟩)]; exact hho) | exact hh.symm)
      ·
        refine jt_ite (fun c1242_ => ?_) (fun c1242_ => ?_)
        ·
          exact hc42 y1 y3 (show (((10 - y3) * 1) + 0).toNat ≤ n from by omega) (show 0 ≤ y3 from by omega) (show y3 ≤ 9 from by omega) (show 1 ≤ a0 105 5 from by omega) (by first | rfl | assumption) (show y3 < a0 105 5 from by omega) (by have e := HO_s1 (f := a0 106) (d := x1) (m := y3.toNat) (by rw [← hy1]; omega) (by rw [← hho]; first | (left; omega) | (right; omega)); rw [e]; omega)
        ·
          refine jt_grd (by omega) ?_
          refine jt_grd (by omega) ?_
          refine jt_ite (fun c1243_ => ?_) (fun c1243_ => ?_)
          ·
            exact hc44 y1 y2 y3 (show (((10 - y3) * 1) + 0).toNat ≤ n from by omega) (show 0 - 1 ≤ y2 from by omega) (show y2 ≤ 9 from by omega) (show 0 ≤ y3 from by omega) (show y3 ≤ 9 from by omega) (show 1 ≤ a0 105 5 from by omega) (by first | rfl | assumption) (show y3 < a0 105 5 from by omega) (by first | (rw [HO_s2 (Or.inl (by rw [← hy1]; omega))]; exact hho) | (rw [HO_s2 (Or.inr ⟨by rw [← hho]; omega, by rw [← hho]; omega⟩)]; exact hho) | exact hh.symm)
          ·
            exact hc42 y1 y3 (show (((10 - y3) * 1) + 0).toNat ≤ n from by omega) (show 0 ≤ y3 from by omega) (show y3 ≤ 9 from by omega) (show 1 ≤ a0 105 5 from by omega) (by first | rfl | assumption) (show y3 < a0 105 5 from by omega) (by have e := HO_s1 (f := a0 106) (d := x1) (m := y3.toNat) (by rw [← hy1]; omega) (by rw [← hho]; first | (left; omega) | (right; omega)); rw [e]; omega)
    ·
      exact jt_rI ⟨rfl, rfl, (show (a0 105 5 = 0 → y2 = 0 - 1) from by omega), (by rw [show (a0 105 5).toNat = y3.toNat from by omega]; exact hho)⟩
  exact ⟨hc44, hc42, hc4⟩
theorem sp_X9_holdingOn (E : jxE) (d : Nat) (hd : Nat.ble 1 d = true) (x1 : Int) (a0 b0 : Nat → Nat → Int) (hv0 : iv a0) : jt (jxC E d 139 [.inr (.inr (.inl 105)), .inl x1] (jxSH, a0, b0)) (jQ_X9_holdingOn x1 a0 b0) := by
  obtain ⟨d, rfl⟩ := jd_succ hd
  refine jt_eq (bq_X9_holdingOn E d x1 a0 b0) ?_
  have h1244_ := iv_get hv0 (k := 105) (j := 5) (l := 0) (u := 10) rfl
  exact (cp_X9_holdingOn_4 E d hd x1 a0 b0 hv0 _).2.2 x1 (-1) 0 (Nat.le_refl _) (show 0 - 1 ≤ (-1) from by omega) (show (-1) ≤ 9 from by omega) (show 0 ≤ 0 from by omega) (show 0 ≤ 10 from by omega) (show (a0 105 5 = 0 → (-1) = 0 - 1) from by omega) (by first | rfl | assumption) (show 0 ≤ a0 105 5 from by omega) (by first | rfl | (rw [show (jxw (y3 + 1)).toNat = y3.toNat + 1 from by omega]; exact hho))
abbrev jQ_X9_coinsFor (x1 x2 x3 : Int) (a0 b0 : Nat → Nat → Int) : List jxV → (Nat → Nat → Int) → (Nat → Nat → Int) → Prop := rI (fun r a b => (a0 = a) ∧ (b0 = b) ∧ ((a0 105 5 = 0 → r = 0 - 1)) ∧ (r = (if HO (a0 106) x3 (a0 105 5).toNat < 0 then -1 else CO (fun c => a0 108 ((HO (a0 106) x3 (a0 105 5).toNat).toNat * 12 + c)) (fun c => a0 119 ((HO (a0 106) x3 (a0 105 5).toNat).toNat * 12 + c)) (fun c => a0 130 ((HO (a0 106) x3 (a0 105 5).toNat).toNat * 12 + c)) (a0 107 (HO (a0 106) x3 (a0 105 5).toNat).toNat).toNat x1 x2 0)))
theorem cp_X9_coinsFor_26 (E : jxE) (d : Nat) (hd : Nat.ble 2 (d + 1) = true) (x1 x2 x3 : Int) (a0 b0 : Nat → Nat → Int) (hv0 : iv a0) : ∀ n : Nat, (∀ (y1 y2 y4 y5 : Int), (((12 - y5) * 1) + 0).toNat ≤ n → 0 ≤ y4 → y4 ≤ 9 → 0 ≤ y5 → y5 ≤ 11 → (y1 = x1) → (y2 = x2) → (y4 = HO (a0 106) x3 (a0 105 5).toNat) → 0 ≤ y5 → y5 < a0 107 (y4.toNat) → (CO (fun c => a0 108 ((HO (a0 106) x3 (a0 105 5).toNat).toNat * 12 + c)) (fun c => a0 119 ((HO (a0 106) x3 (a0 105 5).toNat).toNat * 12 + c)) (fun c => a0 130 ((HO (a0 106) x3 (a0 105 5).toNat).toNat * 12 + c)) (a0 107 (HO (a0 106) x3 (a0 105 5).toNat).toNat).toNat x1 x2 (y5.toNat + 1) = CO (fun c => a0 108 ((HO (a0 106) x3 (a0 105 5).toNat).toNat * 12 + c)) (fun c => a0 119 ((HO (a0 106) x3 (a0 105 5).toNat).toNat * 12 + c)) (fun c => a0 130 ((HO (a0 106) x3 (a0 105 5).toNat).toNat * 12 + c)) (a0 107 (HO (a0 106) x3 (a0 105 5).toNat).toNat).toNat x1 x2 0) → 1 ≤ a0 105 5 → jt (jxX E d 138 84 [some (.inr (.inr (.inl 105))), some (.inl y1), some (.inl y2), none, some (.inl y4), some (.inl y5)] [] (jxSH, a0, b0)) (jQ_X9_coinsFor x1 x2 x3 a0 b0)) ∧ (∀ (y1 y2 y4 y5 : Int), (((12 - y5) * 1) + 0).toNat ≤ n → 0 ≤ y1 → y1 ≤ 999 → 0 ≤ y4 → y4 ≤ 9 → 0 ≤ y5 → y5 ≤ 11 → (y1 = x1) → (y2 = x2) → (y4 = HO (a0 106) x3 (a0 105 5).toNat) → 0 ≤ y5 → y5 < a0 107 (y4.toNat) → (CO (fun c => a0 108 ((HO (a0 106) x3 (a0 105 5).toNat).toNat * 12 + c)) (fun c => a0 119 ((HO (a0 106) x3 (a0 105 5).toNat).toNat * 12 + c)) (fun c => a0 130 ((HO (a0 106) x3 (a0 105 5).toNat).toNat * 12 + c)) (a0 107 (HO (a0 106) x3 (a0 105 5).toNat).toNat).toNat x1 x2 y5.toNat = CO (fun c => a0 108 ((HO (a0 106) x3 (a0 105 5).toNat).toNat * 12 + c)) (fun c => a0 119 ((HO (a0 106) x3 (a0 105 5).toNat).toNat * 12 + c)) (fun c => a0 130 ((HO (a0 106) x3 (a0 105 5).toNat).toNat * 12 + c)) (a0 107 (HO (a0 106) x3 (a0 105 5).toNat).toNat).toNat x1 x2 0) → (a0 108 (y4.toNat * 12 + y5.toNat) = x1) → 1 ≤ a0 105 5 → jt (jxX E d 138 59 [some (.inr (.inr (.inl 105))), some (.inl y1), some (.inl y2), none, some (.inl y4), some (.inl y5)] [] (jxSH, a0, b0)) (jQ_X9_coinsFor x1 x2 x3 a0 b0)) ∧ (∀ (y1 y2 y4 y5 : Int), (((12 - y5) * 1) + 0).toNat ≤ n → 0 ≤ y4 → y4 ≤ 9 → 0 ≤ y5 → y5 ≤ 12 → (y1 = x1) → (y2 = x2) → (y4 = HO (a0 106) x3 (a0 105 5).toNat) → 0 ≤ y5 → (CO (fun c => a0 108 ((HO (a0 106) x3 (a0 105 5).toNat).toNat * 12 + c)) (fun c => a0 119 ((HO (a0 106) x3 (a0 105 5).toNat).toNat * 12 + c)) (fun c => a0 130 ((HO (a0 106) x3 (a0 105 5).toNat).toNat * 12 + c)) (a0 107 (HO (a0 106) x3 (a0 105 5).toNat).toNat).toNat x1 x2 y5.toNat = CO (fun c => a0 108 ((HO (a0 106) x3 (a0 105 5).toNat).toNat * 12 + c)) (fun c => a0 119 ((HO (a0 106) x3 (a0 105 5).toNat).toNat * 12 + c)) (fun c => a0 130 ((HO (a0 106) x3 (a0 105 5).toNat).toNat * 12 + c)) (a0 107 (HO (a0 106) x3 (a0 105 5).toNat).toNat).toNat x1 x2 0) → 1 ≤ a0 105 5 → jt (jxX E d 138 26 [some (.inr (.inr (.inl 105))), some (.inl y1), some (.inl y2), none, some (.inl y4), some (.inl y5)] [] (jxSH, a0, b0)) (jQ_X9_coinsFor x1 x2 x3 a0 b0)) := by
  refine jx_ind fun n ih => ?_
  have ih84 : ∀ (y1 y2 y4 y5 : Int), (((12 - y5) * 1) + 0).toNat < n → 0 ≤ y4 → y4 ≤ 9 → 0 ≤ y5 → y5 ≤ 11 → (y1 = x1) → (y2 = x2) → (y4 = HO (a0 106) x3 (a0 105 5).toNat) → 0 ≤ y5 → y5 < a0 107 (y4.toNat) → (CO (fun c => a0 108 ((HO (a0 106) x3 (a0 105 5).toNat).toNat * 12 + c)) (fun c => a0 119 ((HO (a0 106) x3 (a0 105 5).toNat).toNat * 12 + c)) (fun c => a0 130 ((HO (a0 106) x3 (a0 105 5).toNat).toNat * 12 + c)) (a0 107 (HO (a0 106) x3 (a0 105 5).toNat).toNat).toNat x1 x2 (y5.toNat + 1) = CO (fun c => a0 108 ((HO (a0 106) x3 (a0 105 5).toNat).toNat * 12 + c)) (fun c => a0 119 ((HO (a0 106) x3 (a0 105 5).toNat).toNat * 12 + c)) (fun c => a0 130 ((HO (a0 106) x3 (a0 105 5).toNat).toNat * 12 + c)) (a0 107 (HO (a0 106) x3 (a0 105 5).toNat).toNat).toNat x1 x2 0) → 1 ≤ a0 105 5 → jt (jxX E d 138 84 [some (.inr (.inr (.inl 105))), some (.inl y1), some (.inl y2), none, some (.inl y4), some (.inl y5)] [] (jxSH, a0, b0)) (jQ_X9_coinsFor x1 x2 x3 a0 b0) := fun y1 y2 y4 y5 hlt i0 i1 i2 i3 i4 i5 i6 i7 i8 i9 i10 => (ih _ hlt).1 y1 y2 y4 y5 (Nat.le_refl _) i0 i1 i2 i3 i4 i5 i6 i7 i8 i9 i10
  have ih59 : ∀ (y1 y2 y4 y5 : Int), (((12 - y5) * 1) + 0).toNat < n → 0 ≤ y1 → y1 ≤ 999 → 0 ≤ y4 → y4 ≤ 9 → 0 ≤ y5 → y5 ≤ 11 → (y1 = x1) → (y2 = x2) → (y4 = HO (a0 106) x3 (a0 105 5).toNat) → 0 ≤ y5 → y5 < a0 107 (y4.toNat) → (CO (fun c => a0 108 ((HO (a0 106) x3 (a0 105 5).toNat).toNat * 12 + c)) (fun c => a0 119 ((HO (a0 106) x3 (a0 105 5).toNat).toNat * 12 + c)) (fun c => a0 130 ((HO (a0 106) x3 (a0 105 5).toNat).toNat * 12 + c)) (a0 107 (HO (a0 106) x3 (a0 105 5).toNat).toNat).toNat x1 x2 y5.toNat = CO (fun c => a0 108 ((HO (a0 106) x3 (a0 105 5).toNat).toNat * 12 + c)) (fun c => a0 119 ((HO (a0 106) x3 (a0 105 5).toNat).toNat * 12 + c)) (fun c => a0 130 ((HO (a0 106) x3 (a0 105 5).toNat).toNat * 12 + c)) (a0 107 (HO (a0 106) x3 (a0 105 5).toNat).toNat).toNat x1 x2 0) → (a0 108 (y4.toNat * 12 + y5.toNat) = x1) → 1 ≤ a0 105 5 → jt (jxX E d 138 59 [some (.inr (.inr (.inl 105))), some (.inl y1), some (.inl y2), none, some (.inl y4), some (.inl y5)] [] (jxSH, a0, b0)) (jQ_X9_coinsFor x1 x2 x3 a0 b0) := fun y1 y2 y4 y5 hlt i0 i1 i2 i3 i4 i5 i6 i7 i8 i9 i10 i11 i12 i13 => (ih _ hlt).2.1 y1 y2 y4 y5 (Nat.le_refl _) i0 i1 i2 i3 i4 i5 i6 i7 i8 i9 i10 i11 i12 i13
  have ih26 : ∀ (y1 y2 y4 y5 : Int), (((12 - y5) * 1) + 0).toNat < n → 0 ≤ y4 → y4 ≤ 9 → 0 ≤ y5 → y5 ≤ 12 → (y1 = x1) → (y2 = x2) → (y4 = HO (a0 106) x3 (a0 105 5).toNat) → 0 ≤ y5 → (CO (fun c => a0 108 ((HO (a0 106) x3 (a0 105 5).toNat).toNat * 12 + c)) (fun c => a0 119 ((HO (a0 106) x3 (a0 105 5).toNat).toNat * 12 + c)) (fun c => a0 130 ((HO (a0 106) x3 (a0 105 5).toNat).toNat * 12 + c)) (a0 107 (HO (a0 106) x3 (a0 105 5).toNat).toNat).toNat x1 x2 y5.toNat = CO (fun c => a0 108 ((HO (a0 106) x3 (a0 105 5).toNat).toNat * 12 + c)) (fun c => a0 119 ((HO (a0 106) x3 (a0 105 5).toNat).toNat * 12 + c)) (fun c => a0 130 ((HO (a0 106) x3 (a0 105 5).toNat).toNat * 12 + c)) (a0 107 (HO (a0 106) x3 (a0 105 5).toNat).toNat).toNat x1 x2 0) → 1 ≤ a0 105 5 → jt (jxX E d 138 26 [some (.inr (.inr (.inl 105))), some (.inl y1), some (.inl y2), none, some (.inl y4), some (.inl y5)] [] (jxSH, a0, b0)) (jQ_X9_coinsFor x1 x2 x3 a0 b0) := fun y1 y2 y4 y5 hlt i0 i1 i2 i3 i4 i5 i6 i7 i8 i9 => (ih _ hlt).2.2 y1 y2 y4 y5 (Nat.le_refl _) i0 i1 i2 i3 i4 i5 i6 i7 i8 i9
  have hc84 : ∀ (y1 y2 y4 y5 : Int), (((12 - y5) * 1) + 0).toNat ≤ n → 0 ≤ y4 → y4 ≤ 9 → 0 ≤ y5 → y5 ≤ 11 → (y1 = x1) → (y2 = x2) → (y4 = HO (a0 106) x3 (a0 105 5).toNat) → 0 ≤ y5 → y5 < a0 107 (y4.toNat) → (CO (fun c => a0 108 ((HO (a0 106) x3 (a0 105 5).toNat).toNat * 12 + c)) (fun c => a0 119 ((HO (a0 106) x3 (a0 105 5).toNat).toNat * 12 + c)) (fun c => a0 130 ((HO (a0 106) x3 (a0 105 5).toNat).toNat * 12 + c)) (a0 107 (HO (a0 106) x3 (a0 105 5).toNat).toNat).toNat x1 x2 (y5.toNat + 1) = CO (fun c => a0 108 ((HO (a0 106) x3 (a0 105 5).toNat).toNat * 12 + c)) (fun c => a0 119 ((HO (a0 106) x3 (a0 105 5).toNat).toNat * 12 + c)) (fun c => a0 130 ((HO (a0 106) x3 (a0 105 5).toNat).toNat * 12 + c)) (a0 107 (HO (a0 106) x3 (a0 105 5).toNat).toNat).toNat x1 x2 0) → 1 ≤ a0 105 5 → jt (jxX E d 138 84 [some (.inr (.inr (.inl 105))), some (.inl y1), some (.inl y2), none, some (.inl y4), some (.inl y5)] [] (jxSH, a0, b0)) (jQ_X9_coinsFor x1 x2 x3 a0 b0) := by
    intro y1 y2 y4 y5 hm hi0 hi1 hi2 hi3 hy1 hy2 hhy hi7 hi8 hco hi10
    refine jt_eq (bq_X9_coinsFor_84 E d y1 y2 y4 y5 a0 b0) ?_
    have h1245_ := iv_get hv0 (k := 107) (j := y4.toNat) (l := 0) (u := 12) rfl
    have h1246_ := iv_get hv0 (k := 105) (j := 5) (l := 0) (u := 10) rfl
    have h1247_ : jxw (y5 + 1) = y5 + 1 := jxw_id (by omega) (by omega)
    exact ih26 y1 y2 y4 (jxw (y5 + 1)) (show (((12 - (jxw (y5 + 1))) * 1) + 0).toNat < n from by omega) (show 0 ≤ y4 from by omega) (show y4 ≤ 9 from by omega) (show 0 ≤ jxw (y5 + 1) from by omega) (show jxw (y5 + 1) ≤ 12 from by omega) (by first | rfl | assumption) (by first | rfl | assumption) (by first | exact hhy | exact hq0_1) (show 0 ≤ jxw (y5 + 1) from by omega) (by first | rfl | (rw [show (jxw (y5 + 1)).toNat = y5.toNat + 1 from by omega]; exact hco)) (show 1 ≤ a0 105 5 from by omega)
  have hc59 : ∀ (y1 y2 y4 y5 : Int), (((12 - y5) * 1) + 0).toNat ≤ n → 0 ≤ y1 → y1 ≤ 999 → 0 ≤ y4 → y4 ≤ 9 → 0 ≤ y5 → y5 ≤ 11 → (y1 = x1) → (y2 = x2) → (y4 = HO (a0 106) x3 (a0 105 5).toNat) → 0 ≤ y5 → y5 < a0 107 (y4.toNat) → (CO (fun c => a0 108 ((HO (a0 106) x3 (a0 105 5).toNat).toNat * 12 + c)) (fun c => a0 119 ((HO (a0 106) x3 (a0 105 5).toNat).toNat * 12 + c)) (fun c => a0 130 ((HO (a0 106) x3 (a0 105 5).toNat).toNat * 12 + c)) (a0 107 (HO (a0 106) x3 (a0 105 5).toNat).toNat).toNat x1 x2 y5.toNat = CO (fun c => a0 108 ((HO (a0 106) x3 (a0 105 5).toNat).toNat * 12 + c)) (fun c => a0 119 ((HO (a0 106) x3 (a0 105 5).toNat).toNat * 12 + c)) (fun c => a0 130 ((HO (a0 106) x3 (a0 105 5).toNat).toNat * 12 + c)) (a0 107 (HO (a0 106) x3 (a0 105 5).toNat).toNat).toNat x1 x2 0) → (a0 108 (y4.toNat * 12 + y5.toNat) = x1) → 1 ≤ a0 105 5 → jt (jxX E d 138 59 [some (.inr (.inr (.inl 105))), some (.inl y1), some (.inl y2), none, some (.inl y4), some (.inl y5)] [] (jxSH, a0, b0)) (jQ_X9_coinsFor x1 x2 x3 a0 b0) := by
    intro y1 y2 y4 y5 hm hi0 hi1 hi2 hi3 hi4 hi5 hy1 hy2 hhy hi9 hi10 hco hz hi13
    refine jt_eq (bq_X9_coinsFor_59 E d y1 y2 y4 y5 a0 b0) ?_
    have h1248_ := iv_get hv0 (k := 107) (j := y4.toNat) (l := 0) (u := 12) rfl
    have h1249_ := iv_get hv0 (k := 105) (j := 5) (l := 0) (u := 10) rfl
    refine jt_grd (by omega) ?_
    refine jt_grd (by omega) ?_
    refine jt_grd (by omega) ?_
    have h1250_ := iv_get hv0 (k := 119) (j := (y4.toNat) * 12 + (y5.toNat)) (l := 0) (u := 999) rfl
    refine jt_ite (fun c1251_ => ?_) (fun c1251_ => ?_)
    ·
      exact hc84 y1 y2 y4 y5 (show (((12 - y5) * 1) + 0).toNat ≤ n from by omega) (show 0 ≤ y4 from by omega) (show y4 ≤ 9 from by omega) (show 0 ≤ y5 from by omega) (show y5 ≤ 11 from by omega) (by first | rfl | assumption) (by first | rfl | assumption) (by first | exact hhy | exact hq0_1) (show 0 ≤ y5 from by omega) (show y5 < a0 107 (y4.toNat) from by omega) (by rw [← hco]; rw [← hhy]; refine (CO_on (by omega) ?_).symm; first | (left; rw [← hy1]; assumption) | (right; rw [← hy2]; assumption)) (show 1 ≤ a0 105 5 from by omega)
    ·
      refine jt_grd (by omega) ?_
      refine jt_grd (by omega) ?_
      refine jt_grd (by omega) ?_
      have h1252_ := iv_get hv0 (k := 130) (j := (y4.toNat) * 12 + (y5.toNat)) (l := 0) (u := 999) rfl
      exact jt_rI ⟨rfl, rfl, (show (a0 105 5 = 0 → a0 130 ((y4.toNat) * 12 + (y5.toNat)) = 0 - 1) from by omega), (by first | exact absurd (by omega : False) id | (rw [← hhy, if_neg (by omega)]; have h := hco; rw [← hhy] at h; rw [← h]; first | (rw [CO_end (by omega)]) | exact (CO_hit (z := fun c => a0 108 (y4.toNat * 12 + c)) (g := fun c => a0 119 (y4.toNat * 12 + c)) (k := fun c => a0 130 (y4.toNat * 12 + c)) (c := y5.toNat) (by omega) hz (by show x2 ≤ a0 119 (y4.toNat * 12 + y5.toNat); omega)).symm))⟩
  have hc26 : ∀ (y1 y2 y4 y5 : Int), (((12 - y5) * 1) + 0).toNat ≤ n → 0 ≤ y4 → y4 ≤ 9 → 0 ≤ y5 → y5 ≤ 12 → (y1 = x1) → (y2 = x2) → (y4 = HO (a0 106) x3 (a0 105 5).toNat) → 0 ≤ y5 → (CO (fun c => a0 108 ((HO (a0 106) x3 (a0 105 5).toNat).toNat * 12 + c)) (fun c => a0 119 ((HO (a0 106) x3 (a0 105 5).toNat).toNat * 12 + c)) (fun c => a0 130 ((HO (a0 106) x3 (a0 105 5).toNat).toNat * 12 + c)) (a0 107 (HO (a0 106) x3 (a0 105 5).toNat).toNat).toNat x1 x2 y5.toNat = CO (fun c => a0 108 ((HO (a0 106) x3 (a0 105 5).toNat).toNat * 12 + c)) (fun c => a0 119 ((HO (a0 106) x3 (a0 105 5).toNat).toNat * 12 + c)) (fun c => a0 130 ((HO (a0 106) x3 (a0 105 5).toNat).toNat * 12 + c)) (a0 107 (HO (a0 106) x3 (a0 105 5).toNat).toNat).toNat x1 x2 0) → 1 ≤ a0 105 5 → jt (jxX E d 138 26 [some (.inr (.inr (.inl 105))), some (.inl y1), some (.inl y2), none, some (.inl y4), some (.inl y5)] [] (jxSH, a0, b0)) (jQ_X9_coinsFor x1 x2 x3 a0 b0) := by
    intro y1 y2 y4 y5 hm hi0 hi1 hi2 hi3 hy1 hy2 hhy hi7 hco hi9
    refine jt_eq (bq_X9_coinsFor_26 E d y1 y2 y4 y5 a0 b0) ?_
    have h1253_ := iv_get hv0 (k := 105) (j := 5) (l := 0) (u := 10) rfl
    refine jt_grd (by omega) ?_
    have h1254_ := iv_get hv0 (k := 107) (j := y4.toNat) (l := 0) (u := 12) rfl
    refine jt_ite (fun c1255_ => ?_) (fun c1255_ => ?_)
    ·
      refine jt_ite (fun c1256_ => ?_) (fun c1256_ => ?_)
      ·
        refine jt_grd (by omega) ?_
        refine jt_grd (by omega) ?_
        refine jt_grd (by omega) ?_
        have h1257_ := iv_get hv0 (k := 108) (j := (y4.toNat) * 12 + (y5.toNat)) (l := 0) (u := 999) rfl
        refine jt_ite (fun c1258_ => ?_) (fun c1258_ => ?_)
        ·
          exact hc59 y1 y2 y4 y5 (show (((12 - y5) * 1) + 0).toNat ≤ n from by omega) (show 0 ≤ y1 from by omega) (show y1 ≤ 999 from by omega) (show 0 ≤ y4 from by omega) (show y4 ≤ 9 from by omega) (show 0 ≤ y5 from by omega) (show y5 ≤ 11 from by omega) (by first | rfl | assumption) (by first | rfl | assumption) (by first | exact hhy | exact hq0_1) (show 0 ≤ y5 from by omega) (show y5 < a0 107 (y4.toNat) from by omega) hco (by rw [← hy1]; assumption) (show 1 ≤ a0 105 5 from by omega)
        ·
          exact hc84 y1 y2 y4 y5 (show (((12 - y5) * 1) + 0).toNat ≤ n from by omega) (show 0 ≤ y4 from by omega) (show y4 ≤ 9 from by omega) (show 0 ≤ y5 from by omega) (show y5 ≤ 11 from by omega) (by first | rfl | assumption) (by first | rfl | assumption) (by first | exact hhy | exact hq0_1) (show 0 ≤ y5 from by omega) (show y5 < a0 107 (y4.toNat) from by omega) (by rw [← hco]; rw [← hhy]; refine (CO_on (by omega) ?_).symm; first | (left; rw [← hy1]; assumption) | (right; rw [← hy2]; assumption)) (show 1 ≤ a0 105 5 from by omega)
      ·
        exact jt_rI ⟨rfl, rfl, (show (a0 105 5 = 0 → (-1) = 0 - 1) from by omega), (by first | exact absurd (by omega : False) id | (rw [← hhy, if_neg (by omega)]; have h := hco; rw [← hhy] at h; rw [← h]; first | (rw [CO_end (by omega)]) | exact (CO_hit (z := fun c => a0 108 (y4.toNat * 12 + c)) (g := fun c => a0 119 (y4.toNat * 12 + c)) (k := fun c => a0 130 (y4.toNat * 12 + c)) (c := y5.toNat) (by omega) hz (by show x2 ≤ a0 119 (y4.toNat * 12 + y5.toNat); omega)).symm))⟩
    ·
      exact jt_rI ⟨rfl, rfl, (show (a0 105 5 = 0 → (-1) = 0 - 1) from by omega), (by first | exact absurd (by omega : False) id | (rw [← hhy, if_neg (by omega)]; have h := hco; rw [← hhy] at h; rw [← h]; first | (rw [CO_end (by omega)]) | exact (CO_hit (z := fun c => a0 108 (y4.toNat * 12 + c)) (g := fun c => a0 119 (y4.toNat * 12 + c)) (k := fun c => a0 130 (y4.toNat * 12 + c)) (c := y5.toNat) (by omega) hz (by show x2 ≤ a0 119 (y4.toNat * 12 + y5.toNat); omega)).symm))⟩
  exact ⟨hc84, hc59, hc26⟩
theorem sp_X9_coinsFor (E : jxE) (d : Nat) (hd : Nat.ble 2 d = true) (x1 x2 x3 : Int) (a0 b0 : Nat → Nat → Int) (hv0 : iv a0) : jt (jxC E d 138 [.inr (.inr (.inl 105)), .inl x1, .inl x2, .inl x3] (jxSH, a0, b0)) (jQ_X9_coinsFor x1 x2 x3 a0 b0) := by
  obtain ⟨d, rfl⟩ := jd_succ hd
  refine jt_eq (bq_X9_coinsFor E d x1 x2 x3 a0 b0) ?_
  refine jt_bI (sp_X9_holdingOn E d (jd_le hd rfl) x3 a0 b0 hv0) (fun r1259_ a1259_ b1259_ h1259_ => ?_)
  obtain ⟨rfl, rfl, hq1259_0, hq1259_1⟩ := h1259_
  have h1260_ := iv_get hv0 (k := 105) (j := 5) (l := 0) (u := 10) rfl
  refine jt_ite (fun c1261_ => ?_) (fun c1261_ => ?_)
  ·
    exact jt_rI ⟨rfl, rfl, (show (a0 105 5 = 0 → (-1) = 0 - 1) from by omega), (by first | (rw [← hq1259_1, if_pos (by omega)]) | exact absurd (by have q := HO_bd (a0 106) x3 (a0 105 5).toNat; rw [← hq1259_1] at q; omega : False) id)⟩
  ·
    refine jt_ite (fun c1262_ => ?_) (fun c1262_ => ?_)
    ·
      exact (cp_X9_coinsFor_26 E d hd x1 x2 x3 a0 b0 hv0 _).2.2 x1 x2 r1259_ 0 (Nat.le_refl _) (show 0 ≤ r1259_ from by omega) (show r1259_ ≤ 9 from by omega) (show 0 ≤ 0 from by omega) (show 0 ≤ 12 from by omega) (by first | rfl | assumption) (by first | rfl | assumption) (by first | exact hhy | exact hq1259_1) (show 0 ≤ 0 from by omega) (by first | rfl | (rw [show (jxw (y5 + 1)).toNat = y5.toNat + 1 from by omega]; exact hco)) (show 1 ≤ a0 105 5 from by omega)
    ·
      exact jt_rI ⟨rfl, rfl, (show (a0 105 5 = 0 → (-1) = 0 - 1) from by omega), (by first | (rw [← hq1259_1, if_pos (by omega)]) | exact absurd (by have q := HO_bd (a0 106) x3 (a0 105 5).toNat; rw [← hq1259_1] at q; omega : False) id)⟩
abbrev jQ_X11_price (x1 x2 x3 x4 : Int) (a0 b0 : Nat → Nat → Int) : List jxV → (Nat → Nat → Int) → (Nat → Nat → Int) → Prop := rI (fun r a b => (a0 = a) ∧ (b0 = b) ∧ ((a0 105 5 = 0 → (((((((((0 ≤ x1 ∧ x1 ≤ 15) ∧ 0 ≤ x2) ∧ x2 ≤ 15) ∧ 1 ≤ x3) ∧ x3 ≤ 500) ∧ 0 ≤ x4) ∧ x4 ≤ 1999) ∧ r = 0 - 2) ∨ ((((((((x1 < 0 ∨ 15 < x1) ∨ x2 < 0) ∨ 15 < x2) ∨ x3 < 1) ∨ 500 < x3) ∨ x4 < 0) ∨ 1999 < x4) ∧ r = 0 - 1)))) ∧ (0 ≤ x1 ∧ x1 ≤ 15 ∧ 0 ≤ x2 ∧ x2 ≤ 15 ∧ 1 ≤ x3 ∧ x3 ≤ 500 ∧ 0 ≤ x4 ∧ x4 ≤ 1999 → r = PR1 a0 (ZN x1 x2 (a0 1 (16 * x1 + x2).toNat)) x3 x4) ∧ (((((((((x1 < 0 ∨ 15 < x1) ∨ x2 < 0) ∨ 15 < x2) ∨ x3 < 1) ∨ 500 < x3) ∨ x4 < 0) ∨ 1999 < x4) → r = 0 - 1)))
theorem cp_X11_price_33 (E : jxE) (d : Nat) (hd : Nat.ble 4 (d + 1) = true) (x1 x2 x3 x4 : Int) (a0 b0 : Nat → Nat → Int) (hv0 : iv a0) : (((((((x1 < 0 ∨ 15 < x1) ∨ x2 < 0) ∨ 15 < x2) ∨ x3 < 1) ∨ 500 < x3) ∨ x4 < 0) ∨ 1999 < x4) → jt (jxX E d 192 33 [none, none, none, none, none, none] [] (jxSH, a0, b0)) (jQ_X11_price x1 x2 x3 x4 a0 b0) := by
  intro hi0
  refine jt_eq (bq_X11_price_33 E d a0 b0) ?_
  have h1263_ := iv_get hv0 (k := 105) (j := 5) (l := 0) (u := 10) rfl
  exact jt_rI ⟨rfl, rfl, (show (a0 105 5 = 0 → (((((((((0 ≤ x1 ∧ x1 ≤ 15) ∧ 0 ≤ x2) ∧ x2 ≤ 15) ∧ 1 ≤ x3) ∧ x3 ≤ 500) ∧ 0 ≤ x4) ∧ x4 ≤ 1999) ∧ (-1) = 0 - 2) ∨ ((((((((x1 < 0 ∨ 15 < x1) ∨ x2 < 0) ∨ 15 < x2) ∨ x3 < 1) ∨ 500 < x3) ∨ x4 < 0) ∨ 1999 < x4) ∧ (-1) = 0 - 1))) from by omega), (fun h => absurd h (by omega)), (show ((((((((x1 < 0 ∨ 15 < x1) ∨ x2 < 0) ∨ 15 < x2) ∨ x3 < 1) ∨ 500 < x3) ∨ x4 < 0) ∨ 1999 < x4) → (-1) = 0 - 1) from by omega)⟩
theorem cp_X11_price_35 (E : jxE) (d : Nat) (hd : Nat.ble 4 (d + 1) = true) (x1 x2 x3 x4 : Int) (a0 b0 : Nat → Nat → Int) (hv0 : iv a0) : ∀ (y1 y2 y3 y4 : Int), 0 ≤ y1 → y1 ≤ 15 → 0 ≤ y2 → y2 ≤ 15 → 1 ≤ y3 → y3 ≤ 500 → 0 ≤ y4 → y4 ≤ 1999 → (((((((0 ≤ x1 ∧ x1 ≤ 15) ∧ 0 ≤ x2) ∧ x2 ≤ 15) ∧ 1 ≤ x3) ∧ x3 ≤ 500) ∧ 0 ≤ x4) ∧ x4 ≤ 1999) → (y1 = x1) → (y2 = x2) → (y3 = x3) → (y4 = x4) → jt (jxX E d 192 35 [some (.inr (.inr (.inl 0))), some (.inl y1), some (.inl y2), some (.inl y3), some (.inl y4), none] [] (jxSH, a0, b0)) (jQ_X11_price x1 x2 x3 x4 a0 b0) := by
  intro y1 y2 y3 y4 hi0 hi1 hi2 hi3 hi4 hi5 hi6 hi7 hi8 hy1 hy2 hy3 hy4
  refine jt_eq (bq_X11_price_35 E d y1 y2 y3 y4 a0 b0) ?_
  refine jt_eI (eq_X11_zone E d (jd_le hd rfl) y1 y2 a0 b0) ?_
  refine jt_bI (sp_X9_coinsFor E d (jd_le hd rfl) (f_X11_zone a0 b0 y1 y2) y3 y4 a0 b0 hv0) (fun r1264_ a1264_ b1264_ h1264_ => ?_)
  obtain ⟨rfl, rfl, hq1264_0, hq1264_1⟩ := h1264_
  have h1265_ := iv_get hv0 (k := 105) (j := 5) (l := 0) (u := 10) rfl
  refine jt_ite (fun c1266_ => ?_) (fun c1266_ => ?_)
  ·
    exact jt_rI ⟨rfl, rfl, (show (a0 105 5 = 0 → (((((((((0 ≤ x1 ∧ x1 ≤ 15) ∧ 0 ≤ x2) ∧ x2 ≤ 15) ∧ 1 ≤ x3) ∧ x3 ≤ 500) ∧ 0 ≤ x4) ∧ x4 ≤ 1999) ∧ (-2) = 0 - 2) ∨ ((((((((x1 < 0 ∨ 15 < x1) ∨ x2 < 0) ∨ 15 < x2) ∨ x3 < 1) ∨ 500 < x3) ∨ x4 < 0) ∨ 1999 < x4) ∧ (-2) = 0 - 1))) from by omega), (fun _ => by have e := hq1264_1; rw [zn11 a0 b0 y1 y2 (by omega) (by omega), hy1, hy2, hy3, hy4] at e; unfold PR1 PRC; by_cases h0 : HO (a0 106) x4 (a0 105 5).toNat < 0 <;> first | (rw [if_pos h0] at e; first | exact absurd e (by assumption) | (rw [if_pos h0])) | (rw [if_neg h0] at e ⊢; rw [← e]; first | (rw [if_pos (by assumption)]) | (rw [if_neg (by assumption)]))), (show ((((((((x1 < 0 ∨ 15 < x1) ∨ x2 < 0) ∨ 15 < x2) ∨ x3 < 1) ∨ 500 < x3) ∨ x4 < 0) ∨ 1999 < x4) → (-2) = 0 - 1) from by omega)⟩
  ·
    exact jt_rI ⟨rfl, rfl, (show (a0 105 5 = 0 → (((((((((0 ≤ x1 ∧ x1 ≤ 15) ∧ 0 ≤ x2) ∧ x2 ≤ 15) ∧ 1 ≤ x3) ∧ x3 ≤ 500) ∧ 0 ≤ x4) ∧ x4 ≤ 1999) ∧ r1264_ = 0 - 2) ∨ ((((((((x1 < 0 ∨ 15 < x1) ∨ x2 < 0) ∨ 15 < x2) ∨ x3 < 1) ∨ 500 < x3) ∨ x4 < 0) ∨ 1999 < x4) ∧ r1264_ = 0 - 1))) from by omega), (fun _ => by have e := hq1264_1; rw [zn11 a0 b0 y1 y2 (by omega) (by omega), hy1, hy2, hy3, hy4] at e; unfold PR1 PRC; by_cases h0 : HO (a0 106) x4 (a0 105 5).toNat < 0 <;> first | (rw [if_pos h0] at e; first | exact absurd e (by assumption) | (rw [if_pos h0])) | (rw [if_neg h0] at e ⊢; rw [← e]; first | (rw [if_pos (by assumption)]) | (rw [if_neg (by assumption)]))), (show ((((((((x1 < 0 ∨ 15 < x1) ∨ x2 < 0) ∨ 15 < x2) ∨ x3 < 1) ∨ 500 < x3) ∨ x4 < 0) ∨ 1999 < x4) → r1264_ = 0 - 1) from by omega)⟩
theorem sp_X11_price (E : jxE) (d : Nat) (hd : Nat.ble 4 d = true) (x1 x2 x3 x4 : Int) (a0 b0 : Nat → Nat → Int) (hv0 : iv a0) : jt (jxC E d 192 [.inr (.inr (.inl 0)), .inl x1, .inl x2, .inl x3, .inl x4] (jxSH, a0, b0)) (jQ_X11_price x1 x2 x3 x4 a0 b0) := by
  obtain ⟨d, rfl⟩ := jd_succ hd
  refine jt_eq (bq_X11_price E d x1 x2 x3 x4 a0 b0) ?_
  refine jt_eI (eq_X11_isLand E d (jd_le hd rfl) x1 a0 b0) ?_
  have h1267_ := f_X11_isLand_eq a0 b0 x1
  have h1268_ := f_X11_within_eq a0 b0 x1 0 15
  refine jt_ite (fun c1269_ => ?_) (fun c1269_ => ?_)
  ·
    exact cp_X11_price_33 E d hd x1 x2 x3 x4 a0 b0 hv0 (show (((((((x1 < 0 ∨ 15 < x1) ∨ x2 < 0) ∨ 15 < x2) ∨ x3 < 1) ∨ 500 < x3) ∨ x4 < 0) ∨ 1999 < x4) from by omega)
  ·
    refine jt_eI (eq_X11_isLand E d (jd_le hd rfl) x2 a0 b0) ?_
    have h1270_ := f_X11_isLand_eq a0 b0 x2
    have h1271_ := f_X11_within_eq a0 b0 x2 0 15
    refine jt_ite (fun c1272_ => ?_) (fun c1272_ => ?_)
    ·
      exact cp_X11_price_33 E d hd x1 x2 x3 x4 a0 b0 hv0 (show (((((((x1 < 0 ∨ 15 < x1) ∨ x2 < 0) ∨ 15 < x2) ∨ x3 < 1) ∨ 500 < x3) ∨ x4 < 0) ∨ 1999 < x4) from by omega)
    ·
      refine jt_eI (eq_X11_within E d (jd_le hd rfl) x3 1 500 a0 b0) ?_
      have h1273_ := f_X11_within_eq a0 b0 x3 1 500
      refine jt_ite (fun c1274_ => ?_) (fun c1274_ => ?_)
      ·
        exact cp_X11_price_33 E d hd x1 x2 x3 x4 a0 b0 hv0 (show (((((((x1 < 0 ∨ 15 < x1) ∨ x2 < 0) ∨ 15 < x2) ∨ x3 < 1) ∨ 500 < x3) ∨ x4 < 0) ∨ 1999 < x4) from by omega)
      ·
        refine jt_eI (eq_X11_isDay E d (jd_le hd rfl) x4 a0 b0) ?_
        have h1275_ := f_X11_isDay_eq a0 b0 x4
        have h1276_ := f_X11_within_eq a0 b0 x4 0 1999
        refine jt_ite (fun c1277_ => ?_) (fun c1277_ => ?_)
        ·
          exact cp_X11_price_33 E d hd x1 x2 x3 x4 a0 b0 hv0 (show (((((((x1 < 0 ∨ 15 < x1) ∨ x2 < 0) ∨ 15 < x2) ∨ x3 < 1) ∨ 500 < x3) ∨ x4 < 0) ∨ 1999 < x4) from by omega)
        ·
          exact cp_X11_price_35 E d hd x1 x2 x3 x4 a0 b0 hv0 x1 x2 x3 x4 (show 0 ≤ x1 from by omega) (show x1 ≤ 15 from by omega) (show 0 ≤ x2 from by omega) (show x2 ≤ 15 from by omega) (show 1 ≤ x3 from by omega) (show x3 ≤ 500 from by omega) (show 0 ≤ x4 from by omega) (show x4 ≤ 1999 from by omega) (show (((((((0 ≤ x1 ∧ x1 ≤ 15) ∧ 0 ≤ x2) ∧ x2 ≤ 15) ∧ 1 ≤ x3) ∧ x3 ≤ 500) ∧ 0 ≤ x4) ∧ x4 ≤ 1999) from by omega) (by first | rfl | assumption) (by first | rfl | assumption) (by first | rfl | assumption) (by first | rfl | assumption)
abbrev jQ_X9_lastGrams (x1 : Int) (a0 b0 : Nat → Nat → Int) : List jxV → (Nat → Nat → Int) → (Nat → Nat → Int) → Prop := rI (fun r a b => (a0 = a) ∧ (b0 = b) ∧ (r = LG (fun c => a0 108 ((a0 105 5).toNat * 12 + c)) (fun c => a0 119 ((a0 105 5).toNat * 12 + c)) x1 (a0 107 (a0 105 5).toNat).toNat))
theorem cp_X9_lastGrams_4 (E : jxE) (d : Nat) (hd : Nat.ble 1 (d + 1) = true) (x1 : Int) (a0 b0 : Nat → Nat → Int) (hv0 : iv a0) (hp0 : a0 105 5 ≤ 9) : ∀ n : Nat, (∀ (y1 y2 y3 : Int), (((12 - y3) * 1) + 0).toNat ≤ n → 0 ≤ y2 → y2 ≤ 999 → 0 ≤ y3 → y3 ≤ 11 → (y1 = x1) → y3 < a0 107 ((a0 105 5).toNat) → (y2 = LG (fun c => a0 108 ((a0 105 5).toNat * 12 + c)) (fun c => a0 119 ((a0 105 5).toNat * 12 + c)) x1 (y3.toNat + 1)) → jt (jxX E d 137 44 [some (.inr (.inr (.inl 105))), some (.inl y1), some (.inl y2), some (.inl y3)] [] (jxSH, a0, b0)) (jQ_X9_lastGrams x1 a0 b0)) ∧ (∀ (y1 y3 : Int), (((12 - y3) * 1) + 0).toNat ≤ n → 0 ≤ y1 → y1 ≤ 999 → 0 ≤ y3 → y3 ≤ 11 → (y1 = x1) → y3 < a0 107 ((a0 105 5).toNat) → (a0 108 ((a0 105 5).toNat * 12 + y3.toNat) = x1) → jt (jxX E d 137 32 [some (.inr (.inr (.inl 105))), some (.inl y1), none, some (.inl y3)] [] (jxSH, a0, b0)) (jQ_X9_lastGrams x1 a0 b0)) ∧ (∀ (y1 y2 y3 : Int), (((12 - y3) * 1) + 0).toNat ≤ n → 0 ≤ y2 → y2 ≤ 999 → 0 ≤ y3 → y3 ≤ 12 → (y1 = x1) → y3 ≤ a0 107 ((a0 105 5).toNat) → (y2 = LG (fun c => a0 108 ((a0 105 5).toNat * 12 + c)) (fun c => a0 119 ((a0 105 5).toNat * 12 + c)) x1 y3.toNat) → jt (jxX E d 137 4 [some (.inr (.inr (.inl 105))), some (.inl y1), some (.inl y2), some (.inl y3)] [] (jxSH, a0, b0)) (jQ_X9_lastGrams x1 a0 b0)) := by
  refine jx_ind fun n ih => ?_
  have ih44 : ∀ (y1 y2 y3 : Int), (((12 - y3) * 1) + 0).toNat < n → 0 ≤ y2 → y2 ≤ 999 → 0 ≤ y3 → y3 ≤ 11 → (y1 = x1) → y3 < a0 107 ((a0 105 5).toNat) → (y2 = LG (fun c => a0 108 ((a0 105 5).toNat * 12 + c)) (fun c => a0 119 ((a0 105 5).toNat * 12 + c)) x1 (y3.toNat + 1)) → jt (jxX E d 137 44 [some (.inr (.inr (.inl 105))), some (.inl y1), some (.inl y2), some (.inl y3)] [] (jxSH, a0, b0)) (jQ_X9_lastGrams x1 a0 b0) := fun y1 y2 y3 hlt i0 i1 i2 i3 i4 i5 i6 => (ih _ hlt).1 y1 y2 y3 (Nat.le_refl _) i0 i1 i2 i3 i4 i5 i6
  have ih32 : ∀ (y1 y3 : Int), (((12 - y3) * 1) + 0).toNat < n → 0 ≤ y1 → y1 ≤ 999 → 0 ≤ y3 → y3 ≤ 11 → (y1 = x1) → y3 < a0 107 ((a0 105 5).toNat) → (a0 108 ((a0 105 5).toNat * 12 + y3.toNat) = x1) → jt (jxX E d 137 32 [some (.inr (.inr (.inl 105))), some (.inl y1), none, some (.inl y3)] [] (jxSH, a0, b0)) (jQ_X9_lastGrams x1 a0 b0) := fun y1 y3 hlt i0 i1 i2 i3 i4 i5 i6 => (ih _ hlt).2.1 y1 y3 (Nat.le_refl _) i0 i1 i2 i3 i4 i5 i6
  have ih4 : ∀ (y1 y2 y3 : Int), (((12 - y3) * 1) + 0).toNat < n → 0 ≤ y2 → y2 ≤ 999 → 0 ≤ y3 → y3 ≤ 12 → (y1 = x1) → y3 ≤ a0 107 ((a0 105 5).toNat) → (y2 = LG (fun c => a0 108 ((a0 105 5).toNat * 12 + c)) (fun c => a0 119 ((a0 105 5).toNat * 12 + c)) x1 y3.toNat) → jt (jxX E d 137 4 [some (.inr (.inr (.inl 105))), some (.inl y1), some (.inl y2), some (.inl y3)] [] (jxSH, a0, b0)) (jQ_X9_lastGrams x1 a0 b0) := fun y1 y2 y3 hlt i0 i1 i2 i3 i4 i5 i6 => (ih _ hlt).2.2 y1 y2 y3 (Nat.le_refl _) i0 i1 i2 i3 i4 i5 i6
  have hc44 : ∀ (y1 y2 y3 : Int), (((12 - y3) * 1) + 0).toNat ≤ n → 0 ≤ y2 → y2 ≤ 999 → 0 ≤ y3 → y3 ≤ 11 → (y1 = x1) → y3 < a0 107 ((a0 105 5).toNat) → (y2 = LG (fun c => a0 108 ((a0 105 5).toNat * 12 + c)) (fun c => a0 119 ((a0 105 5).toNat * 12 + c)) x1 (y3.toNat + 1)) → jt (jxX E d 137 44 [some (.inr (.inr (.inl 105))), some (.inl y1), some (.inl y2), some (.inl y3)] [] (jxSH, a0, b0)) (jQ_X9_lastGrams x1 a0 b0) := by
    intro y1 y2 y3 hm hi0 hi1 hi2 hi3 hy1 hi5 hlg
    refine jt_eq (bq_X9_lastGrams_44 E d y1 y2 y3 a0 b0) ?_
    have h1278_ := iv_get hv0 (k := 105) (j := 5) (l := 0) (u := 10) rfl
    have h1279_ := iv_get hv0 (k := 107) (j := (a0 105 5).toNat) (l := 0) (u := 12) rfl
    have h1280_ : jxw (y3 + 1) = y3 + 1 := jxw_id (by omega) (by omega)
    exact ih4 y1 y2 (jxw (y3 + 1)) (show (((12 - (jxw (y3 + 1))) * 1) + 0).toNat < n from by omega) (show 0 ≤ y2 from by omega) (show y2 ≤ 999 from by omega) (show 0 ≤ jxw (y3 + 1) from by omega) (show jxw (y3 + 1) ≤ 12 from by omega) (by first | rfl | assumption) (show jxw (y3 + 1) ≤ a0 107 ((a0 105 5).toNat) from by omega) (by first | rfl | (rw [show (jxw (y3 + 1)).toNat = y3.toNat + 1 from by omega]; exact hlg))
  have hc32 : ∀ (y1 y3 : Int), (((12 - y3) * 1) + 0).toNat ≤ n → 0 ≤ y1 → y1 ≤ 999 → 0 ≤ y3 → y3 ≤ 11 → (y1 = x1) → y3 < a0 107 ((a0 105 5).toNat) → (a0 108 ((a0 105 5).toNat * 12 + y3.toNat) = x1) → jt (jxX E d 137 32 [some (.inr (.inr (.inl 105))), some (.inl y1), none, some (.inl y3)] [] (jxSH, a0, b0)) (jQ_X9_lastGrams x1 a0 b0) := by
    intro y1 y3 hm hi0 hi1 hi2 hi3 hy1 hi5 hz
    refine jt_eq (bq_X9_lastGrams_32 E d y1 y3 a0 b0) ?_
    have h1281_ := iv_get hv0 (k := 105) (j := 5) (l := 0) (u := 10) rfl
    have h1282_ := iv_get hv0 (k := 107) (j := (a0 105 5).toNat) (l := 0) (u := 12) rfl
    refine jt_grd (by omega) ?_
    refine jt_grd (by omega) ?_
    refine jt_grd (by omega) ?_
    have h1283_ := iv_get hv0 (k := 119) (j := ((a0 105 5).toNat) * 12 + (y3.toNat)) (l := 0) (u := 999) rfl
    exact hc44 y1 (a0 119 (((a0 105 5).toNat) * 12 + (y3.toNat))) y3 (show (((12 - y3) * 1) + 0).toNat ≤ n from by omega) (show 0 ≤ a0 119 (((a0 105 5).toNat) * 12 + (y3.toNat)) from by omega) (show a0 119 (((a0 105 5).toNat) * 12 + (y3.toNat)) ≤ 999 from by omega) (show 0 ≤ y3 from by omega) (show y3 ≤ 11 from by omega) (by first | rfl | assumption) (show y3 < a0 107 ((a0 105 5).toNat) from by omega) (by first | exact (LG_s1 (z := fun c => a0 108 ((a0 105 5).toNat * 12 + c)) (g := fun c => a0 119 ((a0 105 5).toNat * 12 + c)) (m := y3.toNat) hz).symm | (rw [LG_s2 (by rw [← hy1]; assumption)]; exact hlg))
  have hc4 : ∀ (y1 y2 y3 : Int), (((12 - y3) * 1) + 0).toNat ≤ n → 0 ≤ y2 → y2 ≤ 999 → 0 ≤ y3 → y3 ≤ 12 → (y1 = x1) → y3 ≤ a0 107 ((a0 105 5).toNat) → (y2 = LG (fun c => a0 108 ((a0 105 5).toNat * 12 + c)) (fun c => a0 119 ((a0 105 5).toNat * 12 + c)) x1 y3.toNat) → jt (jxX E d 137 4 [some (.inr (.inr (.inl 105))), some (.inl y1), some (.inl y2), some (.inl y3)] [] (jxSH, a0, b0)) (jQ_X9_lastGrams x1 a0 b0) := by
    intro y1 y2 y3 hm hi0 hi1 hi2 hi3 hy1 hi5 hlg
    refine jt_eq (bq_X9_lastGrams_4 E d y1 y2 y3 a0 b0) ?_
    have h1284_ := iv_get hv0 (k := 105) (j := 5) (l := 0) (u := 10) rfl
    have h1285_ := iv_get hv0 (k := 107) (j := (a0 105 5).toNat) (l := 0) (u := 12) rfl
    refine jt_grd (by omega) ?_
    refine jt_ite (fun c1286_ => ?_) (fun c1286_ => ?_)
    ·
      refine jt_grd (by omega) ?_
      refine jt_grd (by omega) ?_
      refine jt_grd (by omega) ?_
      have h1287_ := iv_get hv0 (k := 108) (j := ((a0 105 5).toNat) * 12 + (y3.toNat)) (l := 0) (u := 999) rfl
      refine jt_ite (fun c1288_ => ?_) (fun c1288_ => ?_)
      ·
        exact hc32 y1 y3 (show (((12 - y3) * 1) + 0).toNat ≤ n from by omega) (show 0 ≤ y1 from by omega) (show y1 ≤ 999 from by omega) (show 0 ≤ y3 from by omega) (show y3 ≤ 11 from by omega) (by first | rfl | assumption) (show y3 < a0 107 ((a0 105 5).toNat) from by omega) (by rw [← hy1]; assumption)
      ·
        exact hc44 y1 y2 y3 (show (((12 - y3) * 1) + 0).toNat ≤ n from by omega) (show 0 ≤ y2 from by omega) (show y2 ≤ 999 from by omega) (show 0 ≤ y3 from by omega) (show y3 ≤ 11 from by omega) (by first | rfl | assumption) (show y3 < a0 107 ((a0 105 5).toNat) from by omega) (by first | exact (LG_s1 (z := fun c => a0 108 ((a0 105 5).toNat * 12 + c)) (g := fun c => a0 119 ((a0 105 5).toNat * 12 + c)) (m := y3.toNat) hz).symm | (rw [LG_s2 (by rw [← hy1]; assumption)]; exact hlg))
    ·
      exact jt_rI ⟨rfl, rfl, (by rw [show (a0 107 (a0 105 5).toNat).toNat = y3.toNat from by omega]; exact hlg)⟩
  exact ⟨hc44, hc32, hc4⟩
theorem sp_X9_lastGrams (E : jxE) (d : Nat) (hd : Nat.ble 1 d = true) (x1 : Int) (a0 b0 : Nat → Nat → Int) (hv0 : iv a0) (hp0 : a0 105 5 ≤ 9) : jt (jxC E d 137 [.inr (.inr (.inl 105)), .inl x1] (jxSH, a0, b0)) (jQ_X9_lastGrams x1 a0 b0) := by
  obtain ⟨d, rfl⟩ := jd_succ hd
  refine jt_eq (bq_X9_lastGrams E d x1 a0 b0) ?_
  have h1289_ := iv_get hv0 (k := 105) (j := 5) (l := 0) (u := 10) rfl
  have h1290_ := iv_get hv0 (k := 107) (j := (a0 105 5).toNat) (l := 0) (u := 12) rfl
  exact (cp_X9_lastGrams_4 E d hd x1 a0 b0 hv0 hp0 _).2.2 x1 0 0 (Nat.le_refl _) (show 0 ≤ 0 from by omega) (show 0 ≤ 999 from by omega) (show 0 ≤ 0 from by omega) (show 0 ≤ 12 from by omega) (by first | rfl | assumption) (show 0 ≤ a0 107 ((a0 105 5).toNat) from by omega) (by first | rfl | (rw [show (jxw (y3 + 1)).toNat = y3.toNat + 1 from by omega]; exact hlg))
def jW_X9_readClause_r2 : List (Nat × Nat) := [(2, 2), (2, 3), (107, 9999), (108, 9999), (119, 9999), (130, 9999)]
abbrev jQ_X9_readClause_r2 (a0 b0 : Nat → Nat → Int) : List jxV → (Nat → Nat → Int) → (Nat → Nat → Int) → Prop := rV (fun a b => (iv a) ∧ (jfr jW_X9_readClause_r2 a0 a) ∧ (b0 = b) ∧ ((((a0 2 1 = 0 ∧ a0 2 2 = 0) ∧ a0 2 3 = 0) → (a 2 3 = 1 ∧ a 2 2 = 0))) ∧ (a 2 3 = CF (a0 3) (a0 2 1).toNat (a0 2 2).toNat (a0 107 (a0 105 5).toNat) (LSa a0)) ∧ ((RCU a0 a (a0 105 5).toNat ((a0 105 5).toNat * 12 + (a0 107 (a0 105 5).toNat).toNat) (NV (a0 3) (a0 2 1).toNat (C1 (a0 3) (a0 2 1).toNat (a0 2 2).toNat)) (NV (a0 3) (a0 2 1).toNat (C2 (a0 3) (a0 2 1).toNat (a0 2 2).toNat)) (NV (a0 3) (a0 2 1).toNat (C3 (a0 3) (a0 2 1).toNat (a0 2 2).toNat)) ((a0 107 (a0 105 5).toNat) + 1)) ∨ (RCS a0 a ∧ ¬ CF (a0 3) (a0 2 1).toNat (a0 2 2).toNat (a0 107 (a0 105 5).toNat) (LSa a0) = 0)) ∧ (CF (a0 3) (a0 2 1).toNat (a0 2 2).toNat (a0 107 (a0 105 5).toNat) (LSa a0) = 0 → a 2 2 = ((C4 (a0 3) (a0 2 1).toNat (a0 2 2).toNat) : Int)))
theorem cp_X9_readClause_r2_35 (E : jxE) (d : Nat) (hd : Nat.ble 6 (d + 1) = true) (a0 b0 : Nat → Nat → Int) (hv0 : iv a0) (hp0 : a0 105 5 ≤ 9) (hp1 : a0 2 3 = 0) : ∀ (y2 : Int) (a : Nat → Nat → Int), iv a → jfr jW_X9_readClause_r2 a0 a → 0 ≤ y2 → y2 ≤ 200 → a 105 5 ≤ 9 → (TW (a0 3) (a0 2 1).toNat (a0 2 2).toNat 15) → (12 ≤ (a0 107 (a0 105 5).toNat)) → (y2 = a0 2 2) → a 2 3 = 0 → (∀ j, a 108 j = a0 108 j) → (∀ j, a 119 j = a0 119 j) → (∀ j, a 130 j = a0 130 j) → (∀ j, a 107 j = a0 107 j) → 1 ≤ a0 2 1 → jt (jxX E d 136 35 [none, some (.inr (.inr (.inl 2))), some (.inl y2), none, none] [] (jxSH, a, b0)) (jQ_X9_readClause_r2 a0 b0) := by
  intro y2 a hv hf hi0 hi1 hi2 htw h12 hy2 hi6 hs108 hs119 hs130 hs107 hi11
  refine jt_eq (bq_X9_readClause_r2_35 E d y2 a b0) ?_
  have h1291_ := iv_get hv (k := 105) (j := 5) (l := 0) (u := 10) rfl
  have h1292_ : a 105 5 = a0 105 5 := hf 105 5 rfl
  have h1293_ := iv_get hv0 (k := 105) (j := 5) (l := 0) (u := 10) rfl
  have h1294_ := iv_get hv0 (k := 2) (j := 1) (l := 0) (u := 200) rfl
  have h3 : a 3 = a0 3 := funext fun j => hf 3 j rfl
  have h21 := hf 2 1 rfl
  refine jt_bV (sp_X8_noteFault E d (jd_le hd rfl) y2 2 a b0 hv) (fun a1295_ b1295_ h1295_ => ?_)
  obtain ⟨hv1295_, hf1295_, rfl, hq1295_0, hq1295_1⟩ := h1295_
  have hf1296_ : jfr jW_X9_readClause_r2 a0 a1295_ := jfr_tr hf hf1295_ rfl
  have h1297_ := iv_get hv0 (k := 2) (j := 2) (l := 0) (u := 200) rfl
  have h1298_ := iv_get hv1295_ (k := 2) (j := 2) (l := 0) (u := 200) rfl
  have h1299_ : a1295_ 2 2 = a 2 2 := hf1295_ 2 2 rfl
  have h1300_ := iv_get hv (k := 2) (j := 2) (l := 0) (u := 200) rfl
  exact jt_rV ⟨hv1295_, hf1296_, rfl, (show (((a0 2 1 = 0 ∧ a0 2 2 = 0) ∧ a0 2 3 = 0) → (a1295_ 2 3 = 1 ∧ a1295_ 2 2 = 0)) from by omega), (by rw [CF_12 htw h12]; omega), (Or.inr ⟨fun j => ⟨((hf1295_ 108 j rfl)).trans (hs108 j), ((hf1295_ 119 j rfl)).trans (hs119 j), ((hf1295_ 130 j rfl)).trans (hs130 j), ((hf1295_ 107 j rfl)).trans (hs107 j)⟩, (by rw [CF_12 htw h12]; omega)⟩), (fun h => absurd h (by rw [CF_12 htw h12]; omega))⟩
theorem cp_X9_readClause_r2_152 (E : jxE) (d : Nat) (hd : Nat.ble 6 (d + 1) = true) (a0 b0 : Nat → Nat → Int) (hv0 : iv a0) (hp0 : a0 105 5 ≤ 9) (hp1 : a0 2 3 = 0) : ∀ (a : Nat → Nat → Int), iv a → jfr jW_X9_readClause_r2 a0 a → a 105 5 ≤ 9 → (a 2 3 = CF (a0 3) (a0 2 1).toNat (a0 2 2).toNat (a0 107 (a0 105 5).toNat) (LSa a0)) → (a 2 2 = ((C4 (a0 3) (a0 2 1).toNat (a0 2 2).toNat) : Int)) → (RCU a0 a (a0 105 5).toNat ((a0 105 5).toNat * 12 + (a0 107 (a0 105 5).toNat).toNat) (NV (a0 3) (a0 2 1).toNat (C1 (a0 3) (a0 2 1).toNat (a0 2 2).toNat)) (NV (a0 3) (a0 2 1).toNat (C2 (a0 3) (a0 2 1).toNat (a0 2 2).toNat)) (NV (a0 3) (a0 2 1).toNat (C3 (a0 3) (a0 2 1).toNat (a0 2 2).toNat)) ((a0 107 (a0 105 5).toNat) + 1)) → 1 ≤ a0 2 1 → jt (jxX E d 136 152 [none, none, none, none, none] [] (jxSH, a, b0)) (jQ_X9_readClause_r2 a0 b0) := by
  intro a hv hf hi0 hcf hat hru hi4
  refine jt_eq (bq_X9_readClause_r2_152 E d a b0) ?_
  have h1301_ := iv_get hv (k := 105) (j := 5) (l := 0) (u := 10) rfl
  have h1302_ : a 105 5 = a0 105 5 := hf 105 5 rfl
  have h1303_ := iv_get hv0 (k := 105) (j := 5) (l := 0) (u := 10) rfl
  have h1304_ := iv_get hv0 (k := 2) (j := 1) (l := 0) (u := 200) rfl
  have h3 : a 3 = a0 3 := funext fun j => hf 3 j rfl
  have h21 := hf 2 1 rfl
  have h1305_ := iv_get hv0 (k := 2) (j := 2) (l := 0) (u := 200) rfl
  have h1306_ := iv_get hv (k := 2) (j := 2) (l := 0) (u := 200) rfl
  exact jt_rV ⟨hv, hf, rfl, (show (((a0 2 1 = 0 ∧ a0 2 2 = 0) ∧ a0 2 3 = 0) → (a 2 3 = 1 ∧ a 2 2 = 0)) from by omega), hcf, (Or.inl hru), (fun _ => hat)⟩
theorem cp_X9_readClause_r2_120 (E : jxE) (d : Nat) (hd : Nat.ble 6 (d + 1) = true) (a0 b0 : Nat → Nat → Int) (hv0 : iv a0) (hp0 : a0 105 5 ≤ 9) (hp1 : a0 2 3 = 0) : ∀ (y3 : Int) (a : Nat → Nat → Int), iv a → jfr jW_X9_readClause_r2 a0 a → 0 ≤ y3 → y3 ≤ 11 → a 105 5 ≤ 9 → (TW (a0 3) (a0 2 1).toNat (a0 2 2).toNat 15) → (y3 = (a0 107 (a0 105 5).toNat)) → y3 ≤ 11 → (UP (a0 108) (a 108) ((a0 105 5).toNat * 12 + (a0 107 (a0 105 5).toNat).toNat) (NV (a0 3) (a0 2 1).toNat (C1 (a0 3) (a0 2 1).toNat (a0 2 2).toNat))) → (UP (a0 119) (a 119) ((a0 105 5).toNat * 12 + (a0 107 (a0 105 5).toNat).toNat) (NV (a0 3) (a0 2 1).toNat (C2 (a0 3) (a0 2 1).toNat (a0 2 2).toNat))) → (∀ j, a 130 j = a0 130 j) → (∀ j, a 107 j = a0 107 j) → (a 2 2 = ((C3 (a0 3) (a0 2 1).toNat (a0 2 2).toNat) : Int)) → (a 2 3 = (if ¬ NF (a0 3) (a0 2 1).toNat (C1 (a0 3) (a0 2 1).toNat (a0 2 2).toNat) 0 3 = 0 then NF (a0 3) (a0 2 1).toNat (C1 (a0 3) (a0 2 1).toNat (a0 2 2).toNat) 0 3 else NF (a0 3) (a0 2 1).toNat (C2 (a0 3) (a0 2 1).toNat (a0 2 2).toNat) (LSa a0 + 1) 500)) → y3 = a 107 ((a0 105 5).toNat) → 1 ≤ a0 2 1 → jt (jxX E d 136 120 [some (.inr (.inr (.inl 105))), some (.inr (.inr (.inl 2))), none, some (.inl y3), none] [] (jxSH, a, b0)) (jQ_X9_readClause_r2 a0 b0) := by
  intro y3 a hv hf hi0 hi1 hi2 htw hy3 hi5 hu108 hu119 hs130 hs107 hat hft2 hi12 hi13
  refine jt_eq (bq_X9_readClause_r2_120 E d y3 a b0) ?_
  have h1307_ := iv_get hv (k := 105) (j := 5) (l := 0) (u := 10) rfl
  have h1308_ : a 105 5 = a0 105 5 := hf 105 5 rfl
  have h1309_ := iv_get hv0 (k := 105) (j := 5) (l := 0) (u := 10) rfl
  have h1310_ := iv_get hv (k := 107) (j := (a0 105 5).toNat) (l := 0) (u := 12) rfl
  have h1311_ := iv_get hv0 (k := 2) (j := 1) (l := 0) (u := 200) rfl
  have h3 : a 3 = a0 3 := funext fun j => hf 3 j rfl
  have h21 := hf 2 1 rfl
  have hP : (a 2 2).toNat = (C3 (a0 3) (a0 2 1).toNat (a0 2 2).toNat) := by rw [hat]; exact Int.toNat_natCast _
  have hi : (a 105 5).toNat * 12 + y3.toNat = ((a0 105 5).toNat * 12 + (a0 107 (a0 105 5).toNat).toNat) := by rw [hf 105 5 rfl, hy3]
  refine jt_grd (by omega) ?_
  refine jt_bI (sp_X8_takeNumber E d (jd_le hd rfl) 1 900 a b0 hv) (fun r1312_ a1312_ b1312_ h1312_ => ?_)
  obtain ⟨hv1312_, hf1312_, rfl, hq1312_0, hq1312_1, hq1312_2, hq1312_3⟩ := h1312_
  refine jt_grd (by omega) ?_
  refine jt_grd (by omega) ?_
  have h1313_ := iv_get hv1312_ (k := 105) (j := 5) (l := 0) (u := 10) rfl
  have h1314_ : a1312_ 105 5 = a 105 5 := hf1312_ 105 5 rfl
  refine jt_grd (by omega) ?_
  refine jt_grd (by omega) ?_
  have hv1315_ : iv (jxu a1312_ 130 (((a 105 5).toNat) * 12 + (y3.toNat)) r1312_) := iv_put hv1312_ (l := 0) (u := 999) rfl (by omega) (by omega)
  have h1317_ : a1312_ 107 ((a1312_ 105 5).toNat) = a1312_ 107 ((a0 105 5).toNat) := by rw [show a1312_ 105 5 = a0 105 5 from by omega]
  have h1318_ := iv_get hv1312_ (k := 107) (j := (a0 105 5).toNat) (l := 0) (u := 12) rfl
  have h1319_ : a1312_ 107 ((a0 105 5).toNat) = a 107 ((a0 105 5).toNat) := hf1312_ 107 ((a0 105 5).toNat) rfl
  have h1320_ := iv_get hv1312_ (k := 107) (j := (a1312_ 105 5).toNat) (l := 0) (u := 12) rfl
  have h1321_ : a1312_ 107 ((a1312_ 105 5).toNat) = a 107 ((a1312_ 105 5).toNat) := hf1312_ 107 ((a1312_ 105 5).toNat) rfl
  have h1322_ : a 107 ((a1312_ 105 5).toNat) = a 107 ((a0 105 5).toNat) := by rw [show a1312_ 105 5 = a0 105 5 from by omega]
  have h1323_ := iv_get hv (k := 107) (j := (a1312_ 105 5).toNat) (l := 0) (u := 12) rfl
  have h1324_ : jxw ((a1312_ 107 ((a1312_ 105 5).toNat)) + 1) = (a1312_ 107 ((a1312_ 105 5).toNat)) + 1 := jxw_id (by omega) (by omega)
  have hv1316_ : iv (jxu (jxu a1312_ 130 (((a 105 5).toNat) * 12 + (y3.toNat)) r1312_) 107 ((a1312_ 105 5).toNat) (jxw ((a1312_ 107 ((a1312_ 105 5).toNat)) + 1))) := iv_put hv1315_ (l := 0) (u := 12) rfl (by omega) (by omega)
  have hf1325_ : jfr jW_X9_readClause_r2 a0 a1312_ := jfr_tr hf hf1312_ rfl
  have hf1326_ : jfr jW_X9_readClause_r2 a0 (jxu a1312_ 130 (((a 105 5).toNat) * 12 + (y3.toNat)) r1312_) := jfr_put hf1325_ rfl
  have hf1327_ : jfr jW_X9_readClause_r2 a0 (jxu (jxu a1312_ 130 (((a 105 5).toNat) * 12 + (y3.toNat)) r1312_) 107 ((a1312_ 105 5).toNat) (jxw ((a1312_ 107 ((a1312_ 105 5).toNat)) + 1))) := jfr_put hf1326_ rfl
  exact cp_X9_readClause_r2_152 E d hd a0 b0 hv0 hp0 hp1 (jxu (jxu a1312_ 130 (((a 105 5).toNat) * 12 + (y3.toNat)) r1312_) 107 ((a1312_ 105 5).toNat) (jxw ((a1312_ 107 ((a1312_ 105 5).toNat)) + 1))) hv1316_ hf1327_ (show a1312_ 105 5 ≤ 9 from by omega) (by have e0 := hq1312_0; have e1 := hq1312_1; have e2 := hq1312_2; rw [h3, h21, hP] at e0 e1 e2; rw [CF_go htw (by rw [← hy3]; omega), ← CF_split, ← hft2]; exact e2) (by have e0 := hq1312_0; have e1 := hq1312_1; have e2 := hq1312_2; rw [h3, h21, hP] at e0 e1 e2; exact e1) (by have e0 := hq1312_0; have e1 := hq1312_1; have e2 := hq1312_2; rw [h3, h21, hP] at e0 e1 e2; have hs7 : a1312_ 105 5 = a0 105 5 := (hf1312_ 105 5 rfl).trans (hf 105 5 rfl); refine ⟨UP_cr hu108 (fun j => hf1312_ 108 j rfl), UP_cr hu119 (fun j => hf1312_ 119 j rfl), ?_, ?_⟩ <;> first | (rw [← hi, ← e0]; exact UP_put (fun j => (hf1312_ 130 j rfl).trans (hs130 j))) | (rw [show (a0 107 (a0 105 5).toNat) + 1 = jxw ((a1312_ 107 ((a1312_ 105 5).toNat)) + 1) from (by rw [hs7, hf1312_ 107 _ rfl, hs107, ← hy3, jxw_id (by omega) (by omega)]), ← hs7]; exact UP_put (fun j => (hf1312_ 107 j rfl).trans (hs107 j)))) (show 1 ≤ a0 2 1 from by omega)
theorem cp_X9_readClause_r2_113 (E : jxE) (d : Nat) (hd : Nat.ble 6 (d + 1) = true) (a0 b0 : Nat → Nat → Int) (hv0 : iv a0) (hp0 : a0 105 5 ≤ 9) (hp1 : a0 2 3 = 0) : ∀ (y3 y4 : Int) (a : Nat → Nat → Int), iv a → jfr jW_X9_readClause_r2 a0 a → 0 ≤ y3 → y3 ≤ 11 → 0 ≤ y4 → y4 ≤ 200 → a 105 5 ≤ 9 → (TW (a0 3) (a0 2 1).toNat (a0 2 2).toNat 15) → (y3 = (a0 107 (a0 105 5).toNat)) → y3 ≤ 11 → (UP (a0 108) (a 108) ((a0 105 5).toNat * 12 + (a0 107 (a0 105 5).toNat).toNat) (NV (a0 3) (a0 2 1).toNat (C1 (a0 3) (a0 2 1).toNat (a0 2 2).toNat))) → (UP (a0 119) (a 119) ((a0 105 5).toNat * 12 + (a0 107 (a0 105 5).toNat).toNat) (NV (a0 3) (a0 2 1).toNat (C2 (a0 3) (a0 2 1).toNat (a0 2 2).toNat))) → (∀ j, a 130 j = a0 130 j) → (∀ j, a 107 j = a0 107 j) → (a 2 2 = ((C3 (a0 3) (a0 2 1).toNat (a0 2 2).toNat) : Int)) → (y4 = ((C2 (a0 3) (a0 2 1).toNat (a0 2 2).toNat) : Int)) → (a 2 3 = (if NF (a0 3) (a0 2 1).toNat (C1 (a0 3) (a0 2 1).toNat (a0 2 2).toNat) 0 3 = 0 then NF (a0 3) (a0 2 1).toNat (C2 (a0 3) (a0 2 1).toNat (a0 2 2).toNat) 1 500 else NF (a0 3) (a0 2 1).toNat (C1 (a0 3) (a0 2 1).toNat (a0 2 2).toNat) 0 3)) → (NV (a0 3) (a0 2 1).toNat (C2 (a0 3) (a0 2 1).toNat (a0 2 2).toNat) ≤ LSa a0) → y3 = a 107 ((a0 105 5).toNat) → 1 ≤ a0 2 1 → jt (jxX E d 136 113 [some (.inr (.inr (.inl 105))), some (.inr (.inr (.inl 2))), none, some (.inl y3), some (.inl y4)] [] (jxSH, a, b0)) (jQ_X9_readClause_r2 a0 b0) := by
  intro y3 y4 a hv hf hi0 hi1 hi2 hi3 hi4 htw hy3 hi7 hu108 hu119 hs130 hs107 hat hy4 hft hle hi16 hi17
  refine jt_eq (bq_X9_readClause_r2_113 E d y3 y4 a b0) ?_
  have h1328_ := iv_get hv (k := 105) (j := 5) (l := 0) (u := 10) rfl
  have h1329_ : a 105 5 = a0 105 5 := hf 105 5 rfl
  have h1330_ := iv_get hv0 (k := 105) (j := 5) (l := 0) (u := 10) rfl
  have h1331_ := iv_get hv (k := 107) (j := (a0 105 5).toNat) (l := 0) (u := 12) rfl
  have h1332_ := iv_get hv0 (k := 2) (j := 1) (l := 0) (u := 200) rfl
  have h3 : a 3 = a0 3 := funext fun j => hf 3 j rfl
  have h21 := hf 2 1 rfl
  refine jt_bV (sp_X8_noteFault E d (jd_le hd rfl) y4 1 a b0 hv) (fun a1333_ b1333_ h1333_ => ?_)
  obtain ⟨hv1333_, hf1333_, rfl, hq1333_0, hq1333_1⟩ := h1333_
  have hf1334_ : jfr jW_X9_readClause_r2 a0 a1333_ := jfr_tr hf hf1333_ rfl
  have h1335_ := iv_get hv1333_ (k := 105) (j := 5) (l := 0) (u := 10) rfl
  have h1336_ : a1333_ 105 5 = a 105 5 := hf1333_ 105 5 rfl
  have h1337_ := iv_get hv1333_ (k := 107) (j := (a0 105 5).toNat) (l := 0) (u := 12) rfl
  have h1338_ : a1333_ 107 ((a0 105 5).toNat) = a 107 ((a0 105 5).toNat) := hf1333_ 107 ((a0 105 5).toNat) rfl
  exact cp_X9_readClause_r2_120 E d hd a0 b0 hv0 hp0 hp1 y3 a1333_ hv1333_ hf1334_ (show 0 ≤ y3 from by omega) (show y3 ≤ 11 from by omega) (show a1333_ 105 5 ≤ 9 from by omega) (by first | exact htw | exact (hq1333_3 (by omega)).2.1) (by first | exact hy3 | (rw [hf1333_ 107 _ rfl, hf1333_ 105 5 rfl])) (show y3 ≤ 11 from by omega) (UP_cr hu108 (fun j => (hf1333_ 108 j rfl))) (UP_cr hu119 (fun j => (hf1333_ 119 j rfl))) (fun j => ((hf1333_ 130 j rfl)).trans (hs130 j)) (fun j => ((hf1333_ 107 j rfl)).trans (hs107 j)) (by rw [hf1333_ 2 2 rfl]; exact hat) (by have hb := LSa_bd hv0; have n1 := NF_pos (a0 3) (a0 2 1).toNat (C1 (a0 3) (a0 2 1).toNat (a0 2 2).toNat) 0 3; have n2 := NF_pos (a0 3) (a0 2 1).toNat (C2 (a0 3) (a0 2 1).toNat (a0 2 2).toNat) 1 500; rw [NF_two hb.1, if_pos hle]; have p0 := hq1333_0; have p1 := hq1333_1; rw [hft] at p0 p1; split at p0 <;> split <;> (try split) <;> omega) (show y3 = a1333_ 107 ((a0 105 5).toNat) from by omega) (show 1 ≤ a0 2 1 from by omega)
theorem cp_X9_readClause_r2_65 (E : jxE) (d : Nat) (hd : Nat.ble 6 (d + 1) = true) (a0 b0 : Nat → Nat → Int) (hv0 : iv a0) (hp0 : a0 105 5 ≤ 9) (hp1 : a0 2 3 = 0) : ∀ (y3 y4 : Int) (a : Nat → Nat → Int), iv a → jfr jW_X9_readClause_r2 a0 a → 0 ≤ y3 → y3 ≤ 11 → 0 ≤ y4 → y4 ≤ 200 → a 105 5 ≤ 9 → (TW (a0 3) (a0 2 1).toNat (a0 2 2).toNat 15) → (y3 = (a0 107 (a0 105 5).toNat)) → y3 ≤ 11 → (y4 = ((C2 (a0 3) (a0 2 1).toNat (a0 2 2).toNat) : Int)) → (a 2 2 = ((C2 (a0 3) (a0 2 1).toNat (a0 2 2).toNat) : Int)) → (UP (a0 108) (a 108) ((a0 105 5).toNat * 12 + (a0 107 (a0 105 5).toNat).toNat) (NV (a0 3) (a0 2 1).toNat (C1 (a0 3) (a0 2 1).toNat (a0 2 2).toNat))) → (a 2 3 = NF (a0 3) (a0 2 1).toNat (C1 (a0 3) (a0 2 1).toNat (a0 2 2).toNat) 0 3) → (∀ j, a 119 j = a0 119 j) → (∀ j, a 130 j = a0 130 j) → (∀ j, a 107 j = a0 107 j) → y3 = a 107 ((a0 105 5).toNat) → 1 ≤ a0 2 1 → jt (jxX E d 136 65 [some (.inr (.inr (.inl 105))), some (.inr (.inr (.inl 2))), none, some (.inl y3), some (.inl y4)] [] (jxSH, a, b0)) (jQ_X9_readClause_r2 a0 b0) := by
  intro y3 y4 a hv hf hi0 hi1 hi2 hi3 hi4 htw hy3 hi7 hy4 hat hu108 hft hs119 hs130 hs107 hi15 hi16
  refine jt_eq (bq_X9_readClause_r2_65 E d y3 y4 a b0) ?_
  have h1339_ := iv_get hv (k := 105) (j := 5) (l := 0) (u := 10) rfl
  have h1340_ : a 105 5 = a0 105 5 := hf 105 5 rfl
  have h1341_ := iv_get hv0 (k := 105) (j := 5) (l := 0) (u := 10) rfl
  have h1342_ := iv_get hv (k := 107) (j := (a0 105 5).toNat) (l := 0) (u := 12) rfl
  have h1343_ := iv_get hv0 (k := 2) (j := 1) (l := 0) (u := 200) rfl
  have h3 : a 3 = a0 3 := funext fun j => hf 3 j rfl
  have h21 := hf 2 1 rfl
  have hP : (a 2 2).toNat = (C2 (a0 3) (a0 2 1).toNat (a0 2 2).toNat) := by rw [hat]; exact Int.toNat_natCast _
  have hi : (a 105 5).toNat * 12 + y3.toNat = ((a0 105 5).toNat * 12 + (a0 107 (a0 105 5).toNat).toNat) := by rw [hf 105 5 rfl, hy3]
  refine jt_grd (by omega) ?_
  refine jt_bI (sp_X8_takeNumber E d (jd_le hd rfl) 1 500 a b0 hv) (fun r1344_ a1344_ b1344_ h1344_ => ?_)
  obtain ⟨hv1344_, hf1344_, rfl, hq1344_0, hq1344_1, hq1344_2, hq1344_3⟩ := h1344_
  refine jt_grd (by omega) ?_
  refine jt_grd (by omega) ?_
  have h1345_ := iv_get hv1344_ (k := 105) (j := 5) (l := 0) (u := 10) rfl
  have h1346_ : a1344_ 105 5 = a 105 5 := hf1344_ 105 5 rfl
  refine jt_grd (by omega) ?_
  refine jt_grd (by omega) ?_
  refine jt_grd (by omega) ?_
  refine jt_grd (by omega) ?_
  refine jt_grd (by omega) ?_
  refine jt_grd (by omega) ?_
  have hv1347_ : iv (jxu a1344_ 119 (((a 105 5).toNat) * 12 + (y3.toNat)) r1344_) := iv_put hv1344_ (l := 0) (u := 999) rfl (by omega) (by omega)
  refine jt_bI (sp_X9_lastGrams E d (jd_le hd rfl) (a1344_ 108 (((a1344_ 105 5).toNat) * 12 + (y3.toNat))) (jxu a1344_ 119 (((a 105 5).toNat) * 12 + (y3.toNat)) r1344_) b0 hv1347_ (show a1344_ 105 5 ≤ 9 from by omega)) (fun r1348_ a1348_ b1348_ h1348_ => ?_)
  obtain ⟨he1348_, rfl, hq1348_0⟩ := h1348_
  have hv1348_ : iv a1348_ := he1348_ ▸ hv1347_
  have hf1348_ : jfr [] (jxu a1344_ 119 (((a 105 5).toNat) * 12 + (y3.toNat)) r1344_) a1348_ := jfr_eq he1348_
  have h1349_ := iv_get hv1347_ (k := 119) (j := ((a1344_ 105 5).toNat) * 12 + (y3.toNat)) (l := 0) (u := 999) rfl
  have h1350_ := jxu_sp a1344_ 119 (((a 105 5).toNat) * 12 + (y3.toNat)) r1344_ (((a1344_ 105 5).toNat) * 12 + (y3.toNat))
  have h1351_ := iv_get hv1344_ (k := 119) (j := ((a1344_ 105 5).toNat) * 12 + (y3.toNat)) (l := 0) (u := 999) rfl
  have h1352_ : a1344_ 119 (((a1344_ 105 5).toNat) * 12 + (y3.toNat)) = a 119 (((a1344_ 105 5).toNat) * 12 + (y3.toNat)) := hf1344_ 119 (((a1344_ 105 5).toNat) * 12 + (y3.toNat)) rfl
  have h1353_ := iv_get hv (k := 119) (j := ((a1344_ 105 5).toNat) * 12 + (y3.toNat)) (l := 0) (u := 999) rfl
  refine jt_ite (fun c1354_ => ?_) (fun c1354_ => ?_)
  ·
    have hf1355_ : jfr jW_X9_readClause_r2 a0 a1344_ := jfr_tr hf hf1344_ rfl
    have hf1356_ : jfr jW_X9_readClause_r2 a0 (jxu a1344_ 119 (((a 105 5).toNat) * 12 + (y3.toNat)) r1344_) := jfr_put hf1355_ rfl
    have hf1357_ : jfr jW_X9_readClause_r2 a0 a1348_ := jfr_tr hf1356_ hf1348_ rfl
    have h1358_ := iv_get hv1348_ (k := 105) (j := 5) (l := 0) (u := 10) rfl
    have h1359_ : a1348_ 105 5 = a1344_ 105 5 := hf1348_ 105 5 rfl
    have h1360_ := iv_get hv1348_ (k := 107) (j := (a0 105 5).toNat) (l := 0) (u := 12) rfl
    have h1361_ : a1348_ 107 ((a0 105 5).toNat) = a1344_ 107 ((a0 105 5).toNat) := hf1348_ 107 ((a0 105 5).toNat) rfl
    have h1362_ := iv_get hv1344_ (k := 107) (j := (a0 105 5).toNat) (l := 0) (u := 12) rfl
    have h1363_ : a1344_ 107 ((a0 105 5).toNat) = a 107 ((a0 105 5).toNat) := hf1344_ 107 ((a0 105 5).toNat) rfl
    exact cp_X9_readClause_r2_120 E d hd a0 b0 hv0 hp0 hp1 y3 a1348_ hv1348_ hf1357_ (show 0 ≤ y3 from by omega) (show y3 ≤ 11 from by omega) (show a1348_ 105 5 ≤ 9 from by omega) (by first | exact htw | exact (hq1348_3 (by omega)).2.1) (by first | exact hy3 | (rw [hf1348_ 107 _ rfl, hf1348_ 105 5 rfl])) (show y3 ≤ 11 from by omega) (UP_cr hu108 (fun j => ((hf1348_ 108 j rfl).trans (hf1344_ 108 j rfl)))) (by have e0 := hq1344_0; have e1 := hq1344_1; have e2 := hq1344_2; rw [h3, h21, hP] at e0 e1 e2; rw [← hi, ← e0]; exact UP_cr (UP_put (fun j => (hf1344_ 119 j rfl).trans (hs119 j))) (fun j => hf1348_ 119 j rfl)) (fun j => (((hf1348_ 130 j rfl).trans (hf1344_ 130 j rfl))).trans (hs130 j)) (fun j => (((hf1348_ 107 j rfl).trans (hf1344_ 107 j rfl))).trans (hs107 j)) (by have e0 := hq1344_0; have e1 := hq1344_1; have e2 := hq1344_2; rw [h3, h21, hP] at e0 e1 e2; exact (hf1348_ 2 2 rfl).trans e1) (by have e0 := hq1344_0; have e1 := hq1344_1; have e2 := hq1344_2; rw [h3, h21, hP] at e0 e1 e2; have hl := hq1348_0; have hU8 : UP (a0 108) (a1344_ 108) ((a0 105 5).toNat * 12 + (a0 107 (a0 105 5).toNat).toNat) _ := UP_cr hu108 (fun j => hf1344_ 108 j rfl); have hU9 : UP (a0 119) (jxu a1344_ 119 ((a0 105 5).toNat * 12 + (a0 107 (a0 105 5).toNat).toNat) r1344_ 119) ((a0 105 5).toNat * 12 + (a0 107 (a0 105 5).toNat).toNat) r1344_ := UP_put (fun j => (hf1344_ 119 j rfl).trans (hs119 j)); have hlr : r1348_ = LSa a0 := (by rw [hl]; show LG (fun c => a1344_ 108 ((a1344_ 105 5).toNat * 12 + c)) (fun c => jxu a1344_ 119 ((a 105 5).toNat * 12 + y3.toNat) r1344_ 119 ((a1344_ 105 5).toNat * 12 + c)) (a1344_ 108 ((a1344_ 105 5).toNat * 12 + y3.toNat)) (a1344_ 107 (a1344_ 105 5).toNat).toNat = _; rw [hf1344_ 105 5 rfl, hi, hf1344_ 107 _ rfl, hs107, hf 105 5 rfl, LG_keep hU8 hU9, hU8 _, if_pos rfl]; rfl); have hb := LSa_bd hv0; rw [NF_two_ok hb.1 (by rw [← hlr, ← e0]; omega)]; rw [hft] at e2; rw [hf1348_ 2 3 rfl]; show a1344_ 2 3 = _; rw [e2]; split <;> (try split) <;> (try split) <;> first | rfl | omega) (show y3 = a1348_ 107 ((a0 105 5).toNat) from by omega) (show 1 ≤ a0 2 1 from by omega)
  ·
    have hf1364_ : jfr jW_X9_readClause_r2 a0 a1344_ := jfr_tr hf hf1344_ rfl
    have hf1365_ : jfr jW_X9_readClause_r2 a0 (jxu a1344_ 119 (((a 105 5).toNat) * 12 + (y3.toNat)) r1344_) := jfr_put hf1364_ rfl
    have hf1366_ : jfr jW_X9_readClause_r2 a0 a1348_ := jfr_tr hf1365_ hf1348_ rfl
    have h1367_ := iv_get hv1348_ (k := 105) (j := 5) (l := 0) (u := 10) rfl
    have h1368_ : a1348_ 105 5 = a1344_ 105 5 := hf1348_ 105 5 rfl
    have h1369_ := iv_get hv1348_ (k := 107) (j := (a0 105 5).toNat) (l := 0) (u := 12) rfl
    have h1370_ : a1348_ 107 ((a0 105 5).toNat) = a1344_ 107 ((a0 105 5).toNat) := hf1348_ 107 ((a0 105 5).toNat) rfl
    have h1371_ := iv_get hv1344_ (k := 107) (j := (a0 105 5).toNat) (l := 0) (u := 12) rfl
    have h1372_ : a1344_ 107 ((a0 105 5).toNat) = a 107 ((a0 105 5).toNat) := hf1344_ 107 ((a0 105 5).toNat) rfl
    exact cp_X9_readClause_r2_113 E d hd a0 b0 hv0 hp0 hp1 y3 y4 a1348_ hv1348_ hf1366_ (show 0 ≤ y3 from by omega) (show y3 ≤ 11 from by omega) (show 0 ≤ y4 from by omega) (show y4 ≤ 200 from by omega) (show a1348_ 105 5 ≤ 9 from by omega) (by first | exact htw | exact (hq1348_3 (by omega)).2.1) (by first | exact hy3 | (rw [hf1348_ 107 _ rfl, hf1348_ 105 5 rfl])) (show y3 ≤ 11 from by omega) (UP_cr hu108 (fun j => ((hf1348_ 108 j rfl).trans (hf1344_ 108 j rfl)))) (by have e0 := hq1344_0; have e1 := hq1344_1; have e2 := hq1344_2; rw [h3, h21, hP] at e0 e1 e2; rw [← hi, ← e0]; exact UP_cr (UP_put (fun j => (hf1344_ 119 j rfl).trans (hs119 j))) (fun j => hf1348_ 119 j rfl)) (fun j => (((hf1348_ 130 j rfl).trans (hf1344_ 130 j rfl))).trans (hs130 j)) (fun j => (((hf1348_ 107 j rfl).trans (hf1344_ 107 j rfl))).trans (hs107 j)) (by have e0 := hq1344_0; have e1 := hq1344_1; have e2 := hq1344_2; rw [h3, h21, hP] at e0 e1 e2; exact (hf1348_ 2 2 rfl).trans e1) hy4 (by have e0 := hq1344_0; have e1 := hq1344_1; have e2 := hq1344_2; rw [h3, h21, hP] at e0 e1 e2; rw [hft] at e2; exact (hf1348_ 2 3 rfl).trans e2) (by have e0 := hq1344_0; have e1 := hq1344_1; have e2 := hq1344_2; rw [h3, h21, hP] at e0 e1 e2; have hl := hq1348_0; have hU8 : UP (a0 108) (a1344_ 108) ((a0 105 5).toNat * 12 + (a0 107 (a0 105 5).toNat).toNat) _ := UP_cr hu108 (fun j => hf1344_ 108 j rfl); have hU9 : UP (a0 119) (jxu a1344_ 119 ((a0 105 5).toNat * 12 + (a0 107 (a0 105 5).toNat).toNat) r1344_ 119) ((a0 105 5).toNat * 12 + (a0 107 (a0 105 5).toNat).toNat) r1344_ := UP_put (fun j => (hf1344_ 119 j rfl).trans (hs119 j)); have hlr : r1348_ = LSa a0 := (by rw [hl]; show LG (fun c => a1344_ 108 ((a1344_ 105 5).toNat * 12 + c)) (fun c => jxu a1344_ 119 ((a 105 5).toNat * 12 + y3.toNat) r1344_ 119 ((a1344_ 105 5).toNat * 12 + c)) (a1344_ 108 ((a1344_ 105 5).toNat * 12 + y3.toNat)) (a1344_ 107 (a1344_ 105 5).toNat).toNat = _; rw [hf1344_ 105 5 rfl, hi, hf1344_ 107 _ rfl, hs107, hf 105 5 rfl, LG_keep hU8 hU9, hU8 _, if_pos rfl]; rfl); rw [← hlr, ← e0]; omega) (show y3 = a1348_ 107 ((a0 105 5).toNat) from by omega) (show 1 ≤ a0 2 1 from by omega)
theorem cp_X9_readClause_r2_42 (E : jxE) (d : Nat) (hd : Nat.ble 6 (d + 1) = true) (a0 b0 : Nat → Nat → Int) (hv0 : iv a0) (hp0 : a0 105 5 ≤ 9) (hp1 : a0 2 3 = 0) : ∀ (y3 : Int) (a : Nat → Nat → Int), iv a → jfr jW_X9_readClause_r2 a0 a → 0 ≤ y3 → y3 ≤ 11 → a 105 5 ≤ 9 → (TW (a0 3) (a0 2 1).toNat (a0 2 2).toNat 15) → (y3 = (a0 107 (a0 105 5).toNat)) → y3 ≤ 11 → (a 2 2 = ((C1 (a0 3) (a0 2 1).toNat (a0 2 2).toNat) : Int)) → a 2 3 = 0 → (∀ j, a 108 j = a0 108 j) → (∀ j, a 119 j = a0 119 j) → (∀ j, a 130 j = a0 130 j) → (∀ j, a 107 j = a0 107 j) → y3 = a 107 ((a0 105 5).toNat) → 1 ≤ a0 2 1 → jt (jxX E d 136 42 [some (.inr (.inr (.inl 105))), some (.inr (.inr (.inl 2))), none, some (.inl y3), none] [] (jxSH, a, b0)) (jQ_X9_readClause_r2 a0 b0) := by
  intro y3 a hv hf hi0 hi1 hi2 htw hy3 hi5 hat hi7 hs108 hs119 hs130 hs107 hi12 hi13
  refine jt_eq (bq_X9_readClause_r2_42 E d y3 a b0) ?_
  have h1373_ := iv_get hv (k := 105) (j := 5) (l := 0) (u := 10) rfl
  have h1374_ : a 105 5 = a0 105 5 := hf 105 5 rfl
  have h1375_ := iv_get hv0 (k := 105) (j := 5) (l := 0) (u := 10) rfl
  have h1376_ := iv_get hv (k := 107) (j := (a0 105 5).toNat) (l := 0) (u := 12) rfl
  have h1377_ := iv_get hv0 (k := 2) (j := 1) (l := 0) (u := 200) rfl
  have h3 : a 3 = a0 3 := funext fun j => hf 3 j rfl
  have h21 := hf 2 1 rfl
  have hP : (a 2 2).toNat = (C1 (a0 3) (a0 2 1).toNat (a0 2 2).toNat) := by rw [hat]; exact Int.toNat_natCast _
  have hi : (a 105 5).toNat * 12 + y3.toNat = ((a0 105 5).toNat * 12 + (a0 107 (a0 105 5).toNat).toNat) := by rw [hf 105 5 rfl, hy3]
  refine jt_grd (by omega) ?_
  refine jt_bI (sp_X8_takeNumber E d (jd_le hd rfl) 0 3 a b0 hv) (fun r1378_ a1378_ b1378_ h1378_ => ?_)
  obtain ⟨hv1378_, hf1378_, rfl, hq1378_0, hq1378_1, hq1378_2, hq1378_3⟩ := h1378_
  refine jt_grd (by omega) ?_
  refine jt_grd (by omega) ?_
  refine jt_eI (eq_X8_place E d (jd_le hd rfl) (jxu a1378_ 108 (((a 105 5).toNat) * 12 + (y3.toNat)) r1378_) b0) ?_
  have hv1379_ : iv (jxu a1378_ 108 (((a 105 5).toNat) * 12 + (y3.toNat)) r1378_) := iv_put hv1378_ (l := 0) (u := 999) rfl (by omega) (by omega)
  have hf1380_ : jfr jW_X9_readClause_r2 a0 a1378_ := jfr_tr hf hf1378_ rfl
  have hf1381_ : jfr jW_X9_readClause_r2 a0 (jxu a1378_ 108 (((a 105 5).toNat) * 12 + (y3.toNat)) r1378_) := jfr_put hf1380_ rfl
  have h1382_ : f_X8_place (jxu a1378_ 108 (((a 105 5).toNat) * 12 + (y3.toNat)) r1378_) b0 = (a1378_ 2 2) := f_X8_place_eq (jxu a1378_ 108 (((a 105 5).toNat) * 12 + (y3.toNat)) r1378_) b0
  have h1383_ := iv_get hv1378_ (k := 2) (j := 2) (l := 0) (u := 200) rfl
  have h1384_ := iv_get hv1378_ (k := 105) (j := 5) (l := 0) (u := 10) rfl
  have h1385_ : a1378_ 105 5 = a 105 5 := hf1378_ 105 5 rfl
  have h1386_ := iv_get hv1378_ (k := 107) (j := (a0 105 5).toNat) (l := 0) (u := 12) rfl
  have h1387_ : a1378_ 107 ((a0 105 5).toNat) = a 107 ((a0 105 5).toNat) := hf1378_ 107 ((a0 105 5).toNat) rfl
  exact cp_X9_readClause_r2_65 E d hd a0 b0 hv0 hp0 hp1 y3 (f_X8_place (jxu a1378_ 108 (((a 105 5).toNat) * 12 + (y3.toNat)) r1378_) b0) (jxu a1378_ 108 (((a 105 5).toNat) * 12 + (y3.toNat)) r1378_) hv1379_ hf1381_ (show 0 ≤ y3 from by omega) (show y3 ≤ 11 from by omega) (show 0 ≤ f_X8_place (jxu a1378_ 108 (((a 105 5).toNat) * 12 + (y3.toNat)) r1378_) b0 from by omega) (show f_X8_place (jxu a1378_ 108 (((a 105 5).toNat) * 12 + (y3.toNat)) r1378_) b0 ≤ 200 from by omega) (show a1378_ 105 5 ≤ 9 from by omega) (by first | exact htw | exact (hq1378_3 (by omega)).2.1) (by first | exact hy3 | (rw [hf1378_ 107 _ rfl, hf1378_ 105 5 rfl])) (show y3 ≤ 11 from by omega) (by have e0 := hq1378_0; have e1 := hq1378_1; have e2 := hq1378_2; rw [h3, h21, hP] at e0 e1 e2; exact e1) (by have e0 := hq1378_0; have e1 := hq1378_1; have e2 := hq1378_2; rw [h3, h21, hP] at e0 e1 e2; exact e1) (by have e0 := hq1378_0; have e1 := hq1378_1; have e2 := hq1378_2; rw [h3, h21, hP] at e0 e1 e2; rw [← hi, ← e0]; exact UP_put (fun j => (hf1378_ 108 j rfl).trans (hs108 j))) (by have e0 := hq1378_0; have e1 := hq1378_1; have e2 := hq1378_2; rw [h3, h21, hP] at e0 e1 e2; rw [if_pos (by omega)] at e2; exact e2) (fun j => ((hf1378_ 119 j rfl)).trans (hs119 j)) (fun j => ((hf1378_ 130 j rfl)).trans (hs130 j)) (fun j => ((hf1378_ 107 j rfl)).trans (hs107 j)) (show y3 = a1378_ 107 ((a0 105 5).toNat) from by omega) (show 1 ≤ a0 2 1 from by omega)
theorem sp_X9_readClause_r2 (E : jxE) (d : Nat) (hd : Nat.ble 6 d = true) (a0 b0 : Nat → Nat → Int) (hv0 : iv a0) (hp0 : a0 105 5 ≤ 9) (hp1 : a0 2 3 = 0) : jt (jxC E d 136 [.inr (.inr (.inl 105)), .inr (.inr (.inl 2))] (jxSH, a0, b0)) (jQ_X9_readClause_r2 a0 b0) := by
  obtain ⟨d, rfl⟩ := jd_succ hd
  refine jt_eq (bq_X9_readClause_r2 E d a0 b0) ?_
  have h1388_ := iv_get hv0 (k := 105) (j := 5) (l := 0) (u := 10) rfl
  refine jt_eI (eq_X8_place E d (jd_le hd rfl) a0 b0) ?_
  refine jt_bI (sp_X8_takesWord_r1015 E d (jd_le hd rfl) a0 b0 hv0) (fun r1389_ a1389_ b1389_ h1389_ => ?_)
  obtain ⟨hv1389_, hf1389_, rfl, hq1389_0, hq1389_1, hq1389_2, hq1389_3, hq1389_4⟩ := h1389_
  have h1390_ := iv_get hv0 (k := 2) (j := 1) (l := 0) (u := 200) rfl
  have h1391_ := iv_get hv0 (k := 2) (j := 2) (l := 0) (u := 200) rfl
  have h1392_ := iv_get hv1389_ (k := 2) (j := 2) (l := 0) (u := 200) rfl
  refine jt_ite (fun c1393_ => ?_) (fun c1393_ => ?_)
  ·
    refine jt_bV (sp_X8_noteCannotStand E d (jd_le hd rfl) a1389_ b0 hv1389_) (fun a1394_ b1394_ h1394_ => ?_)
    obtain ⟨hv1394_, hf1394_, rfl, hq1394_0, hq1394_1⟩ := h1394_
    have h1395_ : a1389_ 2 3 = a0 2 3 := hf1389_ 2 3 rfl
    have hf1396_ : jfr jW_X9_readClause_r2 a0 a1389_ := jfr_tr (jfr_rf _ _) hf1389_ rfl
    have hf1397_ : jfr jW_X9_readClause_r2 a0 a1394_ := jfr_tr hf1396_ hf1394_ rfl
    have h1398_ := iv_get hv1394_ (k := 2) (j := 2) (l := 0) (u := 200) rfl
    have h1399_ : a1394_ 2 2 = a1389_ 2 2 := hf1394_ 2 2 rfl
    exact jt_rV ⟨hv1394_, hf1397_, rfl, (show (((a0 2 1 = 0 ∧ a0 2 2 = 0) ∧ a0 2 3 = 0) → (a1394_ 2 3 = 1 ∧ a1394_ 2 2 = 0)) from by omega), (by rw [CF_no ((hq1389_4 (by omega)).resolve_left (fun h => h (by omega)))]; omega), (Or.inr ⟨fun j => ⟨((hf1394_ 108 j rfl).trans (hf1389_ 108 j rfl)), ((hf1394_ 119 j rfl).trans (hf1389_ 119 j rfl)), ((hf1394_ 130 j rfl).trans (hf1389_ 130 j rfl)), ((hf1394_ 107 j rfl).trans (hf1389_ 107 j rfl))⟩, (by rw [CF_no ((hq1389_4 (by omega)).resolve_left (fun h => h (by omega)))]; omega)⟩), (fun h => absurd h (by rw [CF_no ((hq1389_4 (by omega)).resolve_left (fun h => h (by omega)))]; omega))⟩
  ·
    have h1400_ := iv_get hv1389_ (k := 105) (j := 5) (l := 0) (u := 10) rfl
    have h1401_ : a1389_ 105 5 = a0 105 5 := hf1389_ 105 5 rfl
    refine jt_grd (by omega) ?_
    have h1402_ : a1389_ 107 ((a1389_ 105 5).toNat) = a1389_ 107 ((a0 105 5).toNat) := by rw [show a1389_ 105 5 = a0 105 5 from by omega]
    have h1403_ := iv_get hv1389_ (k := 107) (j := (a0 105 5).toNat) (l := 0) (u := 12) rfl
    have h1404_ : a1389_ 107 ((a0 105 5).toNat) = a0 107 ((a0 105 5).toNat) := hf1389_ 107 ((a0 105 5).toNat) rfl
    have h1405_ := iv_get hv0 (k := 107) (j := (a0 105 5).toNat) (l := 0) (u := 12) rfl
    have h1406_ := iv_get hv1389_ (k := 107) (j := (a1389_ 105 5).toNat) (l := 0) (u := 12) rfl
    have h1407_ : a1389_ 107 ((a1389_ 105 5).toNat) = a0 107 ((a1389_ 105 5).toNat) := hf1389_ 107 ((a1389_ 105 5).toNat) rfl
    have h1408_ : a0 107 ((a1389_ 105 5).toNat) = a0 107 ((a0 105 5).toNat) := by rw [show a1389_ 105 5 = a0 105 5 from by omega]
    have h1409_ := iv_get hv0 (k := 107) (j := (a1389_ 105 5).toNat) (l := 0) (u := 12) rfl
    refine jt_ite (fun c1410_ => ?_) (fun c1410_ => ?_)
    ·
      have hf1411_ : jfr jW_X9_readClause_r2 a0 a1389_ := jfr_tr (jfr_rf _ _) hf1389_ rfl
      have h1412_ : a1389_ 2 3 = a0 2 3 := hf1389_ 2 3 rfl
      exact cp_X9_readClause_r2_42 E d hd a0 b0 hv0 hp0 hp1 (a1389_ 107 ((a1389_ 105 5).toNat)) a1389_ hv1389_ hf1411_ (show 0 ≤ a1389_ 107 ((a1389_ 105 5).toNat) from by omega) (show a1389_ 107 ((a1389_ 105 5).toNat) ≤ 11 from by omega) (show a1389_ 105 5 ≤ 9 from by omega) (by first | exact htw | exact (hq1389_3 (by omega)).2.1) (by first | exact hy3 | (rw [hf1389_ 107 _ rfl, hf1389_ 105 5 rfl])) (show a1389_ 107 ((a1389_ 105 5).toNat) ≤ 11 from by omega) ((hq1389_3 (by omega)).2.2) (show a1389_ 2 3 = 0 from by omega) (fun j => (hf1389_ 108 j rfl)) (fun j => (hf1389_ 119 j rfl)) (fun j => (hf1389_ 130 j rfl)) (fun j => (hf1389_ 107 j rfl)) (show a1389_ 107 ((a1389_ 105 5).toNat) = a1389_ 107 ((a0 105 5).toNat) from by omega) (show 1 ≤ a0 2 1 from by omega)
    ·
      have hf1413_ : jfr jW_X9_readClause_r2 a0 a1389_ := jfr_tr (jfr_rf _ _) hf1389_ rfl
      have h1414_ := f_X8_place_eq a0 b0
      have h1415_ : a1389_ 2 3 = a0 2 3 := hf1389_ 2 3 rfl
      exact cp_X9_readClause_r2_35 E d hd a0 b0 hv0 hp0 hp1 (f_X8_place a0 b0) a1389_ hv1389_ hf1413_ (show 0 ≤ f_X8_place a0 b0 from by omega) (show f_X8_place a0 b0 ≤ 200 from by omega) (show a1389_ 105 5 ≤ 9 from by omega) (by first | exact htw | exact (hq1389_3 (by omega)).2.1) (by have e := hf1389_ 107 ((a1389_ 105 5).toNat) rfl; rw [hf1389_ 105 5 rfl] at *; omega) (by rfl) (show a1389_ 2 3 = 0 from by omega) (fun j => (hf1389_ 108 j rfl)) (fun j => (hf1389_ 119 j rfl)) (fun j => (hf1389_ 130 j rfl)) (fun j => (hf1389_ 107 j rfl)) (show 1 ≤ a0 2 1 from by omega)
