def jWcl0 : List (Nat × Nat) := []
def jW_X11_close : List (Nat × Nat) := [(58, 8), (58, 13), (58, 14), (58, 15), (59, 9999), (60, 9999), (61, 9999), (62, 9999), (63, 9999), (64, 9999), (65, 9999), (83, 7), (87, 9999), (88, 9999), (89, 9999)]
abbrev jQ_X11_close (x1 : Int) (a0 b0 : Nat → Nat → Int) : List jxV → (Nat → Nat → Int) → (Nat → Nat → Int) → Prop := rI (fun r a b => (iv a) ∧ (jfr jW_X11_close a0 a) ∧ (b0 = b) ∧ ((a0 90 12 = 0 → r = 0 - 1)) ∧ (CLC a0 b0 a x1 r))
theorem cp_X11_close_71 (E : jxE) (d : Nat) (hd : Nat.ble 6 (d + 1) = true) (x1 : Int) (a0 b0 : Nat → Nat → Int) (hv0 : iv a0) : ∀ n : Nat, (∀ (y1 y2 y3 y4 y5 y7 : Int) (a : Nat → Nat → Int), (((5 - y4) * 1) + 0).toNat ≤ n → iv a → jfr jW_X11_close a0 a → 0 ≤ y1 → y1 ≤ 5 → 1 ≤ y2 → y2 ≤ 5 → 0 ≤ y4 → y4 ≤ 4 → (y1 = x1) → (y2 = f_X5_lengthOf a0 b0 x1) → (¬ f_X5_lengthOf a0 b0 x1 = 0) → (¬ f_X0_hasRoom a0 b0 (f_X5_lengthOf a0 b0 x1) = 0) → (y3 = a0 83 7) → (a 83 7 = jxw (a0 83 7 + 1)) → (∀ i : Nat, (i : Int) < y2 → ¬ f_X4_isOpen a0 b0 (oC a0 b0 x1 i) = 0) → 0 ≤ y4 → y4 < y2 → (y5 = oC a0 b0 x1 y4.toNat) → (CLO1 a0 b0 a x1 y4.toNat y7) → 1 ≤ a0 90 12 → jt (jxX E d 188 140 [some (.inr (.inr (.inl 0))), some (.inl y1), some (.inl y2), some (.inl y3), some (.inl y4), some (.inl y5), none, some (.inl y7)] [] (jxSH, a, b0)) (jQ_X11_close x1 a0 b0)) ∧ (∀ (y1 y2 y3 y4 y5 s1 s2 : Int) (a : Nat → Nat → Int), (((5 - y4) * 1) + 0).toNat ≤ n → iv a → jfr jW_X11_close a0 a → 0 ≤ y1 → y1 ≤ 5 → 1 ≤ y2 → y2 ≤ 5 → 0 ≤ y4 → y4 ≤ 4 → 0 ≤ s1 → s1 ≤ 5 → 0 ≤ s2 → s2 ≤ 4 → (y1 = x1) → (y2 = f_X5_lengthOf a0 b0 x1) → (¬ f_X5_lengthOf a0 b0 x1 = 0) → (¬ f_X0_hasRoom a0 b0 (f_X5_lengthOf a0 b0 x1) = 0) → (y3 = a0 83 7) → (a 83 7 = jxw (a0 83 7 + 1)) → (∀ i : Nat, (i : Int) < y2 → ¬ f_X4_isOpen a0 b0 (oC a0 b0 x1 i) = 0) → 0 ≤ y4 → y4 < y2 → (CLO a0 b0 a x1 y4.toNat) → (s1 = x1) → (s2 = ((nxt (f_X5_lengthOf a0 b0 x1).toNat y4.toNat : Nat) : Int)) → (y5 = oC a0 b0 x1 y4.toNat) → 1 ≤ a0 90 12 → jt (jxX E d 188 110 [some (.inr (.inr (.inl 0))), some (.inl y1), some (.inl y2), some (.inl y3), some (.inl y4), some (.inl y5), none, none] [.inl s2, .inl s1, .inr (.inr (.inl 90))] (jxSH, a, b0)) (jQ_X11_close x1 a0 b0)) ∧ (∀ (y1 y2 y3 y4 : Int) (a : Nat → Nat → Int), (((5 - y4) * 1) + 0).toNat ≤ n → iv a → jfr jW_X11_close a0 a → 0 ≤ y1 → y1 ≤ 5 → 0 ≤ y2 → y2 ≤ 5 → 0 ≤ y4 → y4 ≤ 5 → (y1 = x1) → (y2 = f_X5_lengthOf a0 b0 x1) → (¬ f_X5_lengthOf a0 b0 x1 = 0) → (¬ f_X0_hasRoom a0 b0 (f_X5_lengthOf a0 b0 x1) = 0) → (y3 = a0 83 7) → (a 83 7 = jxw (a0 83 7 + 1)) → (∀ i : Nat, (i : Int) < y2 → ¬ f_X4_isOpen a0 b0 (oC a0 b0 x1 i) = 0) → 0 ≤ y4 → y4 ≤ y2 → (CLO a0 b0 a x1 y4.toNat) → 1 ≤ a0 90 12 → jt (jxX E d 188 71 [some (.inr (.inr (.inl 0))), some (.inl y1), some (.inl y2), some (.inl y3), some (.inl y4), none, none, none] [] (jxSH, a, b0)) (jQ_X11_close x1 a0 b0)) := by
  refine jx_ind fun n ih => ?_
  have ih140 : ∀ (y1 y2 y3 y4 y5 y7 : Int) (a : Nat → Nat → Int), (((5 - y4) * 1) + 0).toNat < n → iv a → jfr jW_X11_close a0 a → 0 ≤ y1 → y1 ≤ 5 → 1 ≤ y2 → y2 ≤ 5 → 0 ≤ y4 → y4 ≤ 4 → (y1 = x1) → (y2 = f_X5_lengthOf a0 b0 x1) → (¬ f_X5_lengthOf a0 b0 x1 = 0) → (¬ f_X0_hasRoom a0 b0 (f_X5_lengthOf a0 b0 x1) = 0) → (y3 = a0 83 7) → (a 83 7 = jxw (a0 83 7 + 1)) → (∀ i : Nat, (i : Int) < y2 → ¬ f_X4_isOpen a0 b0 (oC a0 b0 x1 i) = 0) → 0 ≤ y4 → y4 < y2 → (y5 = oC a0 b0 x1 y4.toNat) → (CLO1 a0 b0 a x1 y4.toNat y7) → 1 ≤ a0 90 12 → jt (jxX E d 188 140 [some (.inr (.inr (.inl 0))), some (.inl y1), some (.inl y2), some (.inl y3), some (.inl y4), some (.inl y5), none, some (.inl y7)] [] (jxSH, a, b0)) (jQ_X11_close x1 a0 b0) := fun y1 y2 y3 y4 y5 y7 a hlt i0 i1 i2 i3 i4 i5 i6 i7 i8 i9 i10 i11 i12 i13 i14 i15 i16 i17 i18 i19 => (ih _ hlt).1 y1 y2 y3 y4 y5 y7 a (Nat.le_refl _) i0 i1 i2 i3 i4 i5 i6 i7 i8 i9 i10 i11 i12 i13 i14 i15 i16 i17 i18 i19
  have ih110 : ∀ (y1 y2 y3 y4 y5 s1 s2 : Int) (a : Nat → Nat → Int), (((5 - y4) * 1) + 0).toNat < n → iv a → jfr jW_X11_close a0 a → 0 ≤ y1 → y1 ≤ 5 → 1 ≤ y2 → y2 ≤ 5 → 0 ≤ y4 → y4 ≤ 4 → 0 ≤ s1 → s1 ≤ 5 → 0 ≤ s2 → s2 ≤ 4 → (y1 = x1) → (y2 = f_X5_lengthOf a0 b0 x1) → (¬ f_X5_lengthOf a0 b0 x1 = 0) → (¬ f_X0_hasRoom a0 b0 (f_X5_lengthOf a0 b0 x1) = 0) → (y3 = a0 83 7) → (a 83 7 = jxw (a0 83 7 + 1)) → (∀ i : Nat, (i : Int) < y2 → ¬ f_X4_isOpen a0 b0 (oC a0 b0 x1 i) = 0) → 0 ≤ y4 → y4 < y2 → (CLO a0 b0 a x1 y4.toNat) → (s1 = x1) → (s2 = ((nxt (f_X5_lengthOf a0 b0 x1).toNat y4.toNat : Nat) : Int)) → (y5 = oC a0 b0 x1 y4.toNat) → 1 ≤ a0 90 12 → jt (jxX E d 188 110 [some (.inr (.inr (.inl 0))), some (.inl y1), some (.inl y2), some (.inl y3), some (.inl y4), some (.inl y5), none, none] [.inl s2, .inl s1, .inr (.inr (.inl 90))] (jxSH, a, b0)) (jQ_X11_close x1 a0 b0) := fun y1 y2 y3 y4 y5 s1 s2 a hlt i0 i1 i2 i3 i4 i5 i6 i7 i8 i9 i10 i11 i12 i13 i14 i15 i16 i17 i18 i19 i20 i21 i22 i23 i24 i25 => (ih _ hlt).2.1 y1 y2 y3 y4 y5 s1 s2 a (Nat.le_refl _) i0 i1 i2 i3 i4 i5 i6 i7 i8 i9 i10 i11 i12 i13 i14 i15 i16 i17 i18 i19 i20 i21 i22 i23 i24 i25
  have ih71 : ∀ (y1 y2 y3 y4 : Int) (a : Nat → Nat → Int), (((5 - y4) * 1) + 0).toNat < n → iv a → jfr jW_X11_close a0 a → 0 ≤ y1 → y1 ≤ 5 → 0 ≤ y2 → y2 ≤ 5 → 0 ≤ y4 → y4 ≤ 5 → (y1 = x1) → (y2 = f_X5_lengthOf a0 b0 x1) → (¬ f_X5_lengthOf a0 b0 x1 = 0) → (¬ f_X0_hasRoom a0 b0 (f_X5_lengthOf a0 b0 x1) = 0) → (y3 = a0 83 7) → (a 83 7 = jxw (a0 83 7 + 1)) → (∀ i : Nat, (i : Int) < y2 → ¬ f_X4_isOpen a0 b0 (oC a0 b0 x1 i) = 0) → 0 ≤ y4 → y4 ≤ y2 → (CLO a0 b0 a x1 y4.toNat) → 1 ≤ a0 90 12 → jt (jxX E d 188 71 [some (.inr (.inr (.inl 0))), some (.inl y1), some (.inl y2), some (.inl y3), some (.inl y4), none, none, none] [] (jxSH, a, b0)) (jQ_X11_close x1 a0 b0) := fun y1 y2 y3 y4 a hlt i0 i1 i2 i3 i4 i5 i6 i7 i8 i9 i10 i11 i12 i13 i14 i15 i16 i17 i18 => (ih _ hlt).2.2 y1 y2 y3 y4 a (Nat.le_refl _) i0 i1 i2 i3 i4 i5 i6 i7 i8 i9 i10 i11 i12 i13 i14 i15 i16 i17 i18
  have hc140 : ∀ (y1 y2 y3 y4 y5 y7 : Int) (a : Nat → Nat → Int), (((5 - y4) * 1) + 0).toNat ≤ n → iv a → jfr jW_X11_close a0 a → 0 ≤ y1 → y1 ≤ 5 → 1 ≤ y2 → y2 ≤ 5 → 0 ≤ y4 → y4 ≤ 4 → (y1 = x1) → (y2 = f_X5_lengthOf a0 b0 x1) → (¬ f_X5_lengthOf a0 b0 x1 = 0) → (¬ f_X0_hasRoom a0 b0 (f_X5_lengthOf a0 b0 x1) = 0) → (y3 = a0 83 7) → (a 83 7 = jxw (a0 83 7 + 1)) → (∀ i : Nat, (i : Int) < y2 → ¬ f_X4_isOpen a0 b0 (oC a0 b0 x1 i) = 0) → 0 ≤ y4 → y4 < y2 → (y5 = oC a0 b0 x1 y4.toNat) → (CLO1 a0 b0 a x1 y4.toNat y7) → 1 ≤ a0 90 12 → jt (jxX E d 188 140 [some (.inr (.inr (.inl 0))), some (.inl y1), some (.inl y2), some (.inl y3), some (.inl y4), some (.inl y5), none, some (.inl y7)] [] (jxSH, a, b0)) (jQ_X11_close x1 a0 b0) := by
    intro y1 y2 y3 y4 y5 y7 a hm hv hf hi0 hi1 hi2 hi3 hi4 hi5 hy1 hy2 hL0 hroom hy3 h837 hno hi13 hi14 hy5 hc1 hi17
    refine jt_eq (bq_X11_close_140 E d y1 y2 y3 y4 y5 y7 a b0) ?_
    have h761_ := iv_get hv0 (k := 90) (j := 12) (l := 0) (u := 6) rfl
    have lrg_ := lengthOf_rg (a := a0) (b := b0) (fun j => iv_get hv0 (k := 104) (j := j) (l := 0) (u := 5) rfl) x1
    have i588_ := iv_get hv0 (k := 58) (j := 8) (l := 0) (u := 300) rfl
    have i836_ := iv_get hv0 (k := 83) (j := 6) (l := 0) (u := 20) rfl
    have hrm_ : a0 58 8 + f_X5_lengthOf a0 b0 x1 ≤ 300 := by have q := hroom; unfold f_X0_hasRoom at q; by_cases c : jxw (300 - (a0 58 8)) < f_X5_lengthOf a0 b0 x1 <;> first | (rw [if_pos c] at q; exact absurd rfl q) | (rw [jxw_id (by omega) (by omega)] at c; omega)
    refine jt_bV (sq_X4_joinRing E d (jd_le hd rfl) y5 y3 y7 a b0 hv) (fun a762_ b762_ h762_ => ?_)
    obtain ⟨hv762_, hf762_, rfl, hq762_0⟩ := h762_
    have hf763_ : jfr jW_X11_close a0 a762_ := jfr_tr hf hf762_ rfl
    have h764_ : jxw (y4 + 1) = y4 + 1 := jxw_id (by omega) (by omega)
    exact ih71 y1 y2 y3 (jxw (y4 + 1)) a762_ (show (((5 - (jxw (y4 + 1))) * 1) + 0).toNat < n from by omega) hv762_ hf763_ (show 0 ≤ y1 from by omega) (show y1 ≤ 5 from by omega) (show 0 ≤ y2 from by omega) (show y2 ≤ 5 from by omega) (show 0 ≤ jxw (y4 + 1) from by omega) (show jxw (y4 + 1) ≤ 5 from by omega) (by first | rfl | assumption) hy2 hL0 hroom hy3 ((hf762_ 83 7 rfl).trans h837) hno (show 0 ≤ jxw (y4 + 1) from by omega) (show jxw (y4 + 1) ≤ y2 from by omega) (by rw [show (jxw (y4 + 1)).toNat = y4.toNat + 1 from by omega]; have hin_ := isOpen_in (hno y4.toNat (by omega)); rw [← hy5] at hin_; have e6_ := hf 83 6 rfl; have q := hq762_0 hin_.1 (by omega); rw [hy3] at q; exact CLO_join hc1 hy5 (cvC_fr hf762_ rfl) q) (show 1 ≤ a0 90 12 from by omega)
  have hc110 : ∀ (y1 y2 y3 y4 y5 s1 s2 : Int) (a : Nat → Nat → Int), (((5 - y4) * 1) + 0).toNat ≤ n → iv a → jfr jW_X11_close a0 a → 0 ≤ y1 → y1 ≤ 5 → 1 ≤ y2 → y2 ≤ 5 → 0 ≤ y4 → y4 ≤ 4 → 0 ≤ s1 → s1 ≤ 5 → 0 ≤ s2 → s2 ≤ 4 → (y1 = x1) → (y2 = f_X5_lengthOf a0 b0 x1) → (¬ f_X5_lengthOf a0 b0 x1 = 0) → (¬ f_X0_hasRoom a0 b0 (f_X5_lengthOf a0 b0 x1) = 0) → (y3 = a0 83 7) → (a 83 7 = jxw (a0 83 7 + 1)) → (∀ i : Nat, (i : Int) < y2 → ¬ f_X4_isOpen a0 b0 (oC a0 b0 x1 i) = 0) → 0 ≤ y4 → y4 < y2 → (CLO a0 b0 a x1 y4.toNat) → (s1 = x1) → (s2 = ((nxt (f_X5_lengthOf a0 b0 x1).toNat y4.toNat : Nat) : Int)) → (y5 = oC a0 b0 x1 y4.toNat) → 1 ≤ a0 90 12 → jt (jxX E d 188 110 [some (.inr (.inr (.inl 0))), some (.inl y1), some (.inl y2), some (.inl y3), some (.inl y4), some (.inl y5), none, none] [.inl s2, .inl s1, .inr (.inr (.inl 90))] (jxSH, a, b0)) (jQ_X11_close x1 a0 b0) := by
    intro y1 y2 y3 y4 y5 s1 s2 a hm hv hf hi0 hi1 hi2 hi3 hi4 hi5 hi6 hi7 hi8 hi9 hy1 hy2 hL0 hroom hy3 h837 hno hi17 hi18 hclo hs1 hs2 hy5 hi23
    refine jt_eq (bq_X11_close_110 E d y1 y2 y3 y4 y5 s1 s2 a b0) ?_
    have h765_ := iv_get hv0 (k := 90) (j := 12) (l := 0) (u := 6) rfl
    have of_ := offerAt_fr (a := a0) (a1 := a) (b := b0) (b1 := b0) (hf 90 12 rfl) (fun j => hf 104 j rfl) (fun j => hf 97 j rfl)
    have lrg_ := lengthOf_rg (a := a0) (b := b0) (fun j => iv_get hv0 (k := 104) (j := j) (l := 0) (u := 5) rfl) x1
    have i588_ := iv_get hv0 (k := 58) (j := 8) (l := 0) (u := 300) rfl
    have i836_ := iv_get hv0 (k := 83) (j := 6) (l := 0) (u := 20) rfl
    have hrm_ : a0 58 8 + f_X5_lengthOf a0 b0 x1 ≤ 300 := by have q := hroom; unfold f_X0_hasRoom at q; by_cases c : jxw (300 - (a0 58 8)) < f_X5_lengthOf a0 b0 x1 <;> first | (rw [if_pos c] at q; exact absurd rfl q) | (rw [jxw_id (by omega) (by omega)] at c; omega)
    refine jt_eI (eq_X5_offerAt E d (jd_le hd rfl) s1 s2 a b0) ?_
    refine jt_eI (eq_X4_memberOf E d (jd_le hd rfl) y5 a b0) ?_
    refine jt_eI (eq_X4_memberOf E d (jd_le hd rfl) (f_X5_offerAt a b0 s1 s2) a b0) ?_
    refine jt_bI (sp_X11_send E d (jd_le hd rfl) (f_X4_memberOf a b0 y5) (f_X4_memberOf a b0 (f_X5_offerAt a b0 s1 s2)) y3 a b0 hv) (fun r766_ a766_ b766_ h766_ => ?_)
    obtain ⟨hv766_, hf766_, rfl, hq766_0, hq766_1, hq766_2⟩ := h766_
    have h767_ := iv_get hv (k := 58) (j := 8) (l := 0) (u := 300) rfl
    have hf768_ : jfr jW_X11_close a0 a766_ := jfr_tr hf hf766_ rfl
    exact hc140 y1 y2 y3 y4 y5 r766_ a766_ (show (((5 - y4) * 1) + 0).toNat ≤ n from by omega) hv766_ hf768_ (show 0 ≤ y1 from by omega) (show y1 ≤ 5 from by omega) (show 1 ≤ y2 from by omega) (show y2 ≤ 5 from by omega) (show 0 ≤ y4 from by omega) (show y4 ≤ 4 from by omega) (by first | rfl | assumption) hy2 hL0 hroom hy3 ((hf766_ 83 7 rfl).trans h837) hno (show 0 ≤ y4 from by omega) (show y4 < y2 from by omega) hy5 (by have hn_ := CLO_n hclo; have hin_ := isOpen_in (hno y4.toNat (by omega)); have hin2_ := isOpen_in (hno (nxt (f_X5_lengthOf a0 b0 x1).toNat y4.toNat) (by have := nxt_lt (L := (f_X5_lengthOf a0 b0 x1).toNat) (n := y4.toNat) (by omega); omega)); have e6_ := hf 83 6 rfl; have q := hq766_0 (by omega); have q2 := hq766_1; rw [of_.2, hs1, hs2, show f_X5_offerAt a0 b0 x1 ((nxt (f_X5_lengthOf a0 b0 x1).toNat y4.toNat : Nat) : Int) = oC a0 b0 x1 (nxt (f_X5_lengthOf a0 b0 x1).toNat y4.toNat) from rfl, hy5, memOf_at hin_.1 (by omega) (by omega), memOf_at hin2_.1 (by omega) (by omega), BNC_BNV, landOf_fr (b := b0) (b1 := b0) (hf 4 6 rfl) (funext fun j => hf 5 j rfl), show f_X6_lost a b0 = a0 56 3 from hf 56 3 rfl, hf 0 0 rfl, show a 84 = a0 84 from funext fun j => hf 84 j rfl, hy3] at q; exact CLO_send hclo q (by omega) (funext fun j => hf766_ 87 j rfl) (funext fun j => hf766_ 88 j rfl) (funext fun j => hf766_ 89 j rfl)) (show 1 ≤ a0 90 12 from by omega)
  have hc71 : ∀ (y1 y2 y3 y4 : Int) (a : Nat → Nat → Int), (((5 - y4) * 1) + 0).toNat ≤ n → iv a → jfr jW_X11_close a0 a → 0 ≤ y1 → y1 ≤ 5 → 0 ≤ y2 → y2 ≤ 5 → 0 ≤ y4 → y4 ≤ 5 → (y1 = x1) → (y2 = f_X5_lengthOf a0 b0 x1) → (¬ f_X5_lengthOf a0 b0 x1 = 0) → (¬ f_X0_hasRoom a0 b0 (f_X5_lengthOf a0 b0 x1) = 0) → (y3 = a0 83 7) → (a 83 7 = jxw (a0 83 7 + 1)) → (∀ i : Nat, (i : Int) < y2 → ¬ f_X4_isOpen a0 b0 (oC a0 b0 x1 i) = 0) → 0 ≤ y4 → y4 ≤ y2 → (CLO a0 b0 a x1 y4.toNat) → 1 ≤ a0 90 12 → jt (jxX E d 188 71 [some (.inr (.inr (.inl 0))), some (.inl y1), some (.inl y2), some (.inl y3), some (.inl y4), none, none, none] [] (jxSH, a, b0)) (jQ_X11_close x1 a0 b0) := by
    intro y1 y2 y3 y4 a hm hv hf hi0 hi1 hi2 hi3 hi4 hi5 hy1 hy2 hL0 hroom hy3 h837 hno hi13 hi14 hclo hi16
    refine jt_eq (bq_X11_close_71 E d y1 y2 y3 y4 a b0) ?_
    have h769_ := iv_get hv0 (k := 90) (j := 12) (l := 0) (u := 6) rfl
    have of_ := offerAt_fr (a := a0) (a1 := a) (b := b0) (b1 := b0) (hf 90 12 rfl) (fun j => hf 104 j rfl) (fun j => hf 97 j rfl)
    have lrg_ := lengthOf_rg (a := a0) (b := b0) (fun j => iv_get hv0 (k := 104) (j := j) (l := 0) (u := 5) rfl) x1
    have i588_ := iv_get hv0 (k := 58) (j := 8) (l := 0) (u := 300) rfl
    have i836_ := iv_get hv0 (k := 83) (j := 6) (l := 0) (u := 20) rfl
    have hrm_ : a0 58 8 + f_X5_lengthOf a0 b0 x1 ≤ 300 := by have q := hroom; unfold f_X0_hasRoom at q; by_cases c : jxw (300 - (a0 58 8)) < f_X5_lengthOf a0 b0 x1 <;> first | (rw [if_pos c] at q; exact absurd rfl q) | (rw [jxw_id (by omega) (by omega)] at c; omega)
    refine jt_ite (fun c770_ => ?_) (fun c770_ => ?_)
    ·
      refine jt_eI (eq_X5_offerAt E d (jd_le hd rfl) y1 y4 a b0) ?_
      have h771_ : jxw (y4 + 1) = y4 + 1 := jxw_id (by omega) (by omega)
      refine jt_ite (fun c772_ => ?_) (fun c772_ => ?_)
      ·
        have h773_ := f_X5_offerAt_eq a b0 y1 y4
        have h774_ := f_X5_lengthOf_eq a b0 y1
        have h775_ := iv_get hv (k := 90) (j := 12) (l := 0) (u := 6) rfl
        have h776_ : a 90 12 = a0 90 12 := hf 90 12 rfl
        have h777_ := iv_get hv (k := 104) (j := y1.toNat) (l := 0) (u := 5) rfl
        have h778_ : a 104 (y1.toNat) = a0 104 (y1.toNat) := hf 104 (y1.toNat) rfl
        have h779_ := iv_get hv0 (k := 104) (j := y1.toNat) (l := 0) (u := 5) rfl
        have h780_ : a 97 ((y1.toNat) * 5 + (y4.toNat)) = a0 97 ((y1.toNat) * 5 + (y4.toNat)) := hf 97 ((y1.toNat) * 5 + (y4.toNat)) rfl
        exact hc110 y1 y2 y3 y4 (f_X5_offerAt a b0 y1 y4) y1 (jxw (y4 + 1)) a (show (((5 - y4) * 1) + 0).toNat ≤ n from by omega) hv hf (show 0 ≤ y1 from by omega) (show y1 ≤ 5 from by omega) (show 1 ≤ y2 from by omega) (show y2 ≤ 5 from by omega) (show 0 ≤ y4 from by omega) (show y4 ≤ 4 from by omega) (show 0 ≤ y1 from by omega) (show y1 ≤ 5 from by omega) (show 0 ≤ jxw (y4 + 1) from by omega) (show jxw (y4 + 1) ≤ 4 from by omega) (by first | rfl | assumption) hy2 hL0 hroom hy3 h837 hno (show 0 ≤ y4 from by omega) (show y4 < y2 from by omega) hclo (by omega) (nxt_i (y4 := y4) (y2 := y2) (by omega) rfl (by omega) (by first | (rw [if_pos (by omega)]; omega) | (rw [if_neg (by omega)]))) (by rw [of_.2, hy1]; show _ = f_X5_offerAt a0 b0 x1 ((y4.toNat : Nat) : Int); rw [show ((y4.toNat : Nat) : Int) = y4 from by omega]) (show 1 ≤ a0 90 12 from by omega)
      ·
        have h781_ := f_X5_offerAt_eq a b0 y1 y4
        have h782_ := f_X5_lengthOf_eq a b0 y1
        have h783_ := iv_get hv (k := 90) (j := 12) (l := 0) (u := 6) rfl
        have h784_ : a 90 12 = a0 90 12 := hf 90 12 rfl
        have h785_ := iv_get hv (k := 104) (j := y1.toNat) (l := 0) (u := 5) rfl
        have h786_ : a 104 (y1.toNat) = a0 104 (y1.toNat) := hf 104 (y1.toNat) rfl
        have h787_ := iv_get hv0 (k := 104) (j := y1.toNat) (l := 0) (u := 5) rfl
        have h788_ : a 97 ((y1.toNat) * 5 + (y4.toNat)) = a0 97 ((y1.toNat) * 5 + (y4.toNat)) := hf 97 ((y1.toNat) * 5 + (y4.toNat)) rfl
        exact hc110 y1 y2 y3 y4 (f_X5_offerAt a b0 y1 y4) y1 0 a (show (((5 - y4) * 1) + 0).toNat ≤ n from by omega) hv hf (show 0 ≤ y1 from by omega) (show y1 ≤ 5 from by omega) (show 1 ≤ y2 from by omega) (show y2 ≤ 5 from by omega) (show 0 ≤ y4 from by omega) (show y4 ≤ 4 from by omega) (show 0 ≤ y1 from by omega) (show y1 ≤ 5 from by omega) (show 0 ≤ 0 from by omega) (show 0 ≤ 4 from by omega) (by first | rfl | assumption) hy2 hL0 hroom hy3 h837 hno (show 0 ≤ y4 from by omega) (show y4 < y2 from by omega) hclo (by omega) (nxt_i (y4 := y4) (y2 := y2) (by omega) rfl (by omega) (by first | (rw [if_pos (by omega)]; omega) | (rw [if_neg (by omega)]))) (by rw [of_.2, hy1]; show _ = f_X5_offerAt a0 b0 x1 ((y4.toNat : Nat) : Int); rw [show ((y4.toNat : Nat) : Int) = y4 from by omega]) (show 1 ≤ a0 90 12 from by omega)
    ·
      exact jt_rI ⟨hv, hf, rfl, (show (a0 90 12 = 0 → y3 = 0 - 1) from by omega), (Or.inr ⟨fun z => by rcases z with z | z | ⟨i, z1, z2⟩ <;> first | exact hL0 z | exact hroom z | exact hno i (by omega) z2, hy3, h837, by have q := hclo; rw [show y4.toNat = (f_X5_lengthOf a0 b0 x1).toNat from by omega] at q; exact q⟩)⟩
  exact ⟨hc140, hc110, hc71⟩
theorem cp_X11_close_28 (E : jxE) (d : Nat) (hd : Nat.ble 6 (d + 1) = true) (x1 : Int) (a0 b0 : Nat → Nat → Int) (hv0 : iv a0) : ∀ n : Nat, (∀ (y1 y2 y3 : Int) (a : Nat → Nat → Int), (((5 - y3) * 1) + 0).toNat ≤ n → iv a → jfr jW_X11_close a0 a → 0 ≤ y1 → y1 ≤ 5 → 0 ≤ y2 → y2 ≤ 5 → 0 ≤ y3 → y3 ≤ 5 → (y1 = x1) → (y2 = f_X5_lengthOf a0 b0 x1) → (¬ f_X5_lengthOf a0 b0 x1 = 0) → (¬ f_X0_hasRoom a0 b0 (f_X5_lengthOf a0 b0 x1) = 0) → 0 ≤ y3 → y3 ≤ y2 → (jfr jWcl0 a0 a) → (∀ i : Nat, (i : Int) < y3 → ¬ f_X4_isOpen a0 b0 (oC a0 b0 x1 i) = 0) → 1 ≤ a0 90 12 → jt (jxX E d 188 28 [some (.inr (.inr (.inl 0))), some (.inl y1), some (.inl y2), some (.inl y3), none, none, none, none] [] (jxSH, a, b0)) (jQ_X11_close x1 a0 b0)) := by
  refine jx_ind fun n ih => ?_
  have ih28 : ∀ (y1 y2 y3 : Int) (a : Nat → Nat → Int), (((5 - y3) * 1) + 0).toNat < n → iv a → jfr jW_X11_close a0 a → 0 ≤ y1 → y1 ≤ 5 → 0 ≤ y2 → y2 ≤ 5 → 0 ≤ y3 → y3 ≤ 5 → (y1 = x1) → (y2 = f_X5_lengthOf a0 b0 x1) → (¬ f_X5_lengthOf a0 b0 x1 = 0) → (¬ f_X0_hasRoom a0 b0 (f_X5_lengthOf a0 b0 x1) = 0) → 0 ≤ y3 → y3 ≤ y2 → (jfr jWcl0 a0 a) → (∀ i : Nat, (i : Int) < y3 → ¬ f_X4_isOpen a0 b0 (oC a0 b0 x1 i) = 0) → 1 ≤ a0 90 12 → jt (jxX E d 188 28 [some (.inr (.inr (.inl 0))), some (.inl y1), some (.inl y2), some (.inl y3), none, none, none, none] [] (jxSH, a, b0)) (jQ_X11_close x1 a0 b0) := fun y1 y2 y3 a hlt i0 i1 i2 i3 i4 i5 i6 i7 i8 i9 i10 i11 i12 i13 i14 i15 i16 => (ih _ hlt) y1 y2 y3 a (Nat.le_refl _) i0 i1 i2 i3 i4 i5 i6 i7 i8 i9 i10 i11 i12 i13 i14 i15 i16
  have hc28 : ∀ (y1 y2 y3 : Int) (a : Nat → Nat → Int), (((5 - y3) * 1) + 0).toNat ≤ n → iv a → jfr jW_X11_close a0 a → 0 ≤ y1 → y1 ≤ 5 → 0 ≤ y2 → y2 ≤ 5 → 0 ≤ y3 → y3 ≤ 5 → (y1 = x1) → (y2 = f_X5_lengthOf a0 b0 x1) → (¬ f_X5_lengthOf a0 b0 x1 = 0) → (¬ f_X0_hasRoom a0 b0 (f_X5_lengthOf a0 b0 x1) = 0) → 0 ≤ y3 → y3 ≤ y2 → (jfr jWcl0 a0 a) → (∀ i : Nat, (i : Int) < y3 → ¬ f_X4_isOpen a0 b0 (oC a0 b0 x1 i) = 0) → 1 ≤ a0 90 12 → jt (jxX E d 188 28 [some (.inr (.inr (.inl 0))), some (.inl y1), some (.inl y2), some (.inl y3), none, none, none, none] [] (jxSH, a, b0)) (jQ_X11_close x1 a0 b0) := by
    intro y1 y2 y3 a hm hv hf hi0 hi1 hi2 hi3 hi4 hi5 hy1 hy2 hL0 hroom hi10 hi11 hfe hno hi14
    refine jt_eq (bq_X11_close_28 E d y1 y2 y3 a b0) ?_
    have h789_ := iv_get hv0 (k := 90) (j := 12) (l := 0) (u := 6) rfl
    have of_ := offerAt_fr (a := a0) (a1 := a) (b := b0) (b1 := b0) (hf 90 12 rfl) (fun j => hf 104 j rfl) (fun j => hf 97 j rfl)
    have lrg_ := lengthOf_rg (a := a0) (b := b0) (fun j => iv_get hv0 (k := 104) (j := j) (l := 0) (u := 5) rfl) x1
    have i588_ := iv_get hv0 (k := 58) (j := 8) (l := 0) (u := 300) rfl
    have i836_ := iv_get hv0 (k := 83) (j := 6) (l := 0) (u := 20) rfl
    refine jt_ite (fun c790_ => ?_) (fun c790_ => ?_)
    ·
      refine jt_eI (eq_X5_offerAt E d (jd_le hd rfl) y1 y3 a b0) ?_
      refine jt_eI (eq_X4_isOpen E d (jd_le hd rfl) (f_X5_offerAt a b0 y1 y3) a b0) ?_
      have h791_ := f_X5_offerAt_eq a b0 y1 y3
      have h792_ := f_X5_lengthOf_eq a b0 y1
      have h793_ := iv_get hv (k := 90) (j := 12) (l := 0) (u := 6) rfl
      have h794_ : a 90 12 = a0 90 12 := hf 90 12 rfl
      have h795_ := iv_get hv (k := 104) (j := y1.toNat) (l := 0) (u := 5) rfl
      have h796_ : a 104 (y1.toNat) = a0 104 (y1.toNat) := hf 104 (y1.toNat) rfl
      have h797_ := iv_get hv0 (k := 104) (j := y1.toNat) (l := 0) (u := 5) rfl
      have h798_ : a 97 ((y1.toNat) * 5 + (y3.toNat)) = a0 97 ((y1.toNat) * 5 + (y3.toNat)) := hf 97 ((y1.toNat) * 5 + (y3.toNat)) rfl
      have h799_ := f_X4_isOpen_eq a b0 (f_X5_offerAt a b0 y1 y3)
      have h800_ := f_X4_has_eq a b0 (f_X5_offerAt a b0 y1 y3)
      have h801_ := iv_get hv (k := 83) (j := 6) (l := 0) (u := 20) rfl
      have h802_ : a 83 6 = a0 83 6 := hf 83 6 rfl
      have h803_ := iv_get hv0 (k := 83) (j := 6) (l := 0) (u := 20) rfl
      refine jt_ite (fun c804_ => ?_) (fun c804_ => ?_)
      ·
        exact jt_rI ⟨hv, hf, rfl, (show (a0 90 12 = 0 → (-1) = 0 - 1) from by omega), (Or.inl ⟨Or.inr (Or.inr ⟨y3.toNat, by omega, by show f_X4_isOpen a0 b0 (f_X5_offerAt a0 b0 x1 ((y3.toNat : Nat) : Int)) = 0; rw [show ((y3.toNat : Nat) : Int) = y3 from by omega, ← hy1, ← of_.2, ← isOpen_fr (a1 := a) (b1 := b0) (hf 83 6 rfl) (fun j => hfe 87 j rfl)]; assumption⟩), rfl, by rw [cvC_fr hfe rfl, show a 87 = a0 87 from funext fun j => hfe 87 j rfl, show a 88 = a0 88 from funext fun j => hfe 88 j rfl, show a 89 = a0 89 from funext fun j => hfe 89 j rfl], hfe 83 7 rfl⟩)⟩
      ·
        have h805_ : jxw (y3 + 1) = y3 + 1 := jxw_id (by omega) (by omega)
        exact ih28 y1 y2 (jxw (y3 + 1)) a (show (((5 - (jxw (y3 + 1))) * 1) + 0).toNat < n from by omega) hv hf (show 0 ≤ y1 from by omega) (show y1 ≤ 5 from by omega) (show 0 ≤ y2 from by omega) (show y2 ≤ 5 from by omega) (show 0 ≤ jxw (y3 + 1) from by omega) (show jxw (y3 + 1) ≤ 5 from by omega) (by first | rfl | assumption) hy2 hL0 hroom (show 0 ≤ jxw (y3 + 1) from by omega) (show jxw (y3 + 1) ≤ y2 from by omega) hfe (fun i h => by by_cases e : (i : Int) = y3 <;> first | (show ¬ f_X4_isOpen a0 b0 (f_X5_offerAt a0 b0 x1 (i : Int)) = 0; rw [e, ← hy1, ← of_.2, ← isOpen_fr (a1 := a) (b1 := b0) (hf 83 6 rfl) (fun j => hfe 87 j rfl)]; assumption) | exact hno i (by omega)) (show 1 ≤ a0 90 12 from by omega)
    ·
      refine jt_bI (sq_X4_addRing E d (jd_le hd rfl) a b0 hv) (fun r806_ a806_ b806_ h806_ => ?_)
      obtain ⟨hv806_, hf806_, rfl, hq806_0, hq806_1⟩ := h806_
      have hf807_ : jfr jW_X11_close a0 a806_ := jfr_tr hf hf806_ rfl
      exact (cp_X11_close_71 E d hd x1 a0 b0 hv0 _).2.2 y1 y2 r806_ 0 a806_ (Nat.le_refl _) hv806_ hf807_ (show 0 ≤ y1 from by omega) (show y1 ≤ 5 from by omega) (show 0 ≤ y2 from by omega) (show y2 ≤ 5 from by omega) (show 0 ≤ 0 from by omega) (show 0 ≤ 5 from by omega) (by first | rfl | assumption) hy2 hL0 hroom (hq806_0.trans (hfe 83 7 rfl)) (by rw [hq806_1, show a 83 7 = a0 83 7 from hfe 83 7 rfl]) (fun i h => hno i (by omega)) (show 0 ≤ 0 from by omega) (show 0 ≤ y2 from by omega) (by unfold CLO; rw [cvC_fr hf806_ rfl, cvC_fr hfe rfl, show a806_ 87 = a0 87 from funext fun j => (hf806_ 87 j rfl).trans (hfe 87 j rfl), show a806_ 88 = a0 88 from funext fun j => (hf806_ 88 j rfl).trans (hfe 88 j rfl), show a806_ 89 = a0 89 from funext fun j => (hf806_ 89 j rfl).trans (hfe 89 j rfl)]; rfl) (show 1 ≤ a0 90 12 from by omega)
  exact hc28
theorem sp_X11_close (E : jxE) (d : Nat) (hd : Nat.ble 6 d = true) (x1 : Int) (a0 b0 : Nat → Nat → Int) (hv0 : iv a0) : jt (jxC E d 188 [.inr (.inr (.inl 0)), .inl x1] (jxSH, a0, b0)) (jQ_X11_close x1 a0 b0) := by
  obtain ⟨d, rfl⟩ := jd_succ hd
  refine jt_eq (bq_X11_close E d x1 a0 b0) ?_
  have lrg_ := lengthOf_rg (a := a0) (b := b0) (fun j => iv_get hv0 (k := 104) (j := j) (l := 0) (u := 5) rfl) x1
  have i588_ := iv_get hv0 (k := 58) (j := 8) (l := 0) (u := 300) rfl
  have i836_ := iv_get hv0 (k := 83) (j := 6) (l := 0) (u := 20) rfl
  refine jt_eI (eq_X5_lengthOf E d (jd_le hd rfl) x1 a0 b0) ?_
  have h808_ := f_X5_lengthOf_eq a0 b0 x1
  have h809_ := iv_get hv0 (k := 90) (j := 12) (l := 0) (u := 6) rfl
  have h810_ := iv_get hv0 (k := 104) (j := x1.toNat) (l := 0) (u := 5) rfl
  refine jt_ite (fun c811_ => ?_) (fun c811_ => ?_)
  ·
    exact jt_rI ⟨hv0, (jfr_rf _ _), rfl, (show (a0 90 12 = 0 → (-1) = 0 - 1) from by omega), (Or.inl ⟨by first | exact Or.inl (by assumption) | exact Or.inr (Or.inl (by assumption)), rfl, rfl, rfl⟩)⟩
  ·
    refine jt_eI (eq_X0_hasRoom E d (jd_le hd rfl) (f_X5_lengthOf a0 b0 x1) a0 b0) ?_
    have h812_ := f_X0_hasRoom_eq a0 b0 (f_X5_lengthOf a0 b0 x1)
    have h813_ := iv_get hv0 (k := 58) (j := 8) (l := 0) (u := 300) rfl
    have h814_ : jxw (300 - (a0 58 8)) = 300 - (a0 58 8) := jxw_id (by omega) (by omega)
    refine jt_ite (fun c815_ => ?_) (fun c815_ => ?_)
    ·
      exact jt_rI ⟨hv0, (jfr_rf _ _), rfl, (show (a0 90 12 = 0 → (-1) = 0 - 1) from by omega), (Or.inl ⟨by first | exact Or.inl (by assumption) | exact Or.inr (Or.inl (by assumption)), rfl, rfl, rfl⟩)⟩
    ·
      exact (cp_X11_close_28 E d hd x1 a0 b0 hv0 _) x1 (f_X5_lengthOf a0 b0 x1) 0 a0 (Nat.le_refl _) hv0 (jfr_rf _ _) (show 0 ≤ x1 from by omega) (show x1 ≤ 5 from by omega) (show 0 ≤ f_X5_lengthOf a0 b0 x1 from by omega) (show f_X5_lengthOf a0 b0 x1 ≤ 5 from by omega) (show 0 ≤ 0 from by omega) (show 0 ≤ 5 from by omega) (by first | rfl | assumption) rfl (by assumption) (by assumption) (show 0 ≤ 0 from by omega) (show 0 ≤ f_X5_lengthOf a0 b0 x1 from by omega) (jfr_rf _ _) (fun i h => absurd h (by omega)) (show 1 ≤ a0 90 12 from by omega)
