def jW_X8_noteFault : List (Nat × Nat) := [(2, 3)]
abbrev jQ_X8_noteFault (x1 x2 : Int) (a0 b0 : Nat → Nat → Int) : List jxV → (Nat → Nat → Int) → (Nat → Nat → Int) → Prop := rV (fun a b => (iv a) ∧ (jfr jW_X8_noteFault a0 a) ∧ (b0 = b))
theorem sp_X8_noteFault (E : jxE) (d : Nat) (hd : Nat.ble 1 d = true) (x1 x2 : Int) (a0 b0 : Nat → Nat → Int) (hv0 : iv a0) : jt (jxC E d 124 [.inr (.inr (.inl 2)), .inl x1, .inl x2] (jxSH, a0, b0)) (jQ_X8_noteFault x1 x2 a0 b0) := by
  obtain ⟨d, rfl⟩ := jd_succ hd
  refine jt_eq (bq_X8_noteFault E d x1 x2 a0 b0) ?_
  refine jt_ite (fun c1_ => ?_) (fun c1_ => ?_)
  ·
    have hv2_ : iv (jxu a0 2 3 (jxw ((jxw (1 + (jxw (8 * x1)))) + x2))) := iv_putf hv0 rfl
    have hf3_ : jfr jW_X8_noteFault a0 (jxu a0 2 3 (jxw ((jxw (1 + (jxw (8 * x1)))) + x2))) := jfr_put (jfr_rf _ _) rfl
    exact jt_rV ⟨hv2_, hf3_, rfl⟩
  ·
    exact jt_rV ⟨hv0, (jfr_rf _ _), rfl⟩
def jW_X8_noteCannotStand : List (Nat × Nat) := [(2, 3)]
abbrev jQ_X8_noteCannotStand (a0 b0 : Nat → Nat → Int) : List jxV → (Nat → Nat → Int) → (Nat → Nat → Int) → Prop := rV (fun a b => (iv a) ∧ (jfr jW_X8_noteCannotStand a0 a) ∧ (b0 = b))
theorem sp_X8_noteCannotStand (E : jxE) (d : Nat) (hd : Nat.ble 2 d = true) (a0 b0 : Nat → Nat → Int) (hv0 : iv a0) : jt (jxC E d 125 [.inr (.inr (.inl 2))] (jxSH, a0, b0)) (jQ_X8_noteCannotStand a0 b0) := by
  obtain ⟨d, rfl⟩ := jd_succ hd
  refine jt_eq (bq_X8_noteCannotStand E d a0 b0) ?_
  refine jt_bV (sp_X8_noteFault E d (jd_le hd rfl) (a0 2 2) 0 a0 b0 hv0) (fun a4_ b4_ h4_ => ?_)
  obtain ⟨hv4_, hf4_, rfl⟩ := h4_
  have hf5_ : jfr jW_X8_noteCannotStand a0 a4_ := jfr_tr (jfr_rf _ _) hf4_ rfl
  exact jt_rV ⟨hv4_, hf5_, rfl⟩
def jW_X8_skipBlanks : List (Nat × Nat) := [(2, 2)]
abbrev jQ_X8_skipBlanks (a0 b0 : Nat → Nat → Int) : List jxV → (Nat → Nat → Int) → (Nat → Nat → Int) → Prop := rV (fun a b => (iv a) ∧ (jfr jW_X8_skipBlanks a0 a) ∧ (b0 = b))
theorem cp_X8_skipBlanks_0 (E : jxE) (d : Nat) (hd : Nat.ble 1 (d + 1) = true) (a0 b0 : Nat → Nat → Int) (hv0 : iv a0) : ∀ n : Nat, (∀ (a : Nat → Nat → Int), ((((a 2 1) - (a 2 2)) * 2) + 1).toNat ≤ n → iv a → jfr jW_X8_skipBlanks a0 a → 1 ≤ a 2 1 → 1 ≤ a 2 2 → a 2 2 ≤ a 2 1 → jt (jxX E d 131 35 [some (.inr (.inr (.inl 2)))] [] (jxSH, a, b0)) (jQ_X8_skipBlanks a0 b0)) ∧ (∀ (a : Nat → Nat → Int), ((((a 2 1) - (a 2 2)) * 2) + 0).toNat ≤ n → iv a → jfr jW_X8_skipBlanks a0 a → 1 ≤ a 2 1 → 1 ≤ a 2 2 → jt (jxX E d 131 0 [some (.inr (.inr (.inl 2)))] [] (jxSH, a, b0)) (jQ_X8_skipBlanks a0 b0)) := by
  refine jx_ind fun n ih => ?_
  have ih35 : ∀ (a : Nat → Nat → Int), ((((a 2 1) - (a 2 2)) * 2) + 1).toNat < n → iv a → jfr jW_X8_skipBlanks a0 a → 1 ≤ a 2 1 → 1 ≤ a 2 2 → a 2 2 ≤ a 2 1 → jt (jxX E d 131 35 [some (.inr (.inr (.inl 2)))] [] (jxSH, a, b0)) (jQ_X8_skipBlanks a0 b0) := fun a hlt i0 i1 i2 i3 i4 => (ih _ hlt).1 a (Nat.le_refl _) i0 i1 i2 i3 i4
  have ih0 : ∀ (a : Nat → Nat → Int), ((((a 2 1) - (a 2 2)) * 2) + 0).toNat < n → iv a → jfr jW_X8_skipBlanks a0 a → 1 ≤ a 2 1 → 1 ≤ a 2 2 → jt (jxX E d 131 0 [some (.inr (.inr (.inl 2)))] [] (jxSH, a, b0)) (jQ_X8_skipBlanks a0 b0) := fun a hlt i0 i1 i2 i3 => (ih _ hlt).2 a (Nat.le_refl _) i0 i1 i2 i3
  have hc35 : ∀ (a : Nat → Nat → Int), ((((a 2 1) - (a 2 2)) * 2) + 1).toNat ≤ n → iv a → jfr jW_X8_skipBlanks a0 a → 1 ≤ a 2 1 → 1 ≤ a 2 2 → a 2 2 ≤ a 2 1 → jt (jxX E d 131 35 [some (.inr (.inr (.inl 2)))] [] (jxSH, a, b0)) (jQ_X8_skipBlanks a0 b0) := by
    intro a hm hv hf hi0 hi1 hi2
    refine jt_eq (bq_X8_skipBlanks_35 E d a b0) ?_
    have h6_ := iv_get hv (k := 2) (j := 1) (l := 0) (u := 200) rfl
    have h7_ : a 2 1 = a0 2 1 := hf 2 1 rfl
    have h8_ := iv_get hv0 (k := 2) (j := 1) (l := 0) (u := 200) rfl
    have h9_ := iv_get hv (k := 2) (j := 2) (l := 0) (u := 200) rfl
    exact ih0 a (show ((((a 2 1) - (a 2 2)) * 2) + 0).toNat < n from by omega) hv hf (show 1 ≤ a 2 1 from by omega) (show 1 ≤ a 2 2 from by omega)
  have hc0 : ∀ (a : Nat → Nat → Int), ((((a 2 1) - (a 2 2)) * 2) + 0).toNat ≤ n → iv a → jfr jW_X8_skipBlanks a0 a → 1 ≤ a 2 1 → 1 ≤ a 2 2 → jt (jxX E d 131 0 [some (.inr (.inr (.inl 2)))] [] (jxSH, a, b0)) (jQ_X8_skipBlanks a0 b0) := by
    intro a hm hv hf hi0 hi1
    refine jt_eq (bq_X8_skipBlanks_0 E d a b0) ?_
    have h10_ := iv_get hv (k := 2) (j := 1) (l := 0) (u := 200) rfl
    have h11_ : a 2 1 = a0 2 1 := hf 2 1 rfl
    have h12_ := iv_get hv0 (k := 2) (j := 1) (l := 0) (u := 200) rfl
    have h13_ := iv_get hv (k := 2) (j := 2) (l := 0) (u := 200) rfl
    refine jt_ite (fun c14_ => ?_) (fun c14_ => ?_)
    ·
      refine jt_grd (by omega) ?_
      have h15_ := iv_get hv (k := 3) (j := (a 2 2).toNat) (l := 0) (u := 255) rfl
      have h16_ : a 3 ((a 2 2).toNat) = a0 3 ((a 2 2).toNat) := hf 3 ((a 2 2).toNat) rfl
      have h17_ := iv_get hv0 (k := 3) (j := (a 2 2).toNat) (l := 0) (u := 255) rfl
      refine jt_ite (fun c18_ => ?_) (fun c18_ => ?_)
      ·
        have h20_ : jxw ((a 2 2) + 1) = (a 2 2) + 1 := jxw_id (by omega) (by omega)
        have hv19_ : iv (jxu a 2 2 (jxw ((a 2 2) + 1))) := iv_put hv (l := 0) (u := 200) rfl (by omega) (by omega)
        have hf21_ : jfr jW_X8_skipBlanks a0 (jxu a 2 2 (jxw ((a 2 2) + 1))) := jfr_put hf rfl
        exact hc35 (jxu a 2 2 (jxw ((a 2 2) + 1))) (show ((((a 2 1) - (jxw ((a 2 2) + 1))) * 2) + 1).toNat ≤ n from by omega) hv19_ hf21_ (show 1 ≤ a 2 1 from by omega) (show 1 ≤ jxw ((a 2 2) + 1) from by omega) (show jxw ((a 2 2) + 1) ≤ a 2 1 from by omega)
      ·
        exact jt_rV ⟨hv, hf, rfl⟩
    ·
      exact jt_rV ⟨hv, hf, rfl⟩
  exact ⟨hc35, hc0⟩
theorem sp_X8_skipBlanks (E : jxE) (d : Nat) (hd : Nat.ble 1 d = true) (a0 b0 : Nat → Nat → Int) (hv0 : iv a0) : jt (jxC E d 131 [.inr (.inr (.inl 2))] (jxSH, a0, b0)) (jQ_X8_skipBlanks a0 b0) := by
  obtain ⟨d, rfl⟩ := jd_succ hd
  refine jt_eq (bq_X8_skipBlanks E d a0 b0) ?_
  have h22_ := iv_get hv0 (k := 2) (j := 2) (l := 0) (u := 200) rfl
  have h23_ := iv_get hv0 (k := 2) (j := 1) (l := 0) (u := 200) rfl
  refine jt_ite (fun c24_ => ?_) (fun c24_ => ?_)
  ·
    refine jt_grd (by omega) ?_
    have h25_ := iv_get hv0 (k := 3) (j := (a0 2 2).toNat) (l := 0) (u := 255) rfl
    refine jt_ite (fun c26_ => ?_) (fun c26_ => ?_)
    ·
      have h28_ : jxw ((a0 2 2) + 1) = (a0 2 2) + 1 := jxw_id (by omega) (by omega)
      have hv27_ : iv (jxu a0 2 2 (jxw ((a0 2 2) + 1))) := iv_put hv0 (l := 0) (u := 200) rfl (by omega) (by omega)
      have hf29_ : jfr jW_X8_skipBlanks a0 (jxu a0 2 2 (jxw ((a0 2 2) + 1))) := jfr_put (jfr_rf _ _) rfl
      exact (cp_X8_skipBlanks_0 E d hd a0 b0 hv0 _).1 (jxu a0 2 2 (jxw ((a0 2 2) + 1))) (Nat.le_refl _) hv27_ hf29_ (show 1 ≤ a0 2 1 from by omega) (show 1 ≤ jxw ((a0 2 2) + 1) from by omega) (show jxw ((a0 2 2) + 1) ≤ a0 2 1 from by omega)
    ·
      exact jt_rV ⟨hv0, (jfr_rf _ _), rfl⟩
  ·
    exact jt_rV ⟨hv0, (jfr_rf _ _), rfl⟩
def jW_X8_takeNumber : List (Nat × Nat) := [(2, 2), (2, 3)]
abbrev jQ_X8_takeNumber (x1 x2 : Int) (a0 b0 : Nat → Nat → Int) : List jxV → (Nat → Nat → Int) → (Nat → Nat → Int) → Prop := rI (fun r a b => (iv a) ∧ (jfr jW_X8_takeNumber a0 a) ∧ (b0 = b))
theorem cp_X8_takeNumber_133 (E : jxE) (d : Nat) (hd : Nat.ble 2 (d + 1) = true) (x1 x2 : Int) (a0 b0 : Nat → Nat → Int) (hv0 : iv a0) : ∀ (y4 : Int) (a : Nat → Nat → Int), iv a → jfr jW_X8_takeNumber a0 a → jt (jxX E d 130 133 [some (.inr (.inr (.inl 2))), none, none, none, some (.inl y4)] [] (jxSH, a, b0)) (jQ_X8_takeNumber x1 x2 a0 b0) := by
  intro y4 a hv hf
  refine jt_eq (bq_X8_takeNumber_133 E d y4 a b0) ?_
  refine jt_bV (sp_X8_skipBlanks E d (jd_le hd rfl) a b0 hv) (fun a30_ b30_ h30_ => ?_)
  obtain ⟨hv30_, hf30_, rfl⟩ := h30_
  have hf31_ : jfr jW_X8_takeNumber a0 a30_ := jfr_tr hf hf30_ rfl
  exact jt_rI ⟨hv30_, hf31_, rfl⟩
theorem cp_X8_takeNumber_127 (E : jxE) (d : Nat) (hd : Nat.ble 2 (d + 1) = true) (x1 x2 : Int) (a0 b0 : Nat → Nat → Int) (hv0 : iv a0) : ∀ (y3 y4 : Int) (a : Nat → Nat → Int), iv a → jfr jW_X8_takeNumber a0 a → 0 ≤ y3 → y3 ≤ 200 → jt (jxX E d 130 127 [some (.inr (.inr (.inl 2))), none, none, some (.inl y3), some (.inl y4)] [] (jxSH, a, b0)) (jQ_X8_takeNumber x1 x2 a0 b0) := by
  intro y3 y4 a hv hf hi0 hi1
  refine jt_eq (bq_X8_takeNumber_127 E d y3 y4 a b0) ?_
  refine jt_bV (sp_X8_noteFault E d (jd_le hd rfl) y3 1 a b0 hv) (fun a32_ b32_ h32_ => ?_)
  obtain ⟨hv32_, hf32_, rfl⟩ := h32_
  have hf33_ : jfr jW_X8_takeNumber a0 a32_ := jfr_tr hf hf32_ rfl
  exact cp_X8_takeNumber_133 E d hd x1 x2 a0 b0 hv0 y4 a32_ hv32_ hf33_
theorem cp_X8_takeNumber_90 (E : jxE) (d : Nat) (hd : Nat.ble 2 (d + 1) = true) (x1 x2 : Int) (a0 b0 : Nat → Nat → Int) (hv0 : iv a0) : ∀ (y1 y2 y3 y4 : Int) (a : Nat → Nat → Int), iv a → jfr jW_X8_takeNumber a0 a → 0 ≤ y3 → y3 ≤ 200 → jt (jxX E d 130 90 [some (.inr (.inr (.inl 2))), some (.inl y1), some (.inl y2), some (.inl y3), some (.inl y4)] [] (jxSH, a, b0)) (jQ_X8_takeNumber x1 x2 a0 b0) := by
  intro y1 y2 y3 y4 a hv hf hi0 hi1
  refine jt_eq (bq_X8_takeNumber_90 E d y1 y2 y3 y4 a b0) ?_
  have h34_ := iv_get hv (k := 2) (j := 2) (l := 0) (u := 200) rfl
  refine jt_ite (fun c35_ => ?_) (fun c35_ => ?_)
  ·
    refine jt_bV (sp_X8_noteFault E d (jd_le hd rfl) y3 0 a b0 hv) (fun a36_ b36_ h36_ => ?_)
    obtain ⟨hv36_, hf36_, rfl⟩ := h36_
    have hf37_ : jfr jW_X8_takeNumber a0 a36_ := jfr_tr hf hf36_ rfl
    exact cp_X8_takeNumber_133 E d hd x1 x2 a0 b0 hv0 y4 a36_ hv36_ hf37_
  ·
    have h38_ : jxw ((a 2 2) - y3) = (a 2 2) - y3 := jxw_id (by omega) (by omega)
    refine jt_ite (fun c39_ => ?_) (fun c39_ => ?_)
    ·
      exact cp_X8_takeNumber_127 E d hd x1 x2 a0 b0 hv0 y3 y4 a hv hf (show 0 ≤ y3 from by omega) (show y3 ≤ 200 from by omega)
    ·
      refine jt_eI (eq_X11_within E d (jd_le hd rfl) y4 y1 y2 a b0) ?_
      have h40_ := f_X11_within_eq a b0 y4 y1 y2
      refine jt_ite (fun c41_ => ?_) (fun c41_ => ?_)
      ·
        exact cp_X8_takeNumber_127 E d hd x1 x2 a0 b0 hv0 y3 y4 a hv hf (show 0 ≤ y3 from by omega) (show y3 ≤ 200 from by omega)
      ·
        exact cp_X8_takeNumber_133 E d hd x1 x2 a0 b0 hv0 y4 a hv hf
theorem cp_X8_takeNumber_8 (E : jxE) (d : Nat) (hd : Nat.ble 2 (d + 1) = true) (x1 x2 : Int) (a0 b0 : Nat → Nat → Int) (hv0 : iv a0) : ∀ n : Nat, (∀ (y1 y2 y3 y4 : Int) (a : Nat → Nat → Int), ((((a 2 1) - (a 2 2)) * 1) + 0).toNat ≤ n → iv a → jfr jW_X8_takeNumber a0 a → 0 ≤ y3 → y3 ≤ 200 → 1 ≤ a 2 1 → a 2 2 ≤ 199 → a 2 2 < a 2 1 → jt (jxX E d 130 77 [some (.inr (.inr (.inl 2))), some (.inl y1), some (.inl y2), some (.inl y3), some (.inl y4)] [] (jxSH, a, b0)) (jQ_X8_takeNumber x1 x2 a0 b0)) ∧ (∀ (y1 y2 y3 y4 : Int) (a : Nat → Nat → Int), ((((a 2 1) - (a 2 2)) * 1) + 0).toNat ≤ n → iv a → jfr jW_X8_takeNumber a0 a → 0 ≤ y3 → y3 ≤ 200 → 1 ≤ a 2 1 → a 2 2 ≤ 199 → a 2 2 < a 2 1 → jt (jxX E d 130 47 [some (.inr (.inr (.inl 2))), some (.inl y1), some (.inl y2), some (.inl y3), some (.inl y4)] [] (jxSH, a, b0)) (jQ_X8_takeNumber x1 x2 a0 b0)) ∧ (∀ (y1 y2 y3 y4 : Int) (a : Nat → Nat → Int), ((((a 2 1) - (a 2 2)) * 1) + 0).toNat ≤ n → iv a → jfr jW_X8_takeNumber a0 a → 0 ≤ y3 → y3 ≤ 200 → jt (jxX E d 130 8 [some (.inr (.inr (.inl 2))), some (.inl y1), some (.inl y2), some (.inl y3), some (.inl y4)] [] (jxSH, a, b0)) (jQ_X8_takeNumber x1 x2 a0 b0)) := by
  refine jx_ind fun n ih => ?_
  have ih77 : ∀ (y1 y2 y3 y4 : Int) (a : Nat → Nat → Int), ((((a 2 1) - (a 2 2)) * 1) + 0).toNat < n → iv a → jfr jW_X8_takeNumber a0 a → 0 ≤ y3 → y3 ≤ 200 → 1 ≤ a 2 1 → a 2 2 ≤ 199 → a 2 2 < a 2 1 → jt (jxX E d 130 77 [some (.inr (.inr (.inl 2))), some (.inl y1), some (.inl y2), some (.inl y3), some (.inl y4)] [] (jxSH, a, b0)) (jQ_X8_takeNumber x1 x2 a0 b0) := fun y1 y2 y3 y4 a hlt i0 i1 i2 i3 i4 i5 i6 => (ih _ hlt).1 y1 y2 y3 y4 a (Nat.le_refl _) i0 i1 i2 i3 i4 i5 i6
  have ih47 : ∀ (y1 y2 y3 y4 : Int) (a : Nat → Nat → Int), ((((a 2 1) - (a 2 2)) * 1) + 0).toNat < n → iv a → jfr jW_X8_takeNumber a0 a → 0 ≤ y3 → y3 ≤ 200 → 1 ≤ a 2 1 → a 2 2 ≤ 199 → a 2 2 < a 2 1 → jt (jxX E d 130 47 [some (.inr (.inr (.inl 2))), some (.inl y1), some (.inl y2), some (.inl y3), some (.inl y4)] [] (jxSH, a, b0)) (jQ_X8_takeNumber x1 x2 a0 b0) := fun y1 y2 y3 y4 a hlt i0 i1 i2 i3 i4 i5 i6 => (ih _ hlt).2.1 y1 y2 y3 y4 a (Nat.le_refl _) i0 i1 i2 i3 i4 i5 i6
  have ih8 : ∀ (y1 y2 y3 y4 : Int) (a : Nat → Nat → Int), ((((a 2 1) - (a 2 2)) * 1) + 0).toNat < n → iv a → jfr jW_X8_takeNumber a0 a → 0 ≤ y3 → y3 ≤ 200 → jt (jxX E d 130 8 [some (.inr (.inr (.inl 2))), some (.inl y1), some (.inl y2), some (.inl y3), some (.inl y4)] [] (jxSH, a, b0)) (jQ_X8_takeNumber x1 x2 a0 b0) := fun y1 y2 y3 y4 a hlt i0 i1 i2 i3 => (ih _ hlt).2.2 y1 y2 y3 y4 a (Nat.le_refl _) i0 i1 i2 i3
  have hc77 : ∀ (y1 y2 y3 y4 : Int) (a : Nat → Nat → Int), ((((a 2 1) - (a 2 2)) * 1) + 0).toNat ≤ n → iv a → jfr jW_X8_takeNumber a0 a → 0 ≤ y3 → y3 ≤ 200 → 1 ≤ a 2 1 → a 2 2 ≤ 199 → a 2 2 < a 2 1 → jt (jxX E d 130 77 [some (.inr (.inr (.inl 2))), some (.inl y1), some (.inl y2), some (.inl y3), some (.inl y4)] [] (jxSH, a, b0)) (jQ_X8_takeNumber x1 x2 a0 b0) := by
    intro y1 y2 y3 y4 a hm hv hf hi0 hi1 hi2 hi3 hi4
    refine jt_eq (bq_X8_takeNumber_77 E d y1 y2 y3 y4 a b0) ?_
    have h42_ := iv_get hv (k := 2) (j := 1) (l := 0) (u := 200) rfl
    have h43_ : a 2 1 = a0 2 1 := hf 2 1 rfl
    have h44_ := iv_get hv0 (k := 2) (j := 1) (l := 0) (u := 200) rfl
    have h45_ := iv_get hv (k := 2) (j := 2) (l := 0) (u := 200) rfl
    have h47_ : jxw ((a 2 2) + 1) = (a 2 2) + 1 := jxw_id (by omega) (by omega)
    have hv46_ : iv (jxu a 2 2 (jxw ((a 2 2) + 1))) := iv_put hv (l := 0) (u := 200) rfl (by omega) (by omega)
    have hf48_ : jfr jW_X8_takeNumber a0 (jxu a 2 2 (jxw ((a 2 2) + 1))) := jfr_put hf rfl
    exact ih8 y1 y2 y3 y4 (jxu a 2 2 (jxw ((a 2 2) + 1))) (show ((((a 2 1) - (jxw ((a 2 2) + 1))) * 1) + 0).toNat < n from by omega) hv46_ hf48_ (show 0 ≤ y3 from by omega) (show y3 ≤ 200 from by omega)
  have hc47 : ∀ (y1 y2 y3 y4 : Int) (a : Nat → Nat → Int), ((((a 2 1) - (a 2 2)) * 1) + 0).toNat ≤ n → iv a → jfr jW_X8_takeNumber a0 a → 0 ≤ y3 → y3 ≤ 200 → 1 ≤ a 2 1 → a 2 2 ≤ 199 → a 2 2 < a 2 1 → jt (jxX E d 130 47 [some (.inr (.inr (.inl 2))), some (.inl y1), some (.inl y2), some (.inl y3), some (.inl y4)] [] (jxSH, a, b0)) (jQ_X8_takeNumber x1 x2 a0 b0) := by
    intro y1 y2 y3 y4 a hm hv hf hi0 hi1 hi2 hi3 hi4
    refine jt_eq (bq_X8_takeNumber_47 E d y1 y2 y3 y4 a b0) ?_
    have h49_ := iv_get hv (k := 2) (j := 1) (l := 0) (u := 200) rfl
    have h50_ : a 2 1 = a0 2 1 := hf 2 1 rfl
    have h51_ := iv_get hv0 (k := 2) (j := 1) (l := 0) (u := 200) rfl
    have h52_ := iv_get hv (k := 2) (j := 2) (l := 0) (u := 200) rfl
    have h53_ : jxw ((a 2 2) - y3) = (a 2 2) - y3 := jxw_id (by omega) (by omega)
    refine jt_ite (fun c54_ => ?_) (fun c54_ => ?_)
    ·
      refine jt_grd (by omega) ?_
      exact hc77 y1 y2 y3 (jxw ((jxw ((jxw (y4 * 10)) + (a 3 ((a 2 2).toNat)))) - 48)) a (show ((((a 2 1) - (a 2 2)) * 1) + 0).toNat ≤ n from by omega) hv hf (show 0 ≤ y3 from by omega) (show y3 ≤ 200 from by omega) (show 1 ≤ a 2 1 from by omega) (show a 2 2 ≤ 199 from by omega) (show a 2 2 < a 2 1 from by omega)
    ·
      exact hc77 y1 y2 y3 y4 a (show ((((a 2 1) - (a 2 2)) * 1) + 0).toNat ≤ n from by omega) hv hf (show 0 ≤ y3 from by omega) (show y3 ≤ 200 from by omega) (show 1 ≤ a 2 1 from by omega) (show a 2 2 ≤ 199 from by omega) (show a 2 2 < a 2 1 from by omega)
  have hc8 : ∀ (y1 y2 y3 y4 : Int) (a : Nat → Nat → Int), ((((a 2 1) - (a 2 2)) * 1) + 0).toNat ≤ n → iv a → jfr jW_X8_takeNumber a0 a → 0 ≤ y3 → y3 ≤ 200 → jt (jxX E d 130 8 [some (.inr (.inr (.inl 2))), some (.inl y1), some (.inl y2), some (.inl y3), some (.inl y4)] [] (jxSH, a, b0)) (jQ_X8_takeNumber x1 x2 a0 b0) := by
    intro y1 y2 y3 y4 a hm hv hf hi0 hi1
    refine jt_eq (bq_X8_takeNumber_8 E d y1 y2 y3 y4 a b0) ?_
    have h55_ := iv_get hv (k := 2) (j := 1) (l := 0) (u := 200) rfl
    have h56_ : a 2 1 = a0 2 1 := hf 2 1 rfl
    have h57_ := iv_get hv0 (k := 2) (j := 1) (l := 0) (u := 200) rfl
    have h58_ := iv_get hv (k := 2) (j := 2) (l := 0) (u := 200) rfl
    refine jt_ite (fun c59_ => ?_) (fun c59_ => ?_)
    ·
      refine jt_grd (by omega) ?_
      have h60_ := iv_get hv (k := 3) (j := (a 2 2).toNat) (l := 0) (u := 255) rfl
      have h61_ : a 3 ((a 2 2).toNat) = a0 3 ((a 2 2).toNat) := hf 3 ((a 2 2).toNat) rfl
      have h62_ := iv_get hv0 (k := 3) (j := (a 2 2).toNat) (l := 0) (u := 255) rfl
      refine jt_ite (fun c63_ => ?_) (fun c63_ => ?_)
      ·
        exact cp_X8_takeNumber_90 E d hd x1 x2 a0 b0 hv0 y1 y2 y3 y4 a hv hf (show 0 ≤ y3 from by omega) (show y3 ≤ 200 from by omega)
      ·
        refine jt_grd (by omega) ?_
        refine jt_ite (fun c64_ => ?_) (fun c64_ => ?_)
        ·
          exact cp_X8_takeNumber_90 E d hd x1 x2 a0 b0 hv0 y1 y2 y3 y4 a hv hf (show 0 ≤ y3 from by omega) (show y3 ≤ 200 from by omega)
        ·
          exact hc47 y1 y2 y3 y4 a (show ((((a 2 1) - (a 2 2)) * 1) + 0).toNat ≤ n from by omega) hv hf (show 0 ≤ y3 from by omega) (show y3 ≤ 200 from by omega) (show 1 ≤ a 2 1 from by omega) (show a 2 2 ≤ 199 from by omega) (show a 2 2 < a 2 1 from by omega)
    ·
      exact cp_X8_takeNumber_90 E d hd x1 x2 a0 b0 hv0 y1 y2 y3 y4 a hv hf (show 0 ≤ y3 from by omega) (show y3 ≤ 200 from by omega)
  exact ⟨hc77, hc47, hc8⟩
theorem sp_X8_takeNumber (E : jxE) (d : Nat) (hd : Nat.ble 2 d = true) (x1 x2 : Int) (a0 b0 : Nat → Nat → Int) (hv0 : iv a0) : jt (jxC E d 130 [.inr (.inr (.inl 2)), .inl x1, .inl x2] (jxSH, a0, b0)) (jQ_X8_takeNumber x1 x2 a0 b0) := by
  obtain ⟨d, rfl⟩ := jd_succ hd
  refine jt_eq (bq_X8_takeNumber E d x1 x2 a0 b0) ?_
  have h65_ := iv_get hv0 (k := 2) (j := 2) (l := 0) (u := 200) rfl
  exact (cp_X8_takeNumber_8 E d hd x1 x2 a0 b0 hv0 _).2.2 x1 x2 (a0 2 2) 0 a0 (Nat.le_refl _) hv0 (jfr_rf _ _) (show 0 ≤ a0 2 2 from by omega) (show a0 2 2 ≤ 200 from by omega)
def jW_X8_takesWord_r1000 : List (Nat × Nat) := [(2, 2)]
abbrev jQ_X8_takesWord_r1000 (a0 b0 : Nat → Nat → Int) : List jxV → (Nat → Nat → Int) → (Nat → Nat → Int) → Prop := rI (fun r a b => (iv a) ∧ (jfr jW_X8_takesWord_r1000 a0 a) ∧ (b0 = b) ∧ ((0 ≤ r ∧ r ≤ 1)))
theorem cp_X8_takesWord_r1000_56 (E : jxE) (d : Nat) (hd : Nat.ble 5 (d + 1) = true) (a0 b0 : Nat → Nat → Int) (hv0 : iv a0) : ∀ (a : Nat → Nat → Int), iv a → jfr jW_X8_takesWord_r1000 a0 a → 3 ≤ a 2 1 → jt (jxX E d 128 56 [none, none, none, none] [] (jxSH, a, b0)) (jQ_X8_takesWord_r1000 a0 b0) := by
  intro a hv hf hi0
  refine jt_eq (bq_X8_takesWord_r1000_56 E d a b0) ?_
  have h66_ := iv_get hv (k := 2) (j := 1) (l := 0) (u := 200) rfl
  have h67_ : a 2 1 = a0 2 1 := hf 2 1 rfl
  have h68_ := iv_get hv0 (k := 2) (j := 1) (l := 0) (u := 200) rfl
  exact jt_rI ⟨hv, hf, rfl, (show (0 ≤ 0 ∧ 0 ≤ 1) from by omega)⟩
theorem cp_X8_takesWord_r1000_96 (E : jxE) (d : Nat) (hd : Nat.ble 5 (d + 1) = true) (a0 b0 : Nat → Nat → Int) (hv0 : iv a0) : ∀ (y2 : Int) (a : Nat → Nat → Int), iv a → jfr jW_X8_takesWord_r1000 a0 a → 3 ≤ y2 → y2 ≤ 200 → 3 ≤ a 2 1 → y2 = (a 2 2) + 3 → y2 ≤ a 2 1 → y2 ≤ 200 → jt (jxX E d 128 96 [some (.inr (.inr (.inl 2))), none, some (.inl y2), none] [] (jxSH, a, b0)) (jQ_X8_takesWord_r1000 a0 b0) := by
  intro y2 a hv hf hi0 hi1 hi2 hi3 hi4 hi5
  refine jt_eq (bq_X8_takesWord_r1000_96 E d y2 a b0) ?_
  have h69_ := iv_get hv (k := 2) (j := 1) (l := 0) (u := 200) rfl
  have h70_ : a 2 1 = a0 2 1 := hf 2 1 rfl
  have h71_ := iv_get hv0 (k := 2) (j := 1) (l := 0) (u := 200) rfl
  have h72_ := iv_get hv (k := 2) (j := 2) (l := 0) (u := 200) rfl
  have hv73_ : iv (jxu a 2 2 y2) := iv_put hv (l := 0) (u := 200) rfl (by omega) (by omega)
  refine jt_bV (sp_X8_skipBlanks E d (jd_le hd rfl) (jxu a 2 2 y2) b0 hv73_) (fun a74_ b74_ h74_ => ?_)
  obtain ⟨hv74_, hf74_, rfl⟩ := h74_
  have hf75_ : jfr jW_X8_takesWord_r1000 a0 (jxu a 2 2 y2) := jfr_put hf rfl
  have hf76_ : jfr jW_X8_takesWord_r1000 a0 a74_ := jfr_tr hf75_ hf74_ rfl
  exact jt_rI ⟨hv74_, hf76_, rfl, (show (0 ≤ 1 ∧ 1 ≤ 1) from by omega)⟩
theorem cp_X8_takesWord_r1000_83 (E : jxE) (d : Nat) (hd : Nat.ble 5 (d + 1) = true) (a0 b0 : Nat → Nat → Int) (hv0 : iv a0) : ∀ (y2 : Int) (a : Nat → Nat → Int), iv a → jfr jW_X8_takesWord_r1000 a0 a → 3 ≤ y2 → y2 ≤ 199 → 4 ≤ a 2 1 → y2 = (a 2 2) + 3 → y2 ≤ a 2 1 → y2 ≤ 200 → jt (jxX E d 128 83 [some (.inr (.inr (.inl 2))), none, some (.inl y2), none] [] (jxSH, a, b0)) (jQ_X8_takesWord_r1000 a0 b0) := by
  intro y2 a hv hf hi0 hi1 hi2 hi3 hi4 hi5
  refine jt_eq (bq_X8_takesWord_r1000_83 E d y2 a b0) ?_
  have h77_ := iv_get hv (k := 2) (j := 1) (l := 0) (u := 200) rfl
  have h78_ : a 2 1 = a0 2 1 := hf 2 1 rfl
  have h79_ := iv_get hv0 (k := 2) (j := 1) (l := 0) (u := 200) rfl
  have h80_ := iv_get hv (k := 2) (j := 2) (l := 0) (u := 200) rfl
  refine jt_grd (by omega) ?_
  have h81_ := iv_get hv (k := 3) (j := y2.toNat) (l := 0) (u := 255) rfl
  have h82_ : a 3 (y2.toNat) = a0 3 (y2.toNat) := hf 3 (y2.toNat) rfl
  have h83_ := iv_get hv0 (k := 3) (j := y2.toNat) (l := 0) (u := 255) rfl
  refine jt_ite (fun c84_ => ?_) (fun c84_ => ?_)
  ·
    exact cp_X8_takesWord_r1000_96 E d hd a0 b0 hv0 y2 a hv hf (show 3 ≤ y2 from by omega) (show y2 ≤ 200 from by omega) (show 3 ≤ a 2 1 from by omega) (show y2 = (a 2 2) + 3 from by omega) (show y2 ≤ a 2 1 from by omega) (show y2 ≤ 200 from by omega)
  ·
    exact jt_rI ⟨hv, hf, rfl, (show (0 ≤ 0 ∧ 0 ≤ 1) from by omega)⟩
theorem cp_X8_takesWord_r1000_29 (E : jxE) (d : Nat) (hd : Nat.ble 5 (d + 1) = true) (a0 b0 : Nat → Nat → Int) (hv0 : iv a0) : ∀ n : Nat, (∀ (y2 y3 : Int) (a : Nat → Nat → Int), (((3 - y3) * 1) + 0).toNat ≤ n → iv a → jfr jW_X8_takesWord_r1000 a0 a → 3 ≤ y2 → y2 ≤ 200 → 0 ≤ y3 → y3 ≤ 2 → 3 ≤ a 2 1 → y3 < 3 → 0 ≤ y3 → y2 = (a 2 2) + 3 → y2 ≤ a 2 1 → y2 ≤ 200 → jt (jxX E d 128 58 [some (.inr (.inr (.inl 2))), some (.inr (.inr (.inl 1000))), some (.inl y2), some (.inl y3)] [] (jxSH, a, b0)) (jQ_X8_takesWord_r1000 a0 b0)) ∧ (∀ (y2 y3 : Int) (a : Nat → Nat → Int), (((3 - y3) * 1) + 0).toNat ≤ n → iv a → jfr jW_X8_takesWord_r1000 a0 a → 3 ≤ y2 → y2 ≤ 200 → 0 ≤ y3 → y3 ≤ 3 → 3 ≤ a 2 1 → 0 ≤ y3 → y2 = (a 2 2) + 3 → y2 ≤ a 2 1 → y2 ≤ 200 → jt (jxX E d 128 29 [some (.inr (.inr (.inl 2))), some (.inr (.inr (.inl 1000))), some (.inl y2), some (.inl y3)] [] (jxSH, a, b0)) (jQ_X8_takesWord_r1000 a0 b0)) := by
  refine jx_ind fun n ih => ?_
  have ih58 : ∀ (y2 y3 : Int) (a : Nat → Nat → Int), (((3 - y3) * 1) + 0).toNat < n → iv a → jfr jW_X8_takesWord_r1000 a0 a → 3 ≤ y2 → y2 ≤ 200 → 0 ≤ y3 → y3 ≤ 2 → 3 ≤ a 2 1 → y3 < 3 → 0 ≤ y3 → y2 = (a 2 2) + 3 → y2 ≤ a 2 1 → y2 ≤ 200 → jt (jxX E d 128 58 [some (.inr (.inr (.inl 2))), some (.inr (.inr (.inl 1000))), some (.inl y2), some (.inl y3)] [] (jxSH, a, b0)) (jQ_X8_takesWord_r1000 a0 b0) := fun y2 y3 a hlt i0 i1 i2 i3 i4 i5 i6 i7 i8 i9 i10 i11 => (ih _ hlt).1 y2 y3 a (Nat.le_refl _) i0 i1 i2 i3 i4 i5 i6 i7 i8 i9 i10 i11
  have ih29 : ∀ (y2 y3 : Int) (a : Nat → Nat → Int), (((3 - y3) * 1) + 0).toNat < n → iv a → jfr jW_X8_takesWord_r1000 a0 a → 3 ≤ y2 → y2 ≤ 200 → 0 ≤ y3 → y3 ≤ 3 → 3 ≤ a 2 1 → 0 ≤ y3 → y2 = (a 2 2) + 3 → y2 ≤ a 2 1 → y2 ≤ 200 → jt (jxX E d 128 29 [some (.inr (.inr (.inl 2))), some (.inr (.inr (.inl 1000))), some (.inl y2), some (.inl y3)] [] (jxSH, a, b0)) (jQ_X8_takesWord_r1000 a0 b0) := fun y2 y3 a hlt i0 i1 i2 i3 i4 i5 i6 i7 i8 i9 i10 => (ih _ hlt).2 y2 y3 a (Nat.le_refl _) i0 i1 i2 i3 i4 i5 i6 i7 i8 i9 i10
  have hc58 : ∀ (y2 y3 : Int) (a : Nat → Nat → Int), (((3 - y3) * 1) + 0).toNat ≤ n → iv a → jfr jW_X8_takesWord_r1000 a0 a → 3 ≤ y2 → y2 ≤ 200 → 0 ≤ y3 → y3 ≤ 2 → 3 ≤ a 2 1 → y3 < 3 → 0 ≤ y3 → y2 = (a 2 2) + 3 → y2 ≤ a 2 1 → y2 ≤ 200 → jt (jxX E d 128 58 [some (.inr (.inr (.inl 2))), some (.inr (.inr (.inl 1000))), some (.inl y2), some (.inl y3)] [] (jxSH, a, b0)) (jQ_X8_takesWord_r1000 a0 b0) := by
    intro y2 y3 a hm hv hf hi0 hi1 hi2 hi3 hi4 hi5 hi6 hi7 hi8 hi9
    refine jt_eq (bq_X8_takesWord_r1000_58 E d y2 y3 a b0) ?_
    have h85_ := iv_get hv (k := 2) (j := 1) (l := 0) (u := 200) rfl
    have h86_ : a 2 1 = a0 2 1 := hf 2 1 rfl
    have h87_ := iv_get hv0 (k := 2) (j := 1) (l := 0) (u := 200) rfl
    have h88_ := iv_get hv (k := 2) (j := 2) (l := 0) (u := 200) rfl
    have h89_ : jxw (y3 + 1) = y3 + 1 := jxw_id (by omega) (by omega)
    exact ih29 y2 (jxw (y3 + 1)) a (show (((3 - (jxw (y3 + 1))) * 1) + 0).toNat < n from by omega) hv hf (show 3 ≤ y2 from by omega) (show y2 ≤ 200 from by omega) (show 0 ≤ jxw (y3 + 1) from by omega) (show jxw (y3 + 1) ≤ 3 from by omega) (show 3 ≤ a 2 1 from by omega) (show 0 ≤ jxw (y3 + 1) from by omega) (show y2 = (a 2 2) + 3 from by omega) (show y2 ≤ a 2 1 from by omega) (show y2 ≤ 200 from by omega)
  have hc29 : ∀ (y2 y3 : Int) (a : Nat → Nat → Int), (((3 - y3) * 1) + 0).toNat ≤ n → iv a → jfr jW_X8_takesWord_r1000 a0 a → 3 ≤ y2 → y2 ≤ 200 → 0 ≤ y3 → y3 ≤ 3 → 3 ≤ a 2 1 → 0 ≤ y3 → y2 = (a 2 2) + 3 → y2 ≤ a 2 1 → y2 ≤ 200 → jt (jxX E d 128 29 [some (.inr (.inr (.inl 2))), some (.inr (.inr (.inl 1000))), some (.inl y2), some (.inl y3)] [] (jxSH, a, b0)) (jQ_X8_takesWord_r1000 a0 b0) := by
    intro y2 y3 a hm hv hf hi0 hi1 hi2 hi3 hi4 hi5 hi6 hi7 hi8
    refine jt_eq (bq_X8_takesWord_r1000_29 E d y2 y3 a b0) ?_
    have h90_ := iv_get hv (k := 2) (j := 1) (l := 0) (u := 200) rfl
    have h91_ : a 2 1 = a0 2 1 := hf 2 1 rfl
    have h92_ := iv_get hv0 (k := 2) (j := 1) (l := 0) (u := 200) rfl
    have h93_ := iv_get hv (k := 2) (j := 2) (l := 0) (u := 200) rfl
    refine jt_eI (eq_J0_length_8abf5_r1000 E d (jd_le hd rfl) a b0) ?_
    have h94_ := ff_J0_length_8abf5_r1000 a b0
    refine jt_ite (fun c95_ => ?_) (fun c95_ => ?_)
    ·
      have h96_ : jxw ((a 2 2) + y3) = (a 2 2) + y3 := jxw_id (by omega) (by omega)
      refine jt_grd (by omega) ?_
      refine jt_eI (eq_J0_charAt_5068e_r1000 E d (jd_le hd rfl) y3 a b0 (show (0 ≤ y3 ∧ y3 < 3) from by omega)) ?_
      have h97_ := iv_get hv (k := 3) (j := (jxw ((a 2 2) + y3)).toNat) (l := 0) (u := 255) rfl
      have h98_ : a 3 ((jxw ((a 2 2) + y3)).toNat) = a0 3 ((jxw ((a 2 2) + y3)).toNat) := hf 3 ((jxw ((a 2 2) + y3)).toNat) rfl
      have h99_ := iv_get hv0 (k := 3) (j := (jxw ((a 2 2) + y3)).toNat) (l := 0) (u := 255) rfl
      have h100_ := f_J0_charAt_5068e_r1000_eq a b0 y3
      have h101_ := f_J0_isLatin1_aae02_r1000_eq a b0
      have h102_ := f_J1_charAt_3b067_r2000_eq a b0 y3
      have h103_ := jxand_r (([110, 111, 116] : List Int).getD (y3.toNat) 0) 255 (by decide) (by decide)
      have h104_ := jxi2c_b (jxand (([110, 111, 116] : List Int).getD (y3.toNat) 0) 255)
      refine jt_ite (fun c105_ => ?_) (fun c105_ => ?_)
      ·
        exact hc58 y2 y3 a (show (((3 - y3) * 1) + 0).toNat ≤ n from by omega) hv hf (show 3 ≤ y2 from by omega) (show y2 ≤ 200 from by omega) (show 0 ≤ y3 from by omega) (show y3 ≤ 2 from by omega) (show 3 ≤ a 2 1 from by omega) (show y3 < 3 from by omega) (show 0 ≤ y3 from by omega) (show y2 = (a 2 2) + 3 from by omega) (show y2 ≤ a 2 1 from by omega) (show y2 ≤ 200 from by omega)
      ·
        exact cp_X8_takesWord_r1000_56 E d hd a0 b0 hv0 a hv hf (show 3 ≤ a 2 1 from by omega)
    ·
      refine jt_ite (fun c106_ => ?_) (fun c106_ => ?_)
      ·
        refine jt_grd (by omega) ?_
        have h107_ := iv_get hv (k := 3) (j := y2.toNat) (l := 0) (u := 255) rfl
        have h108_ : a 3 (y2.toNat) = a0 3 (y2.toNat) := hf 3 (y2.toNat) rfl
        have h109_ := iv_get hv0 (k := 3) (j := y2.toNat) (l := 0) (u := 255) rfl
        refine jt_ite (fun c110_ => ?_) (fun c110_ => ?_)
        ·
          exact cp_X8_takesWord_r1000_96 E d hd a0 b0 hv0 y2 a hv hf (show 3 ≤ y2 from by omega) (show y2 ≤ 200 from by omega) (show 3 ≤ a 2 1 from by omega) (show y2 = (a 2 2) + 3 from by omega) (show y2 ≤ a 2 1 from by omega) (show y2 ≤ 200 from by omega)
        ·
          exact cp_X8_takesWord_r1000_83 E d hd a0 b0 hv0 y2 a hv hf (show 3 ≤ y2 from by omega) (show y2 ≤ 199 from by omega) (show 4 ≤ a 2 1 from by omega) (show y2 = (a 2 2) + 3 from by omega) (show y2 ≤ a 2 1 from by omega) (show y2 ≤ 200 from by omega)
      ·
        exact cp_X8_takesWord_r1000_96 E d hd a0 b0 hv0 y2 a hv hf (show 3 ≤ y2 from by omega) (show y2 ≤ 200 from by omega) (show 3 ≤ a 2 1 from by omega) (show y2 = (a 2 2) + 3 from by omega) (show y2 ≤ a 2 1 from by omega) (show y2 ≤ 200 from by omega)
  exact ⟨hc58, hc29⟩
theorem sp_X8_takesWord_r1000 (E : jxE) (d : Nat) (hd : Nat.ble 5 d = true) (a0 b0 : Nat → Nat → Int) (hv0 : iv a0) : jt (jxC E d 128 [.inr (.inr (.inl 2)), .inr (.inr (.inl 1000))] (jxSH, a0, b0)) (jQ_X8_takesWord_r1000 a0 b0) := by
  obtain ⟨d, rfl⟩ := jd_succ hd
  refine jt_eq (bq_X8_takesWord_r1000 E d a0 b0) ?_
  refine jt_eI (eq_J0_length_8abf5_r1000 E d (jd_le hd rfl) a0 b0) ?_
  refine jt_eI (eq_X8_isFaulty E d (jd_le hd rfl) a0 b0) ?_
  have h111_ := f_X8_isFaulty_eq a0 b0
  refine jt_ite (fun c112_ => ?_) (fun c112_ => ?_)
  ·
    have h113_ := iv_get hv0 (k := 2) (j := 1) (l := 0) (u := 200) rfl
    have h114_ := iv_get hv0 (k := 2) (j := 2) (l := 0) (u := 200) rfl
    have h115_ := ff_J0_length_8abf5_r1000 a0 b0
    have h116_ : jxw ((a0 2 2) + (f_J0_length_8abf5_r1000 a0 b0)) = (a0 2 2) + (f_J0_length_8abf5_r1000 a0 b0) := jxw_id (by omega) (by omega)
    refine jt_ite (fun c117_ => ?_) (fun c117_ => ?_)
    ·
      exact jt_rI ⟨hv0, (jfr_rf _ _), rfl, (show (0 ≤ 0 ∧ 0 ≤ 1) from by omega)⟩
    ·
      exact (cp_X8_takesWord_r1000_29 E d hd a0 b0 hv0 _).2 (jxw ((a0 2 2) + (f_J0_length_8abf5_r1000 a0 b0))) 0 a0 (Nat.le_refl _) hv0 (jfr_rf _ _) (show 3 ≤ jxw ((a0 2 2) + (f_J0_length_8abf5_r1000 a0 b0)) from by omega) (show jxw ((a0 2 2) + (f_J0_length_8abf5_r1000 a0 b0)) ≤ 200 from by omega) (show 0 ≤ 0 from by omega) (show 0 ≤ 3 from by omega) (show 3 ≤ a0 2 1 from by omega) (show 0 ≤ 0 from by omega) (show jxw ((a0 2 2) + (f_J0_length_8abf5_r1000 a0 b0)) = (a0 2 2) + 3 from by omega) (show jxw ((a0 2 2) + (f_J0_length_8abf5_r1000 a0 b0)) ≤ a0 2 1 from by omega) (show jxw ((a0 2 2) + (f_J0_length_8abf5_r1000 a0 b0)) ≤ 200 from by omega)
  ·
    exact jt_rI ⟨hv0, (jfr_rf _ _), rfl, (show (0 ≤ 0 ∧ 0 ≤ 1) from by omega)⟩
def jW_X8_takesWord_r1001 : List (Nat × Nat) := [(2, 2)]
abbrev jQ_X8_takesWord_r1001 (a0 b0 : Nat → Nat → Int) : List jxV → (Nat → Nat → Int) → (Nat → Nat → Int) → Prop := rI (fun r a b => (iv a) ∧ (jfr jW_X8_takesWord_r1001 a0 a) ∧ (b0 = b) ∧ ((0 ≤ r ∧ r ≤ 1)))
theorem cp_X8_takesWord_r1001_56 (E : jxE) (d : Nat) (hd : Nat.ble 5 (d + 1) = true) (a0 b0 : Nat → Nat → Int) (hv0 : iv a0) : ∀ (a : Nat → Nat → Int), iv a → jfr jW_X8_takesWord_r1001 a0 a → 4 ≤ a 2 1 → jt (jxX E d 128 56 [none, none, none, none] [] (jxSH, a, b0)) (jQ_X8_takesWord_r1001 a0 b0) := by
  intro a hv hf hi0
  refine jt_eq (bq_X8_takesWord_r1001_56 E d a b0) ?_
  have h118_ := iv_get hv (k := 2) (j := 1) (l := 0) (u := 200) rfl
  have h119_ : a 2 1 = a0 2 1 := hf 2 1 rfl
  have h120_ := iv_get hv0 (k := 2) (j := 1) (l := 0) (u := 200) rfl
  exact jt_rI ⟨hv, hf, rfl, (show (0 ≤ 0 ∧ 0 ≤ 1) from by omega)⟩
theorem cp_X8_takesWord_r1001_96 (E : jxE) (d : Nat) (hd : Nat.ble 5 (d + 1) = true) (a0 b0 : Nat → Nat → Int) (hv0 : iv a0) : ∀ (y2 : Int) (a : Nat → Nat → Int), iv a → jfr jW_X8_takesWord_r1001 a0 a → 4 ≤ y2 → y2 ≤ 200 → 4 ≤ a 2 1 → y2 = (a 2 2) + 4 → y2 ≤ a 2 1 → y2 ≤ 200 → jt (jxX E d 128 96 [some (.inr (.inr (.inl 2))), none, some (.inl y2), none] [] (jxSH, a, b0)) (jQ_X8_takesWord_r1001 a0 b0) := by
  intro y2 a hv hf hi0 hi1 hi2 hi3 hi4 hi5
  refine jt_eq (bq_X8_takesWord_r1001_96 E d y2 a b0) ?_
  have h121_ := iv_get hv (k := 2) (j := 1) (l := 0) (u := 200) rfl
  have h122_ : a 2 1 = a0 2 1 := hf 2 1 rfl
  have h123_ := iv_get hv0 (k := 2) (j := 1) (l := 0) (u := 200) rfl
  have h124_ := iv_get hv (k := 2) (j := 2) (l := 0) (u := 200) rfl
  have hv125_ : iv (jxu a 2 2 y2) := iv_put hv (l := 0) (u := 200) rfl (by omega) (by omega)
  refine jt_bV (sp_X8_skipBlanks E d (jd_le hd rfl) (jxu a 2 2 y2) b0 hv125_) (fun a126_ b126_ h126_ => ?_)
  obtain ⟨hv126_, hf126_, rfl⟩ := h126_
  have hf127_ : jfr jW_X8_takesWord_r1001 a0 (jxu a 2 2 y2) := jfr_put hf rfl
  have hf128_ : jfr jW_X8_takesWord_r1001 a0 a126_ := jfr_tr hf127_ hf126_ rfl
  exact jt_rI ⟨hv126_, hf128_, rfl, (show (0 ≤ 1 ∧ 1 ≤ 1) from by omega)⟩
theorem cp_X8_takesWord_r1001_83 (E : jxE) (d : Nat) (hd : Nat.ble 5 (d + 1) = true) (a0 b0 : Nat → Nat → Int) (hv0 : iv a0) : ∀ (y2 : Int) (a : Nat → Nat → Int), iv a → jfr jW_X8_takesWord_r1001 a0 a → 4 ≤ y2 → y2 ≤ 199 → 5 ≤ a 2 1 → y2 = (a 2 2) + 4 → y2 ≤ a 2 1 → y2 ≤ 200 → jt (jxX E d 128 83 [some (.inr (.inr (.inl 2))), none, some (.inl y2), none] [] (jxSH, a, b0)) (jQ_X8_takesWord_r1001 a0 b0) := by
  intro y2 a hv hf hi0 hi1 hi2 hi3 hi4 hi5
  refine jt_eq (bq_X8_takesWord_r1001_83 E d y2 a b0) ?_
  have h129_ := iv_get hv (k := 2) (j := 1) (l := 0) (u := 200) rfl
  have h130_ : a 2 1 = a0 2 1 := hf 2 1 rfl
  have h131_ := iv_get hv0 (k := 2) (j := 1) (l := 0) (u := 200) rfl
  have h132_ := iv_get hv (k := 2) (j := 2) (l := 0) (u := 200) rfl
  refine jt_grd (by omega) ?_
  have h133_ := iv_get hv (k := 3) (j := y2.toNat) (l := 0) (u := 255) rfl
  have h134_ : a 3 (y2.toNat) = a0 3 (y2.toNat) := hf 3 (y2.toNat) rfl
  have h135_ := iv_get hv0 (k := 3) (j := y2.toNat) (l := 0) (u := 255) rfl
  refine jt_ite (fun c136_ => ?_) (fun c136_ => ?_)
  ·
    exact cp_X8_takesWord_r1001_96 E d hd a0 b0 hv0 y2 a hv hf (show 4 ≤ y2 from by omega) (show y2 ≤ 200 from by omega) (show 4 ≤ a 2 1 from by omega) (show y2 = (a 2 2) + 4 from by omega) (show y2 ≤ a 2 1 from by omega) (show y2 ≤ 200 from by omega)
  ·
    exact jt_rI ⟨hv, hf, rfl, (show (0 ≤ 0 ∧ 0 ≤ 1) from by omega)⟩
theorem cp_X8_takesWord_r1001_29 (E : jxE) (d : Nat) (hd : Nat.ble 5 (d + 1) = true) (a0 b0 : Nat → Nat → Int) (hv0 : iv a0) : ∀ n : Nat, (∀ (y2 y3 : Int) (a : Nat → Nat → Int), (((4 - y3) * 1) + 0).toNat ≤ n → iv a → jfr jW_X8_takesWord_r1001 a0 a → 4 ≤ y2 → y2 ≤ 200 → 0 ≤ y3 → y3 ≤ 3 → 4 ≤ a 2 1 → y3 < 4 → 0 ≤ y3 → y2 = (a 2 2) + 4 → y2 ≤ a 2 1 → y2 ≤ 200 → jt (jxX E d 128 58 [some (.inr (.inr (.inl 2))), some (.inr (.inr (.inl 1001))), some (.inl y2), some (.inl y3)] [] (jxSH, a, b0)) (jQ_X8_takesWord_r1001 a0 b0)) ∧ (∀ (y2 y3 : Int) (a : Nat → Nat → Int), (((4 - y3) * 1) + 0).toNat ≤ n → iv a → jfr jW_X8_takesWord_r1001 a0 a → 4 ≤ y2 → y2 ≤ 200 → 0 ≤ y3 → y3 ≤ 4 → 4 ≤ a 2 1 → 0 ≤ y3 → y2 = (a 2 2) + 4 → y2 ≤ a 2 1 → y2 ≤ 200 → jt (jxX E d 128 29 [some (.inr (.inr (.inl 2))), some (.inr (.inr (.inl 1001))), some (.inl y2), some (.inl y3)] [] (jxSH, a, b0)) (jQ_X8_takesWord_r1001 a0 b0)) := by
  refine jx_ind fun n ih => ?_
  have ih58 : ∀ (y2 y3 : Int) (a : Nat → Nat → Int), (((4 - y3) * 1) + 0).toNat < n → iv a → jfr jW_X8_takesWord_r1001 a0 a → 4 ≤ y2 → y2 ≤ 200 → 0 ≤ y3 → y3 ≤ 3 → 4 ≤ a 2 1 → y3 < 4 → 0 ≤ y3 → y2 = (a 2 2) + 4 → y2 ≤ a 2 1 → y2 ≤ 200 → jt (jxX E d 128 58 [some (.inr (.inr (.inl 2))), some (.inr (.inr (.inl 1001))), some (.inl y2), some (.inl y3)] [] (jxSH, a, b0)) (jQ_X8_takesWord_r1001 a0 b0) := fun y2 y3 a hlt i0 i1 i2 i3 i4 i5 i6 i7 i8 i9 i10 i11 => (ih _ hlt).1 y2 y3 a (Nat.le_refl _) i0 i1 i2 i3 i4 i5 i6 i7 i8 i9 i10 i11
  have ih29 : ∀ (y2 y3 : Int) (a : Nat → Nat → Int), (((4 - y3) * 1) + 0).toNat < n → iv a → jfr jW_X8_takesWord_r1001 a0 a → 4 ≤ y2 → y2 ≤ 200 → 0 ≤ y3 → y3 ≤ 4 → 4 ≤ a 2 1 → 0 ≤ y3 → y2 = (a 2 2) + 4 → y2 ≤ a 2 1 → y2 ≤ 200 → jt (jxX E d 128 29 [some (.inr (.inr (.inl 2))), some (.inr (.inr (.inl 1001))), some (.inl y2), some (.inl y3)] [] (jxSH, a, b0)) (jQ_X8_takesWord_r1001 a0 b0) := fun y2 y3 a hlt i0 i1 i2 i3 i4 i5 i6 i7 i8 i9 i10 => (ih _ hlt).2 y2 y3 a (Nat.le_refl _) i0 i1 i2 i3 i4 i5 i6 i7 i8 i9 i10
  have hc58 : ∀ (y2 y3 : Int) (a : Nat → Nat → Int), (((4 - y3) * 1) + 0).toNat ≤ n → iv a → jfr jW_X8_takesWord_r1001 a0 a → 4 ≤ y2 → y2 ≤ 200 → 0 ≤ y3 → y3 ≤ 3 → 4 ≤ a 2 1 → y3 < 4 → 0 ≤ y3 → y2 = (a 2 2) + 4 → y2 ≤ a 2 1 → y2 ≤ 200 → jt (jxX E d 128 58 [some (.inr (.inr (.inl 2))), some (.inr (.inr (.inl 1001))), some (.inl y2), some (.inl y3)] [] (jxSH, a, b0)) (jQ_X8_takesWord_r1001 a0 b0) := by
    intro y2 y3 a hm hv hf hi0 hi1 hi2 hi3 hi4 hi5 hi6 hi7 hi8 hi9
    refine jt_eq (bq_X8_takesWord_r1001_58 E d y2 y3 a b0) ?_
    have h137_ := iv_get hv (k := 2) (j := 1) (l := 0) (u := 200) rfl
    have h138_ : a 2 1 = a0 2 1 := hf 2 1 rfl
    have h139_ := iv_get hv0 (k := 2) (j := 1) (l := 0) (u := 200) rfl
    have h140_ := iv_get hv (k := 2) (j := 2) (l := 0) (u := 200) rfl
    have h141_ : jxw (y3 + 1) = y3 + 1 := jxw_id (by omega) (by omega)
    exact ih29 y2 (jxw (y3 + 1)) a (show (((4 - (jxw (y3 + 1))) * 1) + 0).toNat < n from by omega) hv hf (show 4 ≤ y2 from by omega) (show y2 ≤ 200 from by omega) (show 0 ≤ jxw (y3 + 1) from by omega) (show jxw (y3 + 1) ≤ 4 from by omega) (show 4 ≤ a 2 1 from by omega) (show 0 ≤ jxw (y3 + 1) from by omega) (show y2 = (a 2 2) + 4 from by omega) (show y2 ≤ a 2 1 from by omega) (show y2 ≤ 200 from by omega)
  have hc29 : ∀ (y2 y3 : Int) (a : Nat → Nat → Int), (((4 - y3) * 1) + 0).toNat ≤ n → iv a → jfr jW_X8_takesWord_r1001 a0 a → 4 ≤ y2 → y2 ≤ 200 → 0 ≤ y3 → y3 ≤ 4 → 4 ≤ a 2 1 → 0 ≤ y3 → y2 = (a 2 2) + 4 → y2 ≤ a 2 1 → y2 ≤ 200 → jt (jxX E d 128 29 [some (.inr (.inr (.inl 2))), some (.inr (.inr (.inl 1001))), some (.inl y2), some (.inl y3)] [] (jxSH, a, b0)) (jQ_X8_takesWord_r1001 a0 b0) := by
    intro y2 y3 a hm hv hf hi0 hi1 hi2 hi3 hi4 hi5 hi6 hi7 hi8
    refine jt_eq (bq_X8_takesWord_r1001_29 E d y2 y3 a b0) ?_
    have h142_ := iv_get hv (k := 2) (j := 1) (l := 0) (u := 200) rfl
    have h143_ : a 2 1 = a0 2 1 := hf 2 1 rfl
    have h144_ := iv_get hv0 (k := 2) (j := 1) (l := 0) (u := 200) rfl
    have h145_ := iv_get hv (k := 2) (j := 2) (l := 0) (u := 200) rfl
    refine jt_eI (eq_J0_length_8abf5_r1001 E d (jd_le hd rfl) a b0) ?_
    have h146_ := ff_J0_length_8abf5_r1001 a b0
    refine jt_ite (fun c147_ => ?_) (fun c147_ => ?_)
    ·
      have h148_ : jxw ((a 2 2) + y3) = (a 2 2) + y3 := jxw_id (by omega) (by omega)
      refine jt_grd (by omega) ?_
      refine jt_eI (eq_J0_charAt_5068e_r1001 E d (jd_le hd rfl) y3 a b0 (show (0 ≤ y3 ∧ y3 < 4) from by omega)) ?_
      have h149_ := iv_get hv (k := 3) (j := (jxw ((a 2 2) + y3)).toNat) (l := 0) (u := 255) rfl
      have h150_ : a 3 ((jxw ((a 2 2) + y3)).toNat) = a0 3 ((jxw ((a 2 2) + y3)).toNat) := hf 3 ((jxw ((a 2 2) + y3)).toNat) rfl
      have h151_ := iv_get hv0 (k := 3) (j := (jxw ((a 2 2) + y3)).toNat) (l := 0) (u := 255) rfl
      have h152_ := f_J0_charAt_5068e_r1001_eq a b0 y3
      have h153_ := f_J0_isLatin1_aae02_r1001_eq a b0
      have h154_ := f_J1_charAt_3b067_r2001_eq a b0 y3
      have h155_ := jxand_r (([108, 97, 110, 100] : List Int).getD (y3.toNat) 0) 255 (by decide) (by decide)
      have h156_ := jxi2c_b (jxand (([108, 97, 110, 100] : List Int).getD (y3.toNat) 0) 255)
      refine jt_ite (fun c157_ => ?_) (fun c157_ => ?_)
      ·
        exact hc58 y2 y3 a (show (((4 - y3) * 1) + 0).toNat ≤ n from by omega) hv hf (show 4 ≤ y2 from by omega) (show y2 ≤ 200 from by omega) (show 0 ≤ y3 from by omega) (show y3 ≤ 3 from by omega) (show 4 ≤ a 2 1 from by omega) (show y3 < 4 from by omega) (show 0 ≤ y3 from by omega) (show y2 = (a 2 2) + 4 from by omega) (show y2 ≤ a 2 1 from by omega) (show y2 ≤ 200 from by omega)
      ·
        exact cp_X8_takesWord_r1001_56 E d hd a0 b0 hv0 a hv hf (show 4 ≤ a 2 1 from by omega)
    ·
      refine jt_ite (fun c158_ => ?_) (fun c158_ => ?_)
      ·
        refine jt_grd (by omega) ?_
        have h159_ := iv_get hv (k := 3) (j := y2.toNat) (l := 0) (u := 255) rfl
        have h160_ : a 3 (y2.toNat) = a0 3 (y2.toNat) := hf 3 (y2.toNat) rfl
        have h161_ := iv_get hv0 (k := 3) (j := y2.toNat) (l := 0) (u := 255) rfl
        refine jt_ite (fun c162_ => ?_) (fun c162_ => ?_)
        ·
          exact cp_X8_takesWord_r1001_96 E d hd a0 b0 hv0 y2 a hv hf (show 4 ≤ y2 from by omega) (show y2 ≤ 200 from by omega) (show 4 ≤ a 2 1 from by omega) (show y2 = (a 2 2) + 4 from by omega) (show y2 ≤ a 2 1 from by omega) (show y2 ≤ 200 from by omega)
        ·
          exact cp_X8_takesWord_r1001_83 E d hd a0 b0 hv0 y2 a hv hf (show 4 ≤ y2 from by omega) (show y2 ≤ 199 from by omega) (show 5 ≤ a 2 1 from by omega) (show y2 = (a 2 2) + 4 from by omega) (show y2 ≤ a 2 1 from by omega) (show y2 ≤ 200 from by omega)
      ·
        exact cp_X8_takesWord_r1001_96 E d hd a0 b0 hv0 y2 a hv hf (show 4 ≤ y2 from by omega) (show y2 ≤ 200 from by omega) (show 4 ≤ a 2 1 from by omega) (show y2 = (a 2 2) + 4 from by omega) (show y2 ≤ a 2 1 from by omega) (show y2 ≤ 200 from by omega)
  exact ⟨hc58, hc29⟩
theorem sp_X8_takesWord_r1001 (E : jxE) (d : Nat) (hd : Nat.ble 5 d = true) (a0 b0 : Nat → Nat → Int) (hv0 : iv a0) : jt (jxC E d 128 [.inr (.inr (.inl 2)), .inr (.inr (.inl 1001))] (jxSH, a0, b0)) (jQ_X8_takesWord_r1001 a0 b0) := by
  obtain ⟨d, rfl⟩ := jd_succ hd
  refine jt_eq (bq_X8_takesWord_r1001 E d a0 b0) ?_
  refine jt_eI (eq_J0_length_8abf5_r1001 E d (jd_le hd rfl) a0 b0) ?_
  refine jt_eI (eq_X8_isFaulty E d (jd_le hd rfl) a0 b0) ?_
  have h163_ := f_X8_isFaulty_eq a0 b0
  refine jt_ite (fun c164_ => ?_) (fun c164_ => ?_)
  ·
    have h165_ := iv_get hv0 (k := 2) (j := 1) (l := 0) (u := 200) rfl
    have h166_ := iv_get hv0 (k := 2) (j := 2) (l := 0) (u := 200) rfl
    have h167_ := ff_J0_length_8abf5_r1001 a0 b0
    have h168_ : jxw ((a0 2 2) + (f_J0_length_8abf5_r1001 a0 b0)) = (a0 2 2) + (f_J0_length_8abf5_r1001 a0 b0) := jxw_id (by omega) (by omega)
    refine jt_ite (fun c169_ => ?_) (fun c169_ => ?_)
    ·
      exact jt_rI ⟨hv0, (jfr_rf _ _), rfl, (show (0 ≤ 0 ∧ 0 ≤ 1) from by omega)⟩
    ·
      exact (cp_X8_takesWord_r1001_29 E d hd a0 b0 hv0 _).2 (jxw ((a0 2 2) + (f_J0_length_8abf5_r1001 a0 b0))) 0 a0 (Nat.le_refl _) hv0 (jfr_rf _ _) (show 4 ≤ jxw ((a0 2 2) + (f_J0_length_8abf5_r1001 a0 b0)) from by omega) (show jxw ((a0 2 2) + (f_J0_length_8abf5_r1001 a0 b0)) ≤ 200 from by omega) (show 0 ≤ 0 from by omega) (show 0 ≤ 4 from by omega) (show 4 ≤ a0 2 1 from by omega) (show 0 ≤ 0 from by omega) (show jxw ((a0 2 2) + (f_J0_length_8abf5_r1001 a0 b0)) = (a0 2 2) + 4 from by omega) (show jxw ((a0 2 2) + (f_J0_length_8abf5_r1001 a0 b0)) ≤ a0 2 1 from by omega) (show jxw ((a0 2 2) + (f_J0_length_8abf5_r1001 a0 b0)) ≤ 200 from by omega)
  ·
    exact jt_rI ⟨hv0, (jfr_rf _ _), rfl, (show (0 ≤ 0 ∧ 0 ≤ 1) from by omega)⟩
def jW_X8_takesWord_r1002 : List (Nat × Nat) := [(2, 2)]
abbrev jQ_X8_takesWord_r1002 (a0 b0 : Nat → Nat → Int) : List jxV → (Nat → Nat → Int) → (Nat → Nat → Int) → Prop := rI (fun r a b => (iv a) ∧ (jfr jW_X8_takesWord_r1002 a0 a) ∧ (b0 = b) ∧ ((0 ≤ r ∧ r ≤ 1)))
theorem cp_X8_takesWord_r1002_56 (E : jxE) (d : Nat) (hd : Nat.ble 5 (d + 1) = true) (a0 b0 : Nat → Nat → Int) (hv0 : iv a0) : ∀ (a : Nat → Nat → Int), iv a → jfr jW_X8_takesWord_r1002 a0 a → 6 ≤ a 2 1 → jt (jxX E d 128 56 [none, none, none, none] [] (jxSH, a, b0)) (jQ_X8_takesWord_r1002 a0 b0) := by
  intro a hv hf hi0
  refine jt_eq (bq_X8_takesWord_r1002_56 E d a b0) ?_
  have h170_ := iv_get hv (k := 2) (j := 1) (l := 0) (u := 200) rfl
  have h171_ : a 2 1 = a0 2 1 := hf 2 1 rfl
  have h172_ := iv_get hv0 (k := 2) (j := 1) (l := 0) (u := 200) rfl
  exact jt_rI ⟨hv, hf, rfl, (show (0 ≤ 0 ∧ 0 ≤ 1) from by omega)⟩
theorem cp_X8_takesWord_r1002_96 (E : jxE) (d : Nat) (hd : Nat.ble 5 (d + 1) = true) (a0 b0 : Nat → Nat → Int) (hv0 : iv a0) : ∀ (y2 : Int) (a : Nat → Nat → Int), iv a → jfr jW_X8_takesWord_r1002 a0 a → 6 ≤ y2 → y2 ≤ 200 → 6 ≤ a 2 1 → y2 = (a 2 2) + 6 → y2 ≤ a 2 1 → y2 ≤ 200 → jt (jxX E d 128 96 [some (.inr (.inr (.inl 2))), none, some (.inl y2), none] [] (jxSH, a, b0)) (jQ_X8_takesWord_r1002 a0 b0) := by
  intro y2 a hv hf hi0 hi1 hi2 hi3 hi4 hi5
  refine jt_eq (bq_X8_takesWord_r1002_96 E d y2 a b0) ?_
  have h173_ := iv_get hv (k := 2) (j := 1) (l := 0) (u := 200) rfl
  have h174_ : a 2 1 = a0 2 1 := hf 2 1 rfl
  have h175_ := iv_get hv0 (k := 2) (j := 1) (l := 0) (u := 200) rfl
  have h176_ := iv_get hv (k := 2) (j := 2) (l := 0) (u := 200) rfl
  have hv177_ : iv (jxu a 2 2 y2) := iv_put hv (l := 0) (u := 200) rfl (by omega) (by omega)
  refine jt_bV (sp_X8_skipBlanks E d (jd_le hd rfl) (jxu a 2 2 y2) b0 hv177_) (fun a178_ b178_ h178_ => ?_)
  obtain ⟨hv178_, hf178_, rfl⟩ := h178_
  have hf179_ : jfr jW_X8_takesWord_r1002 a0 (jxu a 2 2 y2) := jfr_put hf rfl
  have hf180_ : jfr jW_X8_takesWord_r1002 a0 a178_ := jfr_tr hf179_ hf178_ rfl
  exact jt_rI ⟨hv178_, hf180_, rfl, (show (0 ≤ 1 ∧ 1 ≤ 1) from by omega)⟩
theorem cp_X8_takesWord_r1002_83 (E : jxE) (d : Nat) (hd : Nat.ble 5 (d + 1) = true) (a0 b0 : Nat → Nat → Int) (hv0 : iv a0) : ∀ (y2 : Int) (a : Nat → Nat → Int), iv a → jfr jW_X8_takesWord_r1002 a0 a → 6 ≤ y2 → y2 ≤ 199 → 7 ≤ a 2 1 → y2 = (a 2 2) + 6 → y2 ≤ a 2 1 → y2 ≤ 200 → jt (jxX E d 128 83 [some (.inr (.inr (.inl 2))), none, some (.inl y2), none] [] (jxSH, a, b0)) (jQ_X8_takesWord_r1002 a0 b0) := by
  intro y2 a hv hf hi0 hi1 hi2 hi3 hi4 hi5
  refine jt_eq (bq_X8_takesWord_r1002_83 E d y2 a b0) ?_
  have h181_ := iv_get hv (k := 2) (j := 1) (l := 0) (u := 200) rfl
  have h182_ : a 2 1 = a0 2 1 := hf 2 1 rfl
  have h183_ := iv_get hv0 (k := 2) (j := 1) (l := 0) (u := 200) rfl
  have h184_ := iv_get hv (k := 2) (j := 2) (l := 0) (u := 200) rfl
  refine jt_grd (by omega) ?_
  have h185_ := iv_get hv (k := 3) (j := y2.toNat) (l := 0) (u := 255) rfl
  have h186_ : a 3 (y2.toNat) = a0 3 (y2.toNat) := hf 3 (y2.toNat) rfl
  have h187_ := iv_get hv0 (k := 3) (j := y2.toNat) (l := 0) (u := 255) rfl
  refine jt_ite (fun c188_ => ?_) (fun c188_ => ?_)
  ·
    exact cp_X8_takesWord_r1002_96 E d hd a0 b0 hv0 y2 a hv hf (show 6 ≤ y2 from by omega) (show y2 ≤ 200 from by omega) (show 6 ≤ a 2 1 from by omega) (show y2 = (a 2 2) + 6 from by omega) (show y2 ≤ a 2 1 from by omega) (show y2 ≤ 200 from by omega)
  ·
    exact jt_rI ⟨hv, hf, rfl, (show (0 ≤ 0 ∧ 0 ≤ 1) from by omega)⟩
theorem cp_X8_takesWord_r1002_29 (E : jxE) (d : Nat) (hd : Nat.ble 5 (d + 1) = true) (a0 b0 : Nat → Nat → Int) (hv0 : iv a0) : ∀ n : Nat, (∀ (y2 y3 : Int) (a : Nat → Nat → Int), (((6 - y3) * 1) + 0).toNat ≤ n → iv a → jfr jW_X8_takesWord_r1002 a0 a → 6 ≤ y2 → y2 ≤ 200 → 0 ≤ y3 → y3 ≤ 5 → 6 ≤ a 2 1 → y3 < 6 → 0 ≤ y3 → y2 = (a 2 2) + 6 → y2 ≤ a 2 1 → y2 ≤ 200 → jt (jxX E d 128 58 [some (.inr (.inr (.inl 2))), some (.inr (.inr (.inl 1002))), some (.inl y2), some (.inl y3)] [] (jxSH, a, b0)) (jQ_X8_takesWord_r1002 a0 b0)) ∧ (∀ (y2 y3 : Int) (a : Nat → Nat → Int), (((6 - y3) * 1) + 0).toNat ≤ n → iv a → jfr jW_X8_takesWord_r1002 a0 a → 6 ≤ y2 → y2 ≤ 200 → 0 ≤ y3 → y3 ≤ 6 → 6 ≤ a 2 1 → 0 ≤ y3 → y2 = (a 2 2) + 6 → y2 ≤ a 2 1 → y2 ≤ 200 → jt (jxX E d 128 29 [some (.inr (.inr (.inl 2))), some (.inr (.inr (.inl 1002))), some (.inl y2), some (.inl y3)] [] (jxSH, a, b0)) (jQ_X8_takesWord_r1002 a0 b0)) := by
  refine jx_ind fun n ih => ?_
  have ih58 : ∀ (y2 y3 : Int) (a : Nat → Nat → Int), (((6 - y3) * 1) + 0).toNat < n → iv a → jfr jW_X8_takesWord_r1002 a0 a → 6 ≤ y2 → y2 ≤ 200 → 0 ≤ y3 → y3 ≤ 5 → 6 ≤ a 2 1 → y3 < 6 → 0 ≤ y3 → y2 = (a 2 2) + 6 → y2 ≤ a 2 1 → y2 ≤ 200 → jt (jxX E d 128 58 [some (.inr (.inr (.inl 2))), some (.inr (.inr (.inl 1002))), some (.inl y2), some (.inl y3)] [] (jxSH, a, b0)) (jQ_X8_takesWord_r1002 a0 b0) := fun y2 y3 a hlt i0 i1 i2 i3 i4 i5 i6 i7 i8 i9 i10 i11 => (ih _ hlt).1 y2 y3 a (Nat.le_refl _) i0 i1 i2 i3 i4 i5 i6 i7 i8 i9 i10 i11
  have ih29 : ∀ (y2 y3 : Int) (a : Nat → Nat → Int), (((6 - y3) * 1) + 0).toNat < n → iv a → jfr jW_X8_takesWord_r1002 a0 a → 6 ≤ y2 → y2 ≤ 200 → 0 ≤ y3 → y3 ≤ 6 → 6 ≤ a 2 1 → 0 ≤ y3 → y2 = (a 2 2) + 6 → y2 ≤ a 2 1 → y2 ≤ 200 → jt (jxX E d 128 29 [some (.inr (.inr (.inl 2))), some (.inr (.inr (.inl 1002))), some (.inl y2), some (.inl y3)] [] (jxSH, a, b0)) (jQ_X8_takesWord_r1002 a0 b0) := fun y2 y3 a hlt i0 i1 i2 i3 i4 i5 i6 i7 i8 i9 i10 => (ih _ hlt).2 y2 y3 a (Nat.le_refl _) i0 i1 i2 i3 i4 i5 i6 i7 i8 i9 i10
  have hc58 : ∀ (y2 y3 : Int) (a : Nat → Nat → Int), (((6 - y3) * 1) + 0).toNat ≤ n → iv a → jfr jW_X8_takesWord_r1002 a0 a → 6 ≤ y2 → y2 ≤ 200 → 0 ≤ y3 → y3 ≤ 5 → 6 ≤ a 2 1 → y3 < 6 → 0 ≤ y3 → y2 = (a 2 2) + 6 → y2 ≤ a 2 1 → y2 ≤ 200 → jt (jxX E d 128 58 [some (.inr (.inr (.inl 2))), some (.inr (.inr (.inl 1002))), some (.inl y2), some (.inl y3)] [] (jxSH, a, b0)) (jQ_X8_takesWord_r1002 a0 b0) := by
    intro y2 y3 a hm hv hf hi0 hi1 hi2 hi3 hi4 hi5 hi6 hi7 hi8 hi9
    refine jt_eq (bq_X8_takesWord_r1002_58 E d y2 y3 a b0) ?_
    have h189_ := iv_get hv (k := 2) (j := 1) (l := 0) (u := 200) rfl
    have h190_ : a 2 1 = a0 2 1 := hf 2 1 rfl
    have h191_ := iv_get hv0 (k := 2) (j := 1) (l := 0) (u := 200) rfl
    have h192_ := iv_get hv (k := 2) (j := 2) (l := 0) (u := 200) rfl
    have h193_ : jxw (y3 + 1) = y3 + 1 := jxw_id (by omega) (by omega)
    exact ih29 y2 (jxw (y3 + 1)) a (show (((6 - (jxw (y3 + 1))) * 1) + 0).toNat < n from by omega) hv hf (show 6 ≤ y2 from by omega) (show y2 ≤ 200 from by omega) (show 0 ≤ jxw (y3 + 1) from by omega) (show jxw (y3 + 1) ≤ 6 from by omega) (show 6 ≤ a 2 1 from by omega) (show 0 ≤ jxw (y3 + 1) from by omega) (show y2 = (a 2 2) + 6 from by omega) (show y2 ≤ a 2 1 from by omega) (show y2 ≤ 200 from by omega)
  have hc29 : ∀ (y2 y3 : Int) (a : Nat → Nat → Int), (((6 - y3) * 1) + 0).toNat ≤ n → iv a → jfr jW_X8_takesWord_r1002 a0 a → 6 ≤ y2 → y2 ≤ 200 → 0 ≤ y3 → y3 ≤ 6 → 6 ≤ a 2 1 → 0 ≤ y3 → y2 = (a 2 2) + 6 → y2 ≤ a 2 1 → y2 ≤ 200 → jt (jxX E d 128 29 [some (.inr (.inr (.inl 2))), some (.inr (.inr (.inl 1002))), some (.inl y2), some (.inl y3)] [] (jxSH, a, b0)) (jQ_X8_takesWord_r1002 a0 b0) := by
    intro y2 y3 a hm hv hf hi0 hi1 hi2 hi3 hi4 hi5 hi6 hi7 hi8
    refine jt_eq (bq_X8_takesWord_r1002_29 E d y2 y3 a b0) ?_
    have h194_ := iv_get hv (k := 2) (j := 1) (l := 0) (u := 200) rfl
    have h195_ : a 2 1 = a0 2 1 := hf 2 1 rfl
    have h196_ := iv_get hv0 (k := 2) (j := 1) (l := 0) (u := 200) rfl
    have h197_ := iv_get hv (k := 2) (j := 2) (l := 0) (u := 200) rfl
    refine jt_eI (eq_J0_length_8abf5_r1002 E d (jd_le hd rfl) a b0) ?_
    have h198_ := ff_J0_length_8abf5_r1002 a b0
    refine jt_ite (fun c199_ => ?_) (fun c199_ => ?_)
    ·
      have h200_ : jxw ((a 2 2) + y3) = (a 2 2) + y3 := jxw_id (by omega) (by omega)
      refine jt_grd (by omega) ?_
      refine jt_eI (eq_J0_charAt_5068e_r1002 E d (jd_le hd rfl) y3 a b0 (show (0 ≤ y3 ∧ y3 < 6) from by omega)) ?_
      have h201_ := iv_get hv (k := 3) (j := (jxw ((a 2 2) + y3)).toNat) (l := 0) (u := 255) rfl
      have h202_ : a 3 ((jxw ((a 2 2) + y3)).toNat) = a0 3 ((jxw ((a 2 2) + y3)).toNat) := hf 3 ((jxw ((a 2 2) + y3)).toNat) rfl
      have h203_ := iv_get hv0 (k := 3) (j := (jxw ((a 2 2) + y3)).toNat) (l := 0) (u := 255) rfl
      have h204_ := f_J0_charAt_5068e_r1002_eq a b0 y3
      have h205_ := f_J0_isLatin1_aae02_r1002_eq a b0
      have h206_ := f_J1_charAt_3b067_r2002_eq a b0 y3
      have h207_ := jxand_r (([116, 111, 110, 103, 117, 101] : List Int).getD (y3.toNat) 0) 255 (by decide) (by decide)
      have h208_ := jxi2c_b (jxand (([116, 111, 110, 103, 117, 101] : List Int).getD (y3.toNat) 0) 255)
      refine jt_ite (fun c209_ => ?_) (fun c209_ => ?_)
      ·
        exact hc58 y2 y3 a (show (((6 - y3) * 1) + 0).toNat ≤ n from by omega) hv hf (show 6 ≤ y2 from by omega) (show y2 ≤ 200 from by omega) (show 0 ≤ y3 from by omega) (show y3 ≤ 5 from by omega) (show 6 ≤ a 2 1 from by omega) (show y3 < 6 from by omega) (show 0 ≤ y3 from by omega) (show y2 = (a 2 2) + 6 from by omega) (show y2 ≤ a 2 1 from by omega) (show y2 ≤ 200 from by omega)
      ·
        exact cp_X8_takesWord_r1002_56 E d hd a0 b0 hv0 a hv hf (show 6 ≤ a 2 1 from by omega)
    ·
      refine jt_ite (fun c210_ => ?_) (fun c210_ => ?_)
      ·
        refine jt_grd (by omega) ?_
        have h211_ := iv_get hv (k := 3) (j := y2.toNat) (l := 0) (u := 255) rfl
        have h212_ : a 3 (y2.toNat) = a0 3 (y2.toNat) := hf 3 (y2.toNat) rfl
        have h213_ := iv_get hv0 (k := 3) (j := y2.toNat) (l := 0) (u := 255) rfl
        refine jt_ite (fun c214_ => ?_) (fun c214_ => ?_)
        ·
          exact cp_X8_takesWord_r1002_96 E d hd a0 b0 hv0 y2 a hv hf (show 6 ≤ y2 from by omega) (show y2 ≤ 200 from by omega) (show 6 ≤ a 2 1 from by omega) (show y2 = (a 2 2) + 6 from by omega) (show y2 ≤ a 2 1 from by omega) (show y2 ≤ 200 from by omega)
        ·
          exact cp_X8_takesWord_r1002_83 E d hd a0 b0 hv0 y2 a hv hf (show 6 ≤ y2 from by omega) (show y2 ≤ 199 from by omega) (show 7 ≤ a 2 1 from by omega) (show y2 = (a 2 2) + 6 from by omega) (show y2 ≤ a 2 1 from by omega) (show y2 ≤ 200 from by omega)
      ·
        exact cp_X8_takesWord_r1002_96 E d hd a0 b0 hv0 y2 a hv hf (show 6 ≤ y2 from by omega) (show y2 ≤ 200 from by omega) (show 6 ≤ a 2 1 from by omega) (show y2 = (a 2 2) + 6 from by omega) (show y2 ≤ a 2 1 from by omega) (show y2 ≤ 200 from by omega)
  exact ⟨hc58, hc29⟩
theorem sp_X8_takesWord_r1002 (E : jxE) (d : Nat) (hd : Nat.ble 5 d = true) (a0 b0 : Nat → Nat → Int) (hv0 : iv a0) : jt (jxC E d 128 [.inr (.inr (.inl 2)), .inr (.inr (.inl 1002))] (jxSH, a0, b0)) (jQ_X8_takesWord_r1002 a0 b0) := by
  obtain ⟨d, rfl⟩ := jd_succ hd
  refine jt_eq (bq_X8_takesWord_r1002 E d a0 b0) ?_
  refine jt_eI (eq_J0_length_8abf5_r1002 E d (jd_le hd rfl) a0 b0) ?_
  refine jt_eI (eq_X8_isFaulty E d (jd_le hd rfl) a0 b0) ?_
  have h215_ := f_X8_isFaulty_eq a0 b0
  refine jt_ite (fun c216_ => ?_) (fun c216_ => ?_)
  ·
    have h217_ := iv_get hv0 (k := 2) (j := 1) (l := 0) (u := 200) rfl
    have h218_ := iv_get hv0 (k := 2) (j := 2) (l := 0) (u := 200) rfl
    have h219_ := ff_J0_length_8abf5_r1002 a0 b0
    have h220_ : jxw ((a0 2 2) + (f_J0_length_8abf5_r1002 a0 b0)) = (a0 2 2) + (f_J0_length_8abf5_r1002 a0 b0) := jxw_id (by omega) (by omega)
    refine jt_ite (fun c221_ => ?_) (fun c221_ => ?_)
    ·
      exact jt_rI ⟨hv0, (jfr_rf _ _), rfl, (show (0 ≤ 0 ∧ 0 ≤ 1) from by omega)⟩
    ·
      exact (cp_X8_takesWord_r1002_29 E d hd a0 b0 hv0 _).2 (jxw ((a0 2 2) + (f_J0_length_8abf5_r1002 a0 b0))) 0 a0 (Nat.le_refl _) hv0 (jfr_rf _ _) (show 6 ≤ jxw ((a0 2 2) + (f_J0_length_8abf5_r1002 a0 b0)) from by omega) (show jxw ((a0 2 2) + (f_J0_length_8abf5_r1002 a0 b0)) ≤ 200 from by omega) (show 0 ≤ 0 from by omega) (show 0 ≤ 6 from by omega) (show 6 ≤ a0 2 1 from by omega) (show 0 ≤ 0 from by omega) (show jxw ((a0 2 2) + (f_J0_length_8abf5_r1002 a0 b0)) = (a0 2 2) + 6 from by omega) (show jxw ((a0 2 2) + (f_J0_length_8abf5_r1002 a0 b0)) ≤ a0 2 1 from by omega) (show jxw ((a0 2 2) + (f_J0_length_8abf5_r1002 a0 b0)) ≤ 200 from by omega)
  ·
    exact jt_rI ⟨hv0, (jfr_rf _ _), rfl, (show (0 ≤ 0 ∧ 0 ≤ 1) from by omega)⟩
def jW_X8_takesWord_r1003 : List (Nat × Nat) := [(2, 2)]
abbrev jQ_X8_takesWord_r1003 (a0 b0 : Nat → Nat → Int) : List jxV → (Nat → Nat → Int) → (Nat → Nat → Int) → Prop := rI (fun r a b => (iv a) ∧ (jfr jW_X8_takesWord_r1003 a0 a) ∧ (b0 = b) ∧ ((0 ≤ r ∧ r ≤ 1)))
theorem cp_X8_takesWord_r1003_56 (E : jxE) (d : Nat) (hd : Nat.ble 5 (d + 1) = true) (a0 b0 : Nat → Nat → Int) (hv0 : iv a0) : ∀ (a : Nat → Nat → Int), iv a → jfr jW_X8_takesWord_r1003 a0 a → 6 ≤ a 2 1 → jt (jxX E d 128 56 [none, none, none, none] [] (jxSH, a, b0)) (jQ_X8_takesWord_r1003 a0 b0) := by
  intro a hv hf hi0
  refine jt_eq (bq_X8_takesWord_r1003_56 E d a b0) ?_
  have h222_ := iv_get hv (k := 2) (j := 1) (l := 0) (u := 200) rfl
  have h223_ : a 2 1 = a0 2 1 := hf 2 1 rfl
  have h224_ := iv_get hv0 (k := 2) (j := 1) (l := 0) (u := 200) rfl
  exact jt_rI ⟨hv, hf, rfl, (show (0 ≤ 0 ∧ 0 ≤ 1) from by omega)⟩
theorem cp_X8_takesWord_r1003_96 (E : jxE) (d : Nat) (hd : Nat.ble 5 (d + 1) = true) (a0 b0 : Nat → Nat → Int) (hv0 : iv a0) : ∀ (y2 : Int) (a : Nat → Nat → Int), iv a → jfr jW_X8_takesWord_r1003 a0 a → 6 ≤ y2 → y2 ≤ 200 → 6 ≤ a 2 1 → y2 = (a 2 2) + 6 → y2 ≤ a 2 1 → y2 ≤ 200 → jt (jxX E d 128 96 [some (.inr (.inr (.inl 2))), none, some (.inl y2), none] [] (jxSH, a, b0)) (jQ_X8_takesWord_r1003 a0 b0) := by
  intro y2 a hv hf hi0 hi1 hi2 hi3 hi4 hi5
  refine jt_eq (bq_X8_takesWord_r1003_96 E d y2 a b0) ?_
  have h225_ := iv_get hv (k := 2) (j := 1) (l := 0) (u := 200) rfl
  have h226_ : a 2 1 = a0 2 1 := hf 2 1 rfl
  have h227_ := iv_get hv0 (k := 2) (j := 1) (l := 0) (u := 200) rfl
  have h228_ := iv_get hv (k := 2) (j := 2) (l := 0) (u := 200) rfl
  have hv229_ : iv (jxu a 2 2 y2) := iv_put hv (l := 0) (u := 200) rfl (by omega) (by omega)
  refine jt_bV (sp_X8_skipBlanks E d (jd_le hd rfl) (jxu a 2 2 y2) b0 hv229_) (fun a230_ b230_ h230_ => ?_)
  obtain ⟨hv230_, hf230_, rfl⟩ := h230_
  have hf231_ : jfr jW_X8_takesWord_r1003 a0 (jxu a 2 2 y2) := jfr_put hf rfl
  have hf232_ : jfr jW_X8_takesWord_r1003 a0 a230_ := jfr_tr hf231_ hf230_ rfl
  exact jt_rI ⟨hv230_, hf232_, rfl, (show (0 ≤ 1 ∧ 1 ≤ 1) from by omega)⟩
theorem cp_X8_takesWord_r1003_83 (E : jxE) (d : Nat) (hd : Nat.ble 5 (d + 1) = true) (a0 b0 : Nat → Nat → Int) (hv0 : iv a0) : ∀ (y2 : Int) (a : Nat → Nat → Int), iv a → jfr jW_X8_takesWord_r1003 a0 a → 6 ≤ y2 → y2 ≤ 199 → 7 ≤ a 2 1 → y2 = (a 2 2) + 6 → y2 ≤ a 2 1 → y2 ≤ 200 → jt (jxX E d 128 83 [some (.inr (.inr (.inl 2))), none, some (.inl y2), none] [] (jxSH, a, b0)) (jQ_X8_takesWord_r1003 a0 b0) := by
  intro y2 a hv hf hi0 hi1 hi2 hi3 hi4 hi5
  refine jt_eq (bq_X8_takesWord_r1003_83 E d y2 a b0) ?_
  have h233_ := iv_get hv (k := 2) (j := 1) (l := 0) (u := 200) rfl
  have h234_ : a 2 1 = a0 2 1 := hf 2 1 rfl
  have h235_ := iv_get hv0 (k := 2) (j := 1) (l := 0) (u := 200) rfl
  have h236_ := iv_get hv (k := 2) (j := 2) (l := 0) (u := 200) rfl
  refine jt_grd (by omega) ?_
  have h237_ := iv_get hv (k := 3) (j := y2.toNat) (l := 0) (u := 255) rfl
  have h238_ : a 3 (y2.toNat) = a0 3 (y2.toNat) := hf 3 (y2.toNat) rfl
  have h239_ := iv_get hv0 (k := 3) (j := y2.toNat) (l := 0) (u := 255) rfl
  refine jt_ite (fun c240_ => ?_) (fun c240_ => ?_)
  ·
    exact cp_X8_takesWord_r1003_96 E d hd a0 b0 hv0 y2 a hv hf (show 6 ≤ y2 from by omega) (show y2 ≤ 200 from by omega) (show 6 ≤ a 2 1 from by omega) (show y2 = (a 2 2) + 6 from by omega) (show y2 ≤ a 2 1 from by omega) (show y2 ≤ 200 from by omega)
  ·
    exact jt_rI ⟨hv, hf, rfl, (show (0 ≤ 0 ∧ 0 ≤ 1) from by omega)⟩
theorem cp_X8_takesWord_r1003_29 (E : jxE) (d : Nat) (hd : Nat.ble 5 (d + 1) = true) (a0 b0 : Nat → Nat → Int) (hv0 : iv a0) : ∀ n : Nat, (∀ (y2 y3 : Int) (a : Nat → Nat → Int), (((6 - y3) * 1) + 0).toNat ≤ n → iv a → jfr jW_X8_takesWord_r1003 a0 a → 6 ≤ y2 → y2 ≤ 200 → 0 ≤ y3 → y3 ≤ 5 → 6 ≤ a 2 1 → y3 < 6 → 0 ≤ y3 → y2 = (a 2 2) + 6 → y2 ≤ a 2 1 → y2 ≤ 200 → jt (jxX E d 128 58 [some (.inr (.inr (.inl 2))), some (.inr (.inr (.inl 1003))), some (.inl y2), some (.inl y3)] [] (jxSH, a, b0)) (jQ_X8_takesWord_r1003 a0 b0)) ∧ (∀ (y2 y3 : Int) (a : Nat → Nat → Int), (((6 - y3) * 1) + 0).toNat ≤ n → iv a → jfr jW_X8_takesWord_r1003 a0 a → 6 ≤ y2 → y2 ≤ 200 → 0 ≤ y3 → y3 ≤ 6 → 6 ≤ a 2 1 → 0 ≤ y3 → y2 = (a 2 2) + 6 → y2 ≤ a 2 1 → y2 ≤ 200 → jt (jxX E d 128 29 [some (.inr (.inr (.inl 2))), some (.inr (.inr (.inl 1003))), some (.inl y2), some (.inl y3)] [] (jxSH, a, b0)) (jQ_X8_takesWord_r1003 a0 b0)) := by
  refine jx_ind fun n ih => ?_
  have ih58 : ∀ (y2 y3 : Int) (a : Nat → Nat → Int), (((6 - y3) * 1) + 0).toNat < n → iv a → jfr jW_X8_takesWord_r1003 a0 a → 6 ≤ y2 → y2 ≤ 200 → 0 ≤ y3 → y3 ≤ 5 → 6 ≤ a 2 1 → y3 < 6 → 0 ≤ y3 → y2 = (a 2 2) + 6 → y2 ≤ a 2 1 → y2 ≤ 200 → jt (jxX E d 128 58 [some (.inr (.inr (.inl 2))), some (.inr (.inr (.inl 1003))), some (.inl y2), some (.inl y3)] [] (jxSH, a, b0)) (jQ_X8_takesWord_r1003 a0 b0) := fun y2 y3 a hlt i0 i1 i2 i3 i4 i5 i6 i7 i8 i9 i10 i11 => (ih _ hlt).1 y2 y3 a (Nat.le_refl _) i0 i1 i2 i3 i4 i5 i6 i7 i8 i9 i10 i11
  have ih29 : ∀ (y2 y3 : Int) (a : Nat → Nat → Int), (((6 - y3) * 1) + 0).toNat < n → iv a → jfr jW_X8_takesWord_r1003 a0 a → 6 ≤ y2 → y2 ≤ 200 → 0 ≤ y3 → y3 ≤ 6 → 6 ≤ a 2 1 → 0 ≤ y3 → y2 = (a 2 2) + 6 → y2 ≤ a 2 1 → y2 ≤ 200 → jt (jxX E d 128 29 [some (.inr (.inr (.inl 2))), some (.inr (.inr (.inl 1003))), some (.inl y2), some (.inl y3)] [] (jxSH, a, b0)) (jQ_X8_takesWord_r1003 a0 b0) := fun y2 y3 a hlt i0 i1 i2 i3 i4 i5 i6 i7 i8 i9 i10 => (ih _ hlt).2 y2 y3 a (Nat.le_refl _) i0 i1 i2 i3 i4 i5 i6 i7 i8 i9 i10
  have hc58 : ∀ (y2 y3 : Int) (a : Nat → Nat → Int), (((6 - y3) * 1) + 0).toNat ≤ n → iv a → jfr jW_X8_takesWord_r1003 a0 a → 6 ≤ y2 → y2 ≤ 200 → 0 ≤ y3 → y3 ≤ 5 → 6 ≤ a 2 1 → y3 < 6 → 0 ≤ y3 → y2 = (a 2 2) + 6 → y2 ≤ a 2 1 → y2 ≤ 200 → jt (jxX E d 128 58 [some (.inr (.inr (.inl 2))), some (.inr (.inr (.inl 1003))), some (.inl y2), some (.inl y3)] [] (jxSH, a, b0)) (jQ_X8_takesWord_r1003 a0 b0) := by
    intro y2 y3 a hm hv hf hi0 hi1 hi2 hi3 hi4 hi5 hi6 hi7 hi8 hi9
    refine jt_eq (bq_X8_takesWord_r1003_58 E d y2 y3 a b0) ?_
    have h241_ := iv_get hv (k := 2) (j := 1) (l := 0) (u := 200) rfl
    have h242_ : a 2 1 = a0 2 1 := hf 2 1 rfl
    have h243_ := iv_get hv0 (k := 2) (j := 1) (l := 0) (u := 200) rfl
    have h244_ := iv_get hv (k := 2) (j := 2) (l := 0) (u := 200) rfl
    have h245_ : jxw (y3 + 1) = y3 + 1 := jxw_id (by omega) (by omega)
    exact ih29 y2 (jxw (y3 + 1)) a (show (((6 - (jxw (y3 + 1))) * 1) + 0).toNat < n from by omega) hv hf (show 6 ≤ y2 from by omega) (show y2 ≤ 200 from by omega) (show 0 ≤ jxw (y3 + 1) from by omega) (show jxw (y3 + 1) ≤ 6 from by omega) (show 6 ≤ a 2 1 from by omega) (show 0 ≤ jxw (y3 + 1) from by omega) (show y2 = (a 2 2) + 6 from by omega) (show y2 ≤ a 2 1 from by omega) (show y2 ≤ 200 from by omega)
  have hc29 : ∀ (y2 y3 : Int) (a : Nat → Nat → Int), (((6 - y3) * 1) + 0).toNat ≤ n → iv a → jfr jW_X8_takesWord_r1003 a0 a → 6 ≤ y2 → y2 ≤ 200 → 0 ≤ y3 → y3 ≤ 6 → 6 ≤ a 2 1 → 0 ≤ y3 → y2 = (a 2 2) + 6 → y2 ≤ a 2 1 → y2 ≤ 200 → jt (jxX E d 128 29 [some (.inr (.inr (.inl 2))), some (.inr (.inr (.inl 1003))), some (.inl y2), some (.inl y3)] [] (jxSH, a, b0)) (jQ_X8_takesWord_r1003 a0 b0) := by
    intro y2 y3 a hm hv hf hi0 hi1 hi2 hi3 hi4 hi5 hi6 hi7 hi8
    refine jt_eq (bq_X8_takesWord_r1003_29 E d y2 y3 a b0) ?_
    have h246_ := iv_get hv (k := 2) (j := 1) (l := 0) (u := 200) rfl
    have h247_ : a 2 1 = a0 2 1 := hf 2 1 rfl
    have h248_ := iv_get hv0 (k := 2) (j := 1) (l := 0) (u := 200) rfl
    have h249_ := iv_get hv (k := 2) (j := 2) (l := 0) (u := 200) rfl
    refine jt_eI (eq_J0_length_8abf5_r1003 E d (jd_le hd rfl) a b0) ?_
    have h250_ := ff_J0_length_8abf5_r1003 a b0
    refine jt_ite (fun c251_ => ?_) (fun c251_ => ?_)
    ·
      have h252_ : jxw ((a 2 2) + y3) = (a 2 2) + y3 := jxw_id (by omega) (by omega)
      refine jt_grd (by omega) ?_
      refine jt_eI (eq_J0_charAt_5068e_r1003 E d (jd_le hd rfl) y3 a b0 (show (0 ≤ y3 ∧ y3 < 6) from by omega)) ?_
      have h253_ := iv_get hv (k := 3) (j := (jxw ((a 2 2) + y3)).toNat) (l := 0) (u := 255) rfl
      have h254_ : a 3 ((jxw ((a 2 2) + y3)).toNat) = a0 3 ((jxw ((a 2 2) + y3)).toNat) := hf 3 ((jxw ((a 2 2) + y3)).toNat) rfl
      have h255_ := iv_get hv0 (k := 3) (j := (jxw ((a 2 2) + y3)).toNat) (l := 0) (u := 255) rfl
      have h256_ := f_J0_charAt_5068e_r1003_eq a b0 y3
      have h257_ := f_J0_isLatin1_aae02_r1003_eq a b0
      have h258_ := f_J1_charAt_3b067_r2003_eq a b0 y3
      have h259_ := jxand_r (([115, 104, 97, 114, 101, 100] : List Int).getD (y3.toNat) 0) 255 (by decide) (by decide)
      have h260_ := jxi2c_b (jxand (([115, 104, 97, 114, 101, 100] : List Int).getD (y3.toNat) 0) 255)
      refine jt_ite (fun c261_ => ?_) (fun c261_ => ?_)
      ·
        exact hc58 y2 y3 a (show (((6 - y3) * 1) + 0).toNat ≤ n from by omega) hv hf (show 6 ≤ y2 from by omega) (show y2 ≤ 200 from by omega) (show 0 ≤ y3 from by omega) (show y3 ≤ 5 from by omega) (show 6 ≤ a 2 1 from by omega) (show y3 < 6 from by omega) (show 0 ≤ y3 from by omega) (show y2 = (a 2 2) + 6 from by omega) (show y2 ≤ a 2 1 from by omega) (show y2 ≤ 200 from by omega)
      ·
        exact cp_X8_takesWord_r1003_56 E d hd a0 b0 hv0 a hv hf (show 6 ≤ a 2 1 from by omega)
    ·
      refine jt_ite (fun c262_ => ?_) (fun c262_ => ?_)
      ·
        refine jt_grd (by omega) ?_
        have h263_ := iv_get hv (k := 3) (j := y2.toNat) (l := 0) (u := 255) rfl
        have h264_ : a 3 (y2.toNat) = a0 3 (y2.toNat) := hf 3 (y2.toNat) rfl
        have h265_ := iv_get hv0 (k := 3) (j := y2.toNat) (l := 0) (u := 255) rfl
        refine jt_ite (fun c266_ => ?_) (fun c266_ => ?_)
        ·
          exact cp_X8_takesWord_r1003_96 E d hd a0 b0 hv0 y2 a hv hf (show 6 ≤ y2 from by omega) (show y2 ≤ 200 from by omega) (show 6 ≤ a 2 1 from by omega) (show y2 = (a 2 2) + 6 from by omega) (show y2 ≤ a 2 1 from by omega) (show y2 ≤ 200 from by omega)
        ·
          exact cp_X8_takesWord_r1003_83 E d hd a0 b0 hv0 y2 a hv hf (show 6 ≤ y2 from by omega) (show y2 ≤ 199 from by omega) (show 7 ≤ a 2 1 from by omega) (show y2 = (a 2 2) + 6 from by omega) (show y2 ≤ a 2 1 from by omega) (show y2 ≤ 200 from by omega)
      ·
        exact cp_X8_takesWord_r1003_96 E d hd a0 b0 hv0 y2 a hv hf (show 6 ≤ y2 from by omega) (show y2 ≤ 200 from by omega) (show 6 ≤ a 2 1 from by omega) (show y2 = (a 2 2) + 6 from by omega) (show y2 ≤ a 2 1 from by omega) (show y2 ≤ 200 from by omega)
  exact ⟨hc58, hc29⟩
theorem sp_X8_takesWord_r1003 (E : jxE) (d : Nat) (hd : Nat.ble 5 d = true) (a0 b0 : Nat → Nat → Int) (hv0 : iv a0) : jt (jxC E d 128 [.inr (.inr (.inl 2)), .inr (.inr (.inl 1003))] (jxSH, a0, b0)) (jQ_X8_takesWord_r1003 a0 b0) := by
  obtain ⟨d, rfl⟩ := jd_succ hd
  refine jt_eq (bq_X8_takesWord_r1003 E d a0 b0) ?_
  refine jt_eI (eq_J0_length_8abf5_r1003 E d (jd_le hd rfl) a0 b0) ?_
  refine jt_eI (eq_X8_isFaulty E d (jd_le hd rfl) a0 b0) ?_
  have h267_ := f_X8_isFaulty_eq a0 b0
  refine jt_ite (fun c268_ => ?_) (fun c268_ => ?_)
  ·
    have h269_ := iv_get hv0 (k := 2) (j := 1) (l := 0) (u := 200) rfl
    have h270_ := iv_get hv0 (k := 2) (j := 2) (l := 0) (u := 200) rfl
    have h271_ := ff_J0_length_8abf5_r1003 a0 b0
    have h272_ : jxw ((a0 2 2) + (f_J0_length_8abf5_r1003 a0 b0)) = (a0 2 2) + (f_J0_length_8abf5_r1003 a0 b0) := jxw_id (by omega) (by omega)
    refine jt_ite (fun c273_ => ?_) (fun c273_ => ?_)
    ·
      exact jt_rI ⟨hv0, (jfr_rf _ _), rfl, (show (0 ≤ 0 ∧ 0 ≤ 1) from by omega)⟩
    ·
      exact (cp_X8_takesWord_r1003_29 E d hd a0 b0 hv0 _).2 (jxw ((a0 2 2) + (f_J0_length_8abf5_r1003 a0 b0))) 0 a0 (Nat.le_refl _) hv0 (jfr_rf _ _) (show 6 ≤ jxw ((a0 2 2) + (f_J0_length_8abf5_r1003 a0 b0)) from by omega) (show jxw ((a0 2 2) + (f_J0_length_8abf5_r1003 a0 b0)) ≤ 200 from by omega) (show 0 ≤ 0 from by omega) (show 0 ≤ 6 from by omega) (show 6 ≤ a0 2 1 from by omega) (show 0 ≤ 0 from by omega) (show jxw ((a0 2 2) + (f_J0_length_8abf5_r1003 a0 b0)) = (a0 2 2) + 6 from by omega) (show jxw ((a0 2 2) + (f_J0_length_8abf5_r1003 a0 b0)) ≤ a0 2 1 from by omega) (show jxw ((a0 2 2) + (f_J0_length_8abf5_r1003 a0 b0)) ≤ 200 from by omega)
  ·
    exact jt_rI ⟨hv0, (jfr_rf _ _), rfl, (show (0 ≤ 0 ∧ 0 ≤ 1) from by omega)⟩
def jW_X8_takesWord_r1004 : List (Nat × Nat) := [(2, 2)]
abbrev jQ_X8_takesWord_r1004 (a0 b0 : Nat → Nat → Int) : List jxV → (Nat → Nat → Int) → (Nat → Nat → Int) → Prop := rI (fun r a b => (iv a) ∧ (jfr jW_X8_takesWord_r1004 a0 a) ∧ (b0 = b) ∧ ((0 ≤ r ∧ r ≤ 1)))
theorem cp_X8_takesWord_r1004_56 (E : jxE) (d : Nat) (hd : Nat.ble 5 (d + 1) = true) (a0 b0 : Nat → Nat → Int) (hv0 : iv a0) : ∀ (a : Nat → Nat → Int), iv a → jfr jW_X8_takesWord_r1004 a0 a → 3 ≤ a 2 1 → jt (jxX E d 128 56 [none, none, none, none] [] (jxSH, a, b0)) (jQ_X8_takesWord_r1004 a0 b0) := by
  intro a hv hf hi0
  refine jt_eq (bq_X8_takesWord_r1004_56 E d a b0) ?_
  have h274_ := iv_get hv (k := 2) (j := 1) (l := 0) (u := 200) rfl
  have h275_ : a 2 1 = a0 2 1 := hf 2 1 rfl
  have h276_ := iv_get hv0 (k := 2) (j := 1) (l := 0) (u := 200) rfl
  exact jt_rI ⟨hv, hf, rfl, (show (0 ≤ 0 ∧ 0 ≤ 1) from by omega)⟩
theorem cp_X8_takesWord_r1004_96 (E : jxE) (d : Nat) (hd : Nat.ble 5 (d + 1) = true) (a0 b0 : Nat → Nat → Int) (hv0 : iv a0) : ∀ (y2 : Int) (a : Nat → Nat → Int), iv a → jfr jW_X8_takesWord_r1004 a0 a → 3 ≤ y2 → y2 ≤ 200 → 3 ≤ a 2 1 → y2 = (a 2 2) + 3 → y2 ≤ a 2 1 → y2 ≤ 200 → jt (jxX E d 128 96 [some (.inr (.inr (.inl 2))), none, some (.inl y2), none] [] (jxSH, a, b0)) (jQ_X8_takesWord_r1004 a0 b0) := by
  intro y2 a hv hf hi0 hi1 hi2 hi3 hi4 hi5
  refine jt_eq (bq_X8_takesWord_r1004_96 E d y2 a b0) ?_
  have h277_ := iv_get hv (k := 2) (j := 1) (l := 0) (u := 200) rfl
  have h278_ : a 2 1 = a0 2 1 := hf 2 1 rfl
  have h279_ := iv_get hv0 (k := 2) (j := 1) (l := 0) (u := 200) rfl
  have h280_ := iv_get hv (k := 2) (j := 2) (l := 0) (u := 200) rfl
  have hv281_ : iv (jxu a 2 2 y2) := iv_put hv (l := 0) (u := 200) rfl (by omega) (by omega)
  refine jt_bV (sp_X8_skipBlanks E d (jd_le hd rfl) (jxu a 2 2 y2) b0 hv281_) (fun a282_ b282_ h282_ => ?_)
  obtain ⟨hv282_, hf282_, rfl⟩ := h282_
  have hf283_ : jfr jW_X8_takesWord_r1004 a0 (jxu a 2 2 y2) := jfr_put hf rfl
  have hf284_ : jfr jW_X8_takesWord_r1004 a0 a282_ := jfr_tr hf283_ hf282_ rfl
  exact jt_rI ⟨hv282_, hf284_, rfl, (show (0 ≤ 1 ∧ 1 ≤ 1) from by omega)⟩
theorem cp_X8_takesWord_r1004_83 (E : jxE) (d : Nat) (hd : Nat.ble 5 (d + 1) = true) (a0 b0 : Nat → Nat → Int) (hv0 : iv a0) : ∀ (y2 : Int) (a : Nat → Nat → Int), iv a → jfr jW_X8_takesWord_r1004 a0 a → 3 ≤ y2 → y2 ≤ 199 → 4 ≤ a 2 1 → y2 = (a 2 2) + 3 → y2 ≤ a 2 1 → y2 ≤ 200 → jt (jxX E d 128 83 [some (.inr (.inr (.inl 2))), none, some (.inl y2), none] [] (jxSH, a, b0)) (jQ_X8_takesWord_r1004 a0 b0) := by
  intro y2 a hv hf hi0 hi1 hi2 hi3 hi4 hi5
  refine jt_eq (bq_X8_takesWord_r1004_83 E d y2 a b0) ?_
  have h285_ := iv_get hv (k := 2) (j := 1) (l := 0) (u := 200) rfl
  have h286_ : a 2 1 = a0 2 1 := hf 2 1 rfl
  have h287_ := iv_get hv0 (k := 2) (j := 1) (l := 0) (u := 200) rfl
  have h288_ := iv_get hv (k := 2) (j := 2) (l := 0) (u := 200) rfl
  refine jt_grd (by omega) ?_
  have h289_ := iv_get hv (k := 3) (j := y2.toNat) (l := 0) (u := 255) rfl
  have h290_ : a 3 (y2.toNat) = a0 3 (y2.toNat) := hf 3 (y2.toNat) rfl
  have h291_ := iv_get hv0 (k := 3) (j := y2.toNat) (l := 0) (u := 255) rfl
  refine jt_ite (fun c292_ => ?_) (fun c292_ => ?_)
  ·
    exact cp_X8_takesWord_r1004_96 E d hd a0 b0 hv0 y2 a hv hf (show 3 ≤ y2 from by omega) (show y2 ≤ 200 from by omega) (show 3 ≤ a 2 1 from by omega) (show y2 = (a 2 2) + 3 from by omega) (show y2 ≤ a 2 1 from by omega) (show y2 ≤ 200 from by omega)
  ·
    exact jt_rI ⟨hv, hf, rfl, (show (0 ≤ 0 ∧ 0 ≤ 1) from by omega)⟩
theorem cp_X8_takesWord_r1004_29 (E : jxE) (d : Nat) (hd : Nat.ble 5 (d + 1) = true) (a0 b0 : Nat → Nat → Int) (hv0 : iv a0) : ∀ n : Nat, (∀ (y2 y3 : Int) (a : Nat → Nat → Int), (((3 - y3) * 1) + 0).toNat ≤ n → iv a → jfr jW_X8_takesWord_r1004 a0 a → 3 ≤ y2 → y2 ≤ 200 → 0 ≤ y3 → y3 ≤ 2 → 3 ≤ a 2 1 → y3 < 3 → 0 ≤ y3 → y2 = (a 2 2) + 3 → y2 ≤ a 2 1 → y2 ≤ 200 → jt (jxX E d 128 58 [some (.inr (.inr (.inl 2))), some (.inr (.inr (.inl 1004))), some (.inl y2), some (.inl y3)] [] (jxSH, a, b0)) (jQ_X8_takesWord_r1004 a0 b0)) ∧ (∀ (y2 y3 : Int) (a : Nat → Nat → Int), (((3 - y3) * 1) + 0).toNat ≤ n → iv a → jfr jW_X8_takesWord_r1004 a0 a → 3 ≤ y2 → y2 ≤ 200 → 0 ≤ y3 → y3 ≤ 3 → 3 ≤ a 2 1 → 0 ≤ y3 → y2 = (a 2 2) + 3 → y2 ≤ a 2 1 → y2 ≤ 200 → jt (jxX E d 128 29 [some (.inr (.inr (.inl 2))), some (.inr (.inr (.inl 1004))), some (.inl y2), some (.inl y3)] [] (jxSH, a, b0)) (jQ_X8_takesWord_r1004 a0 b0)) := by
  refine jx_ind fun n ih => ?_
  have ih58 : ∀ (y2 y3 : Int) (a : Nat → Nat → Int), (((3 - y3) * 1) + 0).toNat < n → iv a → jfr jW_X8_takesWord_r1004 a0 a → 3 ≤ y2 → y2 ≤ 200 → 0 ≤ y3 → y3 ≤ 2 → 3 ≤ a 2 1 → y3 < 3 → 0 ≤ y3 → y2 = (a 2 2) + 3 → y2 ≤ a 2 1 → y2 ≤ 200 → jt (jxX E d 128 58 [some (.inr (.inr (.inl 2))), some (.inr (.inr (.inl 1004))), some (.inl y2), some (.inl y3)] [] (jxSH, a, b0)) (jQ_X8_takesWord_r1004 a0 b0) := fun y2 y3 a hlt i0 i1 i2 i3 i4 i5 i6 i7 i8 i9 i10 i11 => (ih _ hlt).1 y2 y3 a (Nat.le_refl _) i0 i1 i2 i3 i4 i5 i6 i7 i8 i9 i10 i11
  have ih29 : ∀ (y2 y3 : Int) (a : Nat → Nat → Int), (((3 - y3) * 1) + 0).toNat < n → iv a → jfr jW_X8_takesWord_r1004 a0 a → 3 ≤ y2 → y2 ≤ 200 → 0 ≤ y3 → y3 ≤ 3 → 3 ≤ a 2 1 → 0 ≤ y3 → y2 = (a 2 2) + 3 → y2 ≤ a 2 1 → y2 ≤ 200 → jt (jxX E d 128 29 [some (.inr (.inr (.inl 2))), some (.inr (.inr (.inl 1004))), some (.inl y2), some (.inl y3)] [] (jxSH, a, b0)) (jQ_X8_takesWord_r1004 a0 b0) := fun y2 y3 a hlt i0 i1 i2 i3 i4 i5 i6 i7 i8 i9 i10 => (ih _ hlt).2 y2 y3 a (Nat.le_refl _) i0 i1 i2 i3 i4 i5 i6 i7 i8 i9 i10
  have hc58 : ∀ (y2 y3 : Int) (a : Nat → Nat → Int), (((3 - y3) * 1) + 0).toNat ≤ n → iv a → jfr jW_X8_takesWord_r1004 a0 a → 3 ≤ y2 → y2 ≤ 200 → 0 ≤ y3 → y3 ≤ 2 → 3 ≤ a 2 1 → y3 < 3 → 0 ≤ y3 → y2 = (a 2 2) + 3 → y2 ≤ a 2 1 → y2 ≤ 200 → jt (jxX E d 128 58 [some (.inr (.inr (.inl 2))), some (.inr (.inr (.inl 1004))), some (.inl y2), some (.inl y3)] [] (jxSH, a, b0)) (jQ_X8_takesWord_r1004 a0 b0) := by
    intro y2 y3 a hm hv hf hi0 hi1 hi2 hi3 hi4 hi5 hi6 hi7 hi8 hi9
    refine jt_eq (bq_X8_takesWord_r1004_58 E d y2 y3 a b0) ?_
    have h293_ := iv_get hv (k := 2) (j := 1) (l := 0) (u := 200) rfl
    have h294_ : a 2 1 = a0 2 1 := hf 2 1 rfl
    have h295_ := iv_get hv0 (k := 2) (j := 1) (l := 0) (u := 200) rfl
    have h296_ := iv_get hv (k := 2) (j := 2) (l := 0) (u := 200) rfl
    have h297_ : jxw (y3 + 1) = y3 + 1 := jxw_id (by omega) (by omega)
    exact ih29 y2 (jxw (y3 + 1)) a (show (((3 - (jxw (y3 + 1))) * 1) + 0).toNat < n from by omega) hv hf (show 3 ≤ y2 from by omega) (show y2 ≤ 200 from by omega) (show 0 ≤ jxw (y3 + 1) from by omega) (show jxw (y3 + 1) ≤ 3 from by omega) (show 3 ≤ a 2 1 from by omega) (show 0 ≤ jxw (y3 + 1) from by omega) (show y2 = (a 2 2) + 3 from by omega) (show y2 ≤ a 2 1 from by omega) (show y2 ≤ 200 from by omega)
  have hc29 : ∀ (y2 y3 : Int) (a : Nat → Nat → Int), (((3 - y3) * 1) + 0).toNat ≤ n → iv a → jfr jW_X8_takesWord_r1004 a0 a → 3 ≤ y2 → y2 ≤ 200 → 0 ≤ y3 → y3 ≤ 3 → 3 ≤ a 2 1 → 0 ≤ y3 → y2 = (a 2 2) + 3 → y2 ≤ a 2 1 → y2 ≤ 200 → jt (jxX E d 128 29 [some (.inr (.inr (.inl 2))), some (.inr (.inr (.inl 1004))), some (.inl y2), some (.inl y3)] [] (jxSH, a, b0)) (jQ_X8_takesWord_r1004 a0 b0) := by
    intro y2 y3 a hm hv hf hi0 hi1 hi2 hi3 hi4 hi5 hi6 hi7 hi8
    refine jt_eq (bq_X8_takesWord_r1004_29 E d y2 y3 a b0) ?_
    have h298_ := iv_get hv (k := 2) (j := 1) (l := 0) (u := 200) rfl
    have h299_ : a 2 1 = a0 2 1 := hf 2 1 rfl
    have h300_ := iv_get hv0 (k := 2) (j := 1) (l := 0) (u := 200) rfl
    have h301_ := iv_get hv (k := 2) (j := 2) (l := 0) (u := 200) rfl
    refine jt_eI (eq_J0_length_8abf5_r1004 E d (jd_le hd rfl) a b0) ?_
    have h302_ := ff_J0_length_8abf5_r1004 a b0
    refine jt_ite (fun c303_ => ?_) (fun c303_ => ?_)
    ·
      have h304_ : jxw ((a 2 2) + y3) = (a 2 2) + y3 := jxw_id (by omega) (by omega)
      refine jt_grd (by omega) ?_
      refine jt_eI (eq_J0_charAt_5068e_r1004 E d (jd_le hd rfl) y3 a b0 (show (0 ≤ y3 ∧ y3 < 3) from by omega)) ?_
      have h305_ := iv_get hv (k := 3) (j := (jxw ((a 2 2) + y3)).toNat) (l := 0) (u := 255) rfl
      have h306_ : a 3 ((jxw ((a 2 2) + y3)).toNat) = a0 3 ((jxw ((a 2 2) + y3)).toNat) := hf 3 ((jxw ((a 2 2) + y3)).toNat) rfl
      have h307_ := iv_get hv0 (k := 3) (j := (jxw ((a 2 2) + y3)).toNat) (l := 0) (u := 255) rfl
      have h308_ := f_J0_charAt_5068e_r1004_eq a b0 y3
      have h309_ := f_J0_isLatin1_aae02_r1004_eq a b0
      have h310_ := f_J1_charAt_3b067_r2004_eq a b0 y3
      have h311_ := jxand_r (([102, 97, 114] : List Int).getD (y3.toNat) 0) 255 (by decide) (by decide)
      have h312_ := jxi2c_b (jxand (([102, 97, 114] : List Int).getD (y3.toNat) 0) 255)
      refine jt_ite (fun c313_ => ?_) (fun c313_ => ?_)
      ·
        exact hc58 y2 y3 a (show (((3 - y3) * 1) + 0).toNat ≤ n from by omega) hv hf (show 3 ≤ y2 from by omega) (show y2 ≤ 200 from by omega) (show 0 ≤ y3 from by omega) (show y3 ≤ 2 from by omega) (show 3 ≤ a 2 1 from by omega) (show y3 < 3 from by omega) (show 0 ≤ y3 from by omega) (show y2 = (a 2 2) + 3 from by omega) (show y2 ≤ a 2 1 from by omega) (show y2 ≤ 200 from by omega)
      ·
        exact cp_X8_takesWord_r1004_56 E d hd a0 b0 hv0 a hv hf (show 3 ≤ a 2 1 from by omega)
    ·
      refine jt_ite (fun c314_ => ?_) (fun c314_ => ?_)
      ·
        refine jt_grd (by omega) ?_
        have h315_ := iv_get hv (k := 3) (j := y2.toNat) (l := 0) (u := 255) rfl
        have h316_ : a 3 (y2.toNat) = a0 3 (y2.toNat) := hf 3 (y2.toNat) rfl
        have h317_ := iv_get hv0 (k := 3) (j := y2.toNat) (l := 0) (u := 255) rfl
        refine jt_ite (fun c318_ => ?_) (fun c318_ => ?_)
        ·
          exact cp_X8_takesWord_r1004_96 E d hd a0 b0 hv0 y2 a hv hf (show 3 ≤ y2 from by omega) (show y2 ≤ 200 from by omega) (show 3 ≤ a 2 1 from by omega) (show y2 = (a 2 2) + 3 from by omega) (show y2 ≤ a 2 1 from by omega) (show y2 ≤ 200 from by omega)
        ·
          exact cp_X8_takesWord_r1004_83 E d hd a0 b0 hv0 y2 a hv hf (show 3 ≤ y2 from by omega) (show y2 ≤ 199 from by omega) (show 4 ≤ a 2 1 from by omega) (show y2 = (a 2 2) + 3 from by omega) (show y2 ≤ a 2 1 from by omega) (show y2 ≤ 200 from by omega)
      ·
        exact cp_X8_takesWord_r1004_96 E d hd a0 b0 hv0 y2 a hv hf (show 3 ≤ y2 from by omega) (show y2 ≤ 200 from by omega) (show 3 ≤ a 2 1 from by omega) (show y2 = (a 2 2) + 3 from by omega) (show y2 ≤ a 2 1 from by omega) (show y2 ≤ 200 from by omega)
  exact ⟨hc58, hc29⟩
theorem sp_X8_takesWord_r1004 (E : jxE) (d : Nat) (hd : Nat.ble 5 d = true) (a0 b0 : Nat → Nat → Int) (hv0 : iv a0) : jt (jxC E d 128 [.inr (.inr (.inl 2)), .inr (.inr (.inl 1004))] (jxSH, a0, b0)) (jQ_X8_takesWord_r1004 a0 b0) := by
  obtain ⟨d, rfl⟩ := jd_succ hd
  refine jt_eq (bq_X8_takesWord_r1004 E d a0 b0) ?_
  refine jt_eI (eq_J0_length_8abf5_r1004 E d (jd_le hd rfl) a0 b0) ?_
  refine jt_eI (eq_X8_isFaulty E d (jd_le hd rfl) a0 b0) ?_
  have h319_ := f_X8_isFaulty_eq a0 b0
  refine jt_ite (fun c320_ => ?_) (fun c320_ => ?_)
  ·
    have h321_ := iv_get hv0 (k := 2) (j := 1) (l := 0) (u := 200) rfl
    have h322_ := iv_get hv0 (k := 2) (j := 2) (l := 0) (u := 200) rfl
    have h323_ := ff_J0_length_8abf5_r1004 a0 b0
    have h324_ : jxw ((a0 2 2) + (f_J0_length_8abf5_r1004 a0 b0)) = (a0 2 2) + (f_J0_length_8abf5_r1004 a0 b0) := jxw_id (by omega) (by omega)
    refine jt_ite (fun c325_ => ?_) (fun c325_ => ?_)
    ·
      exact jt_rI ⟨hv0, (jfr_rf _ _), rfl, (show (0 ≤ 0 ∧ 0 ≤ 1) from by omega)⟩
    ·
      exact (cp_X8_takesWord_r1004_29 E d hd a0 b0 hv0 _).2 (jxw ((a0 2 2) + (f_J0_length_8abf5_r1004 a0 b0))) 0 a0 (Nat.le_refl _) hv0 (jfr_rf _ _) (show 3 ≤ jxw ((a0 2 2) + (f_J0_length_8abf5_r1004 a0 b0)) from by omega) (show jxw ((a0 2 2) + (f_J0_length_8abf5_r1004 a0 b0)) ≤ 200 from by omega) (show 0 ≤ 0 from by omega) (show 0 ≤ 3 from by omega) (show 3 ≤ a0 2 1 from by omega) (show 0 ≤ 0 from by omega) (show jxw ((a0 2 2) + (f_J0_length_8abf5_r1004 a0 b0)) = (a0 2 2) + 3 from by omega) (show jxw ((a0 2 2) + (f_J0_length_8abf5_r1004 a0 b0)) ≤ a0 2 1 from by omega) (show jxw ((a0 2 2) + (f_J0_length_8abf5_r1004 a0 b0)) ≤ 200 from by omega)
  ·
    exact jt_rI ⟨hv0, (jfr_rf _ _), rfl, (show (0 ≤ 0 ∧ 0 ≤ 1) from by omega)⟩
def jW_X8_takesWord_r1005 : List (Nat × Nat) := [(2, 2)]
abbrev jQ_X8_takesWord_r1005 (a0 b0 : Nat → Nat → Int) : List jxV → (Nat → Nat → Int) → (Nat → Nat → Int) → Prop := rI (fun r a b => (iv a) ∧ (jfr jW_X8_takesWord_r1005 a0 a) ∧ (b0 = b) ∧ ((0 ≤ r ∧ r ≤ 1)))
theorem cp_X8_takesWord_r1005_56 (E : jxE) (d : Nat) (hd : Nat.ble 5 (d + 1) = true) (a0 b0 : Nat → Nat → Int) (hv0 : iv a0) : ∀ (a : Nat → Nat → Int), iv a → jfr jW_X8_takesWord_r1005 a0 a → 4 ≤ a 2 1 → jt (jxX E d 128 56 [none, none, none, none] [] (jxSH, a, b0)) (jQ_X8_takesWord_r1005 a0 b0) := by
  intro a hv hf hi0
  refine jt_eq (bq_X8_takesWord_r1005_56 E d a b0) ?_
  have h326_ := iv_get hv (k := 2) (j := 1) (l := 0) (u := 200) rfl
  have h327_ : a 2 1 = a0 2 1 := hf 2 1 rfl
  have h328_ := iv_get hv0 (k := 2) (j := 1) (l := 0) (u := 200) rfl
  exact jt_rI ⟨hv, hf, rfl, (show (0 ≤ 0 ∧ 0 ≤ 1) from by omega)⟩
theorem cp_X8_takesWord_r1005_96 (E : jxE) (d : Nat) (hd : Nat.ble 5 (d + 1) = true) (a0 b0 : Nat → Nat → Int) (hv0 : iv a0) : ∀ (y2 : Int) (a : Nat → Nat → Int), iv a → jfr jW_X8_takesWord_r1005 a0 a → 4 ≤ y2 → y2 ≤ 200 → 4 ≤ a 2 1 → y2 = (a 2 2) + 4 → y2 ≤ a 2 1 → y2 ≤ 200 → jt (jxX E d 128 96 [some (.inr (.inr (.inl 2))), none, some (.inl y2), none] [] (jxSH, a, b0)) (jQ_X8_takesWord_r1005 a0 b0) := by
  intro y2 a hv hf hi0 hi1 hi2 hi3 hi4 hi5
  refine jt_eq (bq_X8_takesWord_r1005_96 E d y2 a b0) ?_
  have h329_ := iv_get hv (k := 2) (j := 1) (l := 0) (u := 200) rfl
  have h330_ : a 2 1 = a0 2 1 := hf 2 1 rfl
  have h331_ := iv_get hv0 (k := 2) (j := 1) (l := 0) (u := 200) rfl
  have h332_ := iv_get hv (k := 2) (j := 2) (l := 0) (u := 200) rfl
  have hv333_ : iv (jxu a 2 2 y2) := iv_put hv (l := 0) (u := 200) rfl (by omega) (by omega)
  refine jt_bV (sp_X8_skipBlanks E d (jd_le hd rfl) (jxu a 2 2 y2) b0 hv333_) (fun a334_ b334_ h334_ => ?_)
  obtain ⟨hv334_, hf334_, rfl⟩ := h334_
  have hf335_ : jfr jW_X8_takesWord_r1005 a0 (jxu a 2 2 y2) := jfr_put hf rfl
  have hf336_ : jfr jW_X8_takesWord_r1005 a0 a334_ := jfr_tr hf335_ hf334_ rfl
  exact jt_rI ⟨hv334_, hf336_, rfl, (show (0 ≤ 1 ∧ 1 ≤ 1) from by omega)⟩
theorem cp_X8_takesWord_r1005_83 (E : jxE) (d : Nat) (hd : Nat.ble 5 (d + 1) = true) (a0 b0 : Nat → Nat → Int) (hv0 : iv a0) : ∀ (y2 : Int) (a : Nat → Nat → Int), iv a → jfr jW_X8_takesWord_r1005 a0 a → 4 ≤ y2 → y2 ≤ 199 → 5 ≤ a 2 1 → y2 = (a 2 2) + 4 → y2 ≤ a 2 1 → y2 ≤ 200 → jt (jxX E d 128 83 [some (.inr (.inr (.inl 2))), none, some (.inl y2), none] [] (jxSH, a, b0)) (jQ_X8_takesWord_r1005 a0 b0) := by
  intro y2 a hv hf hi0 hi1 hi2 hi3 hi4 hi5
  refine jt_eq (bq_X8_takesWord_r1005_83 E d y2 a b0) ?_
  have h337_ := iv_get hv (k := 2) (j := 1) (l := 0) (u := 200) rfl
  have h338_ : a 2 1 = a0 2 1 := hf 2 1 rfl
  have h339_ := iv_get hv0 (k := 2) (j := 1) (l := 0) (u := 200) rfl
  have h340_ := iv_get hv (k := 2) (j := 2) (l := 0) (u := 200) rfl
  refine jt_grd (by omega) ?_
  have h341_ := iv_get hv (k := 3) (j := y2.toNat) (l := 0) (u := 255) rfl
  have h342_ : a 3 (y2.toNat) = a0 3 (y2.toNat) := hf 3 (y2.toNat) rfl
  have h343_ := iv_get hv0 (k := 3) (j := y2.toNat) (l := 0) (u := 255) rfl
  refine jt_ite (fun c344_ => ?_) (fun c344_ => ?_)
  ·
    exact cp_X8_takesWord_r1005_96 E d hd a0 b0 hv0 y2 a hv hf (show 4 ≤ y2 from by omega) (show y2 ≤ 200 from by omega) (show 4 ≤ a 2 1 from by omega) (show y2 = (a 2 2) + 4 from by omega) (show y2 ≤ a 2 1 from by omega) (show y2 ≤ 200 from by omega)
  ·
    exact jt_rI ⟨hv, hf, rfl, (show (0 ≤ 0 ∧ 0 ≤ 1) from by omega)⟩
theorem cp_X8_takesWord_r1005_29 (E : jxE) (d : Nat) (hd : Nat.ble 5 (d + 1) = true) (a0 b0 : Nat → Nat → Int) (hv0 : iv a0) : ∀ n : Nat, (∀ (y2 y3 : Int) (a : Nat → Nat → Int), (((4 - y3) * 1) + 0).toNat ≤ n → iv a → jfr jW_X8_takesWord_r1005 a0 a → 4 ≤ y2 → y2 ≤ 200 → 0 ≤ y3 → y3 ≤ 3 → 4 ≤ a 2 1 → y3 < 4 → 0 ≤ y3 → y2 = (a 2 2) + 4 → y2 ≤ a 2 1 → y2 ≤ 200 → jt (jxX E d 128 58 [some (.inr (.inr (.inl 2))), some (.inr (.inr (.inl 1005))), some (.inl y2), some (.inl y3)] [] (jxSH, a, b0)) (jQ_X8_takesWord_r1005 a0 b0)) ∧ (∀ (y2 y3 : Int) (a : Nat → Nat → Int), (((4 - y3) * 1) + 0).toNat ≤ n → iv a → jfr jW_X8_takesWord_r1005 a0 a → 4 ≤ y2 → y2 ≤ 200 → 0 ≤ y3 → y3 ≤ 4 → 4 ≤ a 2 1 → 0 ≤ y3 → y2 = (a 2 2) + 4 → y2 ≤ a 2 1 → y2 ≤ 200 → jt (jxX E d 128 29 [some (.inr (.inr (.inl 2))), some (.inr (.inr (.inl 1005))), some (.inl y2), some (.inl y3)] [] (jxSH, a, b0)) (jQ_X8_takesWord_r1005 a0 b0)) := by
  refine jx_ind fun n ih => ?_
  have ih58 : ∀ (y2 y3 : Int) (a : Nat → Nat → Int), (((4 - y3) * 1) + 0).toNat < n → iv a → jfr jW_X8_takesWord_r1005 a0 a → 4 ≤ y2 → y2 ≤ 200 → 0 ≤ y3 → y3 ≤ 3 → 4 ≤ a 2 1 → y3 < 4 → 0 ≤ y3 → y2 = (a 2 2) + 4 → y2 ≤ a 2 1 → y2 ≤ 200 → jt (jxX E d 128 58 [some (.inr (.inr (.inl 2))), some (.inr (.inr (.inl 1005))), some (.inl y2), some (.inl y3)] [] (jxSH, a, b0)) (jQ_X8_takesWord_r1005 a0 b0) := fun y2 y3 a hlt i0 i1 i2 i3 i4 i5 i6 i7 i8 i9 i10 i11 => (ih _ hlt).1 y2 y3 a (Nat.le_refl _) i0 i1 i2 i3 i4 i5 i6 i7 i8 i9 i10 i11
  have ih29 : ∀ (y2 y3 : Int) (a : Nat → Nat → Int), (((4 - y3) * 1) + 0).toNat < n → iv a → jfr jW_X8_takesWord_r1005 a0 a → 4 ≤ y2 → y2 ≤ 200 → 0 ≤ y3 → y3 ≤ 4 → 4 ≤ a 2 1 → 0 ≤ y3 → y2 = (a 2 2) + 4 → y2 ≤ a 2 1 → y2 ≤ 200 → jt (jxX E d 128 29 [some (.inr (.inr (.inl 2))), some (.inr (.inr (.inl 1005))), some (.inl y2), some (.inl y3)] [] (jxSH, a, b0)) (jQ_X8_takesWord_r1005 a0 b0) := fun y2 y3 a hlt i0 i1 i2 i3 i4 i5 i6 i7 i8 i9 i10 => (ih _ hlt).2 y2 y3 a (Nat.le_refl _) i0 i1 i2 i3 i4 i5 i6 i7 i8 i9 i10
  have hc58 : ∀ (y2 y3 : Int) (a : Nat → Nat → Int), (((4 - y3) * 1) + 0).toNat ≤ n → iv a → jfr jW_X8_takesWord_r1005 a0 a → 4 ≤ y2 → y2 ≤ 200 → 0 ≤ y3 → y3 ≤ 3 → 4 ≤ a 2 1 → y3 < 4 → 0 ≤ y3 → y2 = (a 2 2) + 4 → y2 ≤ a 2 1 → y2 ≤ 200 → jt (jxX E d 128 58 [some (.inr (.inr (.inl 2))), some (.inr (.inr (.inl 1005))), some (.inl y2), some (.inl y3)] [] (jxSH, a, b0)) (jQ_X8_takesWord_r1005 a0 b0) := by
    intro y2 y3 a hm hv hf hi0 hi1 hi2 hi3 hi4 hi5 hi6 hi7 hi8 hi9
    refine jt_eq (bq_X8_takesWord_r1005_58 E d y2 y3 a b0) ?_
    have h345_ := iv_get hv (k := 2) (j := 1) (l := 0) (u := 200) rfl
    have h346_ : a 2 1 = a0 2 1 := hf 2 1 rfl
    have h347_ := iv_get hv0 (k := 2) (j := 1) (l := 0) (u := 200) rfl
    have h348_ := iv_get hv (k := 2) (j := 2) (l := 0) (u := 200) rfl
    have h349_ : jxw (y3 + 1) = y3 + 1 := jxw_id (by omega) (by omega)
    exact ih29 y2 (jxw (y3 + 1)) a (show (((4 - (jxw (y3 + 1))) * 1) + 0).toNat < n from by omega) hv hf (show 4 ≤ y2 from by omega) (show y2 ≤ 200 from by omega) (show 0 ≤ jxw (y3 + 1) from by omega) (show jxw (y3 + 1) ≤ 4 from by omega) (show 4 ≤ a 2 1 from by omega) (show 0 ≤ jxw (y3 + 1) from by omega) (show y2 = (a 2 2) + 4 from by omega) (show y2 ≤ a 2 1 from by omega) (show y2 ≤ 200 from by omega)
  have hc29 : ∀ (y2 y3 : Int) (a : Nat → Nat → Int), (((4 - y3) * 1) + 0).toNat ≤ n → iv a → jfr jW_X8_takesWord_r1005 a0 a → 4 ≤ y2 → y2 ≤ 200 → 0 ≤ y3 → y3 ≤ 4 → 4 ≤ a 2 1 → 0 ≤ y3 → y2 = (a 2 2) + 4 → y2 ≤ a 2 1 → y2 ≤ 200 → jt (jxX E d 128 29 [some (.inr (.inr (.inl 2))), some (.inr (.inr (.inl 1005))), some (.inl y2), some (.inl y3)] [] (jxSH, a, b0)) (jQ_X8_takesWord_r1005 a0 b0) := by
    intro y2 y3 a hm hv hf hi0 hi1 hi2 hi3 hi4 hi5 hi6 hi7 hi8
    refine jt_eq (bq_X8_takesWord_r1005_29 E d y2 y3 a b0) ?_
    have h350_ := iv_get hv (k := 2) (j := 1) (l := 0) (u := 200) rfl
    have h351_ : a 2 1 = a0 2 1 := hf 2 1 rfl
    have h352_ := iv_get hv0 (k := 2) (j := 1) (l := 0) (u := 200) rfl
    have h353_ := iv_get hv (k := 2) (j := 2) (l := 0) (u := 200) rfl
    refine jt_eI (eq_J0_length_8abf5_r1005 E d (jd_le hd rfl) a b0) ?_
    have h354_ := ff_J0_length_8abf5_r1005 a b0
    refine jt_ite (fun c355_ => ?_) (fun c355_ => ?_)
    ·
      have h356_ : jxw ((a 2 2) + y3) = (a 2 2) + y3 := jxw_id (by omega) (by omega)
      refine jt_grd (by omega) ?_
      refine jt_eI (eq_J0_charAt_5068e_r1005 E d (jd_le hd rfl) y3 a b0 (show (0 ≤ y3 ∧ y3 < 4) from by omega)) ?_
      have h357_ := iv_get hv (k := 3) (j := (jxw ((a 2 2) + y3)).toNat) (l := 0) (u := 255) rfl
      have h358_ : a 3 ((jxw ((a 2 2) + y3)).toNat) = a0 3 ((jxw ((a 2 2) + y3)).toNat) := hf 3 ((jxw ((a 2 2) + y3)).toNat) rfl
      have h359_ := iv_get hv0 (k := 3) (j := (jxw ((a 2 2) + y3)).toNat) (l := 0) (u := 255) rfl
      have h360_ := f_J0_charAt_5068e_r1005_eq a b0 y3
      have h361_ := f_J0_isLatin1_aae02_r1005_eq a b0
      have h362_ := f_J1_charAt_3b067_r2005_eq a b0 y3
      have h363_ := jxand_r (([110, 101, 97, 114] : List Int).getD (y3.toNat) 0) 255 (by decide) (by decide)
      have h364_ := jxi2c_b (jxand (([110, 101, 97, 114] : List Int).getD (y3.toNat) 0) 255)
      refine jt_ite (fun c365_ => ?_) (fun c365_ => ?_)
      ·
        exact hc58 y2 y3 a (show (((4 - y3) * 1) + 0).toNat ≤ n from by omega) hv hf (show 4 ≤ y2 from by omega) (show y2 ≤ 200 from by omega) (show 0 ≤ y3 from by omega) (show y3 ≤ 3 from by omega) (show 4 ≤ a 2 1 from by omega) (show y3 < 4 from by omega) (show 0 ≤ y3 from by omega) (show y2 = (a 2 2) + 4 from by omega) (show y2 ≤ a 2 1 from by omega) (show y2 ≤ 200 from by omega)
      ·
        exact cp_X8_takesWord_r1005_56 E d hd a0 b0 hv0 a hv hf (show 4 ≤ a 2 1 from by omega)
    ·
      refine jt_ite (fun c366_ => ?_) (fun c366_ => ?_)
      ·
        refine jt_grd (by omega) ?_
        have h367_ := iv_get hv (k := 3) (j := y2.toNat) (l := 0) (u := 255) rfl
        have h368_ : a 3 (y2.toNat) = a0 3 (y2.toNat) := hf 3 (y2.toNat) rfl
        have h369_ := iv_get hv0 (k := 3) (j := y2.toNat) (l := 0) (u := 255) rfl
        refine jt_ite (fun c370_ => ?_) (fun c370_ => ?_)
        ·
          exact cp_X8_takesWord_r1005_96 E d hd a0 b0 hv0 y2 a hv hf (show 4 ≤ y2 from by omega) (show y2 ≤ 200 from by omega) (show 4 ≤ a 2 1 from by omega) (show y2 = (a 2 2) + 4 from by omega) (show y2 ≤ a 2 1 from by omega) (show y2 ≤ 200 from by omega)
        ·
          exact cp_X8_takesWord_r1005_83 E d hd a0 b0 hv0 y2 a hv hf (show 4 ≤ y2 from by omega) (show y2 ≤ 199 from by omega) (show 5 ≤ a 2 1 from by omega) (show y2 = (a 2 2) + 4 from by omega) (show y2 ≤ a 2 1 from by omega) (show y2 ≤ 200 from by omega)
      ·
        exact cp_X8_takesWord_r1005_96 E d hd a0 b0 hv0 y2 a hv hf (show 4 ≤ y2 from by omega) (show y2 ≤ 200 from by omega) (show 4 ≤ a 2 1 from by omega) (show y2 = (a 2 2) + 4 from by omega) (show y2 ≤ a 2 1 from by omega) (show y2 ≤ 200 from by omega)
  exact ⟨hc58, hc29⟩
theorem sp_X8_takesWord_r1005 (E : jxE) (d : Nat) (hd : Nat.ble 5 d = true) (a0 b0 : Nat → Nat → Int) (hv0 : iv a0) : jt (jxC E d 128 [.inr (.inr (.inl 2)), .inr (.inr (.inl 1005))] (jxSH, a0, b0)) (jQ_X8_takesWord_r1005 a0 b0) := by
  obtain ⟨d, rfl⟩ := jd_succ hd
  refine jt_eq (bq_X8_takesWord_r1005 E d a0 b0) ?_
  refine jt_eI (eq_J0_length_8abf5_r1005 E d (jd_le hd rfl) a0 b0) ?_
  refine jt_eI (eq_X8_isFaulty E d (jd_le hd rfl) a0 b0) ?_
  have h371_ := f_X8_isFaulty_eq a0 b0
  refine jt_ite (fun c372_ => ?_) (fun c372_ => ?_)
  ·
    have h373_ := iv_get hv0 (k := 2) (j := 1) (l := 0) (u := 200) rfl
    have h374_ := iv_get hv0 (k := 2) (j := 2) (l := 0) (u := 200) rfl
    have h375_ := ff_J0_length_8abf5_r1005 a0 b0
    have h376_ : jxw ((a0 2 2) + (f_J0_length_8abf5_r1005 a0 b0)) = (a0 2 2) + (f_J0_length_8abf5_r1005 a0 b0) := jxw_id (by omega) (by omega)
    refine jt_ite (fun c377_ => ?_) (fun c377_ => ?_)
    ·
      exact jt_rI ⟨hv0, (jfr_rf _ _), rfl, (show (0 ≤ 0 ∧ 0 ≤ 1) from by omega)⟩
    ·
      exact (cp_X8_takesWord_r1005_29 E d hd a0 b0 hv0 _).2 (jxw ((a0 2 2) + (f_J0_length_8abf5_r1005 a0 b0))) 0 a0 (Nat.le_refl _) hv0 (jfr_rf _ _) (show 4 ≤ jxw ((a0 2 2) + (f_J0_length_8abf5_r1005 a0 b0)) from by omega) (show jxw ((a0 2 2) + (f_J0_length_8abf5_r1005 a0 b0)) ≤ 200 from by omega) (show 0 ≤ 0 from by omega) (show 0 ≤ 4 from by omega) (show 4 ≤ a0 2 1 from by omega) (show 0 ≤ 0 from by omega) (show jxw ((a0 2 2) + (f_J0_length_8abf5_r1005 a0 b0)) = (a0 2 2) + 4 from by omega) (show jxw ((a0 2 2) + (f_J0_length_8abf5_r1005 a0 b0)) ≤ a0 2 1 from by omega) (show jxw ((a0 2 2) + (f_J0_length_8abf5_r1005 a0 b0)) ≤ 200 from by omega)
  ·
    exact jt_rI ⟨hv0, (jfr_rf _ _), rfl, (show (0 ≤ 0 ∧ 0 ≤ 1) from by omega)⟩
def jW_X8_takesWord_r1006 : List (Nat × Nat) := [(2, 2)]
abbrev jQ_X8_takesWord_r1006 (a0 b0 : Nat → Nat → Int) : List jxV → (Nat → Nat → Int) → (Nat → Nat → Int) → Prop := rI (fun r a b => (iv a) ∧ (jfr jW_X8_takesWord_r1006 a0 a) ∧ (b0 = b) ∧ ((0 ≤ r ∧ r ≤ 1)))
theorem cp_X8_takesWord_r1006_56 (E : jxE) (d : Nat) (hd : Nat.ble 5 (d + 1) = true) (a0 b0 : Nat → Nat → Int) (hv0 : iv a0) : ∀ (a : Nat → Nat → Int), iv a → jfr jW_X8_takesWord_r1006 a0 a → 3 ≤ a 2 1 → jt (jxX E d 128 56 [none, none, none, none] [] (jxSH, a, b0)) (jQ_X8_takesWord_r1006 a0 b0) := by
  intro a hv hf hi0
  refine jt_eq (bq_X8_takesWord_r1006_56 E d a b0) ?_
  have h378_ := iv_get hv (k := 2) (j := 1) (l := 0) (u := 200) rfl
  have h379_ : a 2 1 = a0 2 1 := hf 2 1 rfl
  have h380_ := iv_get hv0 (k := 2) (j := 1) (l := 0) (u := 200) rfl
  exact jt_rI ⟨hv, hf, rfl, (show (0 ≤ 0 ∧ 0 ≤ 1) from by omega)⟩
theorem cp_X8_takesWord_r1006_96 (E : jxE) (d : Nat) (hd : Nat.ble 5 (d + 1) = true) (a0 b0 : Nat → Nat → Int) (hv0 : iv a0) : ∀ (y2 : Int) (a : Nat → Nat → Int), iv a → jfr jW_X8_takesWord_r1006 a0 a → 3 ≤ y2 → y2 ≤ 200 → 3 ≤ a 2 1 → y2 = (a 2 2) + 3 → y2 ≤ a 2 1 → y2 ≤ 200 → jt (jxX E d 128 96 [some (.inr (.inr (.inl 2))), none, some (.inl y2), none] [] (jxSH, a, b0)) (jQ_X8_takesWord_r1006 a0 b0) := by
  intro y2 a hv hf hi0 hi1 hi2 hi3 hi4 hi5
  refine jt_eq (bq_X8_takesWord_r1006_96 E d y2 a b0) ?_
  have h381_ := iv_get hv (k := 2) (j := 1) (l := 0) (u := 200) rfl
  have h382_ : a 2 1 = a0 2 1 := hf 2 1 rfl
  have h383_ := iv_get hv0 (k := 2) (j := 1) (l := 0) (u := 200) rfl
  have h384_ := iv_get hv (k := 2) (j := 2) (l := 0) (u := 200) rfl
  have hv385_ : iv (jxu a 2 2 y2) := iv_put hv (l := 0) (u := 200) rfl (by omega) (by omega)
  refine jt_bV (sp_X8_skipBlanks E d (jd_le hd rfl) (jxu a 2 2 y2) b0 hv385_) (fun a386_ b386_ h386_ => ?_)
  obtain ⟨hv386_, hf386_, rfl⟩ := h386_
  have hf387_ : jfr jW_X8_takesWord_r1006 a0 (jxu a 2 2 y2) := jfr_put hf rfl
  have hf388_ : jfr jW_X8_takesWord_r1006 a0 a386_ := jfr_tr hf387_ hf386_ rfl
  exact jt_rI ⟨hv386_, hf388_, rfl, (show (0 ≤ 1 ∧ 1 ≤ 1) from by omega)⟩
theorem cp_X8_takesWord_r1006_83 (E : jxE) (d : Nat) (hd : Nat.ble 5 (d + 1) = true) (a0 b0 : Nat → Nat → Int) (hv0 : iv a0) : ∀ (y2 : Int) (a : Nat → Nat → Int), iv a → jfr jW_X8_takesWord_r1006 a0 a → 3 ≤ y2 → y2 ≤ 199 → 4 ≤ a 2 1 → y2 = (a 2 2) + 3 → y2 ≤ a 2 1 → y2 ≤ 200 → jt (jxX E d 128 83 [some (.inr (.inr (.inl 2))), none, some (.inl y2), none] [] (jxSH, a, b0)) (jQ_X8_takesWord_r1006 a0 b0) := by
  intro y2 a hv hf hi0 hi1 hi2 hi3 hi4 hi5
  refine jt_eq (bq_X8_takesWord_r1006_83 E d y2 a b0) ?_
  have h389_ := iv_get hv (k := 2) (j := 1) (l := 0) (u := 200) rfl
  have h390_ : a 2 1 = a0 2 1 := hf 2 1 rfl
  have h391_ := iv_get hv0 (k := 2) (j := 1) (l := 0) (u := 200) rfl
  have h392_ := iv_get hv (k := 2) (j := 2) (l := 0) (u := 200) rfl
  refine jt_grd (by omega) ?_
  have h393_ := iv_get hv (k := 3) (j := y2.toNat) (l := 0) (u := 255) rfl
  have h394_ : a 3 (y2.toNat) = a0 3 (y2.toNat) := hf 3 (y2.toNat) rfl
  have h395_ := iv_get hv0 (k := 3) (j := y2.toNat) (l := 0) (u := 255) rfl
  refine jt_ite (fun c396_ => ?_) (fun c396_ => ?_)
  ·
    exact cp_X8_takesWord_r1006_96 E d hd a0 b0 hv0 y2 a hv hf (show 3 ≤ y2 from by omega) (show y2 ≤ 200 from by omega) (show 3 ≤ a 2 1 from by omega) (show y2 = (a 2 2) + 3 from by omega) (show y2 ≤ a 2 1 from by omega) (show y2 ≤ 200 from by omega)
  ·
    exact jt_rI ⟨hv, hf, rfl, (show (0 ≤ 0 ∧ 0 ≤ 1) from by omega)⟩
theorem cp_X8_takesWord_r1006_29 (E : jxE) (d : Nat) (hd : Nat.ble 5 (d + 1) = true) (a0 b0 : Nat → Nat → Int) (hv0 : iv a0) : ∀ n : Nat, (∀ (y2 y3 : Int) (a : Nat → Nat → Int), (((3 - y3) * 1) + 0).toNat ≤ n → iv a → jfr jW_X8_takesWord_r1006 a0 a → 3 ≤ y2 → y2 ≤ 200 → 0 ≤ y3 → y3 ≤ 2 → 3 ≤ a 2 1 → y3 < 3 → 0 ≤ y3 → y2 = (a 2 2) + 3 → y2 ≤ a 2 1 → y2 ≤ 200 → jt (jxX E d 128 58 [some (.inr (.inr (.inl 2))), some (.inr (.inr (.inl 1006))), some (.inl y2), some (.inl y3)] [] (jxSH, a, b0)) (jQ_X8_takesWord_r1006 a0 b0)) ∧ (∀ (y2 y3 : Int) (a : Nat → Nat → Int), (((3 - y3) * 1) + 0).toNat ≤ n → iv a → jfr jW_X8_takesWord_r1006 a0 a → 3 ≤ y2 → y2 ≤ 200 → 0 ≤ y3 → y3 ≤ 3 → 3 ≤ a 2 1 → 0 ≤ y3 → y2 = (a 2 2) + 3 → y2 ≤ a 2 1 → y2 ≤ 200 → jt (jxX E d 128 29 [some (.inr (.inr (.inl 2))), some (.inr (.inr (.inl 1006))), some (.inl y2), some (.inl y3)] [] (jxSH, a, b0)) (jQ_X8_takesWord_r1006 a0 b0)) := by
  refine jx_ind fun n ih => ?_
  have ih58 : ∀ (y2 y3 : Int) (a : Nat → Nat → Int), (((3 - y3) * 1) + 0).toNat < n → iv a → jfr jW_X8_takesWord_r1006 a0 a → 3 ≤ y2 → y2 ≤ 200 → 0 ≤ y3 → y3 ≤ 2 → 3 ≤ a 2 1 → y3 < 3 → 0 ≤ y3 → y2 = (a 2 2) + 3 → y2 ≤ a 2 1 → y2 ≤ 200 → jt (jxX E d 128 58 [some (.inr (.inr (.inl 2))), some (.inr (.inr (.inl 1006))), some (.inl y2), some (.inl y3)] [] (jxSH, a, b0)) (jQ_X8_takesWord_r1006 a0 b0) := fun y2 y3 a hlt i0 i1 i2 i3 i4 i5 i6 i7 i8 i9 i10 i11 => (ih _ hlt).1 y2 y3 a (Nat.le_refl _) i0 i1 i2 i3 i4 i5 i6 i7 i8 i9 i10 i11
  have ih29 : ∀ (y2 y3 : Int) (a : Nat → Nat → Int), (((3 - y3) * 1) + 0).toNat < n → iv a → jfr jW_X8_takesWord_r1006 a0 a → 3 ≤ y2 → y2 ≤ 200 → 0 ≤ y3 → y3 ≤ 3 → 3 ≤ a 2 1 → 0 ≤ y3 → y2 = (a 2 2) + 3 → y2 ≤ a 2 1 → y2 ≤ 200 → jt (jxX E d 128 29 [some (.inr (.inr (.inl 2))), some (.inr (.inr (.inl 1006))), some (.inl y2), some (.inl y3)] [] (jxSH, a, b0)) (jQ_X8_takesWord_r1006 a0 b0) := fun y2 y3 a hlt i0 i1 i2 i3 i4 i5 i6 i7 i8 i9 i10 => (ih _ hlt).2 y2 y3 a (Nat.le_refl _) i0 i1 i2 i3 i4 i5 i6 i7 i8 i9 i10
  have hc58 : ∀ (y2 y3 : Int) (a : Nat → Nat → Int), (((3 - y3) * 1) + 0).toNat ≤ n → iv a → jfr jW_X8_takesWord_r1006 a0 a → 3 ≤ y2 → y2 ≤ 200 → 0 ≤ y3 → y3 ≤ 2 → 3 ≤ a 2 1 → y3 < 3 → 0 ≤ y3 → y2 = (a 2 2) + 3 → y2 ≤ a 2 1 → y2 ≤ 200 → jt (jxX E d 128 58 [some (.inr (.inr (.inl 2))), some (.inr (.inr (.inl 1006))), some (.inl y2), some (.inl y3)] [] (jxSH, a, b0)) (jQ_X8_takesWord_r1006 a0 b0) := by
    intro y2 y3 a hm hv hf hi0 hi1 hi2 hi3 hi4 hi5 hi6 hi7 hi8 hi9
    refine jt_eq (bq_X8_takesWord_r1006_58 E d y2 y3 a b0) ?_
    have h397_ := iv_get hv (k := 2) (j := 1) (l := 0) (u := 200) rfl
    have h398_ : a 2 1 = a0 2 1 := hf 2 1 rfl
    have h399_ := iv_get hv0 (k := 2) (j := 1) (l := 0) (u := 200) rfl
    have h400_ := iv_get hv (k := 2) (j := 2) (l := 0) (u := 200) rfl
    have h401_ : jxw (y3 + 1) = y3 + 1 := jxw_id (by omega) (by omega)
    exact ih29 y2 (jxw (y3 + 1)) a (show (((3 - (jxw (y3 + 1))) * 1) + 0).toNat < n from by omega) hv hf (show 3 ≤ y2 from by omega) (show y2 ≤ 200 from by omega) (show 0 ≤ jxw (y3 + 1) from by omega) (show jxw (y3 + 1) ≤ 3 from by omega) (show 3 ≤ a 2 1 from by omega) (show 0 ≤ jxw (y3 + 1) from by omega) (show y2 = (a 2 2) + 3 from by omega) (show y2 ≤ a 2 1 from by omega) (show y2 ≤ 200 from by omega)
  have hc29 : ∀ (y2 y3 : Int) (a : Nat → Nat → Int), (((3 - y3) * 1) + 0).toNat ≤ n → iv a → jfr jW_X8_takesWord_r1006 a0 a → 3 ≤ y2 → y2 ≤ 200 → 0 ≤ y3 → y3 ≤ 3 → 3 ≤ a 2 1 → 0 ≤ y3 → y2 = (a 2 2) + 3 → y2 ≤ a 2 1 → y2 ≤ 200 → jt (jxX E d 128 29 [some (.inr (.inr (.inl 2))), some (.inr (.inr (.inl 1006))), some (.inl y2), some (.inl y3)] [] (jxSH, a, b0)) (jQ_X8_takesWord_r1006 a0 b0) := by
    intro y2 y3 a hm hv hf hi0 hi1 hi2 hi3 hi4 hi5 hi6 hi7 hi8
    refine jt_eq (bq_X8_takesWord_r1006_29 E d y2 y3 a b0) ?_
    have h402_ := iv_get hv (k := 2) (j := 1) (l := 0) (u := 200) rfl
    have h403_ : a 2 1 = a0 2 1 := hf 2 1 rfl
    have h404_ := iv_get hv0 (k := 2) (j := 1) (l := 0) (u := 200) rfl
    have h405_ := iv_get hv (k := 2) (j := 2) (l := 0) (u := 200) rfl
    refine jt_eI (eq_J0_length_8abf5_r1006 E d (jd_le hd rfl) a b0) ?_
    have h406_ := ff_J0_length_8abf5_r1006 a b0
    refine jt_ite (fun c407_ => ?_) (fun c407_ => ?_)
    ·
      have h408_ : jxw ((a 2 2) + y3) = (a 2 2) + y3 := jxw_id (by omega) (by omega)
      refine jt_grd (by omega) ?_
      refine jt_eI (eq_J0_charAt_5068e_r1006 E d (jd_le hd rfl) y3 a b0 (show (0 ≤ y3 ∧ y3 < 3) from by omega)) ?_
      have h409_ := iv_get hv (k := 3) (j := (jxw ((a 2 2) + y3)).toNat) (l := 0) (u := 255) rfl
      have h410_ : a 3 ((jxw ((a 2 2) + y3)).toNat) = a0 3 ((jxw ((a 2 2) + y3)).toNat) := hf 3 ((jxw ((a 2 2) + y3)).toNat) rfl
      have h411_ := iv_get hv0 (k := 3) (j := (jxw ((a 2 2) + y3)).toNat) (l := 0) (u := 255) rfl
      have h412_ := f_J0_charAt_5068e_r1006_eq a b0 y3
      have h413_ := f_J0_isLatin1_aae02_r1006_eq a b0
      have h414_ := f_J1_charAt_3b067_r2006_eq a b0 y3
      have h415_ := jxand_r (([111, 108, 100] : List Int).getD (y3.toNat) 0) 255 (by decide) (by decide)
      have h416_ := jxi2c_b (jxand (([111, 108, 100] : List Int).getD (y3.toNat) 0) 255)
      refine jt_ite (fun c417_ => ?_) (fun c417_ => ?_)
      ·
        exact hc58 y2 y3 a (show (((3 - y3) * 1) + 0).toNat ≤ n from by omega) hv hf (show 3 ≤ y2 from by omega) (show y2 ≤ 200 from by omega) (show 0 ≤ y3 from by omega) (show y3 ≤ 2 from by omega) (show 3 ≤ a 2 1 from by omega) (show y3 < 3 from by omega) (show 0 ≤ y3 from by omega) (show y2 = (a 2 2) + 3 from by omega) (show y2 ≤ a 2 1 from by omega) (show y2 ≤ 200 from by omega)
      ·
        exact cp_X8_takesWord_r1006_56 E d hd a0 b0 hv0 a hv hf (show 3 ≤ a 2 1 from by omega)
    ·
      refine jt_ite (fun c418_ => ?_) (fun c418_ => ?_)
      ·
        refine jt_grd (by omega) ?_
        have h419_ := iv_get hv (k := 3) (j := y2.toNat) (l := 0) (u := 255) rfl
        have h420_ : a 3 (y2.toNat) = a0 3 (y2.toNat) := hf 3 (y2.toNat) rfl
        have h421_ := iv_get hv0 (k := 3) (j := y2.toNat) (l := 0) (u := 255) rfl
        refine jt_ite (fun c422_ => ?_) (fun c422_ => ?_)
        ·
          exact cp_X8_takesWord_r1006_96 E d hd a0 b0 hv0 y2 a hv hf (show 3 ≤ y2 from by omega) (show y2 ≤ 200 from by omega) (show 3 ≤ a 2 1 from by omega) (show y2 = (a 2 2) + 3 from by omega) (show y2 ≤ a 2 1 from by omega) (show y2 ≤ 200 from by omega)
        ·
          exact cp_X8_takesWord_r1006_83 E d hd a0 b0 hv0 y2 a hv hf (show 3 ≤ y2 from by omega) (show y2 ≤ 199 from by omega) (show 4 ≤ a 2 1 from by omega) (show y2 = (a 2 2) + 3 from by omega) (show y2 ≤ a 2 1 from by omega) (show y2 ≤ 200 from by omega)
      ·
        exact cp_X8_takesWord_r1006_96 E d hd a0 b0 hv0 y2 a hv hf (show 3 ≤ y2 from by omega) (show y2 ≤ 200 from by omega) (show 3 ≤ a 2 1 from by omega) (show y2 = (a 2 2) + 3 from by omega) (show y2 ≤ a 2 1 from by omega) (show y2 ≤ 200 from by omega)
  exact ⟨hc58, hc29⟩
theorem sp_X8_takesWord_r1006 (E : jxE) (d : Nat) (hd : Nat.ble 5 d = true) (a0 b0 : Nat → Nat → Int) (hv0 : iv a0) : jt (jxC E d 128 [.inr (.inr (.inl 2)), .inr (.inr (.inl 1006))] (jxSH, a0, b0)) (jQ_X8_takesWord_r1006 a0 b0) := by
  obtain ⟨d, rfl⟩ := jd_succ hd
  refine jt_eq (bq_X8_takesWord_r1006 E d a0 b0) ?_
  refine jt_eI (eq_J0_length_8abf5_r1006 E d (jd_le hd rfl) a0 b0) ?_
  refine jt_eI (eq_X8_isFaulty E d (jd_le hd rfl) a0 b0) ?_
  have h423_ := f_X8_isFaulty_eq a0 b0
  refine jt_ite (fun c424_ => ?_) (fun c424_ => ?_)
  ·
    have h425_ := iv_get hv0 (k := 2) (j := 1) (l := 0) (u := 200) rfl
    have h426_ := iv_get hv0 (k := 2) (j := 2) (l := 0) (u := 200) rfl
    have h427_ := ff_J0_length_8abf5_r1006 a0 b0
    have h428_ : jxw ((a0 2 2) + (f_J0_length_8abf5_r1006 a0 b0)) = (a0 2 2) + (f_J0_length_8abf5_r1006 a0 b0) := jxw_id (by omega) (by omega)
    refine jt_ite (fun c429_ => ?_) (fun c429_ => ?_)
    ·
      exact jt_rI ⟨hv0, (jfr_rf _ _), rfl, (show (0 ≤ 0 ∧ 0 ≤ 1) from by omega)⟩
    ·
      exact (cp_X8_takesWord_r1006_29 E d hd a0 b0 hv0 _).2 (jxw ((a0 2 2) + (f_J0_length_8abf5_r1006 a0 b0))) 0 a0 (Nat.le_refl _) hv0 (jfr_rf _ _) (show 3 ≤ jxw ((a0 2 2) + (f_J0_length_8abf5_r1006 a0 b0)) from by omega) (show jxw ((a0 2 2) + (f_J0_length_8abf5_r1006 a0 b0)) ≤ 200 from by omega) (show 0 ≤ 0 from by omega) (show 0 ≤ 3 from by omega) (show 3 ≤ a0 2 1 from by omega) (show 0 ≤ 0 from by omega) (show jxw ((a0 2 2) + (f_J0_length_8abf5_r1006 a0 b0)) = (a0 2 2) + 3 from by omega) (show jxw ((a0 2 2) + (f_J0_length_8abf5_r1006 a0 b0)) ≤ a0 2 1 from by omega) (show jxw ((a0 2 2) + (f_J0_length_8abf5_r1006 a0 b0)) ≤ 200 from by omega)
  ·
    exact jt_rI ⟨hv0, (jfr_rf _ _), rfl, (show (0 ≤ 0 ∧ 0 ≤ 1) from by omega)⟩
def jW_X8_takesWord_r1007 : List (Nat × Nat) := [(2, 2)]
abbrev jQ_X8_takesWord_r1007 (a0 b0 : Nat → Nat → Int) : List jxV → (Nat → Nat → Int) → (Nat → Nat → Int) → Prop := rI (fun r a b => (iv a) ∧ (jfr jW_X8_takesWord_r1007 a0 a) ∧ (b0 = b) ∧ ((0 ≤ r ∧ r ≤ 1)))
theorem cp_X8_takesWord_r1007_56 (E : jxE) (d : Nat) (hd : Nat.ble 5 (d + 1) = true) (a0 b0 : Nat → Nat → Int) (hv0 : iv a0) : ∀ (a : Nat → Nat → Int), iv a → jfr jW_X8_takesWord_r1007 a0 a → 3 ≤ a 2 1 → jt (jxX E d 128 56 [none, none, none, none] [] (jxSH, a, b0)) (jQ_X8_takesWord_r1007 a0 b0) := by
  intro a hv hf hi0
  refine jt_eq (bq_X8_takesWord_r1007_56 E d a b0) ?_
  have h430_ := iv_get hv (k := 2) (j := 1) (l := 0) (u := 200) rfl
  have h431_ : a 2 1 = a0 2 1 := hf 2 1 rfl
  have h432_ := iv_get hv0 (k := 2) (j := 1) (l := 0) (u := 200) rfl
  exact jt_rI ⟨hv, hf, rfl, (show (0 ≤ 0 ∧ 0 ≤ 1) from by omega)⟩
theorem cp_X8_takesWord_r1007_96 (E : jxE) (d : Nat) (hd : Nat.ble 5 (d + 1) = true) (a0 b0 : Nat → Nat → Int) (hv0 : iv a0) : ∀ (y2 : Int) (a : Nat → Nat → Int), iv a → jfr jW_X8_takesWord_r1007 a0 a → 3 ≤ y2 → y2 ≤ 200 → 3 ≤ a 2 1 → y2 = (a 2 2) + 3 → y2 ≤ a 2 1 → y2 ≤ 200 → jt (jxX E d 128 96 [some (.inr (.inr (.inl 2))), none, some (.inl y2), none] [] (jxSH, a, b0)) (jQ_X8_takesWord_r1007 a0 b0) := by
  intro y2 a hv hf hi0 hi1 hi2 hi3 hi4 hi5
  refine jt_eq (bq_X8_takesWord_r1007_96 E d y2 a b0) ?_
  have h433_ := iv_get hv (k := 2) (j := 1) (l := 0) (u := 200) rfl
  have h434_ : a 2 1 = a0 2 1 := hf 2 1 rfl
  have h435_ := iv_get hv0 (k := 2) (j := 1) (l := 0) (u := 200) rfl
  have h436_ := iv_get hv (k := 2) (j := 2) (l := 0) (u := 200) rfl
  have hv437_ : iv (jxu a 2 2 y2) := iv_put hv (l := 0) (u := 200) rfl (by omega) (by omega)
  refine jt_bV (sp_X8_skipBlanks E d (jd_le hd rfl) (jxu a 2 2 y2) b0 hv437_) (fun a438_ b438_ h438_ => ?_)
  obtain ⟨hv438_, hf438_, rfl⟩ := h438_
  have hf439_ : jfr jW_X8_takesWord_r1007 a0 (jxu a 2 2 y2) := jfr_put hf rfl
  have hf440_ : jfr jW_X8_takesWord_r1007 a0 a438_ := jfr_tr hf439_ hf438_ rfl
  exact jt_rI ⟨hv438_, hf440_, rfl, (show (0 ≤ 1 ∧ 1 ≤ 1) from by omega)⟩
theorem cp_X8_takesWord_r1007_83 (E : jxE) (d : Nat) (hd : Nat.ble 5 (d + 1) = true) (a0 b0 : Nat → Nat → Int) (hv0 : iv a0) : ∀ (y2 : Int) (a : Nat → Nat → Int), iv a → jfr jW_X8_takesWord_r1007 a0 a → 3 ≤ y2 → y2 ≤ 199 → 4 ≤ a 2 1 → y2 = (a 2 2) + 3 → y2 ≤ a 2 1 → y2 ≤ 200 → jt (jxX E d 128 83 [some (.inr (.inr (.inl 2))), none, some (.inl y2), none] [] (jxSH, a, b0)) (jQ_X8_takesWord_r1007 a0 b0) := by
  intro y2 a hv hf hi0 hi1 hi2 hi3 hi4 hi5
  refine jt_eq (bq_X8_takesWord_r1007_83 E d y2 a b0) ?_
  have h441_ := iv_get hv (k := 2) (j := 1) (l := 0) (u := 200) rfl
  have h442_ : a 2 1 = a0 2 1 := hf 2 1 rfl
  have h443_ := iv_get hv0 (k := 2) (j := 1) (l := 0) (u := 200) rfl
  have h444_ := iv_get hv (k := 2) (j := 2) (l := 0) (u := 200) rfl
  refine jt_grd (by omega) ?_
  have h445_ := iv_get hv (k := 3) (j := y2.toNat) (l := 0) (u := 255) rfl
  have h446_ : a 3 (y2.toNat) = a0 3 (y2.toNat) := hf 3 (y2.toNat) rfl
  have h447_ := iv_get hv0 (k := 3) (j := y2.toNat) (l := 0) (u := 255) rfl
  refine jt_ite (fun c448_ => ?_) (fun c448_ => ?_)
  ·
    exact cp_X8_takesWord_r1007_96 E d hd a0 b0 hv0 y2 a hv hf (show 3 ≤ y2 from by omega) (show y2 ≤ 200 from by omega) (show 3 ≤ a 2 1 from by omega) (show y2 = (a 2 2) + 3 from by omega) (show y2 ≤ a 2 1 from by omega) (show y2 ≤ 200 from by omega)
  ·
    exact jt_rI ⟨hv, hf, rfl, (show (0 ≤ 0 ∧ 0 ≤ 1) from by omega)⟩
theorem cp_X8_takesWord_r1007_29 (E : jxE) (d : Nat) (hd : Nat.ble 5 (d + 1) = true) (a0 b0 : Nat → Nat → Int) (hv0 : iv a0) : ∀ n : Nat, (∀ (y2 y3 : Int) (a : Nat → Nat → Int), (((3 - y3) * 1) + 0).toNat ≤ n → iv a → jfr jW_X8_takesWord_r1007 a0 a → 3 ≤ y2 → y2 ≤ 200 → 0 ≤ y3 → y3 ≤ 2 → 3 ≤ a 2 1 → y3 < 3 → 0 ≤ y3 → y2 = (a 2 2) + 3 → y2 ≤ a 2 1 → y2 ≤ 200 → jt (jxX E d 128 58 [some (.inr (.inr (.inl 2))), some (.inr (.inr (.inl 1007))), some (.inl y2), some (.inl y3)] [] (jxSH, a, b0)) (jQ_X8_takesWord_r1007 a0 b0)) ∧ (∀ (y2 y3 : Int) (a : Nat → Nat → Int), (((3 - y3) * 1) + 0).toNat ≤ n → iv a → jfr jW_X8_takesWord_r1007 a0 a → 3 ≤ y2 → y2 ≤ 200 → 0 ≤ y3 → y3 ≤ 3 → 3 ≤ a 2 1 → 0 ≤ y3 → y2 = (a 2 2) + 3 → y2 ≤ a 2 1 → y2 ≤ 200 → jt (jxX E d 128 29 [some (.inr (.inr (.inl 2))), some (.inr (.inr (.inl 1007))), some (.inl y2), some (.inl y3)] [] (jxSH, a, b0)) (jQ_X8_takesWord_r1007 a0 b0)) := by
  refine jx_ind fun n ih => ?_
  have ih58 : ∀ (y2 y3 : Int) (a : Nat → Nat → Int), (((3 - y3) * 1) + 0).toNat < n → iv a → jfr jW_X8_takesWord_r1007 a0 a → 3 ≤ y2 → y2 ≤ 200 → 0 ≤ y3 → y3 ≤ 2 → 3 ≤ a 2 1 → y3 < 3 → 0 ≤ y3 → y2 = (a 2 2) + 3 → y2 ≤ a 2 1 → y2 ≤ 200 → jt (jxX E d 128 58 [some (.inr (.inr (.inl 2))), some (.inr (.inr (.inl 1007))), some (.inl y2), some (.inl y3)] [] (jxSH, a, b0)) (jQ_X8_takesWord_r1007 a0 b0) := fun y2 y3 a hlt i0 i1 i2 i3 i4 i5 i6 i7 i8 i9 i10 i11 => (ih _ hlt).1 y2 y3 a (Nat.le_refl _) i0 i1 i2 i3 i4 i5 i6 i7 i8 i9 i10 i11
  have ih29 : ∀ (y2 y3 : Int) (a : Nat → Nat → Int), (((3 - y3) * 1) + 0).toNat < n → iv a → jfr jW_X8_takesWord_r1007 a0 a → 3 ≤ y2 → y2 ≤ 200 → 0 ≤ y3 → y3 ≤ 3 → 3 ≤ a 2 1 → 0 ≤ y3 → y2 = (a 2 2) + 3 → y2 ≤ a 2 1 → y2 ≤ 200 → jt (jxX E d 128 29 [some (.inr (.inr (.inl 2))), some (.inr (.inr (.inl 1007))), some (.inl y2), some (.inl y3)] [] (jxSH, a, b0)) (jQ_X8_takesWord_r1007 a0 b0) := fun y2 y3 a hlt i0 i1 i2 i3 i4 i5 i6 i7 i8 i9 i10 => (ih _ hlt).2 y2 y3 a (Nat.le_refl _) i0 i1 i2 i3 i4 i5 i6 i7 i8 i9 i10
  have hc58 : ∀ (y2 y3 : Int) (a : Nat → Nat → Int), (((3 - y3) * 1) + 0).toNat ≤ n → iv a → jfr jW_X8_takesWord_r1007 a0 a → 3 ≤ y2 → y2 ≤ 200 → 0 ≤ y3 → y3 ≤ 2 → 3 ≤ a 2 1 → y3 < 3 → 0 ≤ y3 → y2 = (a 2 2) + 3 → y2 ≤ a 2 1 → y2 ≤ 200 → jt (jxX E d 128 58 [some (.inr (.inr (.inl 2))), some (.inr (.inr (.inl 1007))), some (.inl y2), some (.inl y3)] [] (jxSH, a, b0)) (jQ_X8_takesWord_r1007 a0 b0) := by
    intro y2 y3 a hm hv hf hi0 hi1 hi2 hi3 hi4 hi5 hi6 hi7 hi8 hi9
    refine jt_eq (bq_X8_takesWord_r1007_58 E d y2 y3 a b0) ?_
    have h449_ := iv_get hv (k := 2) (j := 1) (l := 0) (u := 200) rfl
    have h450_ : a 2 1 = a0 2 1 := hf 2 1 rfl
    have h451_ := iv_get hv0 (k := 2) (j := 1) (l := 0) (u := 200) rfl
    have h452_ := iv_get hv (k := 2) (j := 2) (l := 0) (u := 200) rfl
    have h453_ : jxw (y3 + 1) = y3 + 1 := jxw_id (by omega) (by omega)
    exact ih29 y2 (jxw (y3 + 1)) a (show (((3 - (jxw (y3 + 1))) * 1) + 0).toNat < n from by omega) hv hf (show 3 ≤ y2 from by omega) (show y2 ≤ 200 from by omega) (show 0 ≤ jxw (y3 + 1) from by omega) (show jxw (y3 + 1) ≤ 3 from by omega) (show 3 ≤ a 2 1 from by omega) (show 0 ≤ jxw (y3 + 1) from by omega) (show y2 = (a 2 2) + 3 from by omega) (show y2 ≤ a 2 1 from by omega) (show y2 ≤ 200 from by omega)
  have hc29 : ∀ (y2 y3 : Int) (a : Nat → Nat → Int), (((3 - y3) * 1) + 0).toNat ≤ n → iv a → jfr jW_X8_takesWord_r1007 a0 a → 3 ≤ y2 → y2 ≤ 200 → 0 ≤ y3 → y3 ≤ 3 → 3 ≤ a 2 1 → 0 ≤ y3 → y2 = (a 2 2) + 3 → y2 ≤ a 2 1 → y2 ≤ 200 → jt (jxX E d 128 29 [some (.inr (.inr (.inl 2))), some (.inr (.inr (.inl 1007))), some (.inl y2), some (.inl y3)] [] (jxSH, a, b0)) (jQ_X8_takesWord_r1007 a0 b0) := by
    intro y2 y3 a hm hv hf hi0 hi1 hi2 hi3 hi4 hi5 hi6 hi7 hi8
    refine jt_eq (bq_X8_takesWord_r1007_29 E d y2 y3 a b0) ?_
    have h454_ := iv_get hv (k := 2) (j := 1) (l := 0) (u := 200) rfl
    have h455_ : a 2 1 = a0 2 1 := hf 2 1 rfl
    have h456_ := iv_get hv0 (k := 2) (j := 1) (l := 0) (u := 200) rfl
    have h457_ := iv_get hv (k := 2) (j := 2) (l := 0) (u := 200) rfl
    refine jt_eI (eq_J0_length_8abf5_r1007 E d (jd_le hd rfl) a b0) ?_
    have h458_ := ff_J0_length_8abf5_r1007 a b0
    refine jt_ite (fun c459_ => ?_) (fun c459_ => ?_)
    ·
      have h460_ : jxw ((a 2 2) + y3) = (a 2 2) + y3 := jxw_id (by omega) (by omega)
      refine jt_grd (by omega) ?_
      refine jt_eI (eq_J0_charAt_5068e_r1007 E d (jd_le hd rfl) y3 a b0 (show (0 ≤ y3 ∧ y3 < 3) from by omega)) ?_
      have h461_ := iv_get hv (k := 3) (j := (jxw ((a 2 2) + y3)).toNat) (l := 0) (u := 255) rfl
      have h462_ : a 3 ((jxw ((a 2 2) + y3)).toNat) = a0 3 ((jxw ((a 2 2) + y3)).toNat) := hf 3 ((jxw ((a 2 2) + y3)).toNat) rfl
      have h463_ := iv_get hv0 (k := 3) (j := (jxw ((a 2 2) + y3)).toNat) (l := 0) (u := 255) rfl
      have h464_ := f_J0_charAt_5068e_r1007_eq a b0 y3
      have h465_ := f_J0_isLatin1_aae02_r1007_eq a b0
      have h466_ := f_J1_charAt_3b067_r2007_eq a b0 y3
      have h467_ := jxand_r (([97, 110, 121] : List Int).getD (y3.toNat) 0) 255 (by decide) (by decide)
      have h468_ := jxi2c_b (jxand (([97, 110, 121] : List Int).getD (y3.toNat) 0) 255)
      refine jt_ite (fun c469_ => ?_) (fun c469_ => ?_)
      ·
        exact hc58 y2 y3 a (show (((3 - y3) * 1) + 0).toNat ≤ n from by omega) hv hf (show 3 ≤ y2 from by omega) (show y2 ≤ 200 from by omega) (show 0 ≤ y3 from by omega) (show y3 ≤ 2 from by omega) (show 3 ≤ a 2 1 from by omega) (show y3 < 3 from by omega) (show 0 ≤ y3 from by omega) (show y2 = (a 2 2) + 3 from by omega) (show y2 ≤ a 2 1 from by omega) (show y2 ≤ 200 from by omega)
      ·
        exact cp_X8_takesWord_r1007_56 E d hd a0 b0 hv0 a hv hf (show 3 ≤ a 2 1 from by omega)
    ·
      refine jt_ite (fun c470_ => ?_) (fun c470_ => ?_)
      ·
        refine jt_grd (by omega) ?_
        have h471_ := iv_get hv (k := 3) (j := y2.toNat) (l := 0) (u := 255) rfl
        have h472_ : a 3 (y2.toNat) = a0 3 (y2.toNat) := hf 3 (y2.toNat) rfl
        have h473_ := iv_get hv0 (k := 3) (j := y2.toNat) (l := 0) (u := 255) rfl
        refine jt_ite (fun c474_ => ?_) (fun c474_ => ?_)
        ·
          exact cp_X8_takesWord_r1007_96 E d hd a0 b0 hv0 y2 a hv hf (show 3 ≤ y2 from by omega) (show y2 ≤ 200 from by omega) (show 3 ≤ a 2 1 from by omega) (show y2 = (a 2 2) + 3 from by omega) (show y2 ≤ a 2 1 from by omega) (show y2 ≤ 200 from by omega)
        ·
          exact cp_X8_takesWord_r1007_83 E d hd a0 b0 hv0 y2 a hv hf (show 3 ≤ y2 from by omega) (show y2 ≤ 199 from by omega) (show 4 ≤ a 2 1 from by omega) (show y2 = (a 2 2) + 3 from by omega) (show y2 ≤ a 2 1 from by omega) (show y2 ≤ 200 from by omega)
      ·
        exact cp_X8_takesWord_r1007_96 E d hd a0 b0 hv0 y2 a hv hf (show 3 ≤ y2 from by omega) (show y2 ≤ 200 from by omega) (show 3 ≤ a 2 1 from by omega) (show y2 = (a 2 2) + 3 from by omega) (show y2 ≤ a 2 1 from by omega) (show y2 ≤ 200 from by omega)
  exact ⟨hc58, hc29⟩
theorem sp_X8_takesWord_r1007 (E : jxE) (d : Nat) (hd : Nat.ble 5 d = true) (a0 b0 : Nat → Nat → Int) (hv0 : iv a0) : jt (jxC E d 128 [.inr (.inr (.inl 2)), .inr (.inr (.inl 1007))] (jxSH, a0, b0)) (jQ_X8_takesWord_r1007 a0 b0) := by
  obtain ⟨d, rfl⟩ := jd_succ hd
  refine jt_eq (bq_X8_takesWord_r1007 E d a0 b0) ?_
  refine jt_eI (eq_J0_length_8abf5_r1007 E d (jd_le hd rfl) a0 b0) ?_
  refine jt_eI (eq_X8_isFaulty E d (jd_le hd rfl) a0 b0) ?_
  have h475_ := f_X8_isFaulty_eq a0 b0
  refine jt_ite (fun c476_ => ?_) (fun c476_ => ?_)
  ·
    have h477_ := iv_get hv0 (k := 2) (j := 1) (l := 0) (u := 200) rfl
    have h478_ := iv_get hv0 (k := 2) (j := 2) (l := 0) (u := 200) rfl
    have h479_ := ff_J0_length_8abf5_r1007 a0 b0
    have h480_ : jxw ((a0 2 2) + (f_J0_length_8abf5_r1007 a0 b0)) = (a0 2 2) + (f_J0_length_8abf5_r1007 a0 b0) := jxw_id (by omega) (by omega)
    refine jt_ite (fun c481_ => ?_) (fun c481_ => ?_)
    ·
      exact jt_rI ⟨hv0, (jfr_rf _ _), rfl, (show (0 ≤ 0 ∧ 0 ≤ 1) from by omega)⟩
    ·
      exact (cp_X8_takesWord_r1007_29 E d hd a0 b0 hv0 _).2 (jxw ((a0 2 2) + (f_J0_length_8abf5_r1007 a0 b0))) 0 a0 (Nat.le_refl _) hv0 (jfr_rf _ _) (show 3 ≤ jxw ((a0 2 2) + (f_J0_length_8abf5_r1007 a0 b0)) from by omega) (show jxw ((a0 2 2) + (f_J0_length_8abf5_r1007 a0 b0)) ≤ 200 from by omega) (show 0 ≤ 0 from by omega) (show 0 ≤ 3 from by omega) (show 3 ≤ a0 2 1 from by omega) (show 0 ≤ 0 from by omega) (show jxw ((a0 2 2) + (f_J0_length_8abf5_r1007 a0 b0)) = (a0 2 2) + 3 from by omega) (show jxw ((a0 2 2) + (f_J0_length_8abf5_r1007 a0 b0)) ≤ a0 2 1 from by omega) (show jxw ((a0 2 2) + (f_J0_length_8abf5_r1007 a0 b0)) ≤ 200 from by omega)
  ·
    exact jt_rI ⟨hv0, (jfr_rf _ _), rfl, (show (0 ≤ 0 ∧ 0 ≤ 1) from by omega)⟩
def jW_X8_takesWord_r1008 : List (Nat × Nat) := [(2, 2)]
abbrev jQ_X8_takesWord_r1008 (a0 b0 : Nat → Nat → Int) : List jxV → (Nat → Nat → Int) → (Nat → Nat → Int) → Prop := rI (fun r a b => (iv a) ∧ (jfr jW_X8_takesWord_r1008 a0 a) ∧ (b0 = b) ∧ ((0 ≤ r ∧ r ≤ 1)))
theorem cp_X8_takesWord_r1008_56 (E : jxE) (d : Nat) (hd : Nat.ble 5 (d + 1) = true) (a0 b0 : Nat → Nat → Int) (hv0 : iv a0) : ∀ (a : Nat → Nat → Int), iv a → jfr jW_X8_takesWord_r1008 a0 a → 3 ≤ a 2 1 → jt (jxX E d 128 56 [none, none, none, none] [] (jxSH, a, b0)) (jQ_X8_takesWord_r1008 a0 b0) := by
  intro a hv hf hi0
  refine jt_eq (bq_X8_takesWord_r1008_56 E d a b0) ?_
  have h482_ := iv_get hv (k := 2) (j := 1) (l := 0) (u := 200) rfl
  have h483_ : a 2 1 = a0 2 1 := hf 2 1 rfl
  have h484_ := iv_get hv0 (k := 2) (j := 1) (l := 0) (u := 200) rfl
  exact jt_rI ⟨hv, hf, rfl, (show (0 ≤ 0 ∧ 0 ≤ 1) from by omega)⟩
theorem cp_X8_takesWord_r1008_96 (E : jxE) (d : Nat) (hd : Nat.ble 5 (d + 1) = true) (a0 b0 : Nat → Nat → Int) (hv0 : iv a0) : ∀ (y2 : Int) (a : Nat → Nat → Int), iv a → jfr jW_X8_takesWord_r1008 a0 a → 3 ≤ y2 → y2 ≤ 200 → 3 ≤ a 2 1 → y2 = (a 2 2) + 3 → y2 ≤ a 2 1 → y2 ≤ 200 → jt (jxX E d 128 96 [some (.inr (.inr (.inl 2))), none, some (.inl y2), none] [] (jxSH, a, b0)) (jQ_X8_takesWord_r1008 a0 b0) := by
  intro y2 a hv hf hi0 hi1 hi2 hi3 hi4 hi5
  refine jt_eq (bq_X8_takesWord_r1008_96 E d y2 a b0) ?_
  have h485_ := iv_get hv (k := 2) (j := 1) (l := 0) (u := 200) rfl
  have h486_ : a 2 1 = a0 2 1 := hf 2 1 rfl
  have h487_ := iv_get hv0 (k := 2) (j := 1) (l := 0) (u := 200) rfl
  have h488_ := iv_get hv (k := 2) (j := 2) (l := 0) (u := 200) rfl
  have hv489_ : iv (jxu a 2 2 y2) := iv_put hv (l := 0) (u := 200) rfl (by omega) (by omega)
  refine jt_bV (sp_X8_skipBlanks E d (jd_le hd rfl) (jxu a 2 2 y2) b0 hv489_) (fun a490_ b490_ h490_ => ?_)
  obtain ⟨hv490_, hf490_, rfl⟩ := h490_
  have hf491_ : jfr jW_X8_takesWord_r1008 a0 (jxu a 2 2 y2) := jfr_put hf rfl
  have hf492_ : jfr jW_X8_takesWord_r1008 a0 a490_ := jfr_tr hf491_ hf490_ rfl
  exact jt_rI ⟨hv490_, hf492_, rfl, (show (0 ≤ 1 ∧ 1 ≤ 1) from by omega)⟩
theorem cp_X8_takesWord_r1008_83 (E : jxE) (d : Nat) (hd : Nat.ble 5 (d + 1) = true) (a0 b0 : Nat → Nat → Int) (hv0 : iv a0) : ∀ (y2 : Int) (a : Nat → Nat → Int), iv a → jfr jW_X8_takesWord_r1008 a0 a → 3 ≤ y2 → y2 ≤ 199 → 4 ≤ a 2 1 → y2 = (a 2 2) + 3 → y2 ≤ a 2 1 → y2 ≤ 200 → jt (jxX E d 128 83 [some (.inr (.inr (.inl 2))), none, some (.inl y2), none] [] (jxSH, a, b0)) (jQ_X8_takesWord_r1008 a0 b0) := by
  intro y2 a hv hf hi0 hi1 hi2 hi3 hi4 hi5
  refine jt_eq (bq_X8_takesWord_r1008_83 E d y2 a b0) ?_
  have h493_ := iv_get hv (k := 2) (j := 1) (l := 0) (u := 200) rfl
  have h494_ : a 2 1 = a0 2 1 := hf 2 1 rfl
  have h495_ := iv_get hv0 (k := 2) (j := 1) (l := 0) (u := 200) rfl
  have h496_ := iv_get hv (k := 2) (j := 2) (l := 0) (u := 200) rfl
  refine jt_grd (by omega) ?_
  have h497_ := iv_get hv (k := 3) (j := y2.toNat) (l := 0) (u := 255) rfl
  have h498_ : a 3 (y2.toNat) = a0 3 (y2.toNat) := hf 3 (y2.toNat) rfl
  have h499_ := iv_get hv0 (k := 3) (j := y2.toNat) (l := 0) (u := 255) rfl
  refine jt_ite (fun c500_ => ?_) (fun c500_ => ?_)
  ·
    exact cp_X8_takesWord_r1008_96 E d hd a0 b0 hv0 y2 a hv hf (show 3 ≤ y2 from by omega) (show y2 ≤ 200 from by omega) (show 3 ≤ a 2 1 from by omega) (show y2 = (a 2 2) + 3 from by omega) (show y2 ≤ a 2 1 from by omega) (show y2 ≤ 200 from by omega)
  ·
    exact jt_rI ⟨hv, hf, rfl, (show (0 ≤ 0 ∧ 0 ≤ 1) from by omega)⟩
theorem cp_X8_takesWord_r1008_29 (E : jxE) (d : Nat) (hd : Nat.ble 5 (d + 1) = true) (a0 b0 : Nat → Nat → Int) (hv0 : iv a0) : ∀ n : Nat, (∀ (y2 y3 : Int) (a : Nat → Nat → Int), (((3 - y3) * 1) + 0).toNat ≤ n → iv a → jfr jW_X8_takesWord_r1008 a0 a → 3 ≤ y2 → y2 ≤ 200 → 0 ≤ y3 → y3 ≤ 2 → 3 ≤ a 2 1 → y3 < 3 → 0 ≤ y3 → y2 = (a 2 2) + 3 → y2 ≤ a 2 1 → y2 ≤ 200 → jt (jxX E d 128 58 [some (.inr (.inr (.inl 2))), some (.inr (.inr (.inl 1008))), some (.inl y2), some (.inl y3)] [] (jxSH, a, b0)) (jQ_X8_takesWord_r1008 a0 b0)) ∧ (∀ (y2 y3 : Int) (a : Nat → Nat → Int), (((3 - y3) * 1) + 0).toNat ≤ n → iv a → jfr jW_X8_takesWord_r1008 a0 a → 3 ≤ y2 → y2 ≤ 200 → 0 ≤ y3 → y3 ≤ 3 → 3 ≤ a 2 1 → 0 ≤ y3 → y2 = (a 2 2) + 3 → y2 ≤ a 2 1 → y2 ≤ 200 → jt (jxX E d 128 29 [some (.inr (.inr (.inl 2))), some (.inr (.inr (.inl 1008))), some (.inl y2), some (.inl y3)] [] (jxSH, a, b0)) (jQ_X8_takesWord_r1008 a0 b0)) := by
  refine jx_ind fun n ih => ?_
  have ih58 : ∀ (y2 y3 : Int) (a : Nat → Nat → Int), (((3 - y3) * 1) + 0).toNat < n → iv a → jfr jW_X8_takesWord_r1008 a0 a → 3 ≤ y2 → y2 ≤ 200 → 0 ≤ y3 → y3 ≤ 2 → 3 ≤ a 2 1 → y3 < 3 → 0 ≤ y3 → y2 = (a 2 2) + 3 → y2 ≤ a 2 1 → y2 ≤ 200 → jt (jxX E d 128 58 [some (.inr (.inr (.inl 2))), some (.inr (.inr (.inl 1008))), some (.inl y2), some (.inl y3)] [] (jxSH, a, b0)) (jQ_X8_takesWord_r1008 a0 b0) := fun y2 y3 a hlt i0 i1 i2 i3 i4 i5 i6 i7 i8 i9 i10 i11 => (ih _ hlt).1 y2 y3 a (Nat.le_refl _) i0 i1 i2 i3 i4 i5 i6 i7 i8 i9 i10 i11
  have ih29 : ∀ (y2 y3 : Int) (a : Nat → Nat → Int), (((3 - y3) * 1) + 0).toNat < n → iv a → jfr jW_X8_takesWord_r1008 a0 a → 3 ≤ y2 → y2 ≤ 200 → 0 ≤ y3 → y3 ≤ 3 → 3 ≤ a 2 1 → 0 ≤ y3 → y2 = (a 2 2) + 3 → y2 ≤ a 2 1 → y2 ≤ 200 → jt (jxX E d 128 29 [some (.inr (.inr (.inl 2))), some (.inr (.inr (.inl 1008))), some (.inl y2), some (.inl y3)] [] (jxSH, a, b0)) (jQ_X8_takesWord_r1008 a0 b0) := fun y2 y3 a hlt i0 i1 i2 i3 i4 i5 i6 i7 i8 i9 i10 => (ih _ hlt).2 y2 y3 a (Nat.le_refl _) i0 i1 i2 i3 i4 i5 i6 i7 i8 i9 i10
  have hc58 : ∀ (y2 y3 : Int) (a : Nat → Nat → Int), (((3 - y3) * 1) + 0).toNat ≤ n → iv a → jfr jW_X8_takesWord_r1008 a0 a → 3 ≤ y2 → y2 ≤ 200 → 0 ≤ y3 → y3 ≤ 2 → 3 ≤ a 2 1 → y3 < 3 → 0 ≤ y3 → y2 = (a 2 2) + 3 → y2 ≤ a 2 1 → y2 ≤ 200 → jt (jxX E d 128 58 [some (.inr (.inr (.inl 2))), some (.inr (.inr (.inl 1008))), some (.inl y2), some (.inl y3)] [] (jxSH, a, b0)) (jQ_X8_takesWord_r1008 a0 b0) := by
    intro y2 y3 a hm hv hf hi0 hi1 hi2 hi3 hi4 hi5 hi6 hi7 hi8 hi9
    refine jt_eq (bq_X8_takesWord_r1008_58 E d y2 y3 a b0) ?_
    have h501_ := iv_get hv (k := 2) (j := 1) (l := 0) (u := 200) rfl
    have h502_ : a 2 1 = a0 2 1 := hf 2 1 rfl
    have h503_ := iv_get hv0 (k := 2) (j := 1) (l := 0) (u := 200) rfl
    have h504_ := iv_get hv (k := 2) (j := 2) (l := 0) (u := 200) rfl
    have h505_ : jxw (y3 + 1) = y3 + 1 := jxw_id (by omega) (by omega)
    exact ih29 y2 (jxw (y3 + 1)) a (show (((3 - (jxw (y3 + 1))) * 1) + 0).toNat < n from by omega) hv hf (show 3 ≤ y2 from by omega) (show y2 ≤ 200 from by omega) (show 0 ≤ jxw (y3 + 1) from by omega) (show jxw (y3 + 1) ≤ 3 from by omega) (show 3 ≤ a 2 1 from by omega) (show 0 ≤ jxw (y3 + 1) from by omega) (show y2 = (a 2 2) + 3 from by omega) (show y2 ≤ a 2 1 from by omega) (show y2 ≤ 200 from by omega)
  have hc29 : ∀ (y2 y3 : Int) (a : Nat → Nat → Int), (((3 - y3) * 1) + 0).toNat ≤ n → iv a → jfr jW_X8_takesWord_r1008 a0 a → 3 ≤ y2 → y2 ≤ 200 → 0 ≤ y3 → y3 ≤ 3 → 3 ≤ a 2 1 → 0 ≤ y3 → y2 = (a 2 2) + 3 → y2 ≤ a 2 1 → y2 ≤ 200 → jt (jxX E d 128 29 [some (.inr (.inr (.inl 2))), some (.inr (.inr (.inl 1008))), some (.inl y2), some (.inl y3)] [] (jxSH, a, b0)) (jQ_X8_takesWord_r1008 a0 b0) := by
    intro y2 y3 a hm hv hf hi0 hi1 hi2 hi3 hi4 hi5 hi6 hi7 hi8
    refine jt_eq (bq_X8_takesWord_r1008_29 E d y2 y3 a b0) ?_
    have h506_ := iv_get hv (k := 2) (j := 1) (l := 0) (u := 200) rfl
    have h507_ : a 2 1 = a0 2 1 := hf 2 1 rfl
    have h508_ := iv_get hv0 (k := 2) (j := 1) (l := 0) (u := 200) rfl
    have h509_ := iv_get hv (k := 2) (j := 2) (l := 0) (u := 200) rfl
    refine jt_eI (eq_J0_length_8abf5_r1008 E d (jd_le hd rfl) a b0) ?_
    have h510_ := ff_J0_length_8abf5_r1008 a b0
    refine jt_ite (fun c511_ => ?_) (fun c511_ => ?_)
    ·
      have h512_ : jxw ((a 2 2) + y3) = (a 2 2) + y3 := jxw_id (by omega) (by omega)
      refine jt_grd (by omega) ?_
      refine jt_eI (eq_J0_charAt_5068e_r1008 E d (jd_le hd rfl) y3 a b0 (show (0 ≤ y3 ∧ y3 < 3) from by omega)) ?_
      have h513_ := iv_get hv (k := 3) (j := (jxw ((a 2 2) + y3)).toNat) (l := 0) (u := 255) rfl
      have h514_ : a 3 ((jxw ((a 2 2) + y3)).toNat) = a0 3 ((jxw ((a 2 2) + y3)).toNat) := hf 3 ((jxw ((a 2 2) + y3)).toNat) rfl
      have h515_ := iv_get hv0 (k := 3) (j := (jxw ((a 2 2) + y3)).toNat) (l := 0) (u := 255) rfl
      have h516_ := f_J0_charAt_5068e_r1008_eq a b0 y3
      have h517_ := f_J0_isLatin1_aae02_r1008_eq a b0
      have h518_ := f_J1_charAt_3b067_r2008_eq a b0 y3
      have h519_ := jxand_r (([97, 110, 100] : List Int).getD (y3.toNat) 0) 255 (by decide) (by decide)
      have h520_ := jxi2c_b (jxand (([97, 110, 100] : List Int).getD (y3.toNat) 0) 255)
      refine jt_ite (fun c521_ => ?_) (fun c521_ => ?_)
      ·
        exact hc58 y2 y3 a (show (((3 - y3) * 1) + 0).toNat ≤ n from by omega) hv hf (show 3 ≤ y2 from by omega) (show y2 ≤ 200 from by omega) (show 0 ≤ y3 from by omega) (show y3 ≤ 2 from by omega) (show 3 ≤ a 2 1 from by omega) (show y3 < 3 from by omega) (show 0 ≤ y3 from by omega) (show y2 = (a 2 2) + 3 from by omega) (show y2 ≤ a 2 1 from by omega) (show y2 ≤ 200 from by omega)
      ·
        exact cp_X8_takesWord_r1008_56 E d hd a0 b0 hv0 a hv hf (show 3 ≤ a 2 1 from by omega)
    ·
      refine jt_ite (fun c522_ => ?_) (fun c522_ => ?_)
      ·
        refine jt_grd (by omega) ?_
        have h523_ := iv_get hv (k := 3) (j := y2.toNat) (l := 0) (u := 255) rfl
        have h524_ : a 3 (y2.toNat) = a0 3 (y2.toNat) := hf 3 (y2.toNat) rfl
        have h525_ := iv_get hv0 (k := 3) (j := y2.toNat) (l := 0) (u := 255) rfl
        refine jt_ite (fun c526_ => ?_) (fun c526_ => ?_)
        ·
          exact cp_X8_takesWord_r1008_96 E d hd a0 b0 hv0 y2 a hv hf (show 3 ≤ y2 from by omega) (show y2 ≤ 200 from by omega) (show 3 ≤ a 2 1 from by omega) (show y2 = (a 2 2) + 3 from by omega) (show y2 ≤ a 2 1 from by omega) (show y2 ≤ 200 from by omega)
        ·
          exact cp_X8_takesWord_r1008_83 E d hd a0 b0 hv0 y2 a hv hf (show 3 ≤ y2 from by omega) (show y2 ≤ 199 from by omega) (show 4 ≤ a 2 1 from by omega) (show y2 = (a 2 2) + 3 from by omega) (show y2 ≤ a 2 1 from by omega) (show y2 ≤ 200 from by omega)
      ·
        exact cp_X8_takesWord_r1008_96 E d hd a0 b0 hv0 y2 a hv hf (show 3 ≤ y2 from by omega) (show y2 ≤ 200 from by omega) (show 3 ≤ a 2 1 from by omega) (show y2 = (a 2 2) + 3 from by omega) (show y2 ≤ a 2 1 from by omega) (show y2 ≤ 200 from by omega)
  exact ⟨hc58, hc29⟩
theorem sp_X8_takesWord_r1008 (E : jxE) (d : Nat) (hd : Nat.ble 5 d = true) (a0 b0 : Nat → Nat → Int) (hv0 : iv a0) : jt (jxC E d 128 [.inr (.inr (.inl 2)), .inr (.inr (.inl 1008))] (jxSH, a0, b0)) (jQ_X8_takesWord_r1008 a0 b0) := by
  obtain ⟨d, rfl⟩ := jd_succ hd
  refine jt_eq (bq_X8_takesWord_r1008 E d a0 b0) ?_
  refine jt_eI (eq_J0_length_8abf5_r1008 E d (jd_le hd rfl) a0 b0) ?_
  refine jt_eI (eq_X8_isFaulty E d (jd_le hd rfl) a0 b0) ?_
  have h527_ := f_X8_isFaulty_eq a0 b0
  refine jt_ite (fun c528_ => ?_) (fun c528_ => ?_)
  ·
    have h529_ := iv_get hv0 (k := 2) (j := 1) (l := 0) (u := 200) rfl
    have h530_ := iv_get hv0 (k := 2) (j := 2) (l := 0) (u := 200) rfl
    have h531_ := ff_J0_length_8abf5_r1008 a0 b0
    have h532_ : jxw ((a0 2 2) + (f_J0_length_8abf5_r1008 a0 b0)) = (a0 2 2) + (f_J0_length_8abf5_r1008 a0 b0) := jxw_id (by omega) (by omega)
    refine jt_ite (fun c533_ => ?_) (fun c533_ => ?_)
    ·
      exact jt_rI ⟨hv0, (jfr_rf _ _), rfl, (show (0 ≤ 0 ∧ 0 ≤ 1) from by omega)⟩
    ·
      exact (cp_X8_takesWord_r1008_29 E d hd a0 b0 hv0 _).2 (jxw ((a0 2 2) + (f_J0_length_8abf5_r1008 a0 b0))) 0 a0 (Nat.le_refl _) hv0 (jfr_rf _ _) (show 3 ≤ jxw ((a0 2 2) + (f_J0_length_8abf5_r1008 a0 b0)) from by omega) (show jxw ((a0 2 2) + (f_J0_length_8abf5_r1008 a0 b0)) ≤ 200 from by omega) (show 0 ≤ 0 from by omega) (show 0 ≤ 3 from by omega) (show 3 ≤ a0 2 1 from by omega) (show 0 ≤ 0 from by omega) (show jxw ((a0 2 2) + (f_J0_length_8abf5_r1008 a0 b0)) = (a0 2 2) + 3 from by omega) (show jxw ((a0 2 2) + (f_J0_length_8abf5_r1008 a0 b0)) ≤ a0 2 1 from by omega) (show jxw ((a0 2 2) + (f_J0_length_8abf5_r1008 a0 b0)) ≤ 200 from by omega)
  ·
    exact jt_rI ⟨hv0, (jfr_rf _ _), rfl, (show (0 ≤ 0 ∧ 0 ≤ 1) from by omega)⟩
def jW_X8_takesWord_r1009 : List (Nat × Nat) := [(2, 2)]
abbrev jQ_X8_takesWord_r1009 (a0 b0 : Nat → Nat → Int) : List jxV → (Nat → Nat → Int) → (Nat → Nat → Int) → Prop := rI (fun r a b => (iv a) ∧ (jfr jW_X8_takesWord_r1009 a0 a) ∧ (b0 = b) ∧ ((0 ≤ r ∧ r ≤ 1)))
theorem cp_X8_takesWord_r1009_56 (E : jxE) (d : Nat) (hd : Nat.ble 5 (d + 1) = true) (a0 b0 : Nat → Nat → Int) (hv0 : iv a0) : ∀ (a : Nat → Nat → Int), iv a → jfr jW_X8_takesWord_r1009 a0 a → 2 ≤ a 2 1 → jt (jxX E d 128 56 [none, none, none, none] [] (jxSH, a, b0)) (jQ_X8_takesWord_r1009 a0 b0) := by
  intro a hv hf hi0
  refine jt_eq (bq_X8_takesWord_r1009_56 E d a b0) ?_
  have h534_ := iv_get hv (k := 2) (j := 1) (l := 0) (u := 200) rfl
  have h535_ : a 2 1 = a0 2 1 := hf 2 1 rfl
  have h536_ := iv_get hv0 (k := 2) (j := 1) (l := 0) (u := 200) rfl
  exact jt_rI ⟨hv, hf, rfl, (show (0 ≤ 0 ∧ 0 ≤ 1) from by omega)⟩
theorem cp_X8_takesWord_r1009_96 (E : jxE) (d : Nat) (hd : Nat.ble 5 (d + 1) = true) (a0 b0 : Nat → Nat → Int) (hv0 : iv a0) : ∀ (y2 : Int) (a : Nat → Nat → Int), iv a → jfr jW_X8_takesWord_r1009 a0 a → 2 ≤ y2 → y2 ≤ 200 → 2 ≤ a 2 1 → y2 = (a 2 2) + 2 → y2 ≤ a 2 1 → y2 ≤ 200 → jt (jxX E d 128 96 [some (.inr (.inr (.inl 2))), none, some (.inl y2), none] [] (jxSH, a, b0)) (jQ_X8_takesWord_r1009 a0 b0) := by
  intro y2 a hv hf hi0 hi1 hi2 hi3 hi4 hi5
  refine jt_eq (bq_X8_takesWord_r1009_96 E d y2 a b0) ?_
  have h537_ := iv_get hv (k := 2) (j := 1) (l := 0) (u := 200) rfl
  have h538_ : a 2 1 = a0 2 1 := hf 2 1 rfl
  have h539_ := iv_get hv0 (k := 2) (j := 1) (l := 0) (u := 200) rfl
  have h540_ := iv_get hv (k := 2) (j := 2) (l := 0) (u := 200) rfl
  have hv541_ : iv (jxu a 2 2 y2) := iv_put hv (l := 0) (u := 200) rfl (by omega) (by omega)
  refine jt_bV (sp_X8_skipBlanks E d (jd_le hd rfl) (jxu a 2 2 y2) b0 hv541_) (fun a542_ b542_ h542_ => ?_)
  obtain ⟨hv542_, hf542_, rfl⟩ := h542_
  have hf543_ : jfr jW_X8_takesWord_r1009 a0 (jxu a 2 2 y2) := jfr_put hf rfl
  have hf544_ : jfr jW_X8_takesWord_r1009 a0 a542_ := jfr_tr hf543_ hf542_ rfl
  exact jt_rI ⟨hv542_, hf544_, rfl, (show (0 ≤ 1 ∧ 1 ≤ 1) from by omega)⟩
theorem cp_X8_takesWord_r1009_83 (E : jxE) (d : Nat) (hd : Nat.ble 5 (d + 1) = true) (a0 b0 : Nat → Nat → Int) (hv0 : iv a0) : ∀ (y2 : Int) (a : Nat → Nat → Int), iv a → jfr jW_X8_takesWord_r1009 a0 a → 2 ≤ y2 → y2 ≤ 199 → 3 ≤ a 2 1 → y2 = (a 2 2) + 2 → y2 ≤ a 2 1 → y2 ≤ 200 → jt (jxX E d 128 83 [some (.inr (.inr (.inl 2))), none, some (.inl y2), none] [] (jxSH, a, b0)) (jQ_X8_takesWord_r1009 a0 b0) := by
  intro y2 a hv hf hi0 hi1 hi2 hi3 hi4 hi5
  refine jt_eq (bq_X8_takesWord_r1009_83 E d y2 a b0) ?_
  have h545_ := iv_get hv (k := 2) (j := 1) (l := 0) (u := 200) rfl
  have h546_ : a 2 1 = a0 2 1 := hf 2 1 rfl
  have h547_ := iv_get hv0 (k := 2) (j := 1) (l := 0) (u := 200) rfl
  have h548_ := iv_get hv (k := 2) (j := 2) (l := 0) (u := 200) rfl
  refine jt_grd (by omega) ?_
  have h549_ := iv_get hv (k := 3) (j := y2.toNat) (l := 0) (u := 255) rfl
  have h550_ : a 3 (y2.toNat) = a0 3 (y2.toNat) := hf 3 (y2.toNat) rfl
  have h551_ := iv_get hv0 (k := 3) (j := y2.toNat) (l := 0) (u := 255) rfl
  refine jt_ite (fun c552_ => ?_) (fun c552_ => ?_)
  ·
    exact cp_X8_takesWord_r1009_96 E d hd a0 b0 hv0 y2 a hv hf (show 2 ≤ y2 from by omega) (show y2 ≤ 200 from by omega) (show 2 ≤ a 2 1 from by omega) (show y2 = (a 2 2) + 2 from by omega) (show y2 ≤ a 2 1 from by omega) (show y2 ≤ 200 from by omega)
  ·
    exact jt_rI ⟨hv, hf, rfl, (show (0 ≤ 0 ∧ 0 ≤ 1) from by omega)⟩
theorem cp_X8_takesWord_r1009_29 (E : jxE) (d : Nat) (hd : Nat.ble 5 (d + 1) = true) (a0 b0 : Nat → Nat → Int) (hv0 : iv a0) : ∀ n : Nat, (∀ (y2 y3 : Int) (a : Nat → Nat → Int), (((2 - y3) * 1) + 0).toNat ≤ n → iv a → jfr jW_X8_takesWord_r1009 a0 a → 2 ≤ y2 → y2 ≤ 200 → 0 ≤ y3 → y3 ≤ 1 → 2 ≤ a 2 1 → y3 < 2 → 0 ≤ y3 → y2 = (a 2 2) + 2 → y2 ≤ a 2 1 → y2 ≤ 200 → jt (jxX E d 128 58 [some (.inr (.inr (.inl 2))), some (.inr (.inr (.inl 1009))), some (.inl y2), some (.inl y3)] [] (jxSH, a, b0)) (jQ_X8_takesWord_r1009 a0 b0)) ∧ (∀ (y2 y3 : Int) (a : Nat → Nat → Int), (((2 - y3) * 1) + 0).toNat ≤ n → iv a → jfr jW_X8_takesWord_r1009 a0 a → 2 ≤ y2 → y2 ≤ 200 → 0 ≤ y3 → y3 ≤ 2 → 2 ≤ a 2 1 → 0 ≤ y3 → y2 = (a 2 2) + 2 → y2 ≤ a 2 1 → y2 ≤ 200 → jt (jxX E d 128 29 [some (.inr (.inr (.inl 2))), some (.inr (.inr (.inl 1009))), some (.inl y2), some (.inl y3)] [] (jxSH, a, b0)) (jQ_X8_takesWord_r1009 a0 b0)) := by
  refine jx_ind fun n ih => ?_
  have ih58 : ∀ (y2 y3 : Int) (a : Nat → Nat → Int), (((2 - y3) * 1) + 0).toNat < n → iv a → jfr jW_X8_takesWord_r1009 a0 a → 2 ≤ y2 → y2 ≤ 200 → 0 ≤ y3 → y3 ≤ 1 → 2 ≤ a 2 1 → y3 < 2 → 0 ≤ y3 → y2 = (a 2 2) + 2 → y2 ≤ a 2 1 → y2 ≤ 200 → jt (jxX E d 128 58 [some (.inr (.inr (.inl 2))), some (.inr (.inr (.inl 1009))), some (.inl y2), some (.inl y3)] [] (jxSH, a, b0)) (jQ_X8_takesWord_r1009 a0 b0) := fun y2 y3 a hlt i0 i1 i2 i3 i4 i5 i6 i7 i8 i9 i10 i11 => (ih _ hlt).1 y2 y3 a (Nat.le_refl _) i0 i1 i2 i3 i4 i5 i6 i7 i8 i9 i10 i11
  have ih29 : ∀ (y2 y3 : Int) (a : Nat → Nat → Int), (((2 - y3) * 1) + 0).toNat < n → iv a → jfr jW_X8_takesWord_r1009 a0 a → 2 ≤ y2 → y2 ≤ 200 → 0 ≤ y3 → y3 ≤ 2 → 2 ≤ a 2 1 → 0 ≤ y3 → y2 = (a 2 2) + 2 → y2 ≤ a 2 1 → y2 ≤ 200 → jt (jxX E d 128 29 [some (.inr (.inr (.inl 2))), some (.inr (.inr (.inl 1009))), some (.inl y2), some (.inl y3)] [] (jxSH, a, b0)) (jQ_X8_takesWord_r1009 a0 b0) := fun y2 y3 a hlt i0 i1 i2 i3 i4 i5 i6 i7 i8 i9 i10 => (ih _ hlt).2 y2 y3 a (Nat.le_refl _) i0 i1 i2 i3 i4 i5 i6 i7 i8 i9 i10
  have hc58 : ∀ (y2 y3 : Int) (a : Nat → Nat → Int), (((2 - y3) * 1) + 0).toNat ≤ n → iv a → jfr jW_X8_takesWord_r1009 a0 a → 2 ≤ y2 → y2 ≤ 200 → 0 ≤ y3 → y3 ≤ 1 → 2 ≤ a 2 1 → y3 < 2 → 0 ≤ y3 → y2 = (a 2 2) + 2 → y2 ≤ a 2 1 → y2 ≤ 200 → jt (jxX E d 128 58 [some (.inr (.inr (.inl 2))), some (.inr (.inr (.inl 1009))), some (.inl y2), some (.inl y3)] [] (jxSH, a, b0)) (jQ_X8_takesWord_r1009 a0 b0) := by
    intro y2 y3 a hm hv hf hi0 hi1 hi2 hi3 hi4 hi5 hi6 hi7 hi8 hi9
    refine jt_eq (bq_X8_takesWord_r1009_58 E d y2 y3 a b0) ?_
    have h553_ := iv_get hv (k := 2) (j := 1) (l := 0) (u := 200) rfl
    have h554_ : a 2 1 = a0 2 1 := hf 2 1 rfl
    have h555_ := iv_get hv0 (k := 2) (j := 1) (l := 0) (u := 200) rfl
    have h556_ := iv_get hv (k := 2) (j := 2) (l := 0) (u := 200) rfl
    have h557_ : jxw (y3 + 1) = y3 + 1 := jxw_id (by omega) (by omega)
    exact ih29 y2 (jxw (y3 + 1)) a (show (((2 - (jxw (y3 + 1))) * 1) + 0).toNat < n from by omega) hv hf (show 2 ≤ y2 from by omega) (show y2 ≤ 200 from by omega) (show 0 ≤ jxw (y3 + 1) from by omega) (show jxw (y3 + 1) ≤ 2 from by omega) (show 2 ≤ a 2 1 from by omega) (show 0 ≤ jxw (y3 + 1) from by omega) (show y2 = (a 2 2) + 2 from by omega) (show y2 ≤ a 2 1 from by omega) (show y2 ≤ 200 from by omega)
  have hc29 : ∀ (y2 y3 : Int) (a : Nat → Nat → Int), (((2 - y3) * 1) + 0).toNat ≤ n → iv a → jfr jW_X8_takesWord_r1009 a0 a → 2 ≤ y2 → y2 ≤ 200 → 0 ≤ y3 → y3 ≤ 2 → 2 ≤ a 2 1 → 0 ≤ y3 → y2 = (a 2 2) + 2 → y2 ≤ a 2 1 → y2 ≤ 200 → jt (jxX E d 128 29 [some (.inr (.inr (.inl 2))), some (.inr (.inr (.inl 1009))), some (.inl y2), some (.inl y3)] [] (jxSH, a, b0)) (jQ_X8_takesWord_r1009 a0 b0) := by
    intro y2 y3 a hm hv hf hi0 hi1 hi2 hi3 hi4 hi5 hi6 hi7 hi8
    refine jt_eq (bq_X8_takesWord_r1009_29 E d y2 y3 a b0) ?_
    have h558_ := iv_get hv (k := 2) (j := 1) (l := 0) (u := 200) rfl
    have h559_ : a 2 1 = a0 2 1 := hf 2 1 rfl
    have h560_ := iv_get hv0 (k := 2) (j := 1) (l := 0) (u := 200) rfl
    have h561_ := iv_get hv (k := 2) (j := 2) (l := 0) (u := 200) rfl
    refine jt_eI (eq_J0_length_8abf5_r1009 E d (jd_le hd rfl) a b0) ?_
    have h562_ := ff_J0_length_8abf5_r1009 a b0
    refine jt_ite (fun c563_ => ?_) (fun c563_ => ?_)
    ·
      have h564_ : jxw ((a 2 2) + y3) = (a 2 2) + y3 := jxw_id (by omega) (by omega)
      refine jt_grd (by omega) ?_
      refine jt_eI (eq_J0_charAt_5068e_r1009 E d (jd_le hd rfl) y3 a b0 (show (0 ≤ y3 ∧ y3 < 2) from by omega)) ?_
      have h565_ := iv_get hv (k := 3) (j := (jxw ((a 2 2) + y3)).toNat) (l := 0) (u := 255) rfl
      have h566_ : a 3 ((jxw ((a 2 2) + y3)).toNat) = a0 3 ((jxw ((a 2 2) + y3)).toNat) := hf 3 ((jxw ((a 2 2) + y3)).toNat) rfl
      have h567_ := iv_get hv0 (k := 3) (j := (jxw ((a 2 2) + y3)).toNat) (l := 0) (u := 255) rfl
      have h568_ := f_J0_charAt_5068e_r1009_eq a b0 y3
      have h569_ := f_J0_isLatin1_aae02_r1009_eq a b0
      have h570_ := f_J1_charAt_3b067_r2009_eq a b0 y3
      have h571_ := jxand_r (([111, 114] : List Int).getD (y3.toNat) 0) 255 (by decide) (by decide)
      have h572_ := jxi2c_b (jxand (([111, 114] : List Int).getD (y3.toNat) 0) 255)
      refine jt_ite (fun c573_ => ?_) (fun c573_ => ?_)
      ·
        exact hc58 y2 y3 a (show (((2 - y3) * 1) + 0).toNat ≤ n from by omega) hv hf (show 2 ≤ y2 from by omega) (show y2 ≤ 200 from by omega) (show 0 ≤ y3 from by omega) (show y3 ≤ 1 from by omega) (show 2 ≤ a 2 1 from by omega) (show y3 < 2 from by omega) (show 0 ≤ y3 from by omega) (show y2 = (a 2 2) + 2 from by omega) (show y2 ≤ a 2 1 from by omega) (show y2 ≤ 200 from by omega)
      ·
        exact cp_X8_takesWord_r1009_56 E d hd a0 b0 hv0 a hv hf (show 2 ≤ a 2 1 from by omega)
    ·
      refine jt_ite (fun c574_ => ?_) (fun c574_ => ?_)
      ·
        refine jt_grd (by omega) ?_
        have h575_ := iv_get hv (k := 3) (j := y2.toNat) (l := 0) (u := 255) rfl
        have h576_ : a 3 (y2.toNat) = a0 3 (y2.toNat) := hf 3 (y2.toNat) rfl
        have h577_ := iv_get hv0 (k := 3) (j := y2.toNat) (l := 0) (u := 255) rfl
        refine jt_ite (fun c578_ => ?_) (fun c578_ => ?_)
        ·
          exact cp_X8_takesWord_r1009_96 E d hd a0 b0 hv0 y2 a hv hf (show 2 ≤ y2 from by omega) (show y2 ≤ 200 from by omega) (show 2 ≤ a 2 1 from by omega) (show y2 = (a 2 2) + 2 from by omega) (show y2 ≤ a 2 1 from by omega) (show y2 ≤ 200 from by omega)
        ·
          exact cp_X8_takesWord_r1009_83 E d hd a0 b0 hv0 y2 a hv hf (show 2 ≤ y2 from by omega) (show y2 ≤ 199 from by omega) (show 3 ≤ a 2 1 from by omega) (show y2 = (a 2 2) + 2 from by omega) (show y2 ≤ a 2 1 from by omega) (show y2 ≤ 200 from by omega)
      ·
        exact cp_X8_takesWord_r1009_96 E d hd a0 b0 hv0 y2 a hv hf (show 2 ≤ y2 from by omega) (show y2 ≤ 200 from by omega) (show 2 ≤ a 2 1 from by omega) (show y2 = (a 2 2) + 2 from by omega) (show y2 ≤ a 2 1 from by omega) (show y2 ≤ 200 from by omega)
  exact ⟨hc58, hc29⟩
theorem sp_X8_takesWord_r1009 (E : jxE) (d : Nat) (hd : Nat.ble 5 d = true) (a0 b0 : Nat → Nat → Int) (hv0 : iv a0) : jt (jxC E d 128 [.inr (.inr (.inl 2)), .inr (.inr (.inl 1009))] (jxSH, a0, b0)) (jQ_X8_takesWord_r1009 a0 b0) := by
  obtain ⟨d, rfl⟩ := jd_succ hd
  refine jt_eq (bq_X8_takesWord_r1009 E d a0 b0) ?_
  refine jt_eI (eq_J0_length_8abf5_r1009 E d (jd_le hd rfl) a0 b0) ?_
  refine jt_eI (eq_X8_isFaulty E d (jd_le hd rfl) a0 b0) ?_
  have h579_ := f_X8_isFaulty_eq a0 b0
  refine jt_ite (fun c580_ => ?_) (fun c580_ => ?_)
  ·
    have h581_ := iv_get hv0 (k := 2) (j := 1) (l := 0) (u := 200) rfl
    have h582_ := iv_get hv0 (k := 2) (j := 2) (l := 0) (u := 200) rfl
    have h583_ := ff_J0_length_8abf5_r1009 a0 b0
    have h584_ : jxw ((a0 2 2) + (f_J0_length_8abf5_r1009 a0 b0)) = (a0 2 2) + (f_J0_length_8abf5_r1009 a0 b0) := jxw_id (by omega) (by omega)
    refine jt_ite (fun c585_ => ?_) (fun c585_ => ?_)
    ·
      exact jt_rI ⟨hv0, (jfr_rf _ _), rfl, (show (0 ≤ 0 ∧ 0 ≤ 1) from by omega)⟩
    ·
      exact (cp_X8_takesWord_r1009_29 E d hd a0 b0 hv0 _).2 (jxw ((a0 2 2) + (f_J0_length_8abf5_r1009 a0 b0))) 0 a0 (Nat.le_refl _) hv0 (jfr_rf _ _) (show 2 ≤ jxw ((a0 2 2) + (f_J0_length_8abf5_r1009 a0 b0)) from by omega) (show jxw ((a0 2 2) + (f_J0_length_8abf5_r1009 a0 b0)) ≤ 200 from by omega) (show 0 ≤ 0 from by omega) (show 0 ≤ 2 from by omega) (show 2 ≤ a0 2 1 from by omega) (show 0 ≤ 0 from by omega) (show jxw ((a0 2 2) + (f_J0_length_8abf5_r1009 a0 b0)) = (a0 2 2) + 2 from by omega) (show jxw ((a0 2 2) + (f_J0_length_8abf5_r1009 a0 b0)) ≤ a0 2 1 from by omega) (show jxw ((a0 2 2) + (f_J0_length_8abf5_r1009 a0 b0)) ≤ 200 from by omega)
  ·
    exact jt_rI ⟨hv0, (jfr_rf _ _), rfl, (show (0 ≤ 0 ∧ 0 ≤ 1) from by omega)⟩
def jW_X8_takesWord_r1010 : List (Nat × Nat) := [(2, 2)]
abbrev jQ_X8_takesWord_r1010 (a0 b0 : Nat → Nat → Int) : List jxV → (Nat → Nat → Int) → (Nat → Nat → Int) → Prop := rI (fun r a b => (iv a) ∧ (jfr jW_X8_takesWord_r1010 a0 a) ∧ (b0 = b) ∧ ((0 ≤ r ∧ r ≤ 1)))
theorem cp_X8_takesWord_r1010_56 (E : jxE) (d : Nat) (hd : Nat.ble 5 (d + 1) = true) (a0 b0 : Nat → Nat → Int) (hv0 : iv a0) : ∀ (a : Nat → Nat → Int), iv a → jfr jW_X8_takesWord_r1010 a0 a → 5 ≤ a 2 1 → jt (jxX E d 128 56 [none, none, none, none] [] (jxSH, a, b0)) (jQ_X8_takesWord_r1010 a0 b0) := by
  intro a hv hf hi0
  refine jt_eq (bq_X8_takesWord_r1010_56 E d a b0) ?_
  have h586_ := iv_get hv (k := 2) (j := 1) (l := 0) (u := 200) rfl
  have h587_ : a 2 1 = a0 2 1 := hf 2 1 rfl
  have h588_ := iv_get hv0 (k := 2) (j := 1) (l := 0) (u := 200) rfl
  exact jt_rI ⟨hv, hf, rfl, (show (0 ≤ 0 ∧ 0 ≤ 1) from by omega)⟩
theorem cp_X8_takesWord_r1010_96 (E : jxE) (d : Nat) (hd : Nat.ble 5 (d + 1) = true) (a0 b0 : Nat → Nat → Int) (hv0 : iv a0) : ∀ (y2 : Int) (a : Nat → Nat → Int), iv a → jfr jW_X8_takesWord_r1010 a0 a → 5 ≤ y2 → y2 ≤ 200 → 5 ≤ a 2 1 → y2 = (a 2 2) + 5 → y2 ≤ a 2 1 → y2 ≤ 200 → jt (jxX E d 128 96 [some (.inr (.inr (.inl 2))), none, some (.inl y2), none] [] (jxSH, a, b0)) (jQ_X8_takesWord_r1010 a0 b0) := by
  intro y2 a hv hf hi0 hi1 hi2 hi3 hi4 hi5
  refine jt_eq (bq_X8_takesWord_r1010_96 E d y2 a b0) ?_
  have h589_ := iv_get hv (k := 2) (j := 1) (l := 0) (u := 200) rfl
  have h590_ : a 2 1 = a0 2 1 := hf 2 1 rfl
  have h591_ := iv_get hv0 (k := 2) (j := 1) (l := 0) (u := 200) rfl
  have h592_ := iv_get hv (k := 2) (j := 2) (l := 0) (u := 200) rfl
  have hv593_ : iv (jxu a 2 2 y2) := iv_put hv (l := 0) (u := 200) rfl (by omega) (by omega)
  refine jt_bV (sp_X8_skipBlanks E d (jd_le hd rfl) (jxu a 2 2 y2) b0 hv593_) (fun a594_ b594_ h594_ => ?_)
  obtain ⟨hv594_, hf594_, rfl⟩ := h594_
  have hf595_ : jfr jW_X8_takesWord_r1010 a0 (jxu a 2 2 y2) := jfr_put hf rfl
  have hf596_ : jfr jW_X8_takesWord_r1010 a0 a594_ := jfr_tr hf595_ hf594_ rfl
  exact jt_rI ⟨hv594_, hf596_, rfl, (show (0 ≤ 1 ∧ 1 ≤ 1) from by omega)⟩
theorem cp_X8_takesWord_r1010_83 (E : jxE) (d : Nat) (hd : Nat.ble 5 (d + 1) = true) (a0 b0 : Nat → Nat → Int) (hv0 : iv a0) : ∀ (y2 : Int) (a : Nat → Nat → Int), iv a → jfr jW_X8_takesWord_r1010 a0 a → 5 ≤ y2 → y2 ≤ 199 → 6 ≤ a 2 1 → y2 = (a 2 2) + 5 → y2 ≤ a 2 1 → y2 ≤ 200 → jt (jxX E d 128 83 [some (.inr (.inr (.inl 2))), none, some (.inl y2), none] [] (jxSH, a, b0)) (jQ_X8_takesWord_r1010 a0 b0) := by
  intro y2 a hv hf hi0 hi1 hi2 hi3 hi4 hi5
  refine jt_eq (bq_X8_takesWord_r1010_83 E d y2 a b0) ?_
  have h597_ := iv_get hv (k := 2) (j := 1) (l := 0) (u := 200) rfl
  have h598_ : a 2 1 = a0 2 1 := hf 2 1 rfl
  have h599_ := iv_get hv0 (k := 2) (j := 1) (l := 0) (u := 200) rfl
  have h600_ := iv_get hv (k := 2) (j := 2) (l := 0) (u := 200) rfl
  refine jt_grd (by omega) ?_
  have h601_ := iv_get hv (k := 3) (j := y2.toNat) (l := 0) (u := 255) rfl
  have h602_ : a 3 (y2.toNat) = a0 3 (y2.toNat) := hf 3 (y2.toNat) rfl
  have h603_ := iv_get hv0 (k := 3) (j := y2.toNat) (l := 0) (u := 255) rfl
  refine jt_ite (fun c604_ => ?_) (fun c604_ => ?_)
  ·
    exact cp_X8_takesWord_r1010_96 E d hd a0 b0 hv0 y2 a hv hf (show 5 ≤ y2 from by omega) (show y2 ≤ 200 from by omega) (show 5 ≤ a 2 1 from by omega) (show y2 = (a 2 2) + 5 from by omega) (show y2 ≤ a 2 1 from by omega) (show y2 ≤ 200 from by omega)
  ·
    exact jt_rI ⟨hv, hf, rfl, (show (0 ≤ 0 ∧ 0 ≤ 1) from by omega)⟩
theorem cp_X8_takesWord_r1010_29 (E : jxE) (d : Nat) (hd : Nat.ble 5 (d + 1) = true) (a0 b0 : Nat → Nat → Int) (hv0 : iv a0) : ∀ n : Nat, (∀ (y2 y3 : Int) (a : Nat → Nat → Int), (((5 - y3) * 1) + 0).toNat ≤ n → iv a → jfr jW_X8_takesWord_r1010 a0 a → 5 ≤ y2 → y2 ≤ 200 → 0 ≤ y3 → y3 ≤ 4 → 5 ≤ a 2 1 → y3 < 5 → 0 ≤ y3 → y2 = (a 2 2) + 5 → y2 ≤ a 2 1 → y2 ≤ 200 → jt (jxX E d 128 58 [some (.inr (.inr (.inl 2))), some (.inr (.inr (.inl 1010))), some (.inl y2), some (.inl y3)] [] (jxSH, a, b0)) (jQ_X8_takesWord_r1010 a0 b0)) ∧ (∀ (y2 y3 : Int) (a : Nat → Nat → Int), (((5 - y3) * 1) + 0).toNat ≤ n → iv a → jfr jW_X8_takesWord_r1010 a0 a → 5 ≤ y2 → y2 ≤ 200 → 0 ≤ y3 → y3 ≤ 5 → 5 ≤ a 2 1 → 0 ≤ y3 → y2 = (a 2 2) + 5 → y2 ≤ a 2 1 → y2 ≤ 200 → jt (jxX E d 128 29 [some (.inr (.inr (.inl 2))), some (.inr (.inr (.inl 1010))), some (.inl y2), some (.inl y3)] [] (jxSH, a, b0)) (jQ_X8_takesWord_r1010 a0 b0)) := by
  refine jx_ind fun n ih => ?_
  have ih58 : ∀ (y2 y3 : Int) (a : Nat → Nat → Int), (((5 - y3) * 1) + 0).toNat < n → iv a → jfr jW_X8_takesWord_r1010 a0 a → 5 ≤ y2 → y2 ≤ 200 → 0 ≤ y3 → y3 ≤ 4 → 5 ≤ a 2 1 → y3 < 5 → 0 ≤ y3 → y2 = (a 2 2) + 5 → y2 ≤ a 2 1 → y2 ≤ 200 → jt (jxX E d 128 58 [some (.inr (.inr (.inl 2))), some (.inr (.inr (.inl 1010))), some (.inl y2), some (.inl y3)] [] (jxSH, a, b0)) (jQ_X8_takesWord_r1010 a0 b0) := fun y2 y3 a hlt i0 i1 i2 i3 i4 i5 i6 i7 i8 i9 i10 i11 => (ih _ hlt).1 y2 y3 a (Nat.le_refl _) i0 i1 i2 i3 i4 i5 i6 i7 i8 i9 i10 i11
  have ih29 : ∀ (y2 y3 : Int) (a : Nat → Nat → Int), (((5 - y3) * 1) + 0).toNat < n → iv a → jfr jW_X8_takesWord_r1010 a0 a → 5 ≤ y2 → y2 ≤ 200 → 0 ≤ y3 → y3 ≤ 5 → 5 ≤ a 2 1 → 0 ≤ y3 → y2 = (a 2 2) + 5 → y2 ≤ a 2 1 → y2 ≤ 200 → jt (jxX E d 128 29 [some (.inr (.inr (.inl 2))), some (.inr (.inr (.inl 1010))), some (.inl y2), some (.inl y3)] [] (jxSH, a, b0)) (jQ_X8_takesWord_r1010 a0 b0) := fun y2 y3 a hlt i0 i1 i2 i3 i4 i5 i6 i7 i8 i9 i10 => (ih _ hlt).2 y2 y3 a (Nat.le_refl _) i0 i1 i2 i3 i4 i5 i6 i7 i8 i9 i10
  have hc58 : ∀ (y2 y3 : Int) (a : Nat → Nat → Int), (((5 - y3) * 1) + 0).toNat ≤ n → iv a → jfr jW_X8_takesWord_r1010 a0 a → 5 ≤ y2 → y2 ≤ 200 → 0 ≤ y3 → y3 ≤ 4 → 5 ≤ a 2 1 → y3 < 5 → 0 ≤ y3 → y2 = (a 2 2) + 5 → y2 ≤ a 2 1 → y2 ≤ 200 → jt (jxX E d 128 58 [some (.inr (.inr (.inl 2))), some (.inr (.inr (.inl 1010))), some (.inl y2), some (.inl y3)] [] (jxSH, a, b0)) (jQ_X8_takesWord_r1010 a0 b0) := by
    intro y2 y3 a hm hv hf hi0 hi1 hi2 hi3 hi4 hi5 hi6 hi7 hi8 hi9
    refine jt_eq (bq_X8_takesWord_r1010_58 E d y2 y3 a b0) ?_
    have h605_ := iv_get hv (k := 2) (j := 1) (l := 0) (u := 200) rfl
    have h606_ : a 2 1 = a0 2 1 := hf 2 1 rfl
    have h607_ := iv_get hv0 (k := 2) (j := 1) (l := 0) (u := 200) rfl
    have h608_ := iv_get hv (k := 2) (j := 2) (l := 0) (u := 200) rfl
    have h609_ : jxw (y3 + 1) = y3 + 1 := jxw_id (by omega) (by omega)
    exact ih29 y2 (jxw (y3 + 1)) a (show (((5 - (jxw (y3 + 1))) * 1) + 0).toNat < n from by omega) hv hf (show 5 ≤ y2 from by omega) (show y2 ≤ 200 from by omega) (show 0 ≤ jxw (y3 + 1) from by omega) (show jxw (y3 + 1) ≤ 5 from by omega) (show 5 ≤ a 2 1 from by omega) (show 0 ≤ jxw (y3 + 1) from by omega) (show y2 = (a 2 2) + 5 from by omega) (show y2 ≤ a 2 1 from by omega) (show y2 ≤ 200 from by omega)
  have hc29 : ∀ (y2 y3 : Int) (a : Nat → Nat → Int), (((5 - y3) * 1) + 0).toNat ≤ n → iv a → jfr jW_X8_takesWord_r1010 a0 a → 5 ≤ y2 → y2 ≤ 200 → 0 ≤ y3 → y3 ≤ 5 → 5 ≤ a 2 1 → 0 ≤ y3 → y2 = (a 2 2) + 5 → y2 ≤ a 2 1 → y2 ≤ 200 → jt (jxX E d 128 29 [some (.inr (.inr (.inl 2))), some (.inr (.inr (.inl 1010))), some (.inl y2), some (.inl y3)] [] (jxSH, a, b0)) (jQ_X8_takesWord_r1010 a0 b0) := by
    intro y2 y3 a hm hv hf hi0 hi1 hi2 hi3 hi4 hi5 hi6 hi7 hi8
    refine jt_eq (bq_X8_takesWord_r1010_29 E d y2 y3 a b0) ?_
    have h610_ := iv_get hv (k := 2) (j := 1) (l := 0) (u := 200) rfl
    have h611_ : a 2 1 = a0 2 1 := hf 2 1 rfl
    have h612_ := iv_get hv0 (k := 2) (j := 1) (l := 0) (u := 200) rfl
    have h613_ := iv_get hv (k := 2) (j := 2) (l := 0) (u := 200) rfl
    refine jt_eI (eq_J0_length_8abf5_r1010 E d (jd_le hd rfl) a b0) ?_
    have h614_ := ff_J0_length_8abf5_r1010 a b0
    refine jt_ite (fun c615_ => ?_) (fun c615_ => ?_)
    ·
      have h616_ : jxw ((a 2 2) + y3) = (a 2 2) + y3 := jxw_id (by omega) (by omega)
      refine jt_grd (by omega) ?_
      refine jt_eI (eq_J0_charAt_5068e_r1010 E d (jd_le hd rfl) y3 a b0 (show (0 ≤ y3 ∧ y3 < 5) from by omega)) ?_
      have h617_ := iv_get hv (k := 3) (j := (jxw ((a 2 2) + y3)).toNat) (l := 0) (u := 255) rfl
      have h618_ : a 3 ((jxw ((a 2 2) + y3)).toNat) = a0 3 ((jxw ((a 2 2) + y3)).toNat) := hf 3 ((jxw ((a 2 2) + y3)).toNat) rfl
      have h619_ := iv_get hv0 (k := 3) (j := (jxw ((a 2 2) + y3)).toNat) (l := 0) (u := 255) rfl
      have h620_ := f_J0_charAt_5068e_r1010_eq a b0 y3
      have h621_ := f_J0_isLatin1_aae02_r1010_eq a b0
      have h622_ := f_J1_charAt_3b067_r2010_eq a b0 y3
      have h623_ := jxand_r (([117, 110, 100, 101, 114] : List Int).getD (y3.toNat) 0) 255 (by decide) (by decide)
      have h624_ := jxi2c_b (jxand (([117, 110, 100, 101, 114] : List Int).getD (y3.toNat) 0) 255)
      refine jt_ite (fun c625_ => ?_) (fun c625_ => ?_)
      ·
        exact hc58 y2 y3 a (show (((5 - y3) * 1) + 0).toNat ≤ n from by omega) hv hf (show 5 ≤ y2 from by omega) (show y2 ≤ 200 from by omega) (show 0 ≤ y3 from by omega) (show y3 ≤ 4 from by omega) (show 5 ≤ a 2 1 from by omega) (show y3 < 5 from by omega) (show 0 ≤ y3 from by omega) (show y2 = (a 2 2) + 5 from by omega) (show y2 ≤ a 2 1 from by omega) (show y2 ≤ 200 from by omega)
      ·
        exact cp_X8_takesWord_r1010_56 E d hd a0 b0 hv0 a hv hf (show 5 ≤ a 2 1 from by omega)
    ·
      refine jt_ite (fun c626_ => ?_) (fun c626_ => ?_)
      ·
        refine jt_grd (by omega) ?_
        have h627_ := iv_get hv (k := 3) (j := y2.toNat) (l := 0) (u := 255) rfl
        have h628_ : a 3 (y2.toNat) = a0 3 (y2.toNat) := hf 3 (y2.toNat) rfl
        have h629_ := iv_get hv0 (k := 3) (j := y2.toNat) (l := 0) (u := 255) rfl
        refine jt_ite (fun c630_ => ?_) (fun c630_ => ?_)
        ·
          exact cp_X8_takesWord_r1010_96 E d hd a0 b0 hv0 y2 a hv hf (show 5 ≤ y2 from by omega) (show y2 ≤ 200 from by omega) (show 5 ≤ a 2 1 from by omega) (show y2 = (a 2 2) + 5 from by omega) (show y2 ≤ a 2 1 from by omega) (show y2 ≤ 200 from by omega)
        ·
          exact cp_X8_takesWord_r1010_83 E d hd a0 b0 hv0 y2 a hv hf (show 5 ≤ y2 from by omega) (show y2 ≤ 199 from by omega) (show 6 ≤ a 2 1 from by omega) (show y2 = (a 2 2) + 5 from by omega) (show y2 ≤ a 2 1 from by omega) (show y2 ≤ 200 from by omega)
      ·
        exact cp_X8_takesWord_r1010_96 E d hd a0 b0 hv0 y2 a hv hf (show 5 ≤ y2 from by omega) (show y2 ≤ 200 from by omega) (show 5 ≤ a 2 1 from by omega) (show y2 = (a 2 2) + 5 from by omega) (show y2 ≤ a 2 1 from by omega) (show y2 ≤ 200 from by omega)
  exact ⟨hc58, hc29⟩
theorem sp_X8_takesWord_r1010 (E : jxE) (d : Nat) (hd : Nat.ble 5 d = true) (a0 b0 : Nat → Nat → Int) (hv0 : iv a0) : jt (jxC E d 128 [.inr (.inr (.inl 2)), .inr (.inr (.inl 1010))] (jxSH, a0, b0)) (jQ_X8_takesWord_r1010 a0 b0) := by
  obtain ⟨d, rfl⟩ := jd_succ hd
  refine jt_eq (bq_X8_takesWord_r1010 E d a0 b0) ?_
  refine jt_eI (eq_J0_length_8abf5_r1010 E d (jd_le hd rfl) a0 b0) ?_
  refine jt_eI (eq_X8_isFaulty E d (jd_le hd rfl) a0 b0) ?_
  have h631_ := f_X8_isFaulty_eq a0 b0
  refine jt_ite (fun c632_ => ?_) (fun c632_ => ?_)
  ·
    have h633_ := iv_get hv0 (k := 2) (j := 1) (l := 0) (u := 200) rfl
    have h634_ := iv_get hv0 (k := 2) (j := 2) (l := 0) (u := 200) rfl
    have h635_ := ff_J0_length_8abf5_r1010 a0 b0
    have h636_ : jxw ((a0 2 2) + (f_J0_length_8abf5_r1010 a0 b0)) = (a0 2 2) + (f_J0_length_8abf5_r1010 a0 b0) := jxw_id (by omega) (by omega)
    refine jt_ite (fun c637_ => ?_) (fun c637_ => ?_)
    ·
      exact jt_rI ⟨hv0, (jfr_rf _ _), rfl, (show (0 ≤ 0 ∧ 0 ≤ 1) from by omega)⟩
    ·
      exact (cp_X8_takesWord_r1010_29 E d hd a0 b0 hv0 _).2 (jxw ((a0 2 2) + (f_J0_length_8abf5_r1010 a0 b0))) 0 a0 (Nat.le_refl _) hv0 (jfr_rf _ _) (show 5 ≤ jxw ((a0 2 2) + (f_J0_length_8abf5_r1010 a0 b0)) from by omega) (show jxw ((a0 2 2) + (f_J0_length_8abf5_r1010 a0 b0)) ≤ 200 from by omega) (show 0 ≤ 0 from by omega) (show 0 ≤ 5 from by omega) (show 5 ≤ a0 2 1 from by omega) (show 0 ≤ 0 from by omega) (show jxw ((a0 2 2) + (f_J0_length_8abf5_r1010 a0 b0)) = (a0 2 2) + 5 from by omega) (show jxw ((a0 2 2) + (f_J0_length_8abf5_r1010 a0 b0)) ≤ a0 2 1 from by omega) (show jxw ((a0 2 2) + (f_J0_length_8abf5_r1010 a0 b0)) ≤ 200 from by omega)
  ·
    exact jt_rI ⟨hv0, (jfr_rf _ _), rfl, (show (0 ≤ 0 ∧ 0 ≤ 1) from by omega)⟩
def jW_X8_takesWord_r1011 : List (Nat × Nat) := [(2, 2)]
abbrev jQ_X8_takesWord_r1011 (a0 b0 : Nat → Nat → Int) : List jxV → (Nat → Nat → Int) → (Nat → Nat → Int) → Prop := rI (fun r a b => (iv a) ∧ (jfr jW_X8_takesWord_r1011 a0 a) ∧ (b0 = b) ∧ ((0 ≤ r ∧ r ≤ 1)))
theorem cp_X8_takesWord_r1011_56 (E : jxE) (d : Nat) (hd : Nat.ble 5 (d + 1) = true) (a0 b0 : Nat → Nat → Int) (hv0 : iv a0) : ∀ (a : Nat → Nat → Int), iv a → jfr jW_X8_takesWord_r1011 a0 a → 4 ≤ a 2 1 → jt (jxX E d 128 56 [none, none, none, none] [] (jxSH, a, b0)) (jQ_X8_takesWord_r1011 a0 b0) := by
  intro a hv hf hi0
  refine jt_eq (bq_X8_takesWord_r1011_56 E d a b0) ?_
  have h638_ := iv_get hv (k := 2) (j := 1) (l := 0) (u := 200) rfl
  have h639_ : a 2 1 = a0 2 1 := hf 2 1 rfl
  have h640_ := iv_get hv0 (k := 2) (j := 1) (l := 0) (u := 200) rfl
  exact jt_rI ⟨hv, hf, rfl, (show (0 ≤ 0 ∧ 0 ≤ 1) from by omega)⟩
theorem cp_X8_takesWord_r1011_96 (E : jxE) (d : Nat) (hd : Nat.ble 5 (d + 1) = true) (a0 b0 : Nat → Nat → Int) (hv0 : iv a0) : ∀ (y2 : Int) (a : Nat → Nat → Int), iv a → jfr jW_X8_takesWord_r1011 a0 a → 4 ≤ y2 → y2 ≤ 200 → 4 ≤ a 2 1 → y2 = (a 2 2) + 4 → y2 ≤ a 2 1 → y2 ≤ 200 → jt (jxX E d 128 96 [some (.inr (.inr (.inl 2))), none, some (.inl y2), none] [] (jxSH, a, b0)) (jQ_X8_takesWord_r1011 a0 b0) := by
  intro y2 a hv hf hi0 hi1 hi2 hi3 hi4 hi5
  refine jt_eq (bq_X8_takesWord_r1011_96 E d y2 a b0) ?_
  have h641_ := iv_get hv (k := 2) (j := 1) (l := 0) (u := 200) rfl
  have h642_ : a 2 1 = a0 2 1 := hf 2 1 rfl
  have h643_ := iv_get hv0 (k := 2) (j := 1) (l := 0) (u := 200) rfl
  have h644_ := iv_get hv (k := 2) (j := 2) (l := 0) (u := 200) rfl
  have hv645_ : iv (jxu a 2 2 y2) := iv_put hv (l := 0) (u := 200) rfl (by omega) (by omega)
  refine jt_bV (sp_X8_skipBlanks E d (jd_le hd rfl) (jxu a 2 2 y2) b0 hv645_) (fun a646_ b646_ h646_ => ?_)
  obtain ⟨hv646_, hf646_, rfl⟩ := h646_
  have hf647_ : jfr jW_X8_takesWord_r1011 a0 (jxu a 2 2 y2) := jfr_put hf rfl
  have hf648_ : jfr jW_X8_takesWord_r1011 a0 a646_ := jfr_tr hf647_ hf646_ rfl
  exact jt_rI ⟨hv646_, hf648_, rfl, (show (0 ≤ 1 ∧ 1 ≤ 1) from by omega)⟩
theorem cp_X8_takesWord_r1011_83 (E : jxE) (d : Nat) (hd : Nat.ble 5 (d + 1) = true) (a0 b0 : Nat → Nat → Int) (hv0 : iv a0) : ∀ (y2 : Int) (a : Nat → Nat → Int), iv a → jfr jW_X8_takesWord_r1011 a0 a → 4 ≤ y2 → y2 ≤ 199 → 5 ≤ a 2 1 → y2 = (a 2 2) + 4 → y2 ≤ a 2 1 → y2 ≤ 200 → jt (jxX E d 128 83 [some (.inr (.inr (.inl 2))), none, some (.inl y2), none] [] (jxSH, a, b0)) (jQ_X8_takesWord_r1011 a0 b0) := by
  intro y2 a hv hf hi0 hi1 hi2 hi3 hi4 hi5
  refine jt_eq (bq_X8_takesWord_r1011_83 E d y2 a b0) ?_
  have h649_ := iv_get hv (k := 2) (j := 1) (l := 0) (u := 200) rfl
  have h650_ : a 2 1 = a0 2 1 := hf 2 1 rfl
  have h651_ := iv_get hv0 (k := 2) (j := 1) (l := 0) (u := 200) rfl
  have h652_ := iv_get hv (k := 2) (j := 2) (l := 0) (u := 200) rfl
  refine jt_grd (by omega) ?_
  have h653_ := iv_get hv (k := 3) (j := y2.toNat) (l := 0) (u := 255) rfl
  have h654_ : a 3 (y2.toNat) = a0 3 (y2.toNat) := hf 3 (y2.toNat) rfl
  have h655_ := iv_get hv0 (k := 3) (j := y2.toNat) (l := 0) (u := 255) rfl
  refine jt_ite (fun c656_ => ?_) (fun c656_ => ?_)
  ·
    exact cp_X8_takesWord_r1011_96 E d hd a0 b0 hv0 y2 a hv hf (show 4 ≤ y2 from by omega) (show y2 ≤ 200 from by omega) (show 4 ≤ a 2 1 from by omega) (show y2 = (a 2 2) + 4 from by omega) (show y2 ≤ a 2 1 from by omega) (show y2 ≤ 200 from by omega)
  ·
    exact jt_rI ⟨hv, hf, rfl, (show (0 ≤ 0 ∧ 0 ≤ 1) from by omega)⟩
theorem cp_X8_takesWord_r1011_29 (E : jxE) (d : Nat) (hd : Nat.ble 5 (d + 1) = true) (a0 b0 : Nat → Nat → Int) (hv0 : iv a0) : ∀ n : Nat, (∀ (y2 y3 : Int) (a : Nat → Nat → Int), (((4 - y3) * 1) + 0).toNat ≤ n → iv a → jfr jW_X8_takesWord_r1011 a0 a → 4 ≤ y2 → y2 ≤ 200 → 0 ≤ y3 → y3 ≤ 3 → 4 ≤ a 2 1 → y3 < 4 → 0 ≤ y3 → y2 = (a 2 2) + 4 → y2 ≤ a 2 1 → y2 ≤ 200 → jt (jxX E d 128 58 [some (.inr (.inr (.inl 2))), some (.inr (.inr (.inl 1011))), some (.inl y2), some (.inl y3)] [] (jxSH, a, b0)) (jQ_X8_takesWord_r1011 a0 b0)) ∧ (∀ (y2 y3 : Int) (a : Nat → Nat → Int), (((4 - y3) * 1) + 0).toNat ≤ n → iv a → jfr jW_X8_takesWord_r1011 a0 a → 4 ≤ y2 → y2 ≤ 200 → 0 ≤ y3 → y3 ≤ 4 → 4 ≤ a 2 1 → 0 ≤ y3 → y2 = (a 2 2) + 4 → y2 ≤ a 2 1 → y2 ≤ 200 → jt (jxX E d 128 29 [some (.inr (.inr (.inl 2))), some (.inr (.inr (.inl 1011))), some (.inl y2), some (.inl y3)] [] (jxSH, a, b0)) (jQ_X8_takesWord_r1011 a0 b0)) := by
  refine jx_ind fun n ih => ?_
  have ih58 : ∀ (y2 y3 : Int) (a : Nat → Nat → Int), (((4 - y3) * 1) + 0).toNat < n → iv a → jfr jW_X8_takesWord_r1011 a0 a → 4 ≤ y2 → y2 ≤ 200 → 0 ≤ y3 → y3 ≤ 3 → 4 ≤ a 2 1 → y3 < 4 → 0 ≤ y3 → y2 = (a 2 2) + 4 → y2 ≤ a 2 1 → y2 ≤ 200 → jt (jxX E d 128 58 [some (.inr (.inr (.inl 2))), some (.inr (.inr (.inl 1011))), some (.inl y2), some (.inl y3)] [] (jxSH, a, b0)) (jQ_X8_takesWord_r1011 a0 b0) := fun y2 y3 a hlt i0 i1 i2 i3 i4 i5 i6 i7 i8 i9 i10 i11 => (ih _ hlt).1 y2 y3 a (Nat.le_refl _) i0 i1 i2 i3 i4 i5 i6 i7 i8 i9 i10 i11
  have ih29 : ∀ (y2 y3 : Int) (a : Nat → Nat → Int), (((4 - y3) * 1) + 0).toNat < n → iv a → jfr jW_X8_takesWord_r1011 a0 a → 4 ≤ y2 → y2 ≤ 200 → 0 ≤ y3 → y3 ≤ 4 → 4 ≤ a 2 1 → 0 ≤ y3 → y2 = (a 2 2) + 4 → y2 ≤ a 2 1 → y2 ≤ 200 → jt (jxX E d 128 29 [some (.inr (.inr (.inl 2))), some (.inr (.inr (.inl 1011))), some (.inl y2), some (.inl y3)] [] (jxSH, a, b0)) (jQ_X8_takesWord_r1011 a0 b0) := fun y2 y3 a hlt i0 i1 i2 i3 i4 i5 i6 i7 i8 i9 i10 => (ih _ hlt).2 y2 y3 a (Nat.le_refl _) i0 i1 i2 i3 i4 i5 i6 i7 i8 i9 i10
  have hc58 : ∀ (y2 y3 : Int) (a : Nat → Nat → Int), (((4 - y3) * 1) + 0).toNat ≤ n → iv a → jfr jW_X8_takesWord_r1011 a0 a → 4 ≤ y2 → y2 ≤ 200 → 0 ≤ y3 → y3 ≤ 3 → 4 ≤ a 2 1 → y3 < 4 → 0 ≤ y3 → y2 = (a 2 2) + 4 → y2 ≤ a 2 1 → y2 ≤ 200 → jt (jxX E d 128 58 [some (.inr (.inr (.inl 2))), some (.inr (.inr (.inl 1011))), some (.inl y2), some (.inl y3)] [] (jxSH, a, b0)) (jQ_X8_takesWord_r1011 a0 b0) := by
    intro y2 y3 a hm hv hf hi0 hi1 hi2 hi3 hi4 hi5 hi6 hi7 hi8 hi9
    refine jt_eq (bq_X8_takesWord_r1011_58 E d y2 y3 a b0) ?_
    have h657_ := iv_get hv (k := 2) (j := 1) (l := 0) (u := 200) rfl
    have h658_ : a 2 1 = a0 2 1 := hf 2 1 rfl
    have h659_ := iv_get hv0 (k := 2) (j := 1) (l := 0) (u := 200) rfl
    have h660_ := iv_get hv (k := 2) (j := 2) (l := 0) (u := 200) rfl
    have h661_ : jxw (y3 + 1) = y3 + 1 := jxw_id (by omega) (by omega)
    exact ih29 y2 (jxw (y3 + 1)) a (show (((4 - (jxw (y3 + 1))) * 1) + 0).toNat < n from by omega) hv hf (show 4 ≤ y2 from by omega) (show y2 ≤ 200 from by omega) (show 0 ≤ jxw (y3 + 1) from by omega) (show jxw (y3 + 1) ≤ 4 from by omega) (show 4 ≤ a 2 1 from by omega) (show 0 ≤ jxw (y3 + 1) from by omega) (show y2 = (a 2 2) + 4 from by omega) (show y2 ≤ a 2 1 from by omega) (show y2 ≤ 200 from by omega)
  have hc29 : ∀ (y2 y3 : Int) (a : Nat → Nat → Int), (((4 - y3) * 1) + 0).toNat ≤ n → iv a → jfr jW_X8_takesWord_r1011 a0 a → 4 ≤ y2 → y2 ≤ 200 → 0 ≤ y3 → y3 ≤ 4 → 4 ≤ a 2 1 → 0 ≤ y3 → y2 = (a 2 2) + 4 → y2 ≤ a 2 1 → y2 ≤ 200 → jt (jxX E d 128 29 [some (.inr (.inr (.inl 2))), some (.inr (.inr (.inl 1011))), some (.inl y2), some (.inl y3)] [] (jxSH, a, b0)) (jQ_X8_takesWord_r1011 a0 b0) := by
    intro y2 y3 a hm hv hf hi0 hi1 hi2 hi3 hi4 hi5 hi6 hi7 hi8
    refine jt_eq (bq_X8_takesWord_r1011_29 E d y2 y3 a b0) ?_
    have h662_ := iv_get hv (k := 2) (j := 1) (l := 0) (u := 200) rfl
    have h663_ : a 2 1 = a0 2 1 := hf 2 1 rfl
    have h664_ := iv_get hv0 (k := 2) (j := 1) (l := 0) (u := 200) rfl
    have h665_ := iv_get hv (k := 2) (j := 2) (l := 0) (u := 200) rfl
    refine jt_eI (eq_J0_length_8abf5_r1011 E d (jd_le hd rfl) a b0) ?_
    have h666_ := ff_J0_length_8abf5_r1011 a b0
    refine jt_ite (fun c667_ => ?_) (fun c667_ => ?_)
    ·
      have h668_ : jxw ((a 2 2) + y3) = (a 2 2) + y3 := jxw_id (by omega) (by omega)
      refine jt_grd (by omega) ?_
      refine jt_eI (eq_J0_charAt_5068e_r1011 E d (jd_le hd rfl) y3 a b0 (show (0 ≤ y3 ∧ y3 < 4) from by omega)) ?_
      have h669_ := iv_get hv (k := 3) (j := (jxw ((a 2 2) + y3)).toNat) (l := 0) (u := 255) rfl
      have h670_ : a 3 ((jxw ((a 2 2) + y3)).toNat) = a0 3 ((jxw ((a 2 2) + y3)).toNat) := hf 3 ((jxw ((a 2 2) + y3)).toNat) rfl
      have h671_ := iv_get hv0 (k := 3) (j := (jxw ((a 2 2) + y3)).toNat) (l := 0) (u := 255) rfl
      have h672_ := f_J0_charAt_5068e_r1011_eq a b0 y3
      have h673_ := f_J0_isLatin1_aae02_r1011_eq a b0
      have h674_ := f_J1_charAt_3b067_r2011_eq a b0 y3
      have h675_ := jxand_r (([109, 111, 114, 101] : List Int).getD (y3.toNat) 0) 255 (by decide) (by decide)
      have h676_ := jxi2c_b (jxand (([109, 111, 114, 101] : List Int).getD (y3.toNat) 0) 255)
      refine jt_ite (fun c677_ => ?_) (fun c677_ => ?_)
      ·
        exact hc58 y2 y3 a (show (((4 - y3) * 1) + 0).toNat ≤ n from by omega) hv hf (show 4 ≤ y2 from by omega) (show y2 ≤ 200 from by omega) (show 0 ≤ y3 from by omega) (show y3 ≤ 3 from by omega) (show 4 ≤ a 2 1 from by omega) (show y3 < 4 from by omega) (show 0 ≤ y3 from by omega) (show y2 = (a 2 2) + 4 from by omega) (show y2 ≤ a 2 1 from by omega) (show y2 ≤ 200 from by omega)
      ·
        exact cp_X8_takesWord_r1011_56 E d hd a0 b0 hv0 a hv hf (show 4 ≤ a 2 1 from by omega)
    ·
      refine jt_ite (fun c678_ => ?_) (fun c678_ => ?_)
      ·
        refine jt_grd (by omega) ?_
        have h679_ := iv_get hv (k := 3) (j := y2.toNat) (l := 0) (u := 255) rfl
        have h680_ : a 3 (y2.toNat) = a0 3 (y2.toNat) := hf 3 (y2.toNat) rfl
        have h681_ := iv_get hv0 (k := 3) (j := y2.toNat) (l := 0) (u := 255) rfl
        refine jt_ite (fun c682_ => ?_) (fun c682_ => ?_)
        ·
          exact cp_X8_takesWord_r1011_96 E d hd a0 b0 hv0 y2 a hv hf (show 4 ≤ y2 from by omega) (show y2 ≤ 200 from by omega) (show 4 ≤ a 2 1 from by omega) (show y2 = (a 2 2) + 4 from by omega) (show y2 ≤ a 2 1 from by omega) (show y2 ≤ 200 from by omega)
        ·
          exact cp_X8_takesWord_r1011_83 E d hd a0 b0 hv0 y2 a hv hf (show 4 ≤ y2 from by omega) (show y2 ≤ 199 from by omega) (show 5 ≤ a 2 1 from by omega) (show y2 = (a 2 2) + 4 from by omega) (show y2 ≤ a 2 1 from by omega) (show y2 ≤ 200 from by omega)
      ·
        exact cp_X8_takesWord_r1011_96 E d hd a0 b0 hv0 y2 a hv hf (show 4 ≤ y2 from by omega) (show y2 ≤ 200 from by omega) (show 4 ≤ a 2 1 from by omega) (show y2 = (a 2 2) + 4 from by omega) (show y2 ≤ a 2 1 from by omega) (show y2 ≤ 200 from by omega)
  exact ⟨hc58, hc29⟩
theorem sp_X8_takesWord_r1011 (E : jxE) (d : Nat) (hd : Nat.ble 5 d = true) (a0 b0 : Nat → Nat → Int) (hv0 : iv a0) : jt (jxC E d 128 [.inr (.inr (.inl 2)), .inr (.inr (.inl 1011))] (jxSH, a0, b0)) (jQ_X8_takesWord_r1011 a0 b0) := by
  obtain ⟨d, rfl⟩ := jd_succ hd
  refine jt_eq (bq_X8_takesWord_r1011 E d a0 b0) ?_
  refine jt_eI (eq_J0_length_8abf5_r1011 E d (jd_le hd rfl) a0 b0) ?_
  refine jt_eI (eq_X8_isFaulty E d (jd_le hd rfl) a0 b0) ?_
  have h683_ := f_X8_isFaulty_eq a0 b0
  refine jt_ite (fun c684_ => ?_) (fun c684_ => ?_)
  ·
    have h685_ := iv_get hv0 (k := 2) (j := 1) (l := 0) (u := 200) rfl
    have h686_ := iv_get hv0 (k := 2) (j := 2) (l := 0) (u := 200) rfl
    have h687_ := ff_J0_length_8abf5_r1011 a0 b0
    have h688_ : jxw ((a0 2 2) + (f_J0_length_8abf5_r1011 a0 b0)) = (a0 2 2) + (f_J0_length_8abf5_r1011 a0 b0) := jxw_id (by omega) (by omega)
    refine jt_ite (fun c689_ => ?_) (fun c689_ => ?_)
    ·
      exact jt_rI ⟨hv0, (jfr_rf _ _), rfl, (show (0 ≤ 0 ∧ 0 ≤ 1) from by omega)⟩
    ·
      exact (cp_X8_takesWord_r1011_29 E d hd a0 b0 hv0 _).2 (jxw ((a0 2 2) + (f_J0_length_8abf5_r1011 a0 b0))) 0 a0 (Nat.le_refl _) hv0 (jfr_rf _ _) (show 4 ≤ jxw ((a0 2 2) + (f_J0_length_8abf5_r1011 a0 b0)) from by omega) (show jxw ((a0 2 2) + (f_J0_length_8abf5_r1011 a0 b0)) ≤ 200 from by omega) (show 0 ≤ 0 from by omega) (show 0 ≤ 4 from by omega) (show 4 ≤ a0 2 1 from by omega) (show 0 ≤ 0 from by omega) (show jxw ((a0 2 2) + (f_J0_length_8abf5_r1011 a0 b0)) = (a0 2 2) + 4 from by omega) (show jxw ((a0 2 2) + (f_J0_length_8abf5_r1011 a0 b0)) ≤ a0 2 1 from by omega) (show jxw ((a0 2 2) + (f_J0_length_8abf5_r1011 a0 b0)) ≤ 200 from by omega)
  ·
    exact jt_rI ⟨hv0, (jfr_rf _ _), rfl, (show (0 ≤ 0 ∧ 0 ≤ 1) from by omega)⟩
def jW_X8_takesWord_r1012 : List (Nat × Nat) := [(2, 2)]
abbrev jQ_X8_takesWord_r1012 (a0 b0 : Nat → Nat → Int) : List jxV → (Nat → Nat → Int) → (Nat → Nat → Int) → Prop := rI (fun r a b => (iv a) ∧ (jfr jW_X8_takesWord_r1012 a0 a) ∧ (b0 = b) ∧ ((0 ≤ r ∧ r ≤ 1)))
theorem cp_X8_takesWord_r1012_56 (E : jxE) (d : Nat) (hd : Nat.ble 5 (d + 1) = true) (a0 b0 : Nat → Nat → Int) (hv0 : iv a0) : ∀ (a : Nat → Nat → Int), iv a → jfr jW_X8_takesWord_r1012 a0 a → 5 ≤ a 2 1 → jt (jxX E d 128 56 [none, none, none, none] [] (jxSH, a, b0)) (jQ_X8_takesWord_r1012 a0 b0) := by
  intro a hv hf hi0
  refine jt_eq (bq_X8_takesWord_r1012_56 E d a b0) ?_
  have h690_ := iv_get hv (k := 2) (j := 1) (l := 0) (u := 200) rfl
  have h691_ : a 2 1 = a0 2 1 := hf 2 1 rfl
  have h692_ := iv_get hv0 (k := 2) (j := 1) (l := 0) (u := 200) rfl
  exact jt_rI ⟨hv, hf, rfl, (show (0 ≤ 0 ∧ 0 ≤ 1) from by omega)⟩
theorem cp_X8_takesWord_r1012_96 (E : jxE) (d : Nat) (hd : Nat.ble 5 (d + 1) = true) (a0 b0 : Nat → Nat → Int) (hv0 : iv a0) : ∀ (y2 : Int) (a : Nat → Nat → Int), iv a → jfr jW_X8_takesWord_r1012 a0 a → 5 ≤ y2 → y2 ≤ 200 → 5 ≤ a 2 1 → y2 = (a 2 2) + 5 → y2 ≤ a 2 1 → y2 ≤ 200 → jt (jxX E d 128 96 [some (.inr (.inr (.inl 2))), none, some (.inl y2), none] [] (jxSH, a, b0)) (jQ_X8_takesWord_r1012 a0 b0) := by
  intro y2 a hv hf hi0 hi1 hi2 hi3 hi4 hi5
  refine jt_eq (bq_X8_takesWord_r1012_96 E d y2 a b0) ?_
  have h693_ := iv_get hv (k := 2) (j := 1) (l := 0) (u := 200) rfl
  have h694_ : a 2 1 = a0 2 1 := hf 2 1 rfl
  have h695_ := iv_get hv0 (k := 2) (j := 1) (l := 0) (u := 200) rfl
  have h696_ := iv_get hv (k := 2) (j := 2) (l := 0) (u := 200) rfl
  have hv697_ : iv (jxu a 2 2 y2) := iv_put hv (l := 0) (u := 200) rfl (by omega) (by omega)
  refine jt_bV (sp_X8_skipBlanks E d (jd_le hd rfl) (jxu a 2 2 y2) b0 hv697_) (fun a698_ b698_ h698_ => ?_)
  obtain ⟨hv698_, hf698_, rfl⟩ := h698_
  have hf699_ : jfr jW_X8_takesWord_r1012 a0 (jxu a 2 2 y2) := jfr_put hf rfl
  have hf700_ : jfr jW_X8_takesWord_r1012 a0 a698_ := jfr_tr hf699_ hf698_ rfl
  exact jt_rI ⟨hv698_, hf700_, rfl, (show (0 ≤ 1 ∧ 1 ≤ 1) from by omega)⟩
theorem cp_X8_takesWord_r1012_83 (E : jxE) (d : Nat) (hd : Nat.ble 5 (d + 1) = true) (a0 b0 : Nat → Nat → Int) (hv0 : iv a0) : ∀ (y2 : Int) (a : Nat → Nat → Int), iv a → jfr jW_X8_takesWord_r1012 a0 a → 5 ≤ y2 → y2 ≤ 199 → 6 ≤ a 2 1 → y2 = (a 2 2) + 5 → y2 ≤ a 2 1 → y2 ≤ 200 → jt (jxX E d 128 83 [some (.inr (.inr (.inl 2))), none, some (.inl y2), none] [] (jxSH, a, b0)) (jQ_X8_takesWord_r1012 a0 b0) := by
  intro y2 a hv hf hi0 hi1 hi2 hi3 hi4 hi5
  refine jt_eq (bq_X8_takesWord_r1012_83 E d y2 a b0) ?_
  have h701_ := iv_get hv (k := 2) (j := 1) (l := 0) (u := 200) rfl
  have h702_ : a 2 1 = a0 2 1 := hf 2 1 rfl
  have h703_ := iv_get hv0 (k := 2) (j := 1) (l := 0) (u := 200) rfl
  have h704_ := iv_get hv (k := 2) (j := 2) (l := 0) (u := 200) rfl
  refine jt_grd (by omega) ?_
  have h705_ := iv_get hv (k := 3) (j := y2.toNat) (l := 0) (u := 255) rfl
  have h706_ : a 3 (y2.toNat) = a0 3 (y2.toNat) := hf 3 (y2.toNat) rfl
  have h707_ := iv_get hv0 (k := 3) (j := y2.toNat) (l := 0) (u := 255) rfl
  refine jt_ite (fun c708_ => ?_) (fun c708_ => ?_)
  ·
    exact cp_X8_takesWord_r1012_96 E d hd a0 b0 hv0 y2 a hv hf (show 5 ≤ y2 from by omega) (show y2 ≤ 200 from by omega) (show 5 ≤ a 2 1 from by omega) (show y2 = (a 2 2) + 5 from by omega) (show y2 ≤ a 2 1 from by omega) (show y2 ≤ 200 from by omega)
  ·
    exact jt_rI ⟨hv, hf, rfl, (show (0 ≤ 0 ∧ 0 ≤ 1) from by omega)⟩
theorem cp_X8_takesWord_r1012_29 (E : jxE) (d : Nat) (hd : Nat.ble 5 (d + 1) = true) (a0 b0 : Nat → Nat → Int) (hv0 : iv a0) : ∀ n : Nat, (∀ (y2 y3 : Int) (a : Nat → Nat → Int), (((5 - y3) * 1) + 0).toNat ≤ n → iv a → jfr jW_X8_takesWord_r1012 a0 a → 5 ≤ y2 → y2 ≤ 200 → 0 ≤ y3 → y3 ≤ 4 → 5 ≤ a 2 1 → y3 < 5 → 0 ≤ y3 → y2 = (a 2 2) + 5 → y2 ≤ a 2 1 → y2 ≤ 200 → jt (jxX E d 128 58 [some (.inr (.inr (.inl 2))), some (.inr (.inr (.inl 1012))), some (.inl y2), some (.inl y3)] [] (jxSH, a, b0)) (jQ_X8_takesWord_r1012 a0 b0)) ∧ (∀ (y2 y3 : Int) (a : Nat → Nat → Int), (((5 - y3) * 1) + 0).toNat ≤ n → iv a → jfr jW_X8_takesWord_r1012 a0 a → 5 ≤ y2 → y2 ≤ 200 → 0 ≤ y3 → y3 ≤ 5 → 5 ≤ a 2 1 → 0 ≤ y3 → y2 = (a 2 2) + 5 → y2 ≤ a 2 1 → y2 ≤ 200 → jt (jxX E d 128 29 [some (.inr (.inr (.inl 2))), some (.inr (.inr (.inl 1012))), some (.inl y2), some (.inl y3)] [] (jxSH, a, b0)) (jQ_X8_takesWord_r1012 a0 b0)) := by
  refine jx_ind fun n ih => ?_
  have ih58 : ∀ (y2 y3 : Int) (a : Nat → Nat → Int), (((5 - y3) * 1) + 0).toNat < n → iv a → jfr jW_X8_takesWord_r1012 a0 a → 5 ≤ y2 → y2 ≤ 200 → 0 ≤ y3 → y3 ≤ 4 → 5 ≤ a 2 1 → y3 < 5 → 0 ≤ y3 → y2 = (a 2 2) + 5 → y2 ≤ a 2 1 → y2 ≤ 200 → jt (jxX E d 128 58 [some (.inr (.inr (.inl 2))), some (.inr (.inr (.inl 1012))), some (.inl y2), some (.inl y3)] [] (jxSH, a, b0)) (jQ_X8_takesWord_r1012 a0 b0) := fun y2 y3 a hlt i0 i1 i2 i3 i4 i5 i6 i7 i8 i9 i10 i11 => (ih _ hlt).1 y2 y3 a (Nat.le_refl _) i0 i1 i2 i3 i4 i5 i6 i7 i8 i9 i10 i11
  have ih29 : ∀ (y2 y3 : Int) (a : Nat → Nat → Int), (((5 - y3) * 1) + 0).toNat < n → iv a → jfr jW_X8_takesWord_r1012 a0 a → 5 ≤ y2 → y2 ≤ 200 → 0 ≤ y3 → y3 ≤ 5 → 5 ≤ a 2 1 → 0 ≤ y3 → y2 = (a 2 2) + 5 → y2 ≤ a 2 1 → y2 ≤ 200 → jt (jxX E d 128 29 [some (.inr (.inr (.inl 2))), some (.inr (.inr (.inl 1012))), some (.inl y2), some (.inl y3)] [] (jxSH, a, b0)) (jQ_X8_takesWord_r1012 a0 b0) := fun y2 y3 a hlt i0 i1 i2 i3 i4 i5 i6 i7 i8 i9 i10 => (ih _ hlt).2 y2 y3 a (Nat.le_refl _) i0 i1 i2 i3 i4 i5 i6 i7 i8 i9 i10
  have hc58 : ∀ (y2 y3 : Int) (a : Nat → Nat → Int), (((5 - y3) * 1) + 0).toNat ≤ n → iv a → jfr jW_X8_takesWord_r1012 a0 a → 5 ≤ y2 → y2 ≤ 200 → 0 ≤ y3 → y3 ≤ 4 → 5 ≤ a 2 1 → y3 < 5 → 0 ≤ y3 → y2 = (a 2 2) + 5 → y2 ≤ a 2 1 → y2 ≤ 200 → jt (jxX E d 128 58 [some (.inr (.inr (.inl 2))), some (.inr (.inr (.inl 1012))), some (.inl y2), some (.inl y3)] [] (jxSH, a, b0)) (jQ_X8_takesWord_r1012 a0 b0) := by
    intro y2 y3 a hm hv hf hi0 hi1 hi2 hi3 hi4 hi5 hi6 hi7 hi8 hi9
    refine jt_eq (bq_X8_takesWord_r1012_58 E d y2 y3 a b0) ?_
    have h709_ := iv_get hv (k := 2) (j := 1) (l := 0) (u := 200) rfl
    have h710_ : a 2 1 = a0 2 1 := hf 2 1 rfl
    have h711_ := iv_get hv0 (k := 2) (j := 1) (l := 0) (u := 200) rfl
    have h712_ := iv_get hv (k := 2) (j := 2) (l := 0) (u := 200) rfl
    have h713_ : jxw (y3 + 1) = y3 + 1 := jxw_id (by omega) (by omega)
    exact ih29 y2 (jxw (y3 + 1)) a (show (((5 - (jxw (y3 + 1))) * 1) + 0).toNat < n from by omega) hv hf (show 5 ≤ y2 from by omega) (show y2 ≤ 200 from by omega) (show 0 ≤ jxw (y3 + 1) from by omega) (show jxw (y3 + 1) ≤ 5 from by omega) (show 5 ≤ a 2 1 from by omega) (show 0 ≤ jxw (y3 + 1) from by omega) (show y2 = (a 2 2) + 5 from by omega) (show y2 ≤ a 2 1 from by omega) (show y2 ≤ 200 from by omega)
  have hc29 : ∀ (y2 y3 : Int) (a : Nat → Nat → Int), (((5 - y3) * 1) + 0).toNat ≤ n → iv a → jfr jW_X8_takesWord_r1012 a0 a → 5 ≤ y2 → y2 ≤ 200 → 0 ≤ y3 → y3 ≤ 5 → 5 ≤ a 2 1 → 0 ≤ y3 → y2 = (a 2 2) + 5 → y2 ≤ a 2 1 → y2 ≤ 200 → jt (jxX E d 128 29 [some (.inr (.inr (.inl 2))), some (.inr (.inr (.inl 1012))), some (.inl y2), some (.inl y3)] [] (jxSH, a, b0)) (jQ_X8_takesWord_r1012 a0 b0) := by
    intro y2 y3 a hm hv hf hi0 hi1 hi2 hi3 hi4 hi5 hi6 hi7 hi8
    refine jt_eq (bq_X8_takesWord_r1012_29 E d y2 y3 a b0) ?_
    have h714_ := iv_get hv (k := 2) (j := 1) (l := 0) (u := 200) rfl
    have h715_ : a 2 1 = a0 2 1 := hf 2 1 rfl
    have h716_ := iv_get hv0 (k := 2) (j := 1) (l := 0) (u := 200) rfl
    have h717_ := iv_get hv (k := 2) (j := 2) (l := 0) (u := 200) rfl
    refine jt_eI (eq_J0_length_8abf5_r1012 E d (jd_le hd rfl) a b0) ?_
    have h718_ := ff_J0_length_8abf5_r1012 a b0
    refine jt_ite (fun c719_ => ?_) (fun c719_ => ?_)
    ·
      have h720_ : jxw ((a 2 2) + y3) = (a 2 2) + y3 := jxw_id (by omega) (by omega)
      refine jt_grd (by omega) ?_
      refine jt_eI (eq_J0_charAt_5068e_r1012 E d (jd_le hd rfl) y3 a b0 (show (0 ≤ y3 ∧ y3 < 5) from by omega)) ?_
      have h721_ := iv_get hv (k := 3) (j := (jxw ((a 2 2) + y3)).toNat) (l := 0) (u := 255) rfl
      have h722_ : a 3 ((jxw ((a 2 2) + y3)).toNat) = a0 3 ((jxw ((a 2 2) + y3)).toNat) := hf 3 ((jxw ((a 2 2) + y3)).toNat) rfl
      have h723_ := iv_get hv0 (k := 3) (j := (jxw ((a 2 2) + y3)).toNat) (l := 0) (u := 255) rfl
      have h724_ := f_J0_charAt_5068e_r1012_eq a b0 y3
      have h725_ := f_J0_isLatin1_aae02_r1012_eq a b0
      have h726_ := f_J1_charAt_3b067_r2012_eq a b0 y3
      have h727_ := jxand_r (([115, 108, 97, 99, 107] : List Int).getD (y3.toNat) 0) 255 (by decide) (by decide)
      have h728_ := jxi2c_b (jxand (([115, 108, 97, 99, 107] : List Int).getD (y3.toNat) 0) 255)
      refine jt_ite (fun c729_ => ?_) (fun c729_ => ?_)
      ·
        exact hc58 y2 y3 a (show (((5 - y3) * 1) + 0).toNat ≤ n from by omega) hv hf (show 5 ≤ y2 from by omega) (show y2 ≤ 200 from by omega) (show 0 ≤ y3 from by omega) (show y3 ≤ 4 from by omega) (show 5 ≤ a 2 1 from by omega) (show y3 < 5 from by omega) (show 0 ≤ y3 from by omega) (show y2 = (a 2 2) + 5 from by omega) (show y2 ≤ a 2 1 from by omega) (show y2 ≤ 200 from by omega)
      ·
        exact cp_X8_takesWord_r1012_56 E d hd a0 b0 hv0 a hv hf (show 5 ≤ a 2 1 from by omega)
    ·
      refine jt_ite (fun c730_ => ?_) (fun c730_ => ?_)
      ·
        refine jt_grd (by omega) ?_
        have h731_ := iv_get hv (k := 3) (j := y2.toNat) (l := 0) (u := 255) rfl
        have h732_ : a 3 (y2.toNat) = a0 3 (y2.toNat) := hf 3 (y2.toNat) rfl
        have h733_ := iv_get hv0 (k := 3) (j := y2.toNat) (l := 0) (u := 255) rfl
        refine jt_ite (fun c734_ => ?_) (fun c734_ => ?_)
        ·
          exact cp_X8_takesWord_r1012_96 E d hd a0 b0 hv0 y2 a hv hf (show 5 ≤ y2 from by omega) (show y2 ≤ 200 from by omega) (show 5 ≤ a 2 1 from by omega) (show y2 = (a 2 2) + 5 from by omega) (show y2 ≤ a 2 1 from by omega) (show y2 ≤ 200 from by omega)
        ·
          exact cp_X8_takesWord_r1012_83 E d hd a0 b0 hv0 y2 a hv hf (show 5 ≤ y2 from by omega) (show y2 ≤ 199 from by omega) (show 6 ≤ a 2 1 from by omega) (show y2 = (a 2 2) + 5 from by omega) (show y2 ≤ a 2 1 from by omega) (show y2 ≤ 200 from by omega)
      ·
        exact cp_X8_takesWord_r1012_96 E d hd a0 b0 hv0 y2 a hv hf (show 5 ≤ y2 from by omega) (show y2 ≤ 200 from by omega) (show 5 ≤ a 2 1 from by omega) (show y2 = (a 2 2) + 5 from by omega) (show y2 ≤ a 2 1 from by omega) (show y2 ≤ 200 from by omega)
  exact ⟨hc58, hc29⟩
theorem sp_X8_takesWord_r1012 (E : jxE) (d : Nat) (hd : Nat.ble 5 d = true) (a0 b0 : Nat → Nat → Int) (hv0 : iv a0) : jt (jxC E d 128 [.inr (.inr (.inl 2)), .inr (.inr (.inl 1012))] (jxSH, a0, b0)) (jQ_X8_takesWord_r1012 a0 b0) := by
  obtain ⟨d, rfl⟩ := jd_succ hd
  refine jt_eq (bq_X8_takesWord_r1012 E d a0 b0) ?_
  refine jt_eI (eq_J0_length_8abf5_r1012 E d (jd_le hd rfl) a0 b0) ?_
  refine jt_eI (eq_X8_isFaulty E d (jd_le hd rfl) a0 b0) ?_
  have h735_ := f_X8_isFaulty_eq a0 b0
  refine jt_ite (fun c736_ => ?_) (fun c736_ => ?_)
  ·
    have h737_ := iv_get hv0 (k := 2) (j := 1) (l := 0) (u := 200) rfl
    have h738_ := iv_get hv0 (k := 2) (j := 2) (l := 0) (u := 200) rfl
    have h739_ := ff_J0_length_8abf5_r1012 a0 b0
    have h740_ : jxw ((a0 2 2) + (f_J0_length_8abf5_r1012 a0 b0)) = (a0 2 2) + (f_J0_length_8abf5_r1012 a0 b0) := jxw_id (by omega) (by omega)
    refine jt_ite (fun c741_ => ?_) (fun c741_ => ?_)
    ·
      exact jt_rI ⟨hv0, (jfr_rf _ _), rfl, (show (0 ≤ 0 ∧ 0 ≤ 1) from by omega)⟩
    ·
      exact (cp_X8_takesWord_r1012_29 E d hd a0 b0 hv0 _).2 (jxw ((a0 2 2) + (f_J0_length_8abf5_r1012 a0 b0))) 0 a0 (Nat.le_refl _) hv0 (jfr_rf _ _) (show 5 ≤ jxw ((a0 2 2) + (f_J0_length_8abf5_r1012 a0 b0)) from by omega) (show jxw ((a0 2 2) + (f_J0_length_8abf5_r1012 a0 b0)) ≤ 200 from by omega) (show 0 ≤ 0 from by omega) (show 0 ≤ 5 from by omega) (show 5 ≤ a0 2 1 from by omega) (show 0 ≤ 0 from by omega) (show jxw ((a0 2 2) + (f_J0_length_8abf5_r1012 a0 b0)) = (a0 2 2) + 5 from by omega) (show jxw ((a0 2 2) + (f_J0_length_8abf5_r1012 a0 b0)) ≤ a0 2 1 from by omega) (show jxw ((a0 2 2) + (f_J0_length_8abf5_r1012 a0 b0)) ≤ 200 from by omega)
  ·
    exact jt_rI ⟨hv0, (jfr_rf _ _), rfl, (show (0 ≤ 0 ∧ 0 ≤ 1) from by omega)⟩
def jW_X8_takesWord_r1013 : List (Nat × Nat) := [(2, 2)]
abbrev jQ_X8_takesWord_r1013 (a0 b0 : Nat → Nat → Int) : List jxV → (Nat → Nat → Int) → (Nat → Nat → Int) → Prop := rI (fun r a b => (iv a) ∧ (jfr jW_X8_takesWord_r1013 a0 a) ∧ (b0 = b) ∧ ((0 ≤ r ∧ r ≤ 1)))
theorem cp_X8_takesWord_r1013_56 (E : jxE) (d : Nat) (hd : Nat.ble 5 (d + 1) = true) (a0 b0 : Nat → Nat → Int) (hv0 : iv a0) : ∀ (a : Nat → Nat → Int), iv a → jfr jW_X8_takesWord_r1013 a0 a → 4 ≤ a 2 1 → jt (jxX E d 128 56 [none, none, none, none] [] (jxSH, a, b0)) (jQ_X8_takesWord_r1013 a0 b0) := by
  intro a hv hf hi0
  refine jt_eq (bq_X8_takesWord_r1013_56 E d a b0) ?_
  have h742_ := iv_get hv (k := 2) (j := 1) (l := 0) (u := 200) rfl
  have h743_ : a 2 1 = a0 2 1 := hf 2 1 rfl
  have h744_ := iv_get hv0 (k := 2) (j := 1) (l := 0) (u := 200) rfl
  exact jt_rI ⟨hv, hf, rfl, (show (0 ≤ 0 ∧ 0 ≤ 1) from by omega)⟩
theorem cp_X8_takesWord_r1013_96 (E : jxE) (d : Nat) (hd : Nat.ble 5 (d + 1) = true) (a0 b0 : Nat → Nat → Int) (hv0 : iv a0) : ∀ (y2 : Int) (a : Nat → Nat → Int), iv a → jfr jW_X8_takesWord_r1013 a0 a → 4 ≤ y2 → y2 ≤ 200 → 4 ≤ a 2 1 → y2 = (a 2 2) + 4 → y2 ≤ a 2 1 → y2 ≤ 200 → jt (jxX E d 128 96 [some (.inr (.inr (.inl 2))), none, some (.inl y2), none] [] (jxSH, a, b0)) (jQ_X8_takesWord_r1013 a0 b0) := by
  intro y2 a hv hf hi0 hi1 hi2 hi3 hi4 hi5
  refine jt_eq (bq_X8_takesWord_r1013_96 E d y2 a b0) ?_
  have h745_ := iv_get hv (k := 2) (j := 1) (l := 0) (u := 200) rfl
  have h746_ : a 2 1 = a0 2 1 := hf 2 1 rfl
  have h747_ := iv_get hv0 (k := 2) (j := 1) (l := 0) (u := 200) rfl
  have h748_ := iv_get hv (k := 2) (j := 2) (l := 0) (u := 200) rfl
  have hv749_ : iv (jxu a 2 2 y2) := iv_put hv (l := 0) (u := 200) rfl (by omega) (by omega)
  refine jt_bV (sp_X8_skipBlanks E d (jd_le hd rfl) (jxu a 2 2 y2) b0 hv749_) (fun a750_ b750_ h750_ => ?_)
  obtain ⟨hv750_, hf750_, rfl⟩ := h750_
  have hf751_ : jfr jW_X8_takesWord_r1013 a0 (jxu a 2 2 y2) := jfr_put hf rfl
  have hf752_ : jfr jW_X8_takesWord_r1013 a0 a750_ := jfr_tr hf751_ hf750_ rfl
  exact jt_rI ⟨hv750_, hf752_, rfl, (show (0 ≤ 1 ∧ 1 ≤ 1) from by omega)⟩
theorem cp_X8_takesWord_r1013_83 (E : jxE) (d : Nat) (hd : Nat.ble 5 (d + 1) = true) (a0 b0 : Nat → Nat → Int) (hv0 : iv a0) : ∀ (y2 : Int) (a : Nat → Nat → Int), iv a → jfr jW_X8_takesWord_r1013 a0 a → 4 ≤ y2 → y2 ≤ 199 → 5 ≤ a 2 1 → y2 = (a 2 2) + 4 → y2 ≤ a 2 1 → y2 ≤ 200 → jt (jxX E d 128 83 [some (.inr (.inr (.inl 2))), none, some (.inl y2), none] [] (jxSH, a, b0)) (jQ_X8_takesWord_r1013 a0 b0) := by
  intro y2 a hv hf hi0 hi1 hi2 hi3 hi4 hi5
  refine jt_eq (bq_X8_takesWord_r1013_83 E d y2 a b0) ?_
  have h753_ := iv_get hv (k := 2) (j := 1) (l := 0) (u := 200) rfl
  have h754_ : a 2 1 = a0 2 1 := hf 2 1 rfl
  have h755_ := iv_get hv0 (k := 2) (j := 1) (l := 0) (u := 200) rfl
  have h756_ := iv_get hv (k := 2) (j := 2) (l := 0) (u := 200) rfl
  refine jt_grd (by omega) ?_
  have h757_ := iv_get hv (k := 3) (j := y2.toNat) (l := 0) (u := 255) rfl
  have h758_ : a 3 (y2.toNat) = a0 3 (y2.toNat) := hf 3 (y2.toNat) rfl
  have h759_ := iv_get hv0 (k := 3) (j := y2.toNat) (l := 0) (u := 255) rfl
  refine jt_ite (fun c760_ => ?_) (fun c760_ => ?_)
  ·
    exact cp_X8_takesWord_r1013_96 E d hd a0 b0 hv0 y2 a hv hf (show 4 ≤ y2 from by omega) (show y2 ≤ 200 from by omega) (show 4 ≤ a 2 1 from by omega) (show y2 = (a 2 2) + 4 from by omega) (show y2 ≤ a 2 1 from by omega) (show y2 ≤ 200 from by omega)
  ·
    exact jt_rI ⟨hv, hf, rfl, (show (0 ≤ 0 ∧ 0 ≤ 1) from by omega)⟩
theorem cp_X8_takesWord_r1013_29 (E : jxE) (d : Nat) (hd : Nat.ble 5 (d + 1) = true) (a0 b0 : Nat → Nat → Int) (hv0 : iv a0) : ∀ n : Nat, (∀ (y2 y3 : Int) (a : Nat → Nat → Int), (((4 - y3) * 1) + 0).toNat ≤ n → iv a → jfr jW_X8_takesWord_r1013 a0 a → 4 ≤ y2 → y2 ≤ 200 → 0 ≤ y3 → y3 ≤ 3 → 4 ≤ a 2 1 → y3 < 4 → 0 ≤ y3 → y2 = (a 2 2) + 4 → y2 ≤ a 2 1 → y2 ≤ 200 → jt (jxX E d 128 58 [some (.inr (.inr (.inl 2))), some (.inr (.inr (.inl 1013))), some (.inl y2), some (.inl y3)] [] (jxSH, a, b0)) (jQ_X8_takesWord_r1013 a0 b0)) ∧ (∀ (y2 y3 : Int) (a : Nat → Nat → Int), (((4 - y3) * 1) + 0).toNat ≤ n → iv a → jfr jW_X8_takesWord_r1013 a0 a → 4 ≤ y2 → y2 ≤ 200 → 0 ≤ y3 → y3 ≤ 4 → 4 ≤ a 2 1 → 0 ≤ y3 → y2 = (a 2 2) + 4 → y2 ≤ a 2 1 → y2 ≤ 200 → jt (jxX E d 128 29 [some (.inr (.inr (.inl 2))), some (.inr (.inr (.inl 1013))), some (.inl y2), some (.inl y3)] [] (jxSH, a, b0)) (jQ_X8_takesWord_r1013 a0 b0)) := by
  refine jx_ind fun n ih => ?_
  have ih58 : ∀ (y2 y3 : Int) (a : Nat → Nat → Int), (((4 - y3) * 1) + 0).toNat < n → iv a → jfr jW_X8_takesWord_r1013 a0 a → 4 ≤ y2 → y2 ≤ 200 → 0 ≤ y3 → y3 ≤ 3 → 4 ≤ a 2 1 → y3 < 4 → 0 ≤ y3 → y2 = (a 2 2) + 4 → y2 ≤ a 2 1 → y2 ≤ 200 → jt (jxX E d 128 58 [some (.inr (.inr (.inl 2))), some (.inr (.inr (.inl 1013))), some (.inl y2), some (.inl y3)] [] (jxSH, a, b0)) (jQ_X8_takesWord_r1013 a0 b0) := fun y2 y3 a hlt i0 i1 i2 i3 i4 i5 i6 i7 i8 i9 i10 i11 => (ih _ hlt).1 y2 y3 a (Nat.le_refl _) i0 i1 i2 i3 i4 i5 i6 i7 i8 i9 i10 i11
  have ih29 : ∀ (y2 y3 : Int) (a : Nat → Nat → Int), (((4 - y3) * 1) + 0).toNat < n → iv a → jfr jW_X8_takesWord_r1013 a0 a → 4 ≤ y2 → y2 ≤ 200 → 0 ≤ y3 → y3 ≤ 4 → 4 ≤ a 2 1 → 0 ≤ y3 → y2 = (a 2 2) + 4 → y2 ≤ a 2 1 → y2 ≤ 200 → jt (jxX E d 128 29 [some (.inr (.inr (.inl 2))), some (.inr (.inr (.inl 1013))), some (.inl y2), some (.inl y3)] [] (jxSH, a, b0)) (jQ_X8_takesWord_r1013 a0 b0) := fun y2 y3 a hlt i0 i1 i2 i3 i4 i5 i6 i7 i8 i9 i10 => (ih _ hlt).2 y2 y3 a (Nat.le_refl _) i0 i1 i2 i3 i4 i5 i6 i7 i8 i9 i10
  have hc58 : ∀ (y2 y3 : Int) (a : Nat → Nat → Int), (((4 - y3) * 1) + 0).toNat ≤ n → iv a → jfr jW_X8_takesWord_r1013 a0 a → 4 ≤ y2 → y2 ≤ 200 → 0 ≤ y3 → y3 ≤ 3 → 4 ≤ a 2 1 → y3 < 4 → 0 ≤ y3 → y2 = (a 2 2) + 4 → y2 ≤ a 2 1 → y2 ≤ 200 → jt (jxX E d 128 58 [some (.inr (.inr (.inl 2))), some (.inr (.inr (.inl 1013))), some (.inl y2), some (.inl y3)] [] (jxSH, a, b0)) (jQ_X8_takesWord_r1013 a0 b0) := by
    intro y2 y3 a hm hv hf hi0 hi1 hi2 hi3 hi4 hi5 hi6 hi7 hi8 hi9
    refine jt_eq (bq_X8_takesWord_r1013_58 E d y2 y3 a b0) ?_
    have h761_ := iv_get hv (k := 2) (j := 1) (l := 0) (u := 200) rfl
    have h762_ : a 2 1 = a0 2 1 := hf 2 1 rfl
    have h763_ := iv_get hv0 (k := 2) (j := 1) (l := 0) (u := 200) rfl
    have h764_ := iv_get hv (k := 2) (j := 2) (l := 0) (u := 200) rfl
    have h765_ : jxw (y3 + 1) = y3 + 1 := jxw_id (by omega) (by omega)
    exact ih29 y2 (jxw (y3 + 1)) a (show (((4 - (jxw (y3 + 1))) * 1) + 0).toNat < n from by omega) hv hf (show 4 ≤ y2 from by omega) (show y2 ≤ 200 from by omega) (show 0 ≤ jxw (y3 + 1) from by omega) (show jxw (y3 + 1) ≤ 4 from by omega) (show 4 ≤ a 2 1 from by omega) (show 0 ≤ jxw (y3 + 1) from by omega) (show y2 = (a 2 2) + 4 from by omega) (show y2 ≤ a 2 1 from by omega) (show y2 ≤ 200 from by omega)
  have hc29 : ∀ (y2 y3 : Int) (a : Nat → Nat → Int), (((4 - y3) * 1) + 0).toNat ≤ n → iv a → jfr jW_X8_takesWord_r1013 a0 a → 4 ≤ y2 → y2 ≤ 200 → 0 ≤ y3 → y3 ≤ 4 → 4 ≤ a 2 1 → 0 ≤ y3 → y2 = (a 2 2) + 4 → y2 ≤ a 2 1 → y2 ≤ 200 → jt (jxX E d 128 29 [some (.inr (.inr (.inl 2))), some (.inr (.inr (.inl 1013))), some (.inl y2), some (.inl y3)] [] (jxSH, a, b0)) (jQ_X8_takesWord_r1013 a0 b0) := by
    intro y2 y3 a hm hv hf hi0 hi1 hi2 hi3 hi4 hi5 hi6 hi7 hi8
    refine jt_eq (bq_X8_takesWord_r1013_29 E d y2 y3 a b0) ?_
    have h766_ := iv_get hv (k := 2) (j := 1) (l := 0) (u := 200) rfl
    have h767_ : a 2 1 = a0 2 1 := hf 2 1 rfl
    have h768_ := iv_get hv0 (k := 2) (j := 1) (l := 0) (u := 200) rfl
    have h769_ := iv_get hv (k := 2) (j := 2) (l := 0) (u := 200) rfl
    refine jt_eI (eq_J0_length_8abf5_r1013 E d (jd_le hd rfl) a b0) ?_
    have h770_ := ff_J0_length_8abf5_r1013 a b0
    refine jt_ite (fun c771_ => ?_) (fun c771_ => ?_)
    ·
      have h772_ : jxw ((a 2 2) + y3) = (a 2 2) + y3 := jxw_id (by omega) (by omega)
      refine jt_grd (by omega) ?_
      refine jt_eI (eq_J0_charAt_5068e_r1013 E d (jd_le hd rfl) y3 a b0 (show (0 ≤ y3 ∧ y3 < 4) from by omega)) ?_
      have h773_ := iv_get hv (k := 3) (j := (jxw ((a 2 2) + y3)).toNat) (l := 0) (u := 255) rfl
      have h774_ : a 3 ((jxw ((a 2 2) + y3)).toNat) = a0 3 ((jxw ((a 2 2) + y3)).toNat) := hf 3 ((jxw ((a 2 2) + y3)).toNat) rfl
      have h775_ := iv_get hv0 (k := 3) (j := (jxw ((a 2 2) + y3)).toNat) (l := 0) (u := 255) rfl
      have h776_ := f_J0_charAt_5068e_r1013_eq a b0 y3
      have h777_ := f_J0_isLatin1_aae02_r1013_eq a b0
      have h778_ := f_J1_charAt_3b067_r2013_eq a b0 y3
      have h779_ := jxand_r (([108, 111, 115, 116] : List Int).getD (y3.toNat) 0) 255 (by decide) (by decide)
      have h780_ := jxi2c_b (jxand (([108, 111, 115, 116] : List Int).getD (y3.toNat) 0) 255)
      refine jt_ite (fun c781_ => ?_) (fun c781_ => ?_)
      ·
        exact hc58 y2 y3 a (show (((4 - y3) * 1) + 0).toNat ≤ n from by omega) hv hf (show 4 ≤ y2 from by omega) (show y2 ≤ 200 from by omega) (show 0 ≤ y3 from by omega) (show y3 ≤ 3 from by omega) (show 4 ≤ a 2 1 from by omega) (show y3 < 4 from by omega) (show 0 ≤ y3 from by omega) (show y2 = (a 2 2) + 4 from by omega) (show y2 ≤ a 2 1 from by omega) (show y2 ≤ 200 from by omega)
      ·
        exact cp_X8_takesWord_r1013_56 E d hd a0 b0 hv0 a hv hf (show 4 ≤ a 2 1 from by omega)
    ·
      refine jt_ite (fun c782_ => ?_) (fun c782_ => ?_)
      ·
        refine jt_grd (by omega) ?_
        have h783_ := iv_get hv (k := 3) (j := y2.toNat) (l := 0) (u := 255) rfl
        have h784_ : a 3 (y2.toNat) = a0 3 (y2.toNat) := hf 3 (y2.toNat) rfl
        have h785_ := iv_get hv0 (k := 3) (j := y2.toNat) (l := 0) (u := 255) rfl
        refine jt_ite (fun c786_ => ?_) (fun c786_ => ?_)
        ·
          exact cp_X8_takesWord_r1013_96 E d hd a0 b0 hv0 y2 a hv hf (show 4 ≤ y2 from by omega) (show y2 ≤ 200 from by omega) (show 4 ≤ a 2 1 from by omega) (show y2 = (a 2 2) + 4 from by omega) (show y2 ≤ a 2 1 from by omega) (show y2 ≤ 200 from by omega)
        ·
          exact cp_X8_takesWord_r1013_83 E d hd a0 b0 hv0 y2 a hv hf (show 4 ≤ y2 from by omega) (show y2 ≤ 199 from by omega) (show 5 ≤ a 2 1 from by omega) (show y2 = (a 2 2) + 4 from by omega) (show y2 ≤ a 2 1 from by omega) (show y2 ≤ 200 from by omega)
      ·
        exact cp_X8_takesWord_r1013_96 E d hd a0 b0 hv0 y2 a hv hf (show 4 ≤ y2 from by omega) (show y2 ≤ 200 from by omega) (show 4 ≤ a 2 1 from by omega) (show y2 = (a 2 2) + 4 from by omega) (show y2 ≤ a 2 1 from by omega) (show y2 ≤ 200 from by omega)
  exact ⟨hc58, hc29⟩
theorem sp_X8_takesWord_r1013 (E : jxE) (d : Nat) (hd : Nat.ble 5 d = true) (a0 b0 : Nat → Nat → Int) (hv0 : iv a0) : jt (jxC E d 128 [.inr (.inr (.inl 2)), .inr (.inr (.inl 1013))] (jxSH, a0, b0)) (jQ_X8_takesWord_r1013 a0 b0) := by
  obtain ⟨d, rfl⟩ := jd_succ hd
  refine jt_eq (bq_X8_takesWord_r1013 E d a0 b0) ?_
  refine jt_eI (eq_J0_length_8abf5_r1013 E d (jd_le hd rfl) a0 b0) ?_
  refine jt_eI (eq_X8_isFaulty E d (jd_le hd rfl) a0 b0) ?_
  have h787_ := f_X8_isFaulty_eq a0 b0
  refine jt_ite (fun c788_ => ?_) (fun c788_ => ?_)
  ·
    have h789_ := iv_get hv0 (k := 2) (j := 1) (l := 0) (u := 200) rfl
    have h790_ := iv_get hv0 (k := 2) (j := 2) (l := 0) (u := 200) rfl
    have h791_ := ff_J0_length_8abf5_r1013 a0 b0
    have h792_ : jxw ((a0 2 2) + (f_J0_length_8abf5_r1013 a0 b0)) = (a0 2 2) + (f_J0_length_8abf5_r1013 a0 b0) := jxw_id (by omega) (by omega)
    refine jt_ite (fun c793_ => ?_) (fun c793_ => ?_)
    ·
      exact jt_rI ⟨hv0, (jfr_rf _ _), rfl, (show (0 ≤ 0 ∧ 0 ≤ 1) from by omega)⟩
    ·
      exact (cp_X8_takesWord_r1013_29 E d hd a0 b0 hv0 _).2 (jxw ((a0 2 2) + (f_J0_length_8abf5_r1013 a0 b0))) 0 a0 (Nat.le_refl _) hv0 (jfr_rf _ _) (show 4 ≤ jxw ((a0 2 2) + (f_J0_length_8abf5_r1013 a0 b0)) from by omega) (show jxw ((a0 2 2) + (f_J0_length_8abf5_r1013 a0 b0)) ≤ 200 from by omega) (show 0 ≤ 0 from by omega) (show 0 ≤ 4 from by omega) (show 4 ≤ a0 2 1 from by omega) (show 0 ≤ 0 from by omega) (show jxw ((a0 2 2) + (f_J0_length_8abf5_r1013 a0 b0)) = (a0 2 2) + 4 from by omega) (show jxw ((a0 2 2) + (f_J0_length_8abf5_r1013 a0 b0)) ≤ a0 2 1 from by omega) (show jxw ((a0 2 2) + (f_J0_length_8abf5_r1013 a0 b0)) ≤ 200 from by omega)
  ·
    exact jt_rI ⟨hv0, (jfr_rf _ _), rfl, (show (0 ≤ 0 ∧ 0 ≤ 1) from by omega)⟩
def jW_X8_takesWord_r1014 : List (Nat × Nat) := [(2, 2)]
abbrev jQ_X8_takesWord_r1014 (a0 b0 : Nat → Nat → Int) : List jxV → (Nat → Nat → Int) → (Nat → Nat → Int) → Prop := rI (fun r a b => (iv a) ∧ (jfr jW_X8_takesWord_r1014 a0 a) ∧ (b0 = b) ∧ ((0 ≤ r ∧ r ≤ 1)))
theorem cp_X8_takesWord_r1014_56 (E : jxE) (d : Nat) (hd : Nat.ble 5 (d + 1) = true) (a0 b0 : Nat → Nat → Int) (hv0 : iv a0) : ∀ (a : Nat → Nat → Int), iv a → jfr jW_X8_takesWord_r1014 a0 a → 6 ≤ a 2 1 → jt (jxX E d 128 56 [none, none, none, none] [] (jxSH, a, b0)) (jQ_X8_takesWord_r1014 a0 b0) := by
  intro a hv hf hi0
  refine jt_eq (bq_X8_takesWord_r1014_56 E d a b0) ?_
  have h794_ := iv_get hv (k := 2) (j := 1) (l := 0) (u := 200) rfl
  have h795_ : a 2 1 = a0 2 1 := hf 2 1 rfl
  have h796_ := iv_get hv0 (k := 2) (j := 1) (l := 0) (u := 200) rfl
  exact jt_rI ⟨hv, hf, rfl, (show (0 ≤ 0 ∧ 0 ≤ 1) from by omega)⟩
theorem cp_X8_takesWord_r1014_96 (E : jxE) (d : Nat) (hd : Nat.ble 5 (d + 1) = true) (a0 b0 : Nat → Nat → Int) (hv0 : iv a0) : ∀ (y2 : Int) (a : Nat → Nat → Int), iv a → jfr jW_X8_takesWord_r1014 a0 a → 6 ≤ y2 → y2 ≤ 200 → 6 ≤ a 2 1 → y2 = (a 2 2) + 6 → y2 ≤ a 2 1 → y2 ≤ 200 → jt (jxX E d 128 96 [some (.inr (.inr (.inl 2))), none, some (.inl y2), none] [] (jxSH, a, b0)) (jQ_X8_takesWord_r1014 a0 b0) := by
  intro y2 a hv hf hi0 hi1 hi2 hi3 hi4 hi5
  refine jt_eq (bq_X8_takesWord_r1014_96 E d y2 a b0) ?_
  have h797_ := iv_get hv (k := 2) (j := 1) (l := 0) (u := 200) rfl
  have h798_ : a 2 1 = a0 2 1 := hf 2 1 rfl
  have h799_ := iv_get hv0 (k := 2) (j := 1) (l := 0) (u := 200) rfl
  have h800_ := iv_get hv (k := 2) (j := 2) (l := 0) (u := 200) rfl
  have hv801_ : iv (jxu a 2 2 y2) := iv_put hv (l := 0) (u := 200) rfl (by omega) (by omega)
  refine jt_bV (sp_X8_skipBlanks E d (jd_le hd rfl) (jxu a 2 2 y2) b0 hv801_) (fun a802_ b802_ h802_ => ?_)
  obtain ⟨hv802_, hf802_, rfl⟩ := h802_
  have hf803_ : jfr jW_X8_takesWord_r1014 a0 (jxu a 2 2 y2) := jfr_put hf rfl
  have hf804_ : jfr jW_X8_takesWord_r1014 a0 a802_ := jfr_tr hf803_ hf802_ rfl
  exact jt_rI ⟨hv802_, hf804_, rfl, (show (0 ≤ 1 ∧ 1 ≤ 1) from by omega)⟩
theorem cp_X8_takesWord_r1014_83 (E : jxE) (d : Nat) (hd : Nat.ble 5 (d + 1) = true) (a0 b0 : Nat → Nat → Int) (hv0 : iv a0) : ∀ (y2 : Int) (a : Nat → Nat → Int), iv a → jfr jW_X8_takesWord_r1014 a0 a → 6 ≤ y2 → y2 ≤ 199 → 7 ≤ a 2 1 → y2 = (a 2 2) + 6 → y2 ≤ a 2 1 → y2 ≤ 200 → jt (jxX E d 128 83 [some (.inr (.inr (.inl 2))), none, some (.inl y2), none] [] (jxSH, a, b0)) (jQ_X8_takesWord_r1014 a0 b0) := by
  intro y2 a hv hf hi0 hi1 hi2 hi3 hi4 hi5
  refine jt_eq (bq_X8_takesWord_r1014_83 E d y2 a b0) ?_
  have h805_ := iv_get hv (k := 2) (j := 1) (l := 0) (u := 200) rfl
  have h806_ : a 2 1 = a0 2 1 := hf 2 1 rfl
  have h807_ := iv_get hv0 (k := 2) (j := 1) (l := 0) (u := 200) rfl
  have h808_ := iv_get hv (k := 2) (j := 2) (l := 0) (u := 200) rfl
  refine jt_grd (by omega) ?_
  have h809_ := iv_get hv (k := 3) (j := y2.toNat) (l := 0) (u := 255) rfl
  have h810_ : a 3 (y2.toNat) = a0 3 (y2.toNat) := hf 3 (y2.toNat) rfl
  have h811_ := iv_get hv0 (k := 3) (j := y2.toNat) (l := 0) (u := 255) rfl
  refine jt_ite (fun c812_ => ?_) (fun c812_ => ?_)
  ·
    exact cp_X8_takesWord_r1014_96 E d hd a0 b0 hv0 y2 a hv hf (show 6 ≤ y2 from by omega) (show y2 ≤ 200 from by omega) (show 6 ≤ a 2 1 from by omega) (show y2 = (a 2 2) + 6 from by omega) (show y2 ≤ a 2 1 from by omega) (show y2 ≤ 200 from by omega)
  ·
    exact jt_rI ⟨hv, hf, rfl, (show (0 ≤ 0 ∧ 0 ≤ 1) from by omega)⟩
theorem cp_X8_takesWord_r1014_29 (E : jxE) (d : Nat) (hd : Nat.ble 5 (d + 1) = true) (a0 b0 : Nat → Nat → Int) (hv0 : iv a0) : ∀ n : Nat, (∀ (y2 y3 : Int) (a : Nat → Nat → Int), (((6 - y3) * 1) + 0).toNat ≤ n → iv a → jfr jW_X8_takesWord_r1014 a0 a → 6 ≤ y2 → y2 ≤ 200 → 0 ≤ y3 → y3 ≤ 5 → 6 ≤ a 2 1 → y3 < 6 → 0 ≤ y3 → y2 = (a 2 2) + 6 → y2 ≤ a 2 1 → y2 ≤ 200 → jt (jxX E d 128 58 [some (.inr (.inr (.inl 2))), some (.inr (.inr (.inl 1014))), some (.inl y2), some (.inl y3)] [] (jxSH, a, b0)) (jQ_X8_takesWord_r1014 a0 b0)) ∧ (∀ (y2 y3 : Int) (a : Nat → Nat → Int), (((6 - y3) * 1) + 0).toNat ≤ n → iv a → jfr jW_X8_takesWord_r1014 a0 a → 6 ≤ y2 → y2 ≤ 200 → 0 ≤ y3 → y3 ≤ 6 → 6 ≤ a 2 1 → 0 ≤ y3 → y2 = (a 2 2) + 6 → y2 ≤ a 2 1 → y2 ≤ 200 → jt (jxX E d 128 29 [some (.inr (.inr (.inl 2))), some (.inr (.inr (.inl 1014))), some (.inl y2), some (.inl y3)] [] (jxSH, a, b0)) (jQ_X8_takesWord_r1014 a0 b0)) := by
  refine jx_ind fun n ih => ?_
  have ih58 : ∀ (y2 y3 : Int) (a : Nat → Nat → Int), (((6 - y3) * 1) + 0).toNat < n → iv a → jfr jW_X8_takesWord_r1014 a0 a → 6 ≤ y2 → y2 ≤ 200 → 0 ≤ y3 → y3 ≤ 5 → 6 ≤ a 2 1 → y3 < 6 → 0 ≤ y3 → y2 = (a 2 2) + 6 → y2 ≤ a 2 1 → y2 ≤ 200 → jt (jxX E d 128 58 [some (.inr (.inr (.inl 2))), some (.inr (.inr (.inl 1014))), some (.inl y2), some (.inl y3)] [] (jxSH, a, b0)) (jQ_X8_takesWord_r1014 a0 b0) := fun y2 y3 a hlt i0 i1 i2 i3 i4 i5 i6 i7 i8 i9 i10 i11 => (ih _ hlt).1 y2 y3 a (Nat.le_refl _) i0 i1 i2 i3 i4 i5 i6 i7 i8 i9 i10 i11
  have ih29 : ∀ (y2 y3 : Int) (a : Nat → Nat → Int), (((6 - y3) * 1) + 0).toNat < n → iv a → jfr jW_X8_takesWord_r1014 a0 a → 6 ≤ y2 → y2 ≤ 200 → 0 ≤ y3 → y3 ≤ 6 → 6 ≤ a 2 1 → 0 ≤ y3 → y2 = (a 2 2) + 6 → y2 ≤ a 2 1 → y2 ≤ 200 → jt (jxX E d 128 29 [some (.inr (.inr (.inl 2))), some (.inr (.inr (.inl 1014))), some (.inl y2), some (.inl y3)] [] (jxSH, a, b0)) (jQ_X8_takesWord_r1014 a0 b0) := fun y2 y3 a hlt i0 i1 i2 i3 i4 i5 i6 i7 i8 i9 i10 => (ih _ hlt).2 y2 y3 a (Nat.le_refl _) i0 i1 i2 i3 i4 i5 i6 i7 i8 i9 i10
  have hc58 : ∀ (y2 y3 : Int) (a : Nat → Nat → Int), (((6 - y3) * 1) + 0).toNat ≤ n → iv a → jfr jW_X8_takesWord_r1014 a0 a → 6 ≤ y2 → y2 ≤ 200 → 0 ≤ y3 → y3 ≤ 5 → 6 ≤ a 2 1 → y3 < 6 → 0 ≤ y3 → y2 = (a 2 2) + 6 → y2 ≤ a 2 1 → y2 ≤ 200 → jt (jxX E d 128 58 [some (.inr (.inr (.inl 2))), some (.inr (.inr (.inl 1014))), some (.inl y2), some (.inl y3)] [] (jxSH, a, b0)) (jQ_X8_takesWord_r1014 a0 b0) := by
    intro y2 y3 a hm hv hf hi0 hi1 hi2 hi3 hi4 hi5 hi6 hi7 hi8 hi9
    refine jt_eq (bq_X8_takesWord_r1014_58 E d y2 y3 a b0) ?_
    have h813_ := iv_get hv (k := 2) (j := 1) (l := 0) (u := 200) rfl
    have h814_ : a 2 1 = a0 2 1 := hf 2 1 rfl
    have h815_ := iv_get hv0 (k := 2) (j := 1) (l := 0) (u := 200) rfl
    have h816_ := iv_get hv (k := 2) (j := 2) (l := 0) (u := 200) rfl
    have h817_ : jxw (y3 + 1) = y3 + 1 := jxw_id (by omega) (by omega)
    exact ih29 y2 (jxw (y3 + 1)) a (show (((6 - (jxw (y3 + 1))) * 1) + 0).toNat < n from by omega) hv hf (show 6 ≤ y2 from by omega) (show y2 ≤ 200 from by omega) (show 0 ≤ jxw (y3 + 1) from by omega) (show jxw (y3 + 1) ≤ 6 from by omega) (show 6 ≤ a 2 1 from by omega) (show 0 ≤ jxw (y3 + 1) from by omega) (show y2 = (a 2 2) + 6 from by omega) (show y2 ≤ a 2 1 from by omega) (show y2 ≤ 200 from by omega)
  have hc29 : ∀ (y2 y3 : Int) (a : Nat → Nat → Int), (((6 - y3) * 1) + 0).toNat ≤ n → iv a → jfr jW_X8_takesWord_r1014 a0 a → 6 ≤ y2 → y2 ≤ 200 → 0 ≤ y3 → y3 ≤ 6 → 6 ≤ a 2 1 → 0 ≤ y3 → y2 = (a 2 2) + 6 → y2 ≤ a 2 1 → y2 ≤ 200 → jt (jxX E d 128 29 [some (.inr (.inr (.inl 2))), some (.inr (.inr (.inl 1014))), some (.inl y2), some (.inl y3)] [] (jxSH, a, b0)) (jQ_X8_takesWord_r1014 a0 b0) := by
    intro y2 y3 a hm hv hf hi0 hi1 hi2 hi3 hi4 hi5 hi6 hi7 hi8
    refine jt_eq (bq_X8_takesWord_r1014_29 E d y2 y3 a b0) ?_
    have h818_ := iv_get hv (k := 2) (j := 1) (l := 0) (u := 200) rfl
    have h819_ : a 2 1 = a0 2 1 := hf 2 1 rfl
    have h820_ := iv_get hv0 (k := 2) (j := 1) (l := 0) (u := 200) rfl
    have h821_ := iv_get hv (k := 2) (j := 2) (l := 0) (u := 200) rfl
    refine jt_eI (eq_J0_length_8abf5_r1014 E d (jd_le hd rfl) a b0) ?_
    have h822_ := ff_J0_length_8abf5_r1014 a b0
    refine jt_ite (fun c823_ => ?_) (fun c823_ => ?_)
    ·
      have h824_ : jxw ((a 2 2) + y3) = (a 2 2) + y3 := jxw_id (by omega) (by omega)
      refine jt_grd (by omega) ?_
      refine jt_eI (eq_J0_charAt_5068e_r1014 E d (jd_le hd rfl) y3 a b0 (show (0 ≤ y3 ∧ y3 < 6) from by omega)) ?_
      have h825_ := iv_get hv (k := 3) (j := (jxw ((a 2 2) + y3)).toNat) (l := 0) (u := 255) rfl
      have h826_ : a 3 ((jxw ((a 2 2) + y3)).toNat) = a0 3 ((jxw ((a 2 2) + y3)).toNat) := hf 3 ((jxw ((a 2 2) + y3)).toNat) rfl
      have h827_ := iv_get hv0 (k := 3) (j := (jxw ((a 2 2) + y3)).toNat) (l := 0) (u := 255) rfl
      have h828_ := f_J0_charAt_5068e_r1014_eq a b0 y3
      have h829_ := f_J0_isLatin1_aae02_r1014_eq a b0
      have h830_ := f_J1_charAt_3b067_r2014_eq a b0 y3
      have h831_ := jxand_r (([115, 116, 114, 105, 99, 116] : List Int).getD (y3.toNat) 0) 255 (by decide) (by decide)
      have h832_ := jxi2c_b (jxand (([115, 116, 114, 105, 99, 116] : List Int).getD (y3.toNat) 0) 255)
      refine jt_ite (fun c833_ => ?_) (fun c833_ => ?_)
      ·
        exact hc58 y2 y3 a (show (((6 - y3) * 1) + 0).toNat ≤ n from by omega) hv hf (show 6 ≤ y2 from by omega) (show y2 ≤ 200 from by omega) (show 0 ≤ y3 from by omega) (show y3 ≤ 5 from by omega) (show 6 ≤ a 2 1 from by omega) (show y3 < 6 from by omega) (show 0 ≤ y3 from by omega) (show y2 = (a 2 2) + 6 from by omega) (show y2 ≤ a 2 1 from by omega) (show y2 ≤ 200 from by omega)
      ·
        exact cp_X8_takesWord_r1014_56 E d hd a0 b0 hv0 a hv hf (show 6 ≤ a 2 1 from by omega)
    ·
      refine jt_ite (fun c834_ => ?_) (fun c834_ => ?_)
      ·
        refine jt_grd (by omega) ?_
        have h835_ := iv_get hv (k := 3) (j := y2.toNat) (l := 0) (u := 255) rfl
        have h836_ : a 3 (y2.toNat) = a0 3 (y2.toNat) := hf 3 (y2.toNat) rfl
        have h837_ := iv_get hv0 (k := 3) (j := y2.toNat) (l := 0) (u := 255) rfl
        refine jt_ite (fun c838_ => ?_) (fun c838_ => ?_)
        ·
          exact cp_X8_takesWord_r1014_96 E d hd a0 b0 hv0 y2 a hv hf (show 6 ≤ y2 from by omega) (show y2 ≤ 200 from by omega) (show 6 ≤ a 2 1 from by omega) (show y2 = (a 2 2) + 6 from by omega) (show y2 ≤ a 2 1 from by omega) (show y2 ≤ 200 from by omega)
        ·
          exact cp_X8_takesWord_r1014_83 E d hd a0 b0 hv0 y2 a hv hf (show 6 ≤ y2 from by omega) (show y2 ≤ 199 from by omega) (show 7 ≤ a 2 1 from by omega) (show y2 = (a 2 2) + 6 from by omega) (show y2 ≤ a 2 1 from by omega) (show y2 ≤ 200 from by omega)
      ·
        exact cp_X8_takesWord_r1014_96 E d hd a0 b0 hv0 y2 a hv hf (show 6 ≤ y2 from by omega) (show y2 ≤ 200 from by omega) (show 6 ≤ a 2 1 from by omega) (show y2 = (a 2 2) + 6 from by omega) (show y2 ≤ a 2 1 from by omega) (show y2 ≤ 200 from by omega)
  exact ⟨hc58, hc29⟩
theorem sp_X8_takesWord_r1014 (E : jxE) (d : Nat) (hd : Nat.ble 5 d = true) (a0 b0 : Nat → Nat → Int) (hv0 : iv a0) : jt (jxC E d 128 [.inr (.inr (.inl 2)), .inr (.inr (.inl 1014))] (jxSH, a0, b0)) (jQ_X8_takesWord_r1014 a0 b0) := by
  obtain ⟨d, rfl⟩ := jd_succ hd
  refine jt_eq (bq_X8_takesWord_r1014 E d a0 b0) ?_
  refine jt_eI (eq_J0_length_8abf5_r1014 E d (jd_le hd rfl) a0 b0) ?_
  refine jt_eI (eq_X8_isFaulty E d (jd_le hd rfl) a0 b0) ?_
  have h839_ := f_X8_isFaulty_eq a0 b0
  refine jt_ite (fun c840_ => ?_) (fun c840_ => ?_)
  ·
    have h841_ := iv_get hv0 (k := 2) (j := 1) (l := 0) (u := 200) rfl
    have h842_ := iv_get hv0 (k := 2) (j := 2) (l := 0) (u := 200) rfl
    have h843_ := ff_J0_length_8abf5_r1014 a0 b0
    have h844_ : jxw ((a0 2 2) + (f_J0_length_8abf5_r1014 a0 b0)) = (a0 2 2) + (f_J0_length_8abf5_r1014 a0 b0) := jxw_id (by omega) (by omega)
    refine jt_ite (fun c845_ => ?_) (fun c845_ => ?_)
    ·
      exact jt_rI ⟨hv0, (jfr_rf _ _), rfl, (show (0 ≤ 0 ∧ 0 ≤ 1) from by omega)⟩
    ·
      exact (cp_X8_takesWord_r1014_29 E d hd a0 b0 hv0 _).2 (jxw ((a0 2 2) + (f_J0_length_8abf5_r1014 a0 b0))) 0 a0 (Nat.le_refl _) hv0 (jfr_rf _ _) (show 6 ≤ jxw ((a0 2 2) + (f_J0_length_8abf5_r1014 a0 b0)) from by omega) (show jxw ((a0 2 2) + (f_J0_length_8abf5_r1014 a0 b0)) ≤ 200 from by omega) (show 0 ≤ 0 from by omega) (show 0 ≤ 6 from by omega) (show 6 ≤ a0 2 1 from by omega) (show 0 ≤ 0 from by omega) (show jxw ((a0 2 2) + (f_J0_length_8abf5_r1014 a0 b0)) = (a0 2 2) + 6 from by omega) (show jxw ((a0 2 2) + (f_J0_length_8abf5_r1014 a0 b0)) ≤ a0 2 1 from by omega) (show jxw ((a0 2 2) + (f_J0_length_8abf5_r1014 a0 b0)) ≤ 200 from by omega)
  ·
    exact jt_rI ⟨hv0, (jfr_rf _ _), rfl, (show (0 ≤ 0 ∧ 0 ≤ 1) from by omega)⟩
def jW_X8_takesWord_r1015 : List (Nat × Nat) := [(2, 2)]
abbrev jQ_X8_takesWord_r1015 (a0 b0 : Nat → Nat → Int) : List jxV → (Nat → Nat → Int) → (Nat → Nat → Int) → Prop := rI (fun r a b => (iv a) ∧ (jfr jW_X8_takesWord_r1015 a0 a) ∧ (b0 = b) ∧ ((0 ≤ r ∧ r ≤ 1)))
theorem cp_X8_takesWord_r1015_56 (E : jxE) (d : Nat) (hd : Nat.ble 5 (d + 1) = true) (a0 b0 : Nat → Nat → Int) (hv0 : iv a0) : ∀ (a : Nat → Nat → Int), iv a → jfr jW_X8_takesWord_r1015 a0 a → 4 ≤ a 2 1 → jt (jxX E d 128 56 [none, none, none, none] [] (jxSH, a, b0)) (jQ_X8_takesWord_r1015 a0 b0) := by
  intro a hv hf hi0
  refine jt_eq (bq_X8_takesWord_r1015_56 E d a b0) ?_
  have h846_ := iv_get hv (k := 2) (j := 1) (l := 0) (u := 200) rfl
  have h847_ : a 2 1 = a0 2 1 := hf 2 1 rfl
  have h848_ := iv_get hv0 (k := 2) (j := 1) (l := 0) (u := 200) rfl
  exact jt_rI ⟨hv, hf, rfl, (show (0 ≤ 0 ∧ 0 ≤ 1) from by omega)⟩
theorem cp_X8_takesWord_r1015_96 (E : jxE) (d : Nat) (hd : Nat.ble 5 (d + 1) = true) (a0 b0 : Nat → Nat → Int) (hv0 : iv a0) : ∀ (y2 : Int) (a : Nat → Nat → Int), iv a → jfr jW_X8_takesWord_r1015 a0 a → 4 ≤ y2 → y2 ≤ 200 → 4 ≤ a 2 1 → y2 = (a 2 2) + 4 → y2 ≤ a 2 1 → y2 ≤ 200 → jt (jxX E d 128 96 [some (.inr (.inr (.inl 2))), none, some (.inl y2), none] [] (jxSH, a, b0)) (jQ_X8_takesWord_r1015 a0 b0) := by
  intro y2 a hv hf hi0 hi1 hi2 hi3 hi4 hi5
  refine jt_eq (bq_X8_takesWord_r1015_96 E d y2 a b0) ?_
  have h849_ := iv_get hv (k := 2) (j := 1) (l := 0) (u := 200) rfl
  have h850_ : a 2 1 = a0 2 1 := hf 2 1 rfl
  have h851_ := iv_get hv0 (k := 2) (j := 1) (l := 0) (u := 200) rfl
  have h852_ := iv_get hv (k := 2) (j := 2) (l := 0) (u := 200) rfl
  have hv853_ : iv (jxu a 2 2 y2) := iv_put hv (l := 0) (u := 200) rfl (by omega) (by omega)
  refine jt_bV (sp_X8_skipBlanks E d (jd_le hd rfl) (jxu a 2 2 y2) b0 hv853_) (fun a854_ b854_ h854_ => ?_)
  obtain ⟨hv854_, hf854_, rfl⟩ := h854_
  have hf855_ : jfr jW_X8_takesWord_r1015 a0 (jxu a 2 2 y2) := jfr_put hf rfl
  have hf856_ : jfr jW_X8_takesWord_r1015 a0 a854_ := jfr_tr hf855_ hf854_ rfl
  exact jt_rI ⟨hv854_, hf856_, rfl, (show (0 ≤ 1 ∧ 1 ≤ 1) from by omega)⟩
theorem cp_X8_takesWord_r1015_83 (E : jxE) (d : Nat) (hd : Nat.ble 5 (d + 1) = true) (a0 b0 : Nat → Nat → Int) (hv0 : iv a0) : ∀ (y2 : Int) (a : Nat → Nat → Int), iv a → jfr jW_X8_takesWord_r1015 a0 a → 4 ≤ y2 → y2 ≤ 199 → 5 ≤ a 2 1 → y2 = (a 2 2) + 4 → y2 ≤ a 2 1 → y2 ≤ 200 → jt (jxX E d 128 83 [some (.inr (.inr (.inl 2))), none, some (.inl y2), none] [] (jxSH, a, b0)) (jQ_X8_takesWord_r1015 a0 b0) := by
  intro y2 a hv hf hi0 hi1 hi2 hi3 hi4 hi5
  refine jt_eq (bq_X8_takesWord_r1015_83 E d y2 a b0) ?_
  have h857_ := iv_get hv (k := 2) (j := 1) (l := 0) (u := 200) rfl
  have h858_ : a 2 1 = a0 2 1 := hf 2 1 rfl
  have h859_ := iv_get hv0 (k := 2) (j := 1) (l := 0) (u := 200) rfl
  have h860_ := iv_get hv (k := 2) (j := 2) (l := 0) (u := 200) rfl
  refine jt_grd (by omega) ?_
  have h861_ := iv_get hv (k := 3) (j := y2.toNat) (l := 0) (u := 255) rfl
  have h862_ : a 3 (y2.toNat) = a0 3 (y2.toNat) := hf 3 (y2.toNat) rfl
  have h863_ := iv_get hv0 (k := 3) (j := y2.toNat) (l := 0) (u := 255) rfl
  refine jt_ite (fun c864_ => ?_) (fun c864_ => ?_)
  ·
    exact cp_X8_takesWord_r1015_96 E d hd a0 b0 hv0 y2 a hv hf (show 4 ≤ y2 from by omega) (show y2 ≤ 200 from by omega) (show 4 ≤ a 2 1 from by omega) (show y2 = (a 2 2) + 4 from by omega) (show y2 ≤ a 2 1 from by omega) (show y2 ≤ 200 from by omega)
  ·
    exact jt_rI ⟨hv, hf, rfl, (show (0 ≤ 0 ∧ 0 ≤ 1) from by omega)⟩
theorem cp_X8_takesWord_r1015_29 (E : jxE) (d : Nat) (hd : Nat.ble 5 (d + 1) = true) (a0 b0 : Nat → Nat → Int) (hv0 : iv a0) : ∀ n : Nat, (∀ (y2 y3 : Int) (a : Nat → Nat → Int), (((4 - y3) * 1) + 0).toNat ≤ n → iv a → jfr jW_X8_takesWord_r1015 a0 a → 4 ≤ y2 → y2 ≤ 200 → 0 ≤ y3 → y3 ≤ 3 → 4 ≤ a 2 1 → y3 < 4 → 0 ≤ y3 → y2 = (a 2 2) + 4 → y2 ≤ a 2 1 → y2 ≤ 200 → jt (jxX E d 128 58 [some (.inr (.inr (.inl 2))), some (.inr (.inr (.inl 1015))), some (.inl y2), some (.inl y3)] [] (jxSH, a, b0)) (jQ_X8_takesWord_r1015 a0 b0)) ∧ (∀ (y2 y3 : Int) (a : Nat → Nat → Int), (((4 - y3) * 1) + 0).toNat ≤ n → iv a → jfr jW_X8_takesWord_r1015 a0 a → 4 ≤ y2 → y2 ≤ 200 → 0 ≤ y3 → y3 ≤ 4 → 4 ≤ a 2 1 → 0 ≤ y3 → y2 = (a 2 2) + 4 → y2 ≤ a 2 1 → y2 ≤ 200 → jt (jxX E d 128 29 [some (.inr (.inr (.inl 2))), some (.inr (.inr (.inl 1015))), some (.inl y2), some (.inl y3)] [] (jxSH, a, b0)) (jQ_X8_takesWord_r1015 a0 b0)) := by
  refine jx_ind fun n ih => ?_
  have ih58 : ∀ (y2 y3 : Int) (a : Nat → Nat → Int), (((4 - y3) * 1) + 0).toNat < n → iv a → jfr jW_X8_takesWord_r1015 a0 a → 4 ≤ y2 → y2 ≤ 200 → 0 ≤ y3 → y3 ≤ 3 → 4 ≤ a 2 1 → y3 < 4 → 0 ≤ y3 → y2 = (a 2 2) + 4 → y2 ≤ a 2 1 → y2 ≤ 200 → jt (jxX E d 128 58 [some (.inr (.inr (.inl 2))), some (.inr (.inr (.inl 1015))), some (.inl y2), some (.inl y3)] [] (jxSH, a, b0)) (jQ_X8_takesWord_r1015 a0 b0) := fun y2 y3 a hlt i0 i1 i2 i3 i4 i5 i6 i7 i8 i9 i10 i11 => (ih _ hlt).1 y2 y3 a (Nat.le_refl _) i0 i1 i2 i3 i4 i5 i6 i7 i8 i9 i10 i11
  have ih29 : ∀ (y2 y3 : Int) (a : Nat → Nat → Int), (((4 - y3) * 1) + 0).toNat < n → iv a → jfr jW_X8_takesWord_r1015 a0 a → 4 ≤ y2 → y2 ≤ 200 → 0 ≤ y3 → y3 ≤ 4 → 4 ≤ a 2 1 → 0 ≤ y3 → y2 = (a 2 2) + 4 → y2 ≤ a 2 1 → y2 ≤ 200 → jt (jxX E d 128 29 [some (.inr (.inr (.inl 2))), some (.inr (.inr (.inl 1015))), some (.inl y2), some (.inl y3)] [] (jxSH, a, b0)) (jQ_X8_takesWord_r1015 a0 b0) := fun y2 y3 a hlt i0 i1 i2 i3 i4 i5 i6 i7 i8 i9 i10 => (ih _ hlt).2 y2 y3 a (Nat.le_refl _) i0 i1 i2 i3 i4 i5 i6 i7 i8 i9 i10
  have hc58 : ∀ (y2 y3 : Int) (a : Nat → Nat → Int), (((4 - y3) * 1) + 0).toNat ≤ n → iv a → jfr jW_X8_takesWord_r1015 a0 a → 4 ≤ y2 → y2 ≤ 200 → 0 ≤ y3 → y3 ≤ 3 → 4 ≤ a 2 1 → y3 < 4 → 0 ≤ y3 → y2 = (a 2 2) + 4 → y2 ≤ a 2 1 → y2 ≤ 200 → jt (jxX E d 128 58 [some (.inr (.inr (.inl 2))), some (.inr (.inr (.inl 1015))), some (.inl y2), some (.inl y3)] [] (jxSH, a, b0)) (jQ_X8_takesWord_r1015 a0 b0) := by
    intro y2 y3 a hm hv hf hi0 hi1 hi2 hi3 hi4 hi5 hi6 hi7 hi8 hi9
    refine jt_eq (bq_X8_takesWord_r1015_58 E d y2 y3 a b0) ?_
    have h865_ := iv_get hv (k := 2) (j := 1) (l := 0) (u := 200) rfl
    have h866_ : a 2 1 = a0 2 1 := hf 2 1 rfl
    have h867_ := iv_get hv0 (k := 2) (j := 1) (l := 0) (u := 200) rfl
    have h868_ := iv_get hv (k := 2) (j := 2) (l := 0) (u := 200) rfl
    have h869_ : jxw (y3 + 1) = y3 + 1 := jxw_id (by omega) (by omega)
    exact ih29 y2 (jxw (y3 + 1)) a (show (((4 - (jxw (y3 + 1))) * 1) + 0).toNat < n from by omega) hv hf (show 4 ≤ y2 from by omega) (show y2 ≤ 200 from by omega) (show 0 ≤ jxw (y3 + 1) from by omega) (show jxw (y3 + 1) ≤ 4 from by omega) (show 4 ≤ a 2 1 from by omega) (show 0 ≤ jxw (y3 + 1) from by omega) (show y2 = (a 2 2) + 4 from by omega) (show y2 ≤ a 2 1 from by omega) (show y2 ≤ 200 from by omega)
  have hc29 : ∀ (y2 y3 : Int) (a : Nat → Nat → Int), (((4 - y3) * 1) + 0).toNat ≤ n → iv a → jfr jW_X8_takesWord_r1015 a0 a → 4 ≤ y2 → y2 ≤ 200 → 0 ≤ y3 → y3 ≤ 4 → 4 ≤ a 2 1 → 0 ≤ y3 → y2 = (a 2 2) + 4 → y2 ≤ a 2 1 → y2 ≤ 200 → jt (jxX E d 128 29 [some (.inr (.inr (.inl 2))), some (.inr (.inr (.inl 1015))), some (.inl y2), some (.inl y3)] [] (jxSH, a, b0)) (jQ_X8_takesWord_r1015 a0 b0) := by
    intro y2 y3 a hm hv hf hi0 hi1 hi2 hi3 hi4 hi5 hi6 hi7 hi8
    refine jt_eq (bq_X8_takesWord_r1015_29 E d y2 y3 a b0) ?_
    have h870_ := iv_get hv (k := 2) (j := 1) (l := 0) (u := 200) rfl
    have h871_ : a 2 1 = a0 2 1 := hf 2 1 rfl
    have h872_ := iv_get hv0 (k := 2) (j := 1) (l := 0) (u := 200) rfl
    have h873_ := iv_get hv (k := 2) (j := 2) (l := 0) (u := 200) rfl
    refine jt_eI (eq_J0_length_8abf5_r1015 E d (jd_le hd rfl) a b0) ?_
    have h874_ := ff_J0_length_8abf5_r1015 a b0
    refine jt_ite (fun c875_ => ?_) (fun c875_ => ?_)
    ·
      have h876_ : jxw ((a 2 2) + y3) = (a 2 2) + y3 := jxw_id (by omega) (by omega)
      refine jt_grd (by omega) ?_
      refine jt_eI (eq_J0_charAt_5068e_r1015 E d (jd_le hd rfl) y3 a b0 (show (0 ≤ y3 ∧ y3 < 4) from by omega)) ?_
      have h877_ := iv_get hv (k := 3) (j := (jxw ((a 2 2) + y3)).toNat) (l := 0) (u := 255) rfl
      have h878_ : a 3 ((jxw ((a 2 2) + y3)).toNat) = a0 3 ((jxw ((a 2 2) + y3)).toNat) := hf 3 ((jxw ((a 2 2) + y3)).toNat) rfl
      have h879_ := iv_get hv0 (k := 3) (j := (jxw ((a 2 2) + y3)).toNat) (l := 0) (u := 255) rfl
      have h880_ := f_J0_charAt_5068e_r1015_eq a b0 y3
      have h881_ := f_J0_isLatin1_aae02_r1015_eq a b0
      have h882_ := f_J1_charAt_3b067_r2015_eq a b0 y3
      have h883_ := jxand_r (([122, 111, 110, 101] : List Int).getD (y3.toNat) 0) 255 (by decide) (by decide)
      have h884_ := jxi2c_b (jxand (([122, 111, 110, 101] : List Int).getD (y3.toNat) 0) 255)
      refine jt_ite (fun c885_ => ?_) (fun c885_ => ?_)
      ·
        exact hc58 y2 y3 a (show (((4 - y3) * 1) + 0).toNat ≤ n from by omega) hv hf (show 4 ≤ y2 from by omega) (show y2 ≤ 200 from by omega) (show 0 ≤ y3 from by omega) (show y3 ≤ 3 from by omega) (show 4 ≤ a 2 1 from by omega) (show y3 < 4 from by omega) (show 0 ≤ y3 from by omega) (show y2 = (a 2 2) + 4 from by omega) (show y2 ≤ a 2 1 from by omega) (show y2 ≤ 200 from by omega)
      ·
        exact cp_X8_takesWord_r1015_56 E d hd a0 b0 hv0 a hv hf (show 4 ≤ a 2 1 from by omega)
    ·
      refine jt_ite (fun c886_ => ?_) (fun c886_ => ?_)
      ·
        refine jt_grd (by omega) ?_
        have h887_ := iv_get hv (k := 3) (j := y2.toNat) (l := 0) (u := 255) rfl
        have h888_ : a 3 (y2.toNat) = a0 3 (y2.toNat) := hf 3 (y2.toNat) rfl
        have h889_ := iv_get hv0 (k := 3) (j := y2.toNat) (l := 0) (u := 255) rfl
        refine jt_ite (fun c890_ => ?_) (fun c890_ => ?_)
        ·
          exact cp_X8_takesWord_r1015_96 E d hd a0 b0 hv0 y2 a hv hf (show 4 ≤ y2 from by omega) (show y2 ≤ 200 from by omega) (show 4 ≤ a 2 1 from by omega) (show y2 = (a 2 2) + 4 from by omega) (show y2 ≤ a 2 1 from by omega) (show y2 ≤ 200 from by omega)
        ·
          exact cp_X8_takesWord_r1015_83 E d hd a0 b0 hv0 y2 a hv hf (show 4 ≤ y2 from by omega) (show y2 ≤ 199 from by omega) (show 5 ≤ a 2 1 from by omega) (show y2 = (a 2 2) + 4 from by omega) (show y2 ≤ a 2 1 from by omega) (show y2 ≤ 200 from by omega)
      ·
        exact cp_X8_takesWord_r1015_96 E d hd a0 b0 hv0 y2 a hv hf (show 4 ≤ y2 from by omega) (show y2 ≤ 200 from by omega) (show 4 ≤ a 2 1 from by omega) (show y2 = (a 2 2) + 4 from by omega) (show y2 ≤ a 2 1 from by omega) (show y2 ≤ 200 from by omega)
  exact ⟨hc58, hc29⟩
theorem sp_X8_takesWord_r1015 (E : jxE) (d : Nat) (hd : Nat.ble 5 d = true) (a0 b0 : Nat → Nat → Int) (hv0 : iv a0) : jt (jxC E d 128 [.inr (.inr (.inl 2)), .inr (.inr (.inl 1015))] (jxSH, a0, b0)) (jQ_X8_takesWord_r1015 a0 b0) := by
  obtain ⟨d, rfl⟩ := jd_succ hd
  refine jt_eq (bq_X8_takesWord_r1015 E d a0 b0) ?_
  refine jt_eI (eq_J0_length_8abf5_r1015 E d (jd_le hd rfl) a0 b0) ?_
  refine jt_eI (eq_X8_isFaulty E d (jd_le hd rfl) a0 b0) ?_
  have h891_ := f_X8_isFaulty_eq a0 b0
  refine jt_ite (fun c892_ => ?_) (fun c892_ => ?_)
  ·
    have h893_ := iv_get hv0 (k := 2) (j := 1) (l := 0) (u := 200) rfl
    have h894_ := iv_get hv0 (k := 2) (j := 2) (l := 0) (u := 200) rfl
    have h895_ := ff_J0_length_8abf5_r1015 a0 b0
    have h896_ : jxw ((a0 2 2) + (f_J0_length_8abf5_r1015 a0 b0)) = (a0 2 2) + (f_J0_length_8abf5_r1015 a0 b0) := jxw_id (by omega) (by omega)
    refine jt_ite (fun c897_ => ?_) (fun c897_ => ?_)
    ·
      exact jt_rI ⟨hv0, (jfr_rf _ _), rfl, (show (0 ≤ 0 ∧ 0 ≤ 1) from by omega)⟩
    ·
      exact (cp_X8_takesWord_r1015_29 E d hd a0 b0 hv0 _).2 (jxw ((a0 2 2) + (f_J0_length_8abf5_r1015 a0 b0))) 0 a0 (Nat.le_refl _) hv0 (jfr_rf _ _) (show 4 ≤ jxw ((a0 2 2) + (f_J0_length_8abf5_r1015 a0 b0)) from by omega) (show jxw ((a0 2 2) + (f_J0_length_8abf5_r1015 a0 b0)) ≤ 200 from by omega) (show 0 ≤ 0 from by omega) (show 0 ≤ 4 from by omega) (show 4 ≤ a0 2 1 from by omega) (show 0 ≤ 0 from by omega) (show jxw ((a0 2 2) + (f_J0_length_8abf5_r1015 a0 b0)) = (a0 2 2) + 4 from by omega) (show jxw ((a0 2 2) + (f_J0_length_8abf5_r1015 a0 b0)) ≤ a0 2 1 from by omega) (show jxw ((a0 2 2) + (f_J0_length_8abf5_r1015 a0 b0)) ≤ 200 from by omega)
  ·
    exact jt_rI ⟨hv0, (jfr_rf _ _), rfl, (show (0 ≤ 0 ∧ 0 ≤ 1) from by omega)⟩
def jW_X12_see : List (Nat × Nat) := [(146, 23)]
abbrev jQ_X12_see (a0 b0 : Nat → Nat → Int) : List jxV → (Nat → Nat → Int) → (Nat → Nat → Int) → Prop := rI (fun r a b => (iv a) ∧ (jfr jW_X12_see a0 a) ∧ (b0 = b) ∧ (a0 146 23 ≤ a 146 23) ∧ (a 146 23 ≤ a0 146 22) ∧ (((r = 0 - 1 ∧ a 146 23 = a0 146 22) ∨ (((0 ≤ r ∧ r ≤ 255) ∧ a 146 23 < a0 146 22) ∧ ¬ a 164 ((a 146 23).toNat) = 32))) ∧ (((a0 146 23 < a0 146 22 ∧ ¬ a0 164 ((a0 146 23).toNat) = 32) → a 146 23 = a0 146 23)))
theorem cp_X12_see_38 (E : jxE) (d : Nat) (hd : Nat.ble 1 (d + 1) = true) (a0 b0 : Nat → Nat → Int) (hv0 : iv a0) (hp0 : a0 146 23 ≤ a0 146 22) : ∀ (a : Nat → Nat → Int), iv a → jfr jW_X12_see a0 a → a 146 23 ≤ a 146 22 → a0 146 23 ≤ a 146 23 → ((a0 146 23 < a0 146 22 ∧ ¬ a0 164 ((a0 146 23).toNat) = 32) → a 146 23 = a0 146 23) → (a 146 23 < a 146 22 → ¬ a 164 ((a 146 23).toNat) = 32) → jt (jxX E d 215 38 [some (.inr (.inr (.inl 146)))] [] (jxSH, a, b0)) (jQ_X12_see a0 b0) := by
  intro a hv hf hi0 hi1 hi2 hi3
  refine jt_eq (bq_X12_see_38 E d a b0) ?_
  have h898_ := iv_get hv (k := 146) (j := 23) (l := 0) (u := 200) rfl
  have h899_ := iv_get hv (k := 146) (j := 22) (l := 0) (u := 200) rfl
  have h900_ : a 146 22 = a0 146 22 := hf 146 22 rfl
  have h901_ := iv_get hv0 (k := 146) (j := 22) (l := 0) (u := 200) rfl
  have h902_ := iv_get hv0 (k := 146) (j := 23) (l := 0) (u := 200) rfl
  have h903_ := iv_get hv0 (k := 164) (j := (a0 146 23).toNat) (l := (-128)) (u := 127) rfl
  have h904_ := iv_get hv (k := 164) (j := (a 146 23).toNat) (l := (-128)) (u := 127) rfl
  have h905_ : a 164 ((a 146 23).toNat) = a0 164 ((a 146 23).toNat) := hf 164 ((a 146 23).toNat) rfl
  have h906_ := iv_get hv0 (k := 164) (j := (a 146 23).toNat) (l := (-128)) (u := 127) rfl
  refine jt_ite (fun c907_ => ?_) (fun c907_ => ?_)
  ·
    refine jt_grd (by omega) ?_
    have h908_ := jxand_r (a 164 ((a 146 23).toNat)) 255 (by decide) (by decide)
    exact jt_rI ⟨hv, hf, rfl, (show a0 146 23 ≤ a 146 23 from by omega), (show a 146 23 ≤ a0 146 22 from by omega), (show ((jxand (a 164 ((a 146 23).toNat)) 255 = 0 - 1 ∧ a 146 23 = a0 146 22) ∨ (((0 ≤ jxand (a 164 ((a 146 23).toNat)) 255 ∧ jxand (a 164 ((a 146 23).toNat)) 255 ≤ 255) ∧ a 146 23 < a0 146 22) ∧ ¬ a 164 ((a 146 23).toNat) = 32)) from by omega), (show ((a0 146 23 < a0 146 22 ∧ ¬ a0 164 ((a0 146 23).toNat) = 32) → a 146 23 = a0 146 23) from by omega)⟩
  ·
    exact jt_rI ⟨hv, hf, rfl, (show a0 146 23 ≤ a 146 23 from by omega), (show a 146 23 ≤ a0 146 22 from by omega), (show (((-1) = 0 - 1 ∧ a 146 23 = a0 146 22) ∨ (((0 ≤ (-1) ∧ (-1) ≤ 255) ∧ a 146 23 < a0 146 22) ∧ ¬ a 164 ((a 146 23).toNat) = 32)) from by omega), (show ((a0 146 23 < a0 146 22 ∧ ¬ a0 164 ((a0 146 23).toNat) = 32) → a 146 23 = a0 146 23) from by omega)⟩
theorem cp_X12_see_0 (E : jxE) (d : Nat) (hd : Nat.ble 1 (d + 1) = true) (a0 b0 : Nat → Nat → Int) (hv0 : iv a0) (hp0 : a0 146 23 ≤ a0 146 22) : ∀ n : Nat, (∀ (a : Nat → Nat → Int), ((((a 146 22) - (a 146 23)) * 2) + 1).toNat ≤ n → iv a → jfr jW_X12_see a0 a → 1 ≤ a 146 22 → 1 ≤ a 146 23 → a 146 23 ≤ a 146 22 → a0 146 23 ≤ a 146 23 → ((a0 146 23 < a0 146 22 ∧ ¬ a0 164 ((a0 146 23).toNat) = 32) → a 146 23 = a0 146 23) → jt (jxX E d 215 35 [some (.inr (.inr (.inl 146)))] [] (jxSH, a, b0)) (jQ_X12_see a0 b0)) ∧ (∀ (a : Nat → Nat → Int), ((((a 146 22) - (a 146 23)) * 2) + 0).toNat ≤ n → iv a → jfr jW_X12_see a0 a → 1 ≤ a 146 22 → 1 ≤ a 146 23 → a 146 23 ≤ a 146 22 → a0 146 23 ≤ a 146 23 → ((a0 146 23 < a0 146 22 ∧ ¬ a0 164 ((a0 146 23).toNat) = 32) → a 146 23 = a0 146 23) → jt (jxX E d 215 0 [some (.inr (.inr (.inl 146)))] [] (jxSH, a, b0)) (jQ_X12_see a0 b0)) := by
  refine jx_ind fun n ih => ?_
  have ih35 : ∀ (a : Nat → Nat → Int), ((((a 146 22) - (a 146 23)) * 2) + 1).toNat < n → iv a → jfr jW_X12_see a0 a → 1 ≤ a 146 22 → 1 ≤ a 146 23 → a 146 23 ≤ a 146 22 → a0 146 23 ≤ a 146 23 → ((a0 146 23 < a0 146 22 ∧ ¬ a0 164 ((a0 146 23).toNat) = 32) → a 146 23 = a0 146 23) → jt (jxX E d 215 35 [some (.inr (.inr (.inl 146)))] [] (jxSH, a, b0)) (jQ_X12_see a0 b0) := fun a hlt i0 i1 i2 i3 i4 i5 i6 => (ih _ hlt).1 a (Nat.le_refl _) i0 i1 i2 i3 i4 i5 i6
  have ih0 : ∀ (a : Nat → Nat → Int), ((((a 146 22) - (a 146 23)) * 2) + 0).toNat < n → iv a → jfr jW_X12_see a0 a → 1 ≤ a 146 22 → 1 ≤ a 146 23 → a 146 23 ≤ a 146 22 → a0 146 23 ≤ a 146 23 → ((a0 146 23 < a0 146 22 ∧ ¬ a0 164 ((a0 146 23).toNat) = 32) → a 146 23 = a0 146 23) → jt (jxX E d 215 0 [some (.inr (.inr (.inl 146)))] [] (jxSH, a, b0)) (jQ_X12_see a0 b0) := fun a hlt i0 i1 i2 i3 i4 i5 i6 => (ih _ hlt).2 a (Nat.le_refl _) i0 i1 i2 i3 i4 i5 i6
  have hc35 : ∀ (a : Nat → Nat → Int), ((((a 146 22) - (a 146 23)) * 2) + 1).toNat ≤ n → iv a → jfr jW_X12_see a0 a → 1 ≤ a 146 22 → 1 ≤ a 146 23 → a 146 23 ≤ a 146 22 → a0 146 23 ≤ a 146 23 → ((a0 146 23 < a0 146 22 ∧ ¬ a0 164 ((a0 146 23).toNat) = 32) → a 146 23 = a0 146 23) → jt (jxX E d 215 35 [some (.inr (.inr (.inl 146)))] [] (jxSH, a, b0)) (jQ_X12_see a0 b0) := by
    intro a hm hv hf hi0 hi1 hi2 hi3 hi4
    refine jt_eq (bq_X12_see_35 E d a b0) ?_
    have h909_ := iv_get hv (k := 146) (j := 22) (l := 0) (u := 200) rfl
    have h910_ : a 146 22 = a0 146 22 := hf 146 22 rfl
    have h911_ := iv_get hv0 (k := 146) (j := 22) (l := 0) (u := 200) rfl
    have h912_ := iv_get hv (k := 146) (j := 23) (l := 0) (u := 200) rfl
    have h913_ := iv_get hv0 (k := 146) (j := 23) (l := 0) (u := 200) rfl
    have h914_ := iv_get hv0 (k := 164) (j := (a0 146 23).toNat) (l := (-128)) (u := 127) rfl
    exact ih0 a (show ((((a 146 22) - (a 146 23)) * 2) + 0).toNat < n from by omega) hv hf (show 1 ≤ a 146 22 from by omega) (show 1 ≤ a 146 23 from by omega) (show a 146 23 ≤ a 146 22 from by omega) (show a0 146 23 ≤ a 146 23 from by omega) (show ((a0 146 23 < a0 146 22 ∧ ¬ a0 164 ((a0 146 23).toNat) = 32) → a 146 23 = a0 146 23) from by omega)
  have hc0 : ∀ (a : Nat → Nat → Int), ((((a 146 22) - (a 146 23)) * 2) + 0).toNat ≤ n → iv a → jfr jW_X12_see a0 a → 1 ≤ a 146 22 → 1 ≤ a 146 23 → a 146 23 ≤ a 146 22 → a0 146 23 ≤ a 146 23 → ((a0 146 23 < a0 146 22 ∧ ¬ a0 164 ((a0 146 23).toNat) = 32) → a 146 23 = a0 146 23) → jt (jxX E d 215 0 [some (.inr (.inr (.inl 146)))] [] (jxSH, a, b0)) (jQ_X12_see a0 b0) := by
    intro a hm hv hf hi0 hi1 hi2 hi3 hi4
    refine jt_eq (bq_X12_see_0 E d a b0) ?_
    have h915_ := iv_get hv (k := 146) (j := 22) (l := 0) (u := 200) rfl
    have h916_ : a 146 22 = a0 146 22 := hf 146 22 rfl
    have h917_ := iv_get hv0 (k := 146) (j := 22) (l := 0) (u := 200) rfl
    have h918_ := iv_get hv (k := 146) (j := 23) (l := 0) (u := 200) rfl
    have h919_ := iv_get hv0 (k := 146) (j := 23) (l := 0) (u := 200) rfl
    have h920_ := iv_get hv0 (k := 164) (j := (a0 146 23).toNat) (l := (-128)) (u := 127) rfl
    have hcg : a 146 23 = a0 146 23 → a 164 ((a 146 23).toNat) = a0 164 ((a0 146 23).toNat) := fun h => by rw [h]; exact hf 164 _ rfl
    refine jt_ite (fun c921_ => ?_) (fun c921_ => ?_)
    ·
      refine jt_grd (by omega) ?_
      have h922_ := iv_get hv (k := 164) (j := (a 146 23).toNat) (l := (-128)) (u := 127) rfl
      have h923_ : a 164 ((a 146 23).toNat) = a0 164 ((a 146 23).toNat) := hf 164 ((a 146 23).toNat) rfl
      have h924_ := iv_get hv0 (k := 164) (j := (a 146 23).toNat) (l := (-128)) (u := 127) rfl
      refine jt_ite (fun c925_ => ?_) (fun c925_ => ?_)
      ·
        have h927_ : jxw ((a 146 23) + 1) = (a 146 23) + 1 := jxw_id (by omega) (by omega)
        have hv926_ : iv (jxu a 146 23 (jxw ((a 146 23) + 1))) := iv_put hv (l := 0) (u := 200) rfl (by omega) (by omega)
        have hf928_ : jfr jW_X12_see a0 (jxu a 146 23 (jxw ((a 146 23) + 1))) := jfr_put hf rfl
        exact hc35 (jxu a 146 23 (jxw ((a 146 23) + 1))) (show ((((a 146 22) - (jxw ((a 146 23) + 1))) * 2) + 1).toNat ≤ n from by omega) hv926_ hf928_ (show 1 ≤ a 146 22 from by omega) (show 1 ≤ jxw ((a 146 23) + 1) from by omega) (show jxw ((a 146 23) + 1) ≤ a 146 22 from by omega) (show a0 146 23 ≤ jxw ((a 146 23) + 1) from by omega) (show ((a0 146 23 < a0 146 22 ∧ ¬ a0 164 ((a0 146 23).toNat) = 32) → jxw ((a 146 23) + 1) = a0 146 23) from by omega)
      ·
        exact cp_X12_see_38 E d hd a0 b0 hv0 hp0 a hv hf (show a 146 23 ≤ a 146 22 from by omega) (show a0 146 23 ≤ a 146 23 from by omega) (show ((a0 146 23 < a0 146 22 ∧ ¬ a0 164 ((a0 146 23).toNat) = 32) → a 146 23 = a0 146 23) from by omega) (show (a 146 23 < a 146 22 → ¬ a 164 ((a 146 23).toNat) = 32) from by omega)
    ·
      have h929_ := iv_get hv (k := 164) (j := (a 146 23).toNat) (l := (-128)) (u := 127) rfl
      have h930_ : a 164 ((a 146 23).toNat) = a0 164 ((a 146 23).toNat) := hf 164 ((a 146 23).toNat) rfl
      have h931_ := iv_get hv0 (k := 164) (j := (a 146 23).toNat) (l := (-128)) (u := 127) rfl
      exact cp_X12_see_38 E d hd a0 b0 hv0 hp0 a hv hf (show a 146 23 ≤ a 146 22 from by omega) (show a0 146 23 ≤ a 146 23 from by omega) (show ((a0 146 23 < a0 146 22 ∧ ¬ a0 164 ((a0 146 23).toNat) = 32) → a 146 23 = a0 146 23) from by omega) (show (a 146 23 < a 146 22 → ¬ a 164 ((a 146 23).toNat) = 32) from by omega)
  exact ⟨hc35, hc0⟩
theorem sp_X12_see (E : jxE) (d : Nat) (hd : Nat.ble 1 d = true) (a0 b0 : Nat → Nat → Int) (hv0 : iv a0) (hp0 : a0 146 23 ≤ a0 146 22) : jt (jxC E d 215 [.inr (.inr (.inl 146))] (jxSH, a0, b0)) (jQ_X12_see a0 b0) := by
  obtain ⟨d, rfl⟩ := jd_succ hd
  refine jt_eq (bq_X12_see E d a0 b0) ?_
  have h932_ := iv_get hv0 (k := 146) (j := 23) (l := 0) (u := 200) rfl
  have h933_ := iv_get hv0 (k := 146) (j := 22) (l := 0) (u := 200) rfl
  refine jt_ite (fun c934_ => ?_) (fun c934_ => ?_)
  ·
    refine jt_grd (by omega) ?_
    have h935_ := iv_get hv0 (k := 164) (j := (a0 146 23).toNat) (l := (-128)) (u := 127) rfl
    refine jt_ite (fun c936_ => ?_) (fun c936_ => ?_)
    ·
      have h938_ : jxw ((a0 146 23) + 1) = (a0 146 23) + 1 := jxw_id (by omega) (by omega)
      have hv937_ : iv (jxu a0 146 23 (jxw ((a0 146 23) + 1))) := iv_put hv0 (l := 0) (u := 200) rfl (by omega) (by omega)
      have hf939_ : jfr jW_X12_see a0 (jxu a0 146 23 (jxw ((a0 146 23) + 1))) := jfr_put (jfr_rf _ _) rfl
      exact (cp_X12_see_0 E d hd a0 b0 hv0 hp0 _).1 (jxu a0 146 23 (jxw ((a0 146 23) + 1))) (Nat.le_refl _) hv937_ hf939_ (show 1 ≤ a0 146 22 from by omega) (show 1 ≤ jxw ((a0 146 23) + 1) from by omega) (show jxw ((a0 146 23) + 1) ≤ a0 146 22 from by omega) (show a0 146 23 ≤ jxw ((a0 146 23) + 1) from by omega) (show ((a0 146 23 < a0 146 22 ∧ ¬ a0 164 ((a0 146 23).toNat) = 32) → jxw ((a0 146 23) + 1) = a0 146 23) from by omega)
    ·
      exact cp_X12_see_38 E d hd a0 b0 hv0 hp0 a0 hv0 (jfr_rf _ _) (show a0 146 23 ≤ a0 146 22 from by omega) (show a0 146 23 ≤ a0 146 23 from by omega) (show ((a0 146 23 < a0 146 22 ∧ ¬ a0 164 ((a0 146 23).toNat) = 32) → a0 146 23 = a0 146 23) from by omega) (show (a0 146 23 < a0 146 22 → ¬ a0 164 ((a0 146 23).toNat) = 32) from by omega)
  ·
    have h940_ := iv_get hv0 (k := 164) (j := (a0 146 23).toNat) (l := (-128)) (u := 127) rfl
    exact cp_X12_see_38 E d hd a0 b0 hv0 hp0 a0 hv0 (jfr_rf _ _) (show a0 146 23 ≤ a0 146 22 from by omega) (show a0 146 23 ≤ a0 146 23 from by omega) (show ((a0 146 23 < a0 146 22 ∧ ¬ a0 164 ((a0 146 23).toNat) = 32) → a0 146 23 = a0 146 23) from by omega) (show (a0 146 23 < a0 146 22 → ¬ a0 164 ((a0 146 23).toNat) = 32) from by omega)
def jW_X12_fails : List (Nat × Nat) := [(146, 24)]
abbrev jQ_X12_fails (x1 x2 : Int) (a0 b0 : Nat → Nat → Int) : List jxV → (Nat → Nat → Int) → (Nat → Nat → Int) → Prop := rI (fun r a b => (iv a) ∧ (jfr jW_X12_fails a0 a) ∧ (b0 = b) ∧ ((0 ≤ r ∧ r ≤ 1)) ∧ (r = 0))
theorem sp_X12_fails (E : jxE) (d : Nat) (hd : Nat.ble 1 d = true) (x1 x2 : Int) (a0 b0 : Nat → Nat → Int) (hv0 : iv a0) : jt (jxC E d 214 [.inr (.inr (.inl 146)), .inl x1, .inl x2] (jxSH, a0, b0)) (jQ_X12_fails x1 x2 a0 b0) := by
  obtain ⟨d, rfl⟩ := jd_succ hd
  refine jt_eq (bq_X12_fails E d x1 x2 a0 b0) ?_
  refine jt_ite (fun c941_ => ?_) (fun c941_ => ?_)
  ·
    have hv942_ : iv (jxu a0 146 24 (jxw ((jxw (1 + (jxw (8 * x2)))) + x1))) := iv_putf hv0 rfl
    have hf943_ : jfr jW_X12_fails a0 (jxu a0 146 24 (jxw ((jxw (1 + (jxw (8 * x2)))) + x1))) := jfr_put (jfr_rf _ _) rfl
    exact jt_rI ⟨hv942_, hf943_, rfl, (show (0 ≤ 0 ∧ 0 ≤ 1) from by omega), (show 0 = 0 from by omega)⟩
  ·
    exact jt_rI ⟨hv0, (jfr_rf _ _), rfl, (show (0 ≤ 0 ∧ 0 ≤ 1) from by omega), (show 0 = 0 from by omega)⟩
def jW_X12_number : List (Nat × Nat) := [(146, 23), (146, 24), (146, 26), (146, 27)]
abbrev jQ_X12_number (x1 x2 : Int) (a0 b0 : Nat → Nat → Int) : List jxV → (Nat → Nat → Int) → (Nat → Nat → Int) → Prop := rI (fun r a b => (iv a) ∧ (jfr jW_X12_number a0 a) ∧ (b0 = b) ∧ ((0 ≤ r ∧ r ≤ 1)) ∧ (a0 146 23 ≤ a 146 23) ∧ (a 146 23 ≤ a0 146 22) ∧ ((r = 1 → (x1 ≤ a 146 26 ∧ a 146 26 ≤ x2))))
theorem cp_X12_number_144 (E : jxE) (d : Nat) (hd : Nat.ble 2 (d + 1) = true) (x1 x2 : Int) (a0 b0 : Nat → Nat → Int) (hv0 : iv a0) (hp0 : a0 146 23 ≤ a0 146 22) : ∀ (a : Nat → Nat → Int), iv a → jfr jW_X12_number a0 a → a 146 23 ≤ a 146 22 → a0 146 23 ≤ a 146 23 → jt (jxX E d 217 144 [some (.inr (.inr (.inl 146))), none, none, none, none, none] [] (jxSH, a, b0)) (jQ_X12_number x1 x2 a0 b0) := by
  intro a hv hf hi0 hi1
  refine jt_eq (bq_X12_number_144 E d a b0) ?_
  have h944_ := iv_get hv (k := 146) (j := 23) (l := 0) (u := 200) rfl
  have h945_ := iv_get hv (k := 146) (j := 22) (l := 0) (u := 200) rfl
  have h946_ : a 146 22 = a0 146 22 := hf 146 22 rfl
  have h947_ := iv_get hv0 (k := 146) (j := 22) (l := 0) (u := 200) rfl
  have h948_ := iv_get hv0 (k := 146) (j := 23) (l := 0) (u := 200) rfl
  refine jt_bI (sp_X12_fails E d (jd_le hd rfl) 1 (a 146 27) a b0 hv) (fun r949_ a949_ b949_ h949_ => ?_)
  obtain ⟨hv949_, hf949_, rfl, hq949_0, hq949_1⟩ := h949_
  refine jt_ite (fun c950_ => ?_) (fun c950_ => ?_)
  ·
    have hf951_ : jfr jW_X12_number a0 a949_ := jfr_tr hf hf949_ rfl
    have h952_ := iv_get hv949_ (k := 146) (j := 23) (l := 0) (u := 200) rfl
    have h953_ : a949_ 146 23 = a 146 23 := hf949_ 146 23 rfl
    have h954_ := iv_get hv949_ (k := 146) (j := 26) (l := 0) (u := 999) rfl
    have h955_ : a949_ 146 26 = a 146 26 := hf949_ 146 26 rfl
    have h956_ := iv_get hv (k := 146) (j := 26) (l := 0) (u := 999) rfl
    exact jt_rI ⟨hv949_, hf951_, rfl, (show (0 ≤ 0 ∧ 0 ≤ 1) from by omega), (show a0 146 23 ≤ a949_ 146 23 from by omega), (show a949_ 146 23 ≤ a0 146 22 from by omega), (show (0 = 1 → (x1 ≤ a949_ 146 26 ∧ a949_ 146 26 ≤ x2)) from by omega)⟩
  ·
    have hf957_ : jfr jW_X12_number a0 a949_ := jfr_tr hf hf949_ rfl
    have h958_ := iv_get hv949_ (k := 146) (j := 23) (l := 0) (u := 200) rfl
    have h959_ : a949_ 146 23 = a 146 23 := hf949_ 146 23 rfl
    have h960_ := iv_get hv949_ (k := 146) (j := 26) (l := 0) (u := 999) rfl
    have h961_ : a949_ 146 26 = a 146 26 := hf949_ 146 26 rfl
    have h962_ := iv_get hv (k := 146) (j := 26) (l := 0) (u := 999) rfl
    exact jt_rI ⟨hv949_, hf957_, rfl, (show (0 ≤ 1 ∧ 1 ≤ 1) from by omega), (show a0 146 23 ≤ a949_ 146 23 from by omega), (show a949_ 146 23 ≤ a0 146 22 from by omega), (show (1 = 1 → (x1 ≤ a949_ 146 26 ∧ a949_ 146 26 ≤ x2)) from by omega)⟩
theorem cp_X12_number_122 (E : jxE) (d : Nat) (hd : Nat.ble 2 (d + 1) = true) (x1 x2 : Int) (a0 b0 : Nat → Nat → Int) (hv0 : iv a0) (hp0 : a0 146 23 ≤ a0 146 22) : ∀ (y1 y2 y4 y5 : Int) (a : Nat → Nat → Int), iv a → jfr jW_X12_number a0 a → a 146 23 ≤ a 146 22 → a0 146 23 ≤ a 146 23 → y1 = x1 → y2 = x2 → 0 ≤ y5 → y5 ≤ 999 → jt (jxX E d 217 122 [some (.inr (.inr (.inl 146))), some (.inl y1), some (.inl y2), none, some (.inl y4), some (.inl y5)] [] (jxSH, a, b0)) (jQ_X12_number x1 x2 a0 b0) := by
  intro y1 y2 y4 y5 a hv hf hi0 hi1 hi2 hi3 hi4 hi5
  refine jt_eq (bq_X12_number_122 E d y1 y2 y4 y5 a b0) ?_
  have h963_ := iv_get hv (k := 146) (j := 23) (l := 0) (u := 200) rfl
  have h964_ := iv_get hv (k := 146) (j := 22) (l := 0) (u := 200) rfl
  have h965_ : a 146 22 = a0 146 22 := hf 146 22 rfl
  have h966_ := iv_get hv0 (k := 146) (j := 22) (l := 0) (u := 200) rfl
  have h967_ := iv_get hv0 (k := 146) (j := 23) (l := 0) (u := 200) rfl
  refine jt_ite (fun c968_ => ?_) (fun c968_ => ?_)
  ·
    have hv969_ : iv (jxu a 146 26 y5) := iv_put hv (l := 0) (u := 999) rfl (by omega) (by omega)
    have hf970_ : jfr jW_X12_number a0 (jxu a 146 26 y5) := jfr_put hf rfl
    exact cp_X12_number_144 E d hd x1 x2 a0 b0 hv0 hp0 (jxu a 146 26 y5) hv969_ hf970_ (show a 146 23 ≤ a 146 22 from by omega) (show a0 146 23 ≤ a 146 23 from by omega)
  ·
    refine jt_eI (eq_X12_in E d (jd_le hd rfl) y5 y1 y2 (jxu a 146 26 y5) b0) ?_
    have h971_ : f_X12_in (jxu a 146 26 y5) b0 y5 y1 y2 = (if y5 < y1 then 0 else (if y2 < y5 then 0 else 1)) := f_X12_in_eq (jxu a 146 26 y5) b0 y5 y1 y2
    refine jt_ite (fun c972_ => ?_) (fun c972_ => ?_)
    ·
      have hv973_ : iv (jxu a 146 26 y5) := iv_put hv (l := 0) (u := 999) rfl (by omega) (by omega)
      have hf974_ : jfr jW_X12_number a0 (jxu a 146 26 y5) := jfr_put hf rfl
      exact cp_X12_number_144 E d hd x1 x2 a0 b0 hv0 hp0 (jxu a 146 26 y5) hv973_ hf974_ (show a 146 23 ≤ a 146 22 from by omega) (show a0 146 23 ≤ a 146 23 from by omega)
    ·
      have hv975_ : iv (jxu a 146 26 y5) := iv_put hv (l := 0) (u := 999) rfl (by omega) (by omega)
      have hf976_ : jfr jW_X12_number a0 (jxu a 146 26 y5) := jfr_put hf rfl
      exact jt_rI ⟨hv975_, hf976_, rfl, (show (0 ≤ 1 ∧ 1 ≤ 1) from by omega), (show a0 146 23 ≤ a 146 23 from by omega), (show a 146 23 ≤ a0 146 22 from by omega), (show (1 = 1 → (x1 ≤ y5 ∧ y5 ≤ x2)) from by omega)⟩
theorem cp_X12_number_41 (E : jxE) (d : Nat) (hd : Nat.ble 2 (d + 1) = true) (x1 x2 : Int) (a0 b0 : Nat → Nat → Int) (hv0 : iv a0) (hp0 : a0 146 23 ≤ a0 146 22) : ∀ n : Nat, (∀ (y1 y2 y4 y5 : Int) (a : Nat → Nat → Int), ((((a 146 22) - (a 146 23)) * 1) + 0).toNat ≤ n → iv a → jfr jW_X12_number a0 a → 1 ≤ a 146 22 → a 146 23 ≤ 199 → a 146 23 ≤ a 146 22 → a0 146 23 ≤ a 146 23 → y1 = x1 → y2 = x2 → 0 ≤ y4 → y4 ≤ a 146 23 → 0 ≤ y5 → y5 ≤ 999 → (y4 ≤ 1 → y5 ≤ 99) → (y4 ≤ 0 → y5 ≤ 9) → a 146 23 < a 146 22 → jt (jxX E d 217 106 [some (.inr (.inr (.inl 146))), some (.inl y1), some (.inl y2), none, some (.inl y4), some (.inl y5)] [] (jxSH, a, b0)) (jQ_X12_number x1 x2 a0 b0)) ∧ (∀ (y1 y2 y4 y5 : Int) (a : Nat → Nat → Int), ((((a 146 22) - (a 146 23)) * 1) + 0).toNat ≤ n → iv a → jfr jW_X12_number a0 a → 1 ≤ a 146 22 → a 146 23 ≤ 199 → a 146 23 ≤ a 146 22 → a0 146 23 ≤ a 146 23 → y1 = x1 → y2 = x2 → 0 ≤ y4 → y4 ≤ a 146 23 → 0 ≤ y5 → y5 ≤ 999 → (y4 ≤ 2 → y5 ≤ 99) → (y4 ≤ 1 → y5 ≤ 9) → (y4 ≤ 0 → y5 ≤ 0) → a 146 23 < a 146 22 → 48 ≤ a 164 ((a 146 23).toNat) → a 164 ((a 146 23).toNat) ≤ 57 → jt (jxX E d 217 80 [some (.inr (.inr (.inl 146))), some (.inl y1), some (.inl y2), none, some (.inl y4), some (.inl y5)] [] (jxSH, a, b0)) (jQ_X12_number x1 x2 a0 b0)) ∧ (∀ (y1 y2 y4 y5 : Int) (a : Nat → Nat → Int), ((((a 146 22) - (a 146 23)) * 1) + 0).toNat ≤ n → iv a → jfr jW_X12_number a0 a → a 146 23 ≤ a 146 22 → a0 146 23 ≤ a 146 23 → y1 = x1 → y2 = x2 → 0 ≤ y4 → y4 ≤ a 146 23 → 0 ≤ y5 → y5 ≤ 999 → (y4 ≤ 2 → y5 ≤ 99) → (y4 ≤ 1 → y5 ≤ 9) → (y4 ≤ 0 → y5 ≤ 0) → jt (jxX E d 217 41 [some (.inr (.inr (.inl 146))), some (.inl y1), some (.inl y2), none, some (.inl y4), some (.inl y5)] [] (jxSH, a, b0)) (jQ_X12_number x1 x2 a0 b0)) := by
  refine jx_ind fun n ih => ?_
  have ih106 : ∀ (y1 y2 y4 y5 : Int) (a : Nat → Nat → Int), ((((a 146 22) - (a 146 23)) * 1) + 0).toNat < n → iv a → jfr jW_X12_number a0 a → 1 ≤ a 146 22 → a 146 23 ≤ 199 → a 146 23 ≤ a 146 22 → a0 146 23 ≤ a 146 23 → y1 = x1 → y2 = x2 → 0 ≤ y4 → y4 ≤ a 146 23 → 0 ≤ y5 → y5 ≤ 999 → (y4 ≤ 1 → y5 ≤ 99) → (y4 ≤ 0 → y5 ≤ 9) → a 146 23 < a 146 22 → jt (jxX E d 217 106 [some (.inr (.inr (.inl 146))), some (.inl y1), some (.inl y2), none, some (.inl y4), some (.inl y5)] [] (jxSH, a, b0)) (jQ_X12_number x1 x2 a0 b0) := fun y1 y2 y4 y5 a hlt i0 i1 i2 i3 i4 i5 i6 i7 i8 i9 i10 i11 i12 i13 i14 => (ih _ hlt).1 y1 y2 y4 y5 a (Nat.le_refl _) i0 i1 i2 i3 i4 i5 i6 i7 i8 i9 i10 i11 i12 i13 i14
  have ih80 : ∀ (y1 y2 y4 y5 : Int) (a : Nat → Nat → Int), ((((a 146 22) - (a 146 23)) * 1) + 0).toNat < n → iv a → jfr jW_X12_number a0 a → 1 ≤ a 146 22 → a 146 23 ≤ 199 → a 146 23 ≤ a 146 22 → a0 146 23 ≤ a 146 23 → y1 = x1 → y2 = x2 → 0 ≤ y4 → y4 ≤ a 146 23 → 0 ≤ y5 → y5 ≤ 999 → (y4 ≤ 2 → y5 ≤ 99) → (y4 ≤ 1 → y5 ≤ 9) → (y4 ≤ 0 → y5 ≤ 0) → a 146 23 < a 146 22 → 48 ≤ a 164 ((a 146 23).toNat) → a 164 ((a 146 23).toNat) ≤ 57 → jt (jxX E d 217 80 [some (.inr (.inr (.inl 146))), some (.inl y1), some (.inl y2), none, some (.inl y4), some (.inl y5)] [] (jxSH, a, b0)) (jQ_X12_number x1 x2 a0 b0) := fun y1 y2 y4 y5 a hlt i0 i1 i2 i3 i4 i5 i6 i7 i8 i9 i10 i11 i12 i13 i14 i15 i16 i17 => (ih _ hlt).2.1 y1 y2 y4 y5 a (Nat.le_refl _) i0 i1 i2 i3 i4 i5 i6 i7 i8 i9 i10 i11 i12 i13 i14 i15 i16 i17
  have ih41 : ∀ (y1 y2 y4 y5 : Int) (a : Nat → Nat → Int), ((((a 146 22) - (a 146 23)) * 1) + 0).toNat < n → iv a → jfr jW_X12_number a0 a → a 146 23 ≤ a 146 22 → a0 146 23 ≤ a 146 23 → y1 = x1 → y2 = x2 → 0 ≤ y4 → y4 ≤ a 146 23 → 0 ≤ y5 → y5 ≤ 999 → (y4 ≤ 2 → y5 ≤ 99) → (y4 ≤ 1 → y5 ≤ 9) → (y4 ≤ 0 → y5 ≤ 0) → jt (jxX E d 217 41 [some (.inr (.inr (.inl 146))), some (.inl y1), some (.inl y2), none, some (.inl y4), some (.inl y5)] [] (jxSH, a, b0)) (jQ_X12_number x1 x2 a0 b0) := fun y1 y2 y4 y5 a hlt i0 i1 i2 i3 i4 i5 i6 i7 i8 i9 i10 i11 i12 => (ih _ hlt).2.2 y1 y2 y4 y5 a (Nat.le_refl _) i0 i1 i2 i3 i4 i5 i6 i7 i8 i9 i10 i11 i12
  have hc106 : ∀ (y1 y2 y4 y5 : Int) (a : Nat → Nat → Int), ((((a 146 22) - (a 146 23)) * 1) + 0).toNat ≤ n → iv a → jfr jW_X12_number a0 a → 1 ≤ a 146 22 → a 146 23 ≤ 199 → a 146 23 ≤ a 146 22 → a0 146 23 ≤ a 146 23 → y1 = x1 → y2 = x2 → 0 ≤ y4 → y4 ≤ a 146 23 → 0 ≤ y5 → y5 ≤ 999 → (y4 ≤ 1 → y5 ≤ 99) → (y4 ≤ 0 → y5 ≤ 9) → a 146 23 < a 146 22 → jt (jxX E d 217 106 [some (.inr (.inr (.inl 146))), some (.inl y1), some (.inl y2), none, some (.inl y4), some (.inl y5)] [] (jxSH, a, b0)) (jQ_X12_number x1 x2 a0 b0) := by
    intro y1 y2 y4 y5 a hm hv hf hi0 hi1 hi2 hi3 hi4 hi5 hi6 hi7 hi8 hi9 hi10 hi11 hi12
    refine jt_eq (bq_X12_number_106 E d y1 y2 y4 y5 a b0) ?_
    have h977_ := iv_get hv (k := 146) (j := 22) (l := 0) (u := 200) rfl
    have h978_ : a 146 22 = a0 146 22 := hf 146 22 rfl
    have h979_ := iv_get hv0 (k := 146) (j := 22) (l := 0) (u := 200) rfl
    have h980_ := iv_get hv (k := 146) (j := 23) (l := 0) (u := 200) rfl
    have h981_ := iv_get hv0 (k := 146) (j := 23) (l := 0) (u := 200) rfl
    have h983_ : jxw ((a 146 23) + 1) = (a 146 23) + 1 := jxw_id (by omega) (by omega)
    have hv982_ : iv (jxu a 146 23 (jxw ((a 146 23) + 1))) := iv_put hv (l := 0) (u := 200) rfl (by omega) (by omega)
    have hf984_ : jfr jW_X12_number a0 (jxu a 146 23 (jxw ((a 146 23) + 1))) := jfr_put hf rfl
    have h985_ := jxw_im (y4 + 1)
    have h986_ := jxw_rg (y4 + 1)
    exact ih41 y1 y2 (jxw (y4 + 1)) y5 (jxu a 146 23 (jxw ((a 146 23) + 1))) (show ((((a 146 22) - (jxw ((a 146 23) + 1))) * 1) + 0).toNat < n from by omega) hv982_ hf984_ (show jxw ((a 146 23) + 1) ≤ a 146 22 from by omega) (show a0 146 23 ≤ jxw ((a 146 23) + 1) from by omega) (show y1 = x1 from by omega) (show y2 = x2 from by omega) (show 0 ≤ jxw (y4 + 1) from by omega) (show jxw (y4 + 1) ≤ jxw ((a 146 23) + 1) from by omega) (show 0 ≤ y5 from by omega) (show y5 ≤ 999 from by omega) (show (jxw (y4 + 1) ≤ 2 → y5 ≤ 99) from by omega) (show (jxw (y4 + 1) ≤ 1 → y5 ≤ 9) from by omega) (show (jxw (y4 + 1) ≤ 0 → y5 ≤ 0) from by omega)
  have hc80 : ∀ (y1 y2 y4 y5 : Int) (a : Nat → Nat → Int), ((((a 146 22) - (a 146 23)) * 1) + 0).toNat ≤ n → iv a → jfr jW_X12_number a0 a → 1 ≤ a 146 22 → a 146 23 ≤ 199 → a 146 23 ≤ a 146 22 → a0 146 23 ≤ a 146 23 → y1 = x1 → y2 = x2 → 0 ≤ y4 → y4 ≤ a 146 23 → 0 ≤ y5 → y5 ≤ 999 → (y4 ≤ 2 → y5 ≤ 99) → (y4 ≤ 1 → y5 ≤ 9) → (y4 ≤ 0 → y5 ≤ 0) → a 146 23 < a 146 22 → 48 ≤ a 164 ((a 146 23).toNat) → a 164 ((a 146 23).toNat) ≤ 57 → jt (jxX E d 217 80 [some (.inr (.inr (.inl 146))), some (.inl y1), some (.inl y2), none, some (.inl y4), some (.inl y5)] [] (jxSH, a, b0)) (jQ_X12_number x1 x2 a0 b0) := by
    intro y1 y2 y4 y5 a hm hv hf hi0 hi1 hi2 hi3 hi4 hi5 hi6 hi7 hi8 hi9 hi10 hi11 hi12 hi13 hi14 hi15
    refine jt_eq (bq_X12_number_80 E d y1 y2 y4 y5 a b0) ?_
    have h987_ := iv_get hv (k := 146) (j := 22) (l := 0) (u := 200) rfl
    have h988_ : a 146 22 = a0 146 22 := hf 146 22 rfl
    have h989_ := iv_get hv0 (k := 146) (j := 22) (l := 0) (u := 200) rfl
    have h990_ := iv_get hv (k := 146) (j := 23) (l := 0) (u := 200) rfl
    have h991_ := iv_get hv0 (k := 146) (j := 23) (l := 0) (u := 200) rfl
    have h992_ := iv_get hv (k := 164) (j := (a 146 23).toNat) (l := (-128)) (u := 127) rfl
    have h993_ : a 164 ((a 146 23).toNat) = a0 164 ((a 146 23).toNat) := hf 164 ((a 146 23).toNat) rfl
    have h994_ := iv_get hv0 (k := 164) (j := (a 146 23).toNat) (l := (-128)) (u := 127) rfl
    refine jt_ite (fun c995_ => ?_) (fun c995_ => ?_)
    ·
      refine jt_grd (by omega) ?_
      have h996_ : jxw (10 * y5) = 10 * y5 := jxw_id (by omega) (by omega)
      have h997_ : jxw ((jxw (10 * y5)) + (a 164 ((a 146 23).toNat))) = (jxw (10 * y5)) + (a 164 ((a 146 23).toNat)) := jxw_id (by omega) (by omega)
      have h998_ : jxw ((jxw ((jxw (10 * y5)) + (a 164 ((a 146 23).toNat)))) - 48) = (jxw ((jxw (10 * y5)) + (a 164 ((a 146 23).toNat)))) - 48 := jxw_id (by omega) (by omega)
      exact hc106 y1 y2 y4 (jxw ((jxw ((jxw (10 * y5)) + (a 164 ((a 146 23).toNat)))) - 48)) a (show ((((a 146 22) - (a 146 23)) * 1) + 0).toNat ≤ n from by omega) hv hf (show 1 ≤ a 146 22 from by omega) (show a 146 23 ≤ 199 from by omega) (show a 146 23 ≤ a 146 22 from by omega) (show a0 146 23 ≤ a 146 23 from by omega) (show y1 = x1 from by omega) (show y2 = x2 from by omega) (show 0 ≤ y4 from by omega) (show y4 ≤ a 146 23 from by omega) (show 0 ≤ jxw ((jxw ((jxw (10 * y5)) + (a 164 ((a 146 23).toNat)))) - 48) from by omega) (show jxw ((jxw ((jxw (10 * y5)) + (a 164 ((a 146 23).toNat)))) - 48) ≤ 999 from by omega) (show (y4 ≤ 1 → jxw ((jxw ((jxw (10 * y5)) + (a 164 ((a 146 23).toNat)))) - 48) ≤ 99) from by omega) (show (y4 ≤ 0 → jxw ((jxw ((jxw (10 * y5)) + (a 164 ((a 146 23).toNat)))) - 48) ≤ 9) from by omega) (show a 146 23 < a 146 22 from by omega)
    ·
      exact hc106 y1 y2 y4 y5 a (show ((((a 146 22) - (a 146 23)) * 1) + 0).toNat ≤ n from by omega) hv hf (show 1 ≤ a 146 22 from by omega) (show a 146 23 ≤ 199 from by omega) (show a 146 23 ≤ a 146 22 from by omega) (show a0 146 23 ≤ a 146 23 from by omega) (show y1 = x1 from by omega) (show y2 = x2 from by omega) (show 0 ≤ y4 from by omega) (show y4 ≤ a 146 23 from by omega) (show 0 ≤ y5 from by omega) (show y5 ≤ 999 from by omega) (show (y4 ≤ 1 → y5 ≤ 99) from by omega) (show (y4 ≤ 0 → y5 ≤ 9) from by omega) (show a 146 23 < a 146 22 from by omega)
  have hc41 : ∀ (y1 y2 y4 y5 : Int) (a : Nat → Nat → Int), ((((a 146 22) - (a 146 23)) * 1) + 0).toNat ≤ n → iv a → jfr jW_X12_number a0 a → a 146 23 ≤ a 146 22 → a0 146 23 ≤ a 146 23 → y1 = x1 → y2 = x2 → 0 ≤ y4 → y4 ≤ a 146 23 → 0 ≤ y5 → y5 ≤ 999 → (y4 ≤ 2 → y5 ≤ 99) → (y4 ≤ 1 → y5 ≤ 9) → (y4 ≤ 0 → y5 ≤ 0) → jt (jxX E d 217 41 [some (.inr (.inr (.inl 146))), some (.inl y1), some (.inl y2), none, some (.inl y4), some (.inl y5)] [] (jxSH, a, b0)) (jQ_X12_number x1 x2 a0 b0) := by
    intro y1 y2 y4 y5 a hm hv hf hi0 hi1 hi2 hi3 hi4 hi5 hi6 hi7 hi8 hi9 hi10
    refine jt_eq (bq_X12_number_41 E d y1 y2 y4 y5 a b0) ?_
    have h999_ := iv_get hv (k := 146) (j := 23) (l := 0) (u := 200) rfl
    have h1000_ := iv_get hv (k := 146) (j := 22) (l := 0) (u := 200) rfl
    have h1001_ : a 146 22 = a0 146 22 := hf 146 22 rfl
    have h1002_ := iv_get hv0 (k := 146) (j := 22) (l := 0) (u := 200) rfl
    have h1003_ := iv_get hv0 (k := 146) (j := 23) (l := 0) (u := 200) rfl
    refine jt_ite (fun c1004_ => ?_) (fun c1004_ => ?_)
    ·
      refine jt_grd (by omega) ?_
      have h1005_ := iv_get hv (k := 164) (j := (a 146 23).toNat) (l := (-128)) (u := 127) rfl
      have h1006_ : a 164 ((a 146 23).toNat) = a0 164 ((a 146 23).toNat) := hf 164 ((a 146 23).toNat) rfl
      have h1007_ := iv_get hv0 (k := 164) (j := (a 146 23).toNat) (l := (-128)) (u := 127) rfl
      refine jt_ite (fun c1008_ => ?_) (fun c1008_ => ?_)
      ·
        exact cp_X12_number_122 E d hd x1 x2 a0 b0 hv0 hp0 y1 y2 y4 y5 a hv hf (show a 146 23 ≤ a 146 22 from by omega) (show a0 146 23 ≤ a 146 23 from by omega) (show y1 = x1 from by omega) (show y2 = x2 from by omega) (show 0 ≤ y5 from by omega) (show y5 ≤ 999 from by omega)
      ·
        refine jt_grd (by omega) ?_
        refine jt_ite (fun c1009_ => ?_) (fun c1009_ => ?_)
        ·
          exact cp_X12_number_122 E d hd x1 x2 a0 b0 hv0 hp0 y1 y2 y4 y5 a hv hf (show a 146 23 ≤ a 146 22 from by omega) (show a0 146 23 ≤ a 146 23 from by omega) (show y1 = x1 from by omega) (show y2 = x2 from by omega) (show 0 ≤ y5 from by omega) (show y5 ≤ 999 from by omega)
        ·
          exact hc80 y1 y2 y4 y5 a (show ((((a 146 22) - (a 146 23)) * 1) + 0).toNat ≤ n from by omega) hv hf (show 1 ≤ a 146 22 from by omega) (show a 146 23 ≤ 199 from by omega) (show a 146 23 ≤ a 146 22 from by omega) (show a0 146 23 ≤ a 146 23 from by omega) (show y1 = x1 from by omega) (show y2 = x2 from by omega) (show 0 ≤ y4 from by omega) (show y4 ≤ a 146 23 from by omega) (show 0 ≤ y5 from by omega) (show y5 ≤ 999 from by omega) (show (y4 ≤ 2 → y5 ≤ 99) from by omega) (show (y4 ≤ 1 → y5 ≤ 9) from by omega) (show (y4 ≤ 0 → y5 ≤ 0) from by omega) (show a 146 23 < a 146 22 from by omega) (show 48 ≤ a 164 ((a 146 23).toNat) from by omega) (show a 164 ((a 146 23).toNat) ≤ 57 from by omega)
    ·
      exact cp_X12_number_122 E d hd x1 x2 a0 b0 hv0 hp0 y1 y2 y4 y5 a hv hf (show a 146 23 ≤ a 146 22 from by omega) (show a0 146 23 ≤ a 146 23 from by omega) (show y1 = x1 from by omega) (show y2 = x2 from by omega) (show 0 ≤ y5 from by omega) (show y5 ≤ 999 from by omega)
  exact ⟨hc106, hc80, hc41⟩
theorem cp_X12_number_38 (E : jxE) (d : Nat) (hd : Nat.ble 2 (d + 1) = true) (x1 x2 : Int) (a0 b0 : Nat → Nat → Int) (hv0 : iv a0) (hp0 : a0 146 23 ≤ a0 146 22) : ∀ (y1 y2 y4 : Int) (a : Nat → Nat → Int), iv a → jfr jW_X12_number a0 a → 0 ≤ y4 → y4 ≤ 0 → a 146 23 ≤ a 146 22 → a0 146 23 ≤ a 146 23 → y1 = x1 → y2 = x2 → y4 = 0 → jt (jxX E d 217 38 [some (.inr (.inr (.inl 146))), some (.inl y1), some (.inl y2), none, some (.inl y4), none] [] (jxSH, a, b0)) (jQ_X12_number x1 x2 a0 b0) := by
  intro y1 y2 y4 a hv hf hi0 hi1 hi2 hi3 hi4 hi5 hi6
  refine jt_eq (bq_X12_number_38 E d y1 y2 y4 a b0) ?_
  have h1010_ := iv_get hv (k := 146) (j := 23) (l := 0) (u := 200) rfl
  have h1011_ := iv_get hv (k := 146) (j := 22) (l := 0) (u := 200) rfl
  have h1012_ : a 146 22 = a0 146 22 := hf 146 22 rfl
  have h1013_ := iv_get hv0 (k := 146) (j := 22) (l := 0) (u := 200) rfl
  have h1014_ := iv_get hv0 (k := 146) (j := 23) (l := 0) (u := 200) rfl
  exact (cp_X12_number_41 E d hd x1 x2 a0 b0 hv0 hp0 _).2.2 y1 y2 y4 0 a (Nat.le_refl _) hv hf (show a 146 23 ≤ a 146 22 from by omega) (show a0 146 23 ≤ a 146 23 from by omega) (show y1 = x1 from by omega) (show y2 = x2 from by omega) (show 0 ≤ y4 from by omega) (show y4 ≤ a 146 23 from by omega) (show 0 ≤ 0 from by omega) (show 0 ≤ 999 from by omega) (show (y4 ≤ 2 → 0 ≤ 99) from by omega) (show (y4 ≤ 1 → 0 ≤ 9) from by omega) (show (y4 ≤ 0 → 0 ≤ 0) from by omega)
theorem sp_X12_number (E : jxE) (d : Nat) (hd : Nat.ble 2 d = true) (x1 x2 : Int) (a0 b0 : Nat → Nat → Int) (hv0 : iv a0) (hp0 : a0 146 23 ≤ a0 146 22) : jt (jxC E d 217 [.inr (.inr (.inl 146)), .inl x1, .inl x2] (jxSH, a0, b0)) (jQ_X12_number x1 x2 a0 b0) := by
  obtain ⟨d, rfl⟩ := jd_succ hd
  refine jt_eq (bq_X12_number E d x1 x2 a0 b0) ?_
  have h1015_ := iv_get hv0 (k := 146) (j := 23) (l := 0) (u := 200) rfl
  have h1016_ := iv_get hv0 (k := 146) (j := 22) (l := 0) (u := 200) rfl
  refine jt_bI (sp_X12_see E d (jd_le hd rfl) a0 b0 hv0 (show a0 146 23 ≤ a0 146 22 from by omega)) (fun r1017_ a1017_ b1017_ h1017_ => ?_)
  obtain ⟨hv1017_, hf1017_, rfl, hq1017_0, hq1017_1, hq1017_2, hq1017_3⟩ := h1017_
  have h1018_ := iv_get hv1017_ (k := 146) (j := 23) (l := 0) (u := 200) rfl
  have h1019_ := iv_get hv1017_ (k := 164) (j := (a1017_ 146 23).toNat) (l := (-128)) (u := 127) rfl
  have h1020_ : a1017_ 164 ((a1017_ 146 23).toNat) = a0 164 ((a1017_ 146 23).toNat) := hf1017_ 164 ((a1017_ 146 23).toNat) rfl
  have h1021_ := iv_get hv0 (k := 164) (j := (a1017_ 146 23).toNat) (l := (-128)) (u := 127) rfl
  have h1022_ := iv_get hv0 (k := 164) (j := (a0 146 23).toNat) (l := (-128)) (u := 127) rfl
  refine jt_ite (fun c1023_ => ?_) (fun c1023_ => ?_)
  ·
    refine jt_bI (sp_X12_fails E d (jd_le hd rfl) 0 (a1017_ 146 23) a1017_ b0 hv1017_) (fun r1024_ a1024_ b1024_ h1024_ => ?_)
    obtain ⟨hv1024_, hf1024_, rfl, hq1024_0, hq1024_1⟩ := h1024_
    refine jt_grd (by omega) ?_
    have hf1025_ : jfr jW_X12_number a0 a1017_ := jfr_tr (jfr_rf _ _) hf1017_ rfl
    have hf1026_ : jfr jW_X12_number a0 a1024_ := jfr_tr hf1025_ hf1024_ rfl
    have h1027_ := iv_get hv1024_ (k := 146) (j := 23) (l := 0) (u := 200) rfl
    have h1028_ : a1024_ 146 23 = a1017_ 146 23 := hf1024_ 146 23 rfl
    have h1029_ := iv_get hv1024_ (k := 146) (j := 26) (l := 0) (u := 999) rfl
    have h1030_ : a1024_ 146 26 = a1017_ 146 26 := hf1024_ 146 26 rfl
    have h1031_ := iv_get hv1017_ (k := 146) (j := 26) (l := 0) (u := 999) rfl
    have h1032_ : a1017_ 146 26 = a0 146 26 := hf1017_ 146 26 rfl
    have h1033_ := iv_get hv0 (k := 146) (j := 26) (l := 0) (u := 999) rfl
    exact jt_rI ⟨hv1024_, hf1026_, rfl, (show (0 ≤ r1024_ ∧ r1024_ ≤ 1) from by omega), (show a0 146 23 ≤ a1024_ 146 23 from by omega), (show a1024_ 146 23 ≤ a0 146 22 from by omega), (show (r1024_ = 1 → (x1 ≤ a1024_ 146 26 ∧ a1024_ 146 26 ≤ x2)) from by omega)⟩
  ·
    refine jt_ite (fun c1034_ => ?_) (fun c1034_ => ?_)
    ·
      refine jt_bI (sp_X12_fails E d (jd_le hd rfl) 0 (a1017_ 146 23) a1017_ b0 hv1017_) (fun r1035_ a1035_ b1035_ h1035_ => ?_)
      obtain ⟨hv1035_, hf1035_, rfl, hq1035_0, hq1035_1⟩ := h1035_
      refine jt_grd (by omega) ?_
      have hf1036_ : jfr jW_X12_number a0 a1017_ := jfr_tr (jfr_rf _ _) hf1017_ rfl
      have hf1037_ : jfr jW_X12_number a0 a1035_ := jfr_tr hf1036_ hf1035_ rfl
      have h1038_ := iv_get hv1035_ (k := 146) (j := 23) (l := 0) (u := 200) rfl
      have h1039_ : a1035_ 146 23 = a1017_ 146 23 := hf1035_ 146 23 rfl
      have h1040_ := iv_get hv1035_ (k := 146) (j := 26) (l := 0) (u := 999) rfl
      have h1041_ : a1035_ 146 26 = a1017_ 146 26 := hf1035_ 146 26 rfl
      have h1042_ := iv_get hv1017_ (k := 146) (j := 26) (l := 0) (u := 999) rfl
      have h1043_ : a1017_ 146 26 = a0 146 26 := hf1017_ 146 26 rfl
      have h1044_ := iv_get hv0 (k := 146) (j := 26) (l := 0) (u := 999) rfl
      exact jt_rI ⟨hv1035_, hf1037_, rfl, (show (0 ≤ r1035_ ∧ r1035_ ≤ 1) from by omega), (show a0 146 23 ≤ a1035_ 146 23 from by omega), (show a1035_ 146 23 ≤ a0 146 22 from by omega), (show (r1035_ = 1 → (x1 ≤ a1035_ 146 26 ∧ a1035_ 146 26 ≤ x2)) from by omega)⟩
    ·
      have hv1045_ : iv (jxu a1017_ 146 27 (a1017_ 146 23)) := iv_putf hv1017_ rfl
      have hf1046_ : jfr jW_X12_number a0 a1017_ := jfr_tr (jfr_rf _ _) hf1017_ rfl
      have hf1047_ : jfr jW_X12_number a0 (jxu a1017_ 146 27 (a1017_ 146 23)) := jfr_put hf1046_ rfl
      have h1048_ := iv_get hv1017_ (k := 146) (j := 22) (l := 0) (u := 200) rfl
      have h1049_ : a1017_ 146 22 = a0 146 22 := hf1017_ 146 22 rfl
      exact cp_X12_number_38 E d hd x1 x2 a0 b0 hv0 hp0 x1 x2 0 (jxu a1017_ 146 27 (a1017_ 146 23)) hv1045_ hf1047_ (show 0 ≤ 0 from by omega) (show 0 ≤ 0 from by omega) (show a1017_ 146 23 ≤ a1017_ 146 22 from by omega) (show a0 146 23 ≤ a1017_ 146 23 from by omega) (show x1 = x1 from by omega) (show x2 = x2 from by omega) (show 0 = 0 from by omega)
def jW_X12_wordHere : List (Nat × Nat) := [(146, 23), (146, 25)]
abbrev jQ_X12_wordHere (a0 b0 : Nat → Nat → Int) : List jxV → (Nat → Nat → Int) → (Nat → Nat → Int) → Prop := rI (fun r a b => (iv a) ∧ (jfr jW_X12_wordHere a0 a) ∧ (b0 = b) ∧ ((a 146 23) + (a 146 25) ≤ a 146 22) ∧ (a0 146 23 ≤ a 146 23) ∧ (0 - 1 ≤ r) ∧ (r ≤ 15) ∧ ((r = 2 → a 146 25 = 3)) ∧ ((0 ≤ r → 2 ≤ a 146 25)) ∧ (((a0 146 23 < a0 146 22 ∧ ¬ a0 164 ((a0 146 23).toNat) = 32) → a 146 23 = a0 146 23)))
theorem cp_X12_wordHere_79 (E : jxE) (d : Nat) (hd : Nat.ble 2 (d + 1) = true) (a0 b0 : Nat → Nat → Int) (hv0 : iv a0) (hp0 : a0 146 23 ≤ a0 146 22) : ∀ n : Nat, (∀ (y1 y2 y4 : Int) (a : Nat → Nat → Int), (((((16 - y1) * 17) + 0) + ((6 - y4) * 1)) + 0).toNat ≤ n → iv a → jfr jW_X12_wordHere a0 a → 0 ≤ y1 → y1 ≤ 15 → 1 ≤ y2 → y2 ≤ 6 → 0 ≤ y4 → y4 ≤ 5 → a 146 25 ≤ 6 → (a 146 23) + (a 146 25) ≤ a 146 22 → a0 146 23 ≤ a 146 23 → 2 ≤ y2 → (y1 = 2 → y2 = 3) → y2 = a 146 25 → y4 < y2 → ((a0 146 23 < a0 146 22 ∧ ¬ a0 164 ((a0 146 23).toNat) = 32) → a 146 23 = a0 146 23) → jt (jxX E d 216 176 [some (.inr (.inr (.inl 146))), some (.inl y1), some (.inl y2), none, some (.inl y4)] [] (jxSH, a, b0)) (jQ_X12_wordHere a0 b0)) ∧ (∀ (y1 y2 y4 : Int) (a : Nat → Nat → Int), (((((16 - y1) * 17) + 0) + ((6 - y4) * 1)) + 0).toNat ≤ n → iv a → jfr jW_X12_wordHere a0 a → 0 ≤ y1 → y1 ≤ 15 → 1 ≤ y2 → y2 ≤ 6 → 0 ≤ y4 → y4 ≤ 5 → a 146 25 ≤ 6 → (a 146 23) + (a 146 25) ≤ a 146 22 → a0 146 23 ≤ a 146 23 → 2 ≤ y2 → (y1 = 2 → y2 = 3) → y2 = a 146 25 → y4 < y2 → ((a0 146 23 < a0 146 22 ∧ ¬ a0 164 ((a0 146 23).toNat) = 32) → a 146 23 = a0 146 23) → jt (jxX E d 216 180 [some (.inr (.inr (.inl 146))), some (.inl y1), some (.inl y2), none, some (.inl y4)] [] (jxSH, a, b0)) (jQ_X12_wordHere a0 b0)) ∧ (∀ (y1 y2 y3 y4 : Int) (a : Nat → Nat → Int), (((((16 - y1) * 17) + 0) + ((6 - y4) * 1)) + 0).toNat ≤ n → iv a → jfr jW_X12_wordHere a0 a → 0 ≤ y1 → y1 ≤ 15 → 0 ≤ y2 → y2 ≤ 6 → 0 ≤ y3 → y3 ≤ 1 → 0 ≤ y4 → y4 ≤ 6 → a 146 25 ≤ 6 → (a 146 23) + (a 146 25) ≤ a 146 22 → a0 146 23 ≤ a 146 23 → 2 ≤ y2 → (y1 = 2 → y2 = 3) → (y3 = 0 ∨ y2 = a 146 25) → (y3 = 0 ∨ y3 = 1) → ((a0 146 23 < a0 146 22 ∧ ¬ a0 164 ((a0 146 23).toNat) = 32) → a 146 23 = a0 146 23) → jt (jxX E d 216 139 [some (.inr (.inr (.inl 146))), some (.inl y1), some (.inl y2), some (.inl y3), some (.inl y4)] [] (jxSH, a, b0)) (jQ_X12_wordHere a0 b0)) ∧ (∀ (y1 y2 : Int) (a : Nat → Nat → Int), (((16 - y1) * 17) + 8).toNat ≤ n → iv a → jfr jW_X12_wordHere a0 a → 0 ≤ y1 → y1 ≤ 15 → 0 ≤ y2 → y2 ≤ 6 → a 146 25 ≤ 6 → (a 146 23) + (a 146 25) ≤ a 146 22 → a0 146 23 ≤ a 146 23 → (y1 = 2 → y2 = 3) → 2 ≤ y2 → ((a0 146 23 < a0 146 22 ∧ ¬ a0 164 ((a0 146 23).toNat) = 32) → a 146 23 = a0 146 23) → jt (jxX E d 216 122 [some (.inr (.inr (.inl 146))), some (.inl y1), some (.inl y2), none, none] [] (jxSH, a, b0)) (jQ_X12_wordHere a0 b0)) ∧ (∀ (y1 y2 : Int) (a : Nat → Nat → Int), (((((16 - y1) * 17) + 8) + ((6 - y2) * 1)) + 0).toNat ≤ n → iv a → jfr jW_X12_wordHere a0 a → 0 ≤ y1 → y1 ≤ 15 → 0 ≤ y2 → y2 ≤ 6 → a 146 25 ≤ 6 → (a 146 23) + (a 146 25) ≤ a 146 22 → a0 146 23 ≤ a 146 23 → (y1 = 2 → y2 ≤ 3) → ((a0 146 23 < a0 146 22 ∧ ¬ a0 164 ((a0 146 23).toNat) = 32) → a 146 23 = a0 146 23) → jt (jxX E d 216 96 [some (.inr (.inr (.inl 146))), some (.inl y1), some (.inl y2), none, none] [] (jxSH, a, b0)) (jQ_X12_wordHere a0 b0)) ∧ (∀ (y1 : Int) (a : Nat → Nat → Int), (((16 - y1) * 17) + 16).toNat ≤ n → iv a → jfr jW_X12_wordHere a0 a → 0 ≤ y1 → y1 ≤ 16 → (a 146 23) + (a 146 25) ≤ a 146 22 → a0 146 23 ≤ a 146 23 → ((a0 146 23 < a0 146 22 ∧ ¬ a0 164 ((a0 146 23).toNat) = 32) → a 146 23 = a0 146 23) → jt (jxX E d 216 79 [some (.inr (.inr (.inl 146))), some (.inl y1), none, none, none] [] (jxSH, a, b0)) (jQ_X12_wordHere a0 b0)) := by
  refine jx_ind fun n ih => ?_
  have ih176 : ∀ (y1 y2 y4 : Int) (a : Nat → Nat → Int), (((((16 - y1) * 17) + 0) + ((6 - y4) * 1)) + 0).toNat < n → iv a → jfr jW_X12_wordHere a0 a → 0 ≤ y1 → y1 ≤ 15 → 1 ≤ y2 → y2 ≤ 6 → 0 ≤ y4 → y4 ≤ 5 → a 146 25 ≤ 6 → (a 146 23) + (a 146 25) ≤ a 146 22 → a0 146 23 ≤ a 146 23 → 2 ≤ y2 → (y1 = 2 → y2 = 3) → y2 = a 146 25 → y4 < y2 → ((a0 146 23 < a0 146 22 ∧ ¬ a0 164 ((a0 146 23).toNat) = 32) → a 146 23 = a0 146 23) → jt (jxX E d 216 176 [some (.inr (.inr (.inl 146))), some (.inl y1), some (.inl y2), none, some (.inl y4)] [] (jxSH, a, b0)) (jQ_X12_wordHere a0 b0) := fun y1 y2 y4 a hlt i0 i1 i2 i3 i4 i5 i6 i7 i8 i9 i10 i11 i12 i13 i14 i15 => (ih _ hlt).1 y1 y2 y4 a (Nat.le_refl _) i0 i1 i2 i3 i4 i5 i6 i7 i8 i9 i10 i11 i12 i13 i14 i15
  have ih180 : ∀ (y1 y2 y4 : Int) (a : Nat → Nat → Int), (((((16 - y1) * 17) + 0) + ((6 - y4) * 1)) + 0).toNat < n → iv a → jfr jW_X12_wordHere a0 a → 0 ≤ y1 → y1 ≤ 15 → 1 ≤ y2 → y2 ≤ 6 → 0 ≤ y4 → y4 ≤ 5 → a 146 25 ≤ 6 → (a 146 23) + (a 146 25) ≤ a 146 22 → a0 146 23 ≤ a 146 23 → 2 ≤ y2 → (y1 = 2 → y2 = 3) → y2 = a 146 25 → y4 < y2 → ((a0 146 23 < a0 146 22 ∧ ¬ a0 164 ((a0 146 23).toNat) = 32) → a 146 23 = a0 146 23) → jt (jxX E d 216 180 [some (.inr (.inr (.inl 146))), some (.inl y1), some (.inl y2), none, some (.inl y4)] [] (jxSH, a, b0)) (jQ_X12_wordHere a0 b0) := fun y1 y2 y4 a hlt i0 i1 i2 i3 i4 i5 i6 i7 i8 i9 i10 i11 i12 i13 i14 i15 => (ih _ hlt).2.1 y1 y2 y4 a (Nat.le_refl _) i0 i1 i2 i3 i4 i5 i6 i7 i8 i9 i10 i11 i12 i13 i14 i15
  have ih139 : ∀ (y1 y2 y3 y4 : Int) (a : Nat → Nat → Int), (((((16 - y1) * 17) + 0) + ((6 - y4) * 1)) + 0).toNat < n → iv a → jfr jW_X12_wordHere a0 a → 0 ≤ y1 → y1 ≤ 15 → 0 ≤ y2 → y2 ≤ 6 → 0 ≤ y3 → y3 ≤ 1 → 0 ≤ y4 → y4 ≤ 6 → a 146 25 ≤ 6 → (a 146 23) + (a 146 25) ≤ a 146 22 → a0 146 23 ≤ a 146 23 → 2 ≤ y2 → (y1 = 2 → y2 = 3) → (y3 = 0 ∨ y2 = a 146 25) → (y3 = 0 ∨ y3 = 1) → ((a0 146 23 < a0 146 22 ∧ ¬ a0 164 ((a0 146 23).toNat) = 32) → a 146 23 = a0 146 23) → jt (jxX E d 216 139 [some (.inr (.inr (.inl 146))), some (.inl y1), some (.inl y2), some (.inl y3), some (.inl y4)] [] (jxSH, a, b0)) (jQ_X12_wordHere a0 b0) := fun y1 y2 y3 y4 a hlt i0 i1 i2 i3 i4 i5 i6 i7 i8 i9 i10 i11 i12 i13 i14 i15 i16 i17 => (ih _ hlt).2.2.1 y1 y2 y3 y4 a (Nat.le_refl _) i0 i1 i2 i3 i4 i5 i6 i7 i8 i9 i10 i11 i12 i13 i14 i15 i16 i17
  have ih122 : ∀ (y1 y2 : Int) (a : Nat → Nat → Int), (((16 - y1) * 17) + 8).toNat < n → iv a → jfr jW_X12_wordHere a0 a → 0 ≤ y1 → y1 ≤ 15 → 0 ≤ y2 → y2 ≤ 6 → a 146 25 ≤ 6 → (a 146 23) + (a 146 25) ≤ a 146 22 → a0 146 23 ≤ a 146 23 → (y1 = 2 → y2 = 3) → 2 ≤ y2 → ((a0 146 23 < a0 146 22 ∧ ¬ a0 164 ((a0 146 23).toNat) = 32) → a 146 23 = a0 146 23) → jt (jxX E d 216 122 [some (.inr (.inr (.inl 146))), some (.inl y1), some (.inl y2), none, none] [] (jxSH, a, b0)) (jQ_X12_wordHere a0 b0) := fun y1 y2 a hlt i0 i1 i2 i3 i4 i5 i6 i7 i8 i9 i10 i11 => (ih _ hlt).2.2.2.1 y1 y2 a (Nat.le_refl _) i0 i1 i2 i3 i4 i5 i6 i7 i8 i9 i10 i11
  have ih96 : ∀ (y1 y2 : Int) (a : Nat → Nat → Int), (((((16 - y1) * 17) + 8) + ((6 - y2) * 1)) + 0).toNat < n → iv a → jfr jW_X12_wordHere a0 a → 0 ≤ y1 → y1 ≤ 15 → 0 ≤ y2 → y2 ≤ 6 → a 146 25 ≤ 6 → (a 146 23) + (a 146 25) ≤ a 146 22 → a0 146 23 ≤ a 146 23 → (y1 = 2 → y2 ≤ 3) → ((a0 146 23 < a0 146 22 ∧ ¬ a0 164 ((a0 146 23).toNat) = 32) → a 146 23 = a0 146 23) → jt (jxX E d 216 96 [some (.inr (.inr (.inl 146))), some (.inl y1), some (.inl y2), none, none] [] (jxSH, a, b0)) (jQ_X12_wordHere a0 b0) := fun y1 y2 a hlt i0 i1 i2 i3 i4 i5 i6 i7 i8 i9 i10 => (ih _ hlt).2.2.2.2.1 y1 y2 a (Nat.le_refl _) i0 i1 i2 i3 i4 i5 i6 i7 i8 i9 i10
  have ih79 : ∀ (y1 : Int) (a : Nat → Nat → Int), (((16 - y1) * 17) + 16).toNat < n → iv a → jfr jW_X12_wordHere a0 a → 0 ≤ y1 → y1 ≤ 16 → (a 146 23) + (a 146 25) ≤ a 146 22 → a0 146 23 ≤ a 146 23 → ((a0 146 23 < a0 146 22 ∧ ¬ a0 164 ((a0 146 23).toNat) = 32) → a 146 23 = a0 146 23) → jt (jxX E d 216 79 [some (.inr (.inr (.inl 146))), some (.inl y1), none, none, none] [] (jxSH, a, b0)) (jQ_X12_wordHere a0 b0) := fun y1 a hlt i0 i1 i2 i3 i4 i5 i6 => (ih _ hlt).2.2.2.2.2 y1 a (Nat.le_refl _) i0 i1 i2 i3 i4 i5 i6
  have hc176 : ∀ (y1 y2 y4 : Int) (a : Nat → Nat → Int), (((((16 - y1) * 17) + 0) + ((6 - y4) * 1)) + 0).toNat ≤ n → iv a → jfr jW_X12_wordHere a0 a → 0 ≤ y1 → y1 ≤ 15 → 1 ≤ y2 → y2 ≤ 6 → 0 ≤ y4 → y4 ≤ 5 → a 146 25 ≤ 6 → (a 146 23) + (a 146 25) ≤ a 146 22 → a0 146 23 ≤ a 146 23 → 2 ≤ y2 → (y1 = 2 → y2 = 3) → y2 = a 146 25 → y4 < y2 → ((a0 146 23 < a0 146 22 ∧ ¬ a0 164 ((a0 146 23).toNat) = 32) → a 146 23 = a0 146 23) → jt (jxX E d 216 176 [some (.inr (.inr (.inl 146))), some (.inl y1), some (.inl y2), none, some (.inl y4)] [] (jxSH, a, b0)) (jQ_X12_wordHere a0 b0) := by
    intro y1 y2 y4 a hm hv hf hi0 hi1 hi2 hi3 hi4 hi5 hi6 hi7 hi8 hi9 hi10 hi11 hi12 hi13
    refine jt_eq (bq_X12_wordHere_176 E d y1 y2 y4 a b0) ?_
    have h1050_ := iv_get hv (k := 146) (j := 25) (l := 0) (u := 200) rfl
    have h1051_ := iv_get hv (k := 146) (j := 23) (l := 0) (u := 200) rfl
    have h1052_ := iv_get hv (k := 146) (j := 22) (l := 0) (u := 200) rfl
    have h1053_ : a 146 22 = a0 146 22 := hf 146 22 rfl
    have h1054_ := iv_get hv0 (k := 146) (j := 22) (l := 0) (u := 200) rfl
    have h1055_ := iv_get hv0 (k := 146) (j := 23) (l := 0) (u := 200) rfl
    have h1056_ := iv_get hv0 (k := 164) (j := (a0 146 23).toNat) (l := (-128)) (u := 127) rfl
    have h1057_ : jxw (y4 + 1) = y4 + 1 := jxw_id (by omega) (by omega)
    exact ih139 y1 y2 1 (jxw (y4 + 1)) a (show (((((16 - y1) * 17) + 0) + ((6 - (jxw (y4 + 1))) * 1)) + 0).toNat < n from by omega) hv hf (show 0 ≤ y1 from by omega) (show y1 ≤ 15 from by omega) (show 0 ≤ y2 from by omega) (show y2 ≤ 6 from by omega) (show 0 ≤ 1 from by omega) (show 1 ≤ 1 from by omega) (show 0 ≤ jxw (y4 + 1) from by omega) (show jxw (y4 + 1) ≤ 6 from by omega) (show a 146 25 ≤ 6 from by omega) (show (a 146 23) + (a 146 25) ≤ a 146 22 from by omega) (show a0 146 23 ≤ a 146 23 from by omega) (show 2 ≤ y2 from by omega) (show (y1 = 2 → y2 = 3) from by omega) (show (1 = 0 ∨ y2 = a 146 25) from by omega) (show (1 = 0 ∨ 1 = 1) from by omega) (show ((a0 146 23 < a0 146 22 ∧ ¬ a0 164 ((a0 146 23).toNat) = 32) → a 146 23 = a0 146 23) from by omega)
  have hc180 : ∀ (y1 y2 y4 : Int) (a : Nat → Nat → Int), (((((16 - y1) * 17) + 0) + ((6 - y4) * 1)) + 0).toNat ≤ n → iv a → jfr jW_X12_wordHere a0 a → 0 ≤ y1 → y1 ≤ 15 → 1 ≤ y2 → y2 ≤ 6 → 0 ≤ y4 → y4 ≤ 5 → a 146 25 ≤ 6 → (a 146 23) + (a 146 25) ≤ a 146 22 → a0 146 23 ≤ a 146 23 → 2 ≤ y2 → (y1 = 2 → y2 = 3) → y2 = a 146 25 → y4 < y2 → ((a0 146 23 < a0 146 22 ∧ ¬ a0 164 ((a0 146 23).toNat) = 32) → a 146 23 = a0 146 23) → jt (jxX E d 216 180 [some (.inr (.inr (.inl 146))), some (.inl y1), some (.inl y2), none, some (.inl y4)] [] (jxSH, a, b0)) (jQ_X12_wordHere a0 b0) := by
    intro y1 y2 y4 a hm hv hf hi0 hi1 hi2 hi3 hi4 hi5 hi6 hi7 hi8 hi9 hi10 hi11 hi12 hi13
    refine jt_eq (bq_X12_wordHere_180 E d y1 y2 y4 a b0) ?_
    have h1058_ := iv_get hv (k := 146) (j := 25) (l := 0) (u := 200) rfl
    have h1059_ := iv_get hv (k := 146) (j := 23) (l := 0) (u := 200) rfl
    have h1060_ := iv_get hv (k := 146) (j := 22) (l := 0) (u := 200) rfl
    have h1061_ : a 146 22 = a0 146 22 := hf 146 22 rfl
    have h1062_ := iv_get hv0 (k := 146) (j := 22) (l := 0) (u := 200) rfl
    have h1063_ := iv_get hv0 (k := 146) (j := 23) (l := 0) (u := 200) rfl
    have h1064_ := iv_get hv0 (k := 164) (j := (a0 146 23).toNat) (l := (-128)) (u := 127) rfl
    have h1065_ : jxw (y4 + 1) = y4 + 1 := jxw_id (by omega) (by omega)
    exact ih139 y1 y2 0 (jxw (y4 + 1)) a (show (((((16 - y1) * 17) + 0) + ((6 - (jxw (y4 + 1))) * 1)) + 0).toNat < n from by omega) hv hf (show 0 ≤ y1 from by omega) (show y1 ≤ 15 from by omega) (show 0 ≤ y2 from by omega) (show y2 ≤ 6 from by omega) (show 0 ≤ 0 from by omega) (show 0 ≤ 1 from by omega) (show 0 ≤ jxw (y4 + 1) from by omega) (show jxw (y4 + 1) ≤ 6 from by omega) (show a 146 25 ≤ 6 from by omega) (show (a 146 23) + (a 146 25) ≤ a 146 22 from by omega) (show a0 146 23 ≤ a 146 23 from by omega) (show 2 ≤ y2 from by omega) (show (y1 = 2 → y2 = 3) from by omega) (show (0 = 0 ∨ y2 = a 146 25) from by omega) (show (0 = 0 ∨ 0 = 1) from by omega) (show ((a0 146 23 < a0 146 22 ∧ ¬ a0 164 ((a0 146 23).toNat) = 32) → a 146 23 = a0 146 23) from by omega)
  have hc139 : ∀ (y1 y2 y3 y4 : Int) (a : Nat → Nat → Int), (((((16 - y1) * 17) + 0) + ((6 - y4) * 1)) + 0).toNat ≤ n → iv a → jfr jW_X12_wordHere a0 a → 0 ≤ y1 → y1 ≤ 15 → 0 ≤ y2 → y2 ≤ 6 → 0 ≤ y3 → y3 ≤ 1 → 0 ≤ y4 → y4 ≤ 6 → a 146 25 ≤ 6 → (a 146 23) + (a 146 25) ≤ a 146 22 → a0 146 23 ≤ a 146 23 → 2 ≤ y2 → (y1 = 2 → y2 = 3) → (y3 = 0 ∨ y2 = a 146 25) → (y3 = 0 ∨ y3 = 1) → ((a0 146 23 < a0 146 22 ∧ ¬ a0 164 ((a0 146 23).toNat) = 32) → a 146 23 = a0 146 23) → jt (jxX E d 216 139 [some (.inr (.inr (.inl 146))), some (.inl y1), some (.inl y2), some (.inl y3), some (.inl y4)] [] (jxSH, a, b0)) (jQ_X12_wordHere a0 b0) := by
    intro y1 y2 y3 y4 a hm hv hf hi0 hi1 hi2 hi3 hi4 hi5 hi6 hi7 hi8 hi9 hi10 hi11 hi12 hi13 hi14 hi15
    refine jt_eq (bq_X12_wordHere_139 E d y1 y2 y3 y4 a b0) ?_
    have h1066_ := iv_get hv (k := 146) (j := 25) (l := 0) (u := 200) rfl
    have h1067_ := iv_get hv (k := 146) (j := 23) (l := 0) (u := 200) rfl
    have h1068_ := iv_get hv (k := 146) (j := 22) (l := 0) (u := 200) rfl
    have h1069_ : a 146 22 = a0 146 22 := hf 146 22 rfl
    have h1070_ := iv_get hv0 (k := 146) (j := 22) (l := 0) (u := 200) rfl
    have h1071_ := iv_get hv0 (k := 146) (j := 23) (l := 0) (u := 200) rfl
    have h1072_ := iv_get hv0 (k := 164) (j := (a0 146 23).toNat) (l := (-128)) (u := 127) rfl
    refine jt_ite (fun c1073_ => ?_) (fun c1073_ => ?_)
    ·
      refine jt_ite (fun c1074_ => ?_) (fun c1074_ => ?_)
      ·
        have h1075_ : jxw (y1 + 1) = y1 + 1 := jxw_id (by omega) (by omega)
        exact ih79 (jxw (y1 + 1)) a (show (((16 - (jxw (y1 + 1))) * 17) + 16).toNat < n from by omega) hv hf (show 0 ≤ jxw (y1 + 1) from by omega) (show jxw (y1 + 1) ≤ 16 from by omega) (show (a 146 23) + (a 146 25) ≤ a 146 22 from by omega) (show a0 146 23 ≤ a 146 23 from by omega) (show ((a0 146 23 < a0 146 22 ∧ ¬ a0 164 ((a0 146 23).toNat) = 32) → a 146 23 = a0 146 23) from by omega)
      ·
        exact jt_rI ⟨hv, hf, rfl, (show (a 146 23) + (a 146 25) ≤ a 146 22 from by omega), (show a0 146 23 ≤ a 146 23 from by omega), (show 0 - 1 ≤ y1 from by omega), (show y1 ≤ 15 from by omega), (show (y1 = 2 → a 146 25 = 3) from by omega), (show (0 ≤ y1 → 2 ≤ a 146 25) from by omega), (show ((a0 146 23 < a0 146 22 ∧ ¬ a0 164 ((a0 146 23).toNat) = 32) → a 146 23 = a0 146 23) from by omega)⟩
    ·
      refine jt_ite (fun c1076_ => ?_) (fun c1076_ => ?_)
      ·
        have h1077_ : jxw (6 * y1) = 6 * y1 := jxw_id (by omega) (by omega)
        have h1078_ : jxw ((jxw (6 * y1)) + y4) = (jxw (6 * y1)) + y4 := jxw_id (by omega) (by omega)
        refine jt_grd (by omega) ?_
        have h1079_ : jxw ((a 146 23) + y4) = (a 146 23) + y4 := jxw_id (by omega) (by omega)
        refine jt_grd (by omega) ?_
        have h1080_ := iv_wd hv ((jxw ((jxw (6 * y1)) + y4)).toNat)
        have h1081_ : a 165 ((jxw ((jxw (6 * y1)) + y4)).toNat) = a0 165 ((jxw ((jxw (6 * y1)) + y4)).toNat) := hf 165 ((jxw ((jxw (6 * y1)) + y4)).toNat) rfl
        have h1082_ := iv_wd hv0 ((jxw ((jxw (6 * y1)) + y4)).toNat)
        have h1083_ := iv_get hv (k := 164) (j := (jxw ((a 146 23) + y4)).toNat) (l := (-128)) (u := 127) rfl
        have h1084_ : a 164 ((jxw ((a 146 23) + y4)).toNat) = a0 164 ((jxw ((a 146 23) + y4)).toNat) := hf 164 ((jxw ((a 146 23) + y4)).toNat) rfl
        have h1085_ := iv_get hv0 (k := 164) (j := (jxw ((a 146 23) + y4)).toNat) (l := (-128)) (u := 127) rfl
        refine jt_ite (fun c1086_ => ?_) (fun c1086_ => ?_)
        ·
          exact hc176 y1 y2 y4 a (show (((((16 - y1) * 17) + 0) + ((6 - y4) * 1)) + 0).toNat ≤ n from by omega) hv hf (show 0 ≤ y1 from by omega) (show y1 ≤ 15 from by omega) (show 1 ≤ y2 from by omega) (show y2 ≤ 6 from by omega) (show 0 ≤ y4 from by omega) (show y4 ≤ 5 from by omega) (show a 146 25 ≤ 6 from by omega) (show (a 146 23) + (a 146 25) ≤ a 146 22 from by omega) (show a0 146 23 ≤ a 146 23 from by omega) (show 2 ≤ y2 from by omega) (show (y1 = 2 → y2 = 3) from by omega) (show y2 = a 146 25 from by omega) (show y4 < y2 from by omega) (show ((a0 146 23 < a0 146 22 ∧ ¬ a0 164 ((a0 146 23).toNat) = 32) → a 146 23 = a0 146 23) from by omega)
        ·
          exact hc180 y1 y2 y4 a (show (((((16 - y1) * 17) + 0) + ((6 - y4) * 1)) + 0).toNat ≤ n from by omega) hv hf (show 0 ≤ y1 from by omega) (show y1 ≤ 15 from by omega) (show 1 ≤ y2 from by omega) (show y2 ≤ 6 from by omega) (show 0 ≤ y4 from by omega) (show y4 ≤ 5 from by omega) (show a 146 25 ≤ 6 from by omega) (show (a 146 23) + (a 146 25) ≤ a 146 22 from by omega) (show a0 146 23 ≤ a 146 23 from by omega) (show 2 ≤ y2 from by omega) (show (y1 = 2 → y2 = 3) from by omega) (show y2 = a 146 25 from by omega) (show y4 < y2 from by omega) (show ((a0 146 23 < a0 146 22 ∧ ¬ a0 164 ((a0 146 23).toNat) = 32) → a 146 23 = a0 146 23) from by omega)
      ·
        refine jt_ite (fun c1087_ => ?_) (fun c1087_ => ?_)
        ·
          have h1088_ : jxw (y1 + 1) = y1 + 1 := jxw_id (by omega) (by omega)
          exact ih79 (jxw (y1 + 1)) a (show (((16 - (jxw (y1 + 1))) * 17) + 16).toNat < n from by omega) hv hf (show 0 ≤ jxw (y1 + 1) from by omega) (show jxw (y1 + 1) ≤ 16 from by omega) (show (a 146 23) + (a 146 25) ≤ a 146 22 from by omega) (show a0 146 23 ≤ a 146 23 from by omega) (show ((a0 146 23 < a0 146 22 ∧ ¬ a0 164 ((a0 146 23).toNat) = 32) → a 146 23 = a0 146 23) from by omega)
        ·
          exact jt_rI ⟨hv, hf, rfl, (show (a 146 23) + (a 146 25) ≤ a 146 22 from by omega), (show a0 146 23 ≤ a 146 23 from by omega), (show 0 - 1 ≤ y1 from by omega), (show y1 ≤ 15 from by omega), (show (y1 = 2 → a 146 25 = 3) from by omega), (show (0 ≤ y1 → 2 ≤ a 146 25) from by omega), (show ((a0 146 23 < a0 146 22 ∧ ¬ a0 164 ((a0 146 23).toNat) = 32) → a 146 23 = a0 146 23) from by omega)⟩
  have hc122 : ∀ (y1 y2 : Int) (a : Nat → Nat → Int), (((16 - y1) * 17) + 8).toNat ≤ n → iv a → jfr jW_X12_wordHere a0 a → 0 ≤ y1 → y1 ≤ 15 → 0 ≤ y2 → y2 ≤ 6 → a 146 25 ≤ 6 → (a 146 23) + (a 146 25) ≤ a 146 22 → a0 146 23 ≤ a 146 23 → (y1 = 2 → y2 = 3) → 2 ≤ y2 → ((a0 146 23 < a0 146 22 ∧ ¬ a0 164 ((a0 146 23).toNat) = 32) → a 146 23 = a0 146 23) → jt (jxX E d 216 122 [some (.inr (.inr (.inl 146))), some (.inl y1), some (.inl y2), none, none] [] (jxSH, a, b0)) (jQ_X12_wordHere a0 b0) := by
    intro y1 y2 a hm hv hf hi0 hi1 hi2 hi3 hi4 hi5 hi6 hi7 hi8 hi9
    refine jt_eq (bq_X12_wordHere_122 E d y1 y2 a b0) ?_
    have h1089_ := iv_get hv (k := 146) (j := 25) (l := 0) (u := 200) rfl
    have h1090_ := iv_get hv (k := 146) (j := 23) (l := 0) (u := 200) rfl
    have h1091_ := iv_get hv (k := 146) (j := 22) (l := 0) (u := 200) rfl
    have h1092_ : a 146 22 = a0 146 22 := hf 146 22 rfl
    have h1093_ := iv_get hv0 (k := 146) (j := 22) (l := 0) (u := 200) rfl
    have h1094_ := iv_get hv0 (k := 146) (j := 23) (l := 0) (u := 200) rfl
    have h1095_ := iv_get hv0 (k := 164) (j := (a0 146 23).toNat) (l := (-128)) (u := 127) rfl
    refine jt_ite (fun c1096_ => ?_) (fun c1096_ => ?_)
    ·
      exact hc139 y1 y2 1 0 a (show (((((16 - y1) * 17) + 0) + ((6 - 0) * 1)) + 0).toNat ≤ n from by omega) hv hf (show 0 ≤ y1 from by omega) (show y1 ≤ 15 from by omega) (show 0 ≤ y2 from by omega) (show y2 ≤ 6 from by omega) (show 0 ≤ 1 from by omega) (show 1 ≤ 1 from by omega) (show 0 ≤ 0 from by omega) (show 0 ≤ 6 from by omega) (show a 146 25 ≤ 6 from by omega) (show (a 146 23) + (a 146 25) ≤ a 146 22 from by omega) (show a0 146 23 ≤ a 146 23 from by omega) (show 2 ≤ y2 from by omega) (show (y1 = 2 → y2 = 3) from by omega) (show (1 = 0 ∨ y2 = a 146 25) from by omega) (show (1 = 0 ∨ 1 = 1) from by omega) (show ((a0 146 23 < a0 146 22 ∧ ¬ a0 164 ((a0 146 23).toNat) = 32) → a 146 23 = a0 146 23) from by omega)
    ·
      exact hc139 y1 y2 0 0 a (show (((((16 - y1) * 17) + 0) + ((6 - 0) * 1)) + 0).toNat ≤ n from by omega) hv hf (show 0 ≤ y1 from by omega) (show y1 ≤ 15 from by omega) (show 0 ≤ y2 from by omega) (show y2 ≤ 6 from by omega) (show 0 ≤ 0 from by omega) (show 0 ≤ 1 from by omega) (show 0 ≤ 0 from by omega) (show 0 ≤ 6 from by omega) (show a 146 25 ≤ 6 from by omega) (show (a 146 23) + (a 146 25) ≤ a 146 22 from by omega) (show a0 146 23 ≤ a 146 23 from by omega) (show 2 ≤ y2 from by omega) (show (y1 = 2 → y2 = 3) from by omega) (show (0 = 0 ∨ y2 = a 146 25) from by omega) (show (0 = 0 ∨ 0 = 1) from by omega) (show ((a0 146 23 < a0 146 22 ∧ ¬ a0 164 ((a0 146 23).toNat) = 32) → a 146 23 = a0 146 23) from by omega)
  have hc96 : ∀ (y1 y2 : Int) (a : Nat → Nat → Int), (((((16 - y1) * 17) + 8) + ((6 - y2) * 1)) + 0).toNat ≤ n → iv a → jfr jW_X12_wordHere a0 a → 0 ≤ y1 → y1 ≤ 15 → 0 ≤ y2 → y2 ≤ 6 → a 146 25 ≤ 6 → (a 146 23) + (a 146 25) ≤ a 146 22 → a0 146 23 ≤ a 146 23 → (y1 = 2 → y2 ≤ 3) → ((a0 146 23 < a0 146 22 ∧ ¬ a0 164 ((a0 146 23).toNat) = 32) → a 146 23 = a0 146 23) → jt (jxX E d 216 96 [some (.inr (.inr (.inl 146))), some (.inl y1), some (.inl y2), none, none] [] (jxSH, a, b0)) (jQ_X12_wordHere a0 b0) := by
    intro y1 y2 a hm hv hf hi0 hi1 hi2 hi3 hi4 hi5 hi6 hi7 hi8
    refine jt_eq (bq_X12_wordHere_96 E d y1 y2 a b0) ?_
    have h1097_ := iv_get hv (k := 146) (j := 25) (l := 0) (u := 200) rfl
    have h1098_ := iv_get hv (k := 146) (j := 23) (l := 0) (u := 200) rfl
    have h1099_ := iv_get hv (k := 146) (j := 22) (l := 0) (u := 200) rfl
    have h1100_ : a 146 22 = a0 146 22 := hf 146 22 rfl
    have h1101_ := iv_get hv0 (k := 146) (j := 22) (l := 0) (u := 200) rfl
    have h1102_ := iv_get hv0 (k := 146) (j := 23) (l := 0) (u := 200) rfl
    have h1103_ := iv_get hv0 (k := 164) (j := (a0 146 23).toNat) (l := (-128)) (u := 127) rfl
    have hw1 := wd_ne (y1 := y1) (y2 := y2) (by omega) (by omega)
    rw [← iv_wd hv] at hw1
    have hw2 : y1 = 2 → (y2 = 0 ∨ y2 = 1 ∨ y2 = 2) → ¬ a 165 ((jxw ((jxw (6 * y1)) + y2)).toNat) = 0 := by rintro rfl (rfl | rfl | rfl) <;> rw [iv_wd hv] <;> decide
    have hw3 : y1 = 2 → y2 = 3 → a 165 ((jxw ((jxw (6 * y1)) + y2)).toNat) = 0 := by rintro rfl rfl; rw [iv_wd hv]; decide
    refine jt_ite (fun c1104_ => ?_) (fun c1104_ => ?_)
    ·
      have h1105_ : jxw (6 * y1) = 6 * y1 := jxw_id (by omega) (by omega)
      have h1106_ : jxw ((jxw (6 * y1)) + y2) = (jxw (6 * y1)) + y2 := jxw_id (by omega) (by omega)
      refine jt_grd (by omega) ?_
      have h1107_ := iv_wd hv ((jxw ((jxw (6 * y1)) + y2)).toNat)
      have h1108_ : a 165 ((jxw ((jxw (6 * y1)) + y2)).toNat) = a0 165 ((jxw ((jxw (6 * y1)) + y2)).toNat) := hf 165 ((jxw ((jxw (6 * y1)) + y2)).toNat) rfl
      have h1109_ := iv_wd hv0 ((jxw ((jxw (6 * y1)) + y2)).toNat)
      refine jt_ite (fun c1110_ => ?_) (fun c1110_ => ?_)
      ·
        exact hc122 y1 y2 a (show (((16 - y1) * 17) + 8).toNat ≤ n from by omega) hv hf (show 0 ≤ y1 from by omega) (show y1 ≤ 15 from by omega) (show 0 ≤ y2 from by omega) (show y2 ≤ 6 from by omega) (show a 146 25 ≤ 6 from by omega) (show (a 146 23) + (a 146 25) ≤ a 146 22 from by omega) (show a0 146 23 ≤ a 146 23 from by omega) (show (y1 = 2 → y2 = 3) from by omega) (show 2 ≤ y2 from by omega) (show ((a0 146 23 < a0 146 22 ∧ ¬ a0 164 ((a0 146 23).toNat) = 32) → a 146 23 = a0 146 23) from by omega)
      ·
        have h1111_ : jxw (y2 + 1) = y2 + 1 := jxw_id (by omega) (by omega)
        exact ih96 y1 (jxw (y2 + 1)) a (show (((((16 - y1) * 17) + 8) + ((6 - (jxw (y2 + 1))) * 1)) + 0).toNat < n from by omega) hv hf (show 0 ≤ y1 from by omega) (show y1 ≤ 15 from by omega) (show 0 ≤ jxw (y2 + 1) from by omega) (show jxw (y2 + 1) ≤ 6 from by omega) (show a 146 25 ≤ 6 from by omega) (show (a 146 23) + (a 146 25) ≤ a 146 22 from by omega) (show a0 146 23 ≤ a 146 23 from by omega) (show (y1 = 2 → jxw (y2 + 1) ≤ 3) from by omega) (show ((a0 146 23 < a0 146 22 ∧ ¬ a0 164 ((a0 146 23).toNat) = 32) → a 146 23 = a0 146 23) from by omega)
    ·
      exact hc122 y1 y2 a (show (((16 - y1) * 17) + 8).toNat ≤ n from by omega) hv hf (show 0 ≤ y1 from by omega) (show y1 ≤ 15 from by omega) (show 0 ≤ y2 from by omega) (show y2 ≤ 6 from by omega) (show a 146 25 ≤ 6 from by omega) (show (a 146 23) + (a 146 25) ≤ a 146 22 from by omega) (show a0 146 23 ≤ a 146 23 from by omega) (show (y1 = 2 → y2 = 3) from by omega) (show 2 ≤ y2 from by omega) (show ((a0 146 23 < a0 146 22 ∧ ¬ a0 164 ((a0 146 23).toNat) = 32) → a 146 23 = a0 146 23) from by omega)
  have hc79 : ∀ (y1 : Int) (a : Nat → Nat → Int), (((16 - y1) * 17) + 16).toNat ≤ n → iv a → jfr jW_X12_wordHere a0 a → 0 ≤ y1 → y1 ≤ 16 → (a 146 23) + (a 146 25) ≤ a 146 22 → a0 146 23 ≤ a 146 23 → ((a0 146 23 < a0 146 22 ∧ ¬ a0 164 ((a0 146 23).toNat) = 32) → a 146 23 = a0 146 23) → jt (jxX E d 216 79 [some (.inr (.inr (.inl 146))), some (.inl y1), none, none, none] [] (jxSH, a, b0)) (jQ_X12_wordHere a0 b0) := by
    intro y1 a hm hv hf hi0 hi1 hi2 hi3 hi4
    refine jt_eq (bq_X12_wordHere_79 E d y1 a b0) ?_
    have h1112_ := iv_get hv (k := 146) (j := 23) (l := 0) (u := 200) rfl
    have h1113_ := iv_get hv (k := 146) (j := 25) (l := 0) (u := 200) rfl
    have h1114_ := iv_get hv (k := 146) (j := 22) (l := 0) (u := 200) rfl
    have h1115_ : a 146 22 = a0 146 22 := hf 146 22 rfl
    have h1116_ := iv_get hv0 (k := 146) (j := 22) (l := 0) (u := 200) rfl
    have h1117_ := iv_get hv0 (k := 146) (j := 23) (l := 0) (u := 200) rfl
    have h1118_ := iv_get hv0 (k := 164) (j := (a0 146 23).toNat) (l := (-128)) (u := 127) rfl
    refine jt_ite (fun c1119_ => ?_) (fun c1119_ => ?_)
    ·
      refine jt_ite (fun c1120_ => ?_) (fun c1120_ => ?_)
      ·
        exact jt_rI ⟨hv, hf, rfl, (show (a 146 23) + (a 146 25) ≤ a 146 22 from by omega), (show a0 146 23 ≤ a 146 23 from by omega), (show 0 - 1 ≤ (-1) from by omega), (show (-1) ≤ 15 from by omega), (show ((-1) = 2 → a 146 25 = 3) from by omega), (show (0 ≤ (-1) → 2 ≤ a 146 25) from by omega), (show ((a0 146 23 < a0 146 22 ∧ ¬ a0 164 ((a0 146 23).toNat) = 32) → a 146 23 = a0 146 23) from by omega)⟩
      ·
        exact hc96 y1 0 a (show (((((16 - y1) * 17) + 8) + ((6 - 0) * 1)) + 0).toNat ≤ n from by omega) hv hf (show 0 ≤ y1 from by omega) (show y1 ≤ 15 from by omega) (show 0 ≤ 0 from by omega) (show 0 ≤ 6 from by omega) (show a 146 25 ≤ 6 from by omega) (show (a 146 23) + (a 146 25) ≤ a 146 22 from by omega) (show a0 146 23 ≤ a 146 23 from by omega) (show (y1 = 2 → 0 ≤ 3) from by omega) (show ((a0 146 23 < a0 146 22 ∧ ¬ a0 164 ((a0 146 23).toNat) = 32) → a 146 23 = a0 146 23) from by omega)
    ·
      exact jt_rI ⟨hv, hf, rfl, (show (a 146 23) + (a 146 25) ≤ a 146 22 from by omega), (show a0 146 23 ≤ a 146 23 from by omega), (show 0 - 1 ≤ (-1) from by omega), (show (-1) ≤ 15 from by omega), (show ((-1) = 2 → a 146 25 = 3) from by omega), (show (0 ≤ (-1) → 2 ≤ a 146 25) from by omega), (show ((a0 146 23 < a0 146 22 ∧ ¬ a0 164 ((a0 146 23).toNat) = 32) → a 146 23 = a0 146 23) from by omega)⟩
  exact ⟨hc176, hc180, hc139, hc122, hc96, hc79⟩
theorem cp_X12_wordHere_77 (E : jxE) (d : Nat) (hd : Nat.ble 2 (d + 1) = true) (a0 b0 : Nat → Nat → Int) (hv0 : iv a0) (hp0 : a0 146 23 ≤ a0 146 22) : ∀ (a : Nat → Nat → Int), iv a → jfr jW_X12_wordHere a0 a → (a 146 23) + (a 146 25) ≤ a 146 22 → a0 146 23 ≤ a 146 23 → ((a0 146 23 < a0 146 22 ∧ ¬ a0 164 ((a0 146 23).toNat) = 32) → a 146 23 = a0 146 23) → jt (jxX E d 216 77 [some (.inr (.inr (.inl 146))), none, none, none, none] [] (jxSH, a, b0)) (jQ_X12_wordHere a0 b0) := by
  intro a hv hf hi0 hi1 hi2
  refine jt_eq (bq_X12_wordHere_77 E d a b0) ?_
  have h1121_ := iv_get hv (k := 146) (j := 23) (l := 0) (u := 200) rfl
  have h1122_ := iv_get hv (k := 146) (j := 25) (l := 0) (u := 200) rfl
  have h1123_ := iv_get hv (k := 146) (j := 22) (l := 0) (u := 200) rfl
  have h1124_ : a 146 22 = a0 146 22 := hf 146 22 rfl
  have h1125_ := iv_get hv0 (k := 146) (j := 22) (l := 0) (u := 200) rfl
  have h1126_ := iv_get hv0 (k := 146) (j := 23) (l := 0) (u := 200) rfl
  have h1127_ := iv_get hv0 (k := 164) (j := (a0 146 23).toNat) (l := (-128)) (u := 127) rfl
  exact (cp_X12_wordHere_79 E d hd a0 b0 hv0 hp0 _).2.2.2.2.2 0 a (Nat.le_refl _) hv hf (show 0 ≤ 0 from by omega) (show 0 ≤ 16 from by omega) (show (a 146 23) + (a 146 25) ≤ a 146 22 from by omega) (show a0 146 23 ≤ a 146 23 from by omega) (show ((a0 146 23 < a0 146 22 ∧ ¬ a0 164 ((a0 146 23).toNat) = 32) → a 146 23 = a0 146 23) from by omega)
theorem cp_X12_wordHere_10 (E : jxE) (d : Nat) (hd : Nat.ble 2 (d + 1) = true) (a0 b0 : Nat → Nat → Int) (hv0 : iv a0) (hp0 : a0 146 23 ≤ a0 146 22) : ∀ n : Nat, (∀ (a : Nat → Nat → Int), (((((a 146 22) - (a 146 23)) - (a 146 25)) * 2) + 1).toNat ≤ n → iv a → jfr jW_X12_wordHere a0 a → 1 ≤ a 146 22 → 1 ≤ a 146 25 → (a 146 23) + (a 146 25) ≤ a 146 22 → a0 146 23 ≤ a 146 23 → ((a0 146 23 < a0 146 22 ∧ ¬ a0 164 ((a0 146 23).toNat) = 32) → a 146 23 = a0 146 23) → jt (jxX E d 216 74 [some (.inr (.inr (.inl 146))), none, none, none, none] [] (jxSH, a, b0)) (jQ_X12_wordHere a0 b0)) ∧ (∀ (a : Nat → Nat → Int), (((((a 146 22) - (a 146 23)) - (a 146 25)) * 2) + 0).toNat ≤ n → iv a → jfr jW_X12_wordHere a0 a → 1 ≤ a 146 22 → (a 146 23) + (a 146 25) ≤ a 146 22 → a0 146 23 ≤ a 146 23 → (a 146 23) + (a 146 25) < a 146 22 → ((a0 146 23 < a0 146 22 ∧ ¬ a0 164 ((a0 146 23).toNat) = 32) → a 146 23 = a0 146 23) → jt (jxX E d 216 45 [some (.inr (.inr (.inl 146))), none, none, none, none] [] (jxSH, a, b0)) (jQ_X12_wordHere a0 b0)) ∧ (∀ (a : Nat → Nat → Int), (((((a 146 22) - (a 146 23)) - (a 146 25)) * 2) + 0).toNat ≤ n → iv a → jfr jW_X12_wordHere a0 a → (a 146 23) + (a 146 25) ≤ a 146 22 → a0 146 23 ≤ a 146 23 → ((a0 146 23 < a0 146 22 ∧ ¬ a0 164 ((a0 146 23).toNat) = 32) → a 146 23 = a0 146 23) → jt (jxX E d 216 10 [some (.inr (.inr (.inl 146))), none, none, none, none] [] (jxSH, a, b0)) (jQ_X12_wordHere a0 b0)) := by
  refine jx_ind fun n ih => ?_
  have ih74 : ∀ (a : Nat → Nat → Int), (((((a 146 22) - (a 146 23)) - (a 146 25)) * 2) + 1).toNat < n → iv a → jfr jW_X12_wordHere a0 a → 1 ≤ a 146 22 → 1 ≤ a 146 25 → (a 146 23) + (a 146 25) ≤ a 146 22 → a0 146 23 ≤ a 146 23 → ((a0 146 23 < a0 146 22 ∧ ¬ a0 164 ((a0 146 23).toNat) = 32) → a 146 23 = a0 146 23) → jt (jxX E d 216 74 [some (.inr (.inr (.inl 146))), none, none, none, none] [] (jxSH, a, b0)) (jQ_X12_wordHere a0 b0) := fun a hlt i0 i1 i2 i3 i4 i5 i6 => (ih _ hlt).1 a (Nat.le_refl _) i0 i1 i2 i3 i4 i5 i6
  have ih45 : ∀ (a : Nat → Nat → Int), (((((a 146 22) - (a 146 23)) - (a 146 25)) * 2) + 0).toNat < n → iv a → jfr jW_X12_wordHere a0 a → 1 ≤ a 146 22 → (a 146 23) + (a 146 25) ≤ a 146 22 → a0 146 23 ≤ a 146 23 → (a 146 23) + (a 146 25) < a 146 22 → ((a0 146 23 < a0 146 22 ∧ ¬ a0 164 ((a0 146 23).toNat) = 32) → a 146 23 = a0 146 23) → jt (jxX E d 216 45 [some (.inr (.inr (.inl 146))), none, none, none, none] [] (jxSH, a, b0)) (jQ_X12_wordHere a0 b0) := fun a hlt i0 i1 i2 i3 i4 i5 i6 => (ih _ hlt).2.1 a (Nat.le_refl _) i0 i1 i2 i3 i4 i5 i6
  have ih10 : ∀ (a : Nat → Nat → Int), (((((a 146 22) - (a 146 23)) - (a 146 25)) * 2) + 0).toNat < n → iv a → jfr jW_X12_wordHere a0 a → (a 146 23) + (a 146 25) ≤ a 146 22 → a0 146 23 ≤ a 146 23 → ((a0 146 23 < a0 146 22 ∧ ¬ a0 164 ((a0 146 23).toNat) = 32) → a 146 23 = a0 146 23) → jt (jxX E d 216 10 [some (.inr (.inr (.inl 146))), none, none, none, none] [] (jxSH, a, b0)) (jQ_X12_wordHere a0 b0) := fun a hlt i0 i1 i2 i3 i4 => (ih _ hlt).2.2 a (Nat.le_refl _) i0 i1 i2 i3 i4
  have hc74 : ∀ (a : Nat → Nat → Int), (((((a 146 22) - (a 146 23)) - (a 146 25)) * 2) + 1).toNat ≤ n → iv a → jfr jW_X12_wordHere a0 a → 1 ≤ a 146 22 → 1 ≤ a 146 25 → (a 146 23) + (a 146 25) ≤ a 146 22 → a0 146 23 ≤ a 146 23 → ((a0 146 23 < a0 146 22 ∧ ¬ a0 164 ((a0 146 23).toNat) = 32) → a 146 23 = a0 146 23) → jt (jxX E d 216 74 [some (.inr (.inr (.inl 146))), none, none, none, none] [] (jxSH, a, b0)) (jQ_X12_wordHere a0 b0) := by
    intro a hm hv hf hi0 hi1 hi2 hi3 hi4
    refine jt_eq (bq_X12_wordHere_74 E d a b0) ?_
    have h1128_ := iv_get hv (k := 146) (j := 22) (l := 0) (u := 200) rfl
    have h1129_ : a 146 22 = a0 146 22 := hf 146 22 rfl
    have h1130_ := iv_get hv0 (k := 146) (j := 22) (l := 0) (u := 200) rfl
    have h1131_ := iv_get hv (k := 146) (j := 25) (l := 0) (u := 200) rfl
    have h1132_ := iv_get hv (k := 146) (j := 23) (l := 0) (u := 200) rfl
    have h1133_ := iv_get hv0 (k := 146) (j := 23) (l := 0) (u := 200) rfl
    have h1134_ := iv_get hv0 (k := 164) (j := (a0 146 23).toNat) (l := (-128)) (u := 127) rfl
    exact ih10 a (show (((((a 146 22) - (a 146 23)) - (a 146 25)) * 2) + 0).toNat < n from by omega) hv hf (show (a 146 23) + (a 146 25) ≤ a 146 22 from by omega) (show a0 146 23 ≤ a 146 23 from by omega) (show ((a0 146 23 < a0 146 22 ∧ ¬ a0 164 ((a0 146 23).toNat) = 32) → a 146 23 = a0 146 23) from by omega)
  have hc45 : ∀ (a : Nat → Nat → Int), (((((a 146 22) - (a 146 23)) - (a 146 25)) * 2) + 0).toNat ≤ n → iv a → jfr jW_X12_wordHere a0 a → 1 ≤ a 146 22 → (a 146 23) + (a 146 25) ≤ a 146 22 → a0 146 23 ≤ a 146 23 → (a 146 23) + (a 146 25) < a 146 22 → ((a0 146 23 < a0 146 22 ∧ ¬ a0 164 ((a0 146 23).toNat) = 32) → a 146 23 = a0 146 23) → jt (jxX E d 216 45 [some (.inr (.inr (.inl 146))), none, none, none, none] [] (jxSH, a, b0)) (jQ_X12_wordHere a0 b0) := by
    intro a hm hv hf hi0 hi1 hi2 hi3 hi4
    refine jt_eq (bq_X12_wordHere_45 E d a b0) ?_
    have h1135_ := iv_get hv (k := 146) (j := 22) (l := 0) (u := 200) rfl
    have h1136_ : a 146 22 = a0 146 22 := hf 146 22 rfl
    have h1137_ := iv_get hv0 (k := 146) (j := 22) (l := 0) (u := 200) rfl
    have h1138_ := iv_get hv (k := 146) (j := 23) (l := 0) (u := 200) rfl
    have h1139_ := iv_get hv (k := 146) (j := 25) (l := 0) (u := 200) rfl
    have h1140_ := iv_get hv0 (k := 146) (j := 23) (l := 0) (u := 200) rfl
    have h1141_ := iv_get hv0 (k := 164) (j := (a0 146 23).toNat) (l := (-128)) (u := 127) rfl
    have h1142_ : jxw ((a 146 23) + (a 146 25)) = (a 146 23) + (a 146 25) := jxw_id (by omega) (by omega)
    refine jt_grd (by omega) ?_
    have h1143_ := iv_get hv (k := 164) (j := (jxw ((a 146 23) + (a 146 25))).toNat) (l := (-128)) (u := 127) rfl
    have h1144_ : a 164 ((jxw ((a 146 23) + (a 146 25))).toNat) = a0 164 ((jxw ((a 146 23) + (a 146 25))).toNat) := hf 164 ((jxw ((a 146 23) + (a 146 25))).toNat) rfl
    have h1145_ := iv_get hv0 (k := 164) (j := (jxw ((a 146 23) + (a 146 25))).toNat) (l := (-128)) (u := 127) rfl
    refine jt_ite (fun c1146_ => ?_) (fun c1146_ => ?_)
    ·
      exact cp_X12_wordHere_77 E d hd a0 b0 hv0 hp0 a hv hf (show (a 146 23) + (a 146 25) ≤ a 146 22 from by omega) (show a0 146 23 ≤ a 146 23 from by omega) (show ((a0 146 23 < a0 146 22 ∧ ¬ a0 164 ((a0 146 23).toNat) = 32) → a 146 23 = a0 146 23) from by omega)
    ·
      have h1148_ : jxw ((a 146 25) + 1) = (a 146 25) + 1 := jxw_id (by omega) (by omega)
      have hv1147_ : iv (jxu a 146 25 (jxw ((a 146 25) + 1))) := iv_put hv (l := 0) (u := 200) rfl (by omega) (by omega)
      have hf1149_ : jfr jW_X12_wordHere a0 (jxu a 146 25 (jxw ((a 146 25) + 1))) := jfr_put hf rfl
      exact hc74 (jxu a 146 25 (jxw ((a 146 25) + 1))) (show (((((a 146 22) - (a 146 23)) - (jxw ((a 146 25) + 1))) * 2) + 1).toNat ≤ n from by omega) hv1147_ hf1149_ (show 1 ≤ a 146 22 from by omega) (show 1 ≤ jxw ((a 146 25) + 1) from by omega) (show (a 146 23) + (jxw ((a 146 25) + 1)) ≤ a 146 22 from by omega) (show a0 146 23 ≤ a 146 23 from by omega) (show ((a0 146 23 < a0 146 22 ∧ ¬ a0 164 ((a0 146 23).toNat) = 32) → a 146 23 = a0 146 23) from by omega)
  have hc10 : ∀ (a : Nat → Nat → Int), (((((a 146 22) - (a 146 23)) - (a 146 25)) * 2) + 0).toNat ≤ n → iv a → jfr jW_X12_wordHere a0 a → (a 146 23) + (a 146 25) ≤ a 146 22 → a0 146 23 ≤ a 146 23 → ((a0 146 23 < a0 146 22 ∧ ¬ a0 164 ((a0 146 23).toNat) = 32) → a 146 23 = a0 146 23) → jt (jxX E d 216 10 [some (.inr (.inr (.inl 146))), none, none, none, none] [] (jxSH, a, b0)) (jQ_X12_wordHere a0 b0) := by
    intro a hm hv hf hi0 hi1 hi2
    refine jt_eq (bq_X12_wordHere_10 E d a b0) ?_
    have h1150_ := iv_get hv (k := 146) (j := 23) (l := 0) (u := 200) rfl
    have h1151_ := iv_get hv (k := 146) (j := 25) (l := 0) (u := 200) rfl
    have h1152_ := iv_get hv (k := 146) (j := 22) (l := 0) (u := 200) rfl
    have h1153_ : a 146 22 = a0 146 22 := hf 146 22 rfl
    have h1154_ := iv_get hv0 (k := 146) (j := 22) (l := 0) (u := 200) rfl
    have h1155_ := iv_get hv0 (k := 146) (j := 23) (l := 0) (u := 200) rfl
    have h1156_ := iv_get hv0 (k := 164) (j := (a0 146 23).toNat) (l := (-128)) (u := 127) rfl
    have h1157_ : jxw ((a 146 23) + (a 146 25)) = (a 146 23) + (a 146 25) := jxw_id (by omega) (by omega)
    refine jt_ite (fun c1158_ => ?_) (fun c1158_ => ?_)
    ·
      refine jt_grd (by omega) ?_
      have h1159_ := iv_get hv (k := 164) (j := (jxw ((a 146 23) + (a 146 25))).toNat) (l := (-128)) (u := 127) rfl
      have h1160_ : a 164 ((jxw ((a 146 23) + (a 146 25))).toNat) = a0 164 ((jxw ((a 146 23) + (a 146 25))).toNat) := hf 164 ((jxw ((a 146 23) + (a 146 25))).toNat) rfl
      have h1161_ := iv_get hv0 (k := 164) (j := (jxw ((a 146 23) + (a 146 25))).toNat) (l := (-128)) (u := 127) rfl
      refine jt_ite (fun c1162_ => ?_) (fun c1162_ => ?_)
      ·
        exact cp_X12_wordHere_77 E d hd a0 b0 hv0 hp0 a hv hf (show (a 146 23) + (a 146 25) ≤ a 146 22 from by omega) (show a0 146 23 ≤ a 146 23 from by omega) (show ((a0 146 23 < a0 146 22 ∧ ¬ a0 164 ((a0 146 23).toNat) = 32) → a 146 23 = a0 146 23) from by omega)
      ·
        exact hc45 a (show (((((a 146 22) - (a 146 23)) - (a 146 25)) * 2) + 0).toNat ≤ n from by omega) hv hf (show 1 ≤ a 146 22 from by omega) (show (a 146 23) + (a 146 25) ≤ a 146 22 from by omega) (show a0 146 23 ≤ a 146 23 from by omega) (show (a 146 23) + (a 146 25) < a 146 22 from by omega) (show ((a0 146 23 < a0 146 22 ∧ ¬ a0 164 ((a0 146 23).toNat) = 32) → a 146 23 = a0 146 23) from by omega)
    ·
      exact cp_X12_wordHere_77 E d hd a0 b0 hv0 hp0 a hv hf (show (a 146 23) + (a 146 25) ≤ a 146 22 from by omega) (show a0 146 23 ≤ a 146 23 from by omega) (show ((a0 146 23 < a0 146 22 ∧ ¬ a0 164 ((a0 146 23).toNat) = 32) → a 146 23 = a0 146 23) from by omega)
  exact ⟨hc74, hc45, hc10⟩
theorem sp_X12_wordHere (E : jxE) (d : Nat) (hd : Nat.ble 2 d = true) (a0 b0 : Nat → Nat → Int) (hv0 : iv a0) (hp0 : a0 146 23 ≤ a0 146 22) : jt (jxC E d 216 [.inr (.inr (.inl 146))] (jxSH, a0, b0)) (jQ_X12_wordHere a0 b0) := by
  obtain ⟨d, rfl⟩ := jd_succ hd
  refine jt_eq (bq_X12_wordHere E d a0 b0) ?_
  have h1163_ := iv_get hv0 (k := 146) (j := 23) (l := 0) (u := 200) rfl
  have h1164_ := iv_get hv0 (k := 146) (j := 22) (l := 0) (u := 200) rfl
  refine jt_bI (sp_X12_see E d (jd_le hd rfl) a0 b0 hv0 (show a0 146 23 ≤ a0 146 22 from by omega)) (fun r1165_ a1165_ b1165_ h1165_ => ?_)
  obtain ⟨hv1165_, hf1165_, rfl, hq1165_0, hq1165_1, hq1165_2, hq1165_3⟩ := h1165_
  have h1166_ := iv_get hv1165_ (k := 146) (j := 23) (l := 0) (u := 200) rfl
  have h1167_ := iv_get hv1165_ (k := 164) (j := (a1165_ 146 23).toNat) (l := (-128)) (u := 127) rfl
  have h1168_ : a1165_ 164 ((a1165_ 146 23).toNat) = a0 164 ((a1165_ 146 23).toNat) := hf1165_ 164 ((a1165_ 146 23).toNat) rfl
  have h1169_ := iv_get hv0 (k := 164) (j := (a1165_ 146 23).toNat) (l := (-128)) (u := 127) rfl
  have h1170_ := iv_get hv0 (k := 164) (j := (a0 146 23).toNat) (l := (-128)) (u := 127) rfl
  have hv1171_ : iv (jxu a1165_ 146 25 0) := iv_put hv1165_ (l := 0) (u := 200) rfl (by omega) (by omega)
  have hf1172_ : jfr jW_X12_wordHere a0 a1165_ := jfr_tr (jfr_rf _ _) hf1165_ rfl
  have hf1173_ : jfr jW_X12_wordHere a0 (jxu a1165_ 146 25 0) := jfr_put hf1172_ rfl
  have h1174_ := iv_get hv1165_ (k := 146) (j := 22) (l := 0) (u := 200) rfl
  have h1175_ : a1165_ 146 22 = a0 146 22 := hf1165_ 146 22 rfl
  exact (cp_X12_wordHere_10 E d hd a0 b0 hv0 hp0 _).2.2 (jxu a1165_ 146 25 0) (Nat.le_refl _) hv1171_ hf1173_ (show (a1165_ 146 23) + 0 ≤ a1165_ 146 22 from by omega) (show a0 146 23 ≤ a1165_ 146 23 from by omega) (show ((a0 146 23 < a0 146 22 ∧ ¬ a0 164 ((a0 146 23).toNat) = 32) → a1165_ 146 23 = a0 146 23) from by omega)
def jW_X12_writes : List (Nat × Nat) := [(146, 32), (168, 9999)]
abbrev jQ_X12_writes (x1 : Int) (a0 b0 : Nat → Nat → Int) : List jxV → (Nat → Nat → Int) → (Nat → Nat → Int) → Prop := rV (fun a b => (iv a) ∧ (jfr jW_X12_writes a0 a) ∧ (b0 = b) ∧ (a 146 32 = (a0 146 32) + 1) ∧ (a 168 (a0 146 32).toNat = x1) ∧ (∀ k, ¬ k = (a0 146 32).toNat → a 168 k = a0 168 k))
theorem sp_X12_writes (E : jxE) (d : Nat) (hd : Nat.ble 1 d = true) (x1 : Int) (a0 b0 : Nat → Nat → Int) (hv0 : iv a0) (hp0 : a0 146 32 < 64) : jt (jxC E d 218 [.inr (.inr (.inl 146)), .inl x1] (jxSH, a0, b0)) (jQ_X12_writes x1 a0 b0) := by
  obtain ⟨d, rfl⟩ := jd_succ hd
  refine jt_eq (bq_X12_writes E d x1 a0 b0) ?_
  have h1176_ := iv_get hv0 (k := 146) (j := 32) (l := 0) (u := 64) rfl
  refine jt_grd (by omega) ?_
  have hv1177_ : iv (jxu a0 168 ((a0 146 32).toNat) x1) := iv_putf hv0 rfl
  have h1179_ : jxw ((a0 146 32) + 1) = (a0 146 32) + 1 := jxw_id (by omega) (by omega)
  have hv1178_ : iv (jxu (jxu a0 168 ((a0 146 32).toNat) x1) 146 32 (jxw ((a0 146 32) + 1))) := iv_put hv1177_ (l := 0) (u := 64) rfl (by omega) (by omega)
  have hf1180_ : jfr jW_X12_writes a0 (jxu a0 168 ((a0 146 32).toNat) x1) := jfr_put (jfr_rf _ _) rfl
  have hf1181_ : jfr jW_X12_writes a0 (jxu (jxu a0 168 ((a0 146 32).toNat) x1) 146 32 (jxw ((a0 146 32) + 1))) := jfr_put hf1180_ rfl
  exact jt_rV ⟨hv1178_, hf1181_, rfl, (show jxw ((a0 146 32) + 1) = (a0 146 32) + 1 from by omega), (by simp [jxu]), (by intro k hk; simp [jxu, hk])⟩
def jWat : List (Nat × Nat) := [(146, 23), (146, 24), (146, 26), (146, 27), (146, 33)]
def jW_X12_atom : List (Nat × Nat) := [(146, 23), (146, 24), (146, 26), (146, 27), (146, 32), (146, 33), (168, 9999)]
abbrev jQ_X12_atom (x1 : Int) (a0 b0 : Nat → Nat → Int) : List jxV → (Nat → Nat → Int) → (Nat → Nat → Int) → Prop := rI (fun r a b => (iv a) ∧ (jfr jW_X12_atom a0 a) ∧ (b0 = b) ∧ ((0 ≤ r ∧ r ≤ 1)) ∧ (a0 146 23 ≤ a 146 23) ∧ (a 146 23 ≤ a 146 22) ∧ ((r = 1 → (a0 146 23) + 2 ≤ a 146 23)) ∧ (((r = 0 ∧ a 146 32 = a0 146 32) ∨ (r = 1 ∧ a 146 32 = (a0 146 32) + 1))) ∧ (r = 1 → 1024 ≤ a 168 (a0 146 32).toNat) ∧ (∀ k : Nat, (k : Int) < a0 146 32 → a 168 k = a0 168 k))
theorem cp_X12_atom_113 (E : jxE) (d : Nat) (hd : Nat.ble 3 (d + 1) = true) (x1 : Int) (a0 b0 : Nat → Nat → Int) (hv0 : iv a0) (hp0 : (a0 146 23) + (a0 146 25) ≤ a0 146 22) (hp1 : (0 ≤ x1 → 2 ≤ a0 146 25)) (hp2 : a0 146 32 < 64) (hp3 : x1 ≤ 15) (hp4 : 0 - 1 ≤ x1) : ∀ (y1 : Int) (a : Nat → Nat → Int), iv a → jfr jW_X12_atom a0 a → 3 ≤ y1 → y1 ≤ 9 → 1 ≤ a 146 33 → a 146 23 ≤ a 146 22 → (a0 146 23) + 2 ≤ a 146 23 → 3 ≤ y1 → y1 ≤ 9 → a 146 32 = a0 146 32 → (jfr jWat a0 a) → jt (jxX E d 220 113 [some (.inr (.inr (.inl 146))), some (.inl y1)] [] (jxSH, a, b0)) (jQ_X12_atom x1 a0 b0) := by
  intro y1 a hv hf hi0 hi1 hi2 hi3 hi4 hi5 hi6 hi7 hfat
  refine jt_eq (bq_X12_atom_113 E d y1 a b0) ?_
  have h1182_ := iv_get hv (k := 146) (j := 33) (l := 0) (u := 12) rfl
  have h1183_ := iv_get hv (k := 146) (j := 23) (l := 0) (u := 200) rfl
  have h1184_ := iv_get hv (k := 146) (j := 22) (l := 0) (u := 200) rfl
  have h1185_ : a 146 22 = a0 146 22 := hf 146 22 rfl
  have h1186_ := iv_get hv0 (k := 146) (j := 22) (l := 0) (u := 200) rfl
  have h1187_ := iv_get hv0 (k := 146) (j := 23) (l := 0) (u := 200) rfl
  have h1188_ := iv_get hv (k := 146) (j := 32) (l := 0) (u := 64) rfl
  have h1189_ := iv_get hv0 (k := 146) (j := 32) (l := 0) (u := 64) rfl
  refine jt_bV (sp_X12_writes E d (jd_le hd rfl) (jxw ((jxw (1024 * (jxw (1 + y1)))) + (a 146 26))) a b0 hv (show a 146 32 < 64 from by omega)) (fun a1190_ b1190_ h1190_ => ?_)
  obtain ⟨hv1190_, hf1190_, rfl, hq1190_0, hq1190_1, hq1190_2⟩ := h1190_
  have h1191_ := iv_get hv1190_ (k := 146) (j := 32) (l := 0) (u := 64) rfl
  have i26_1190 := iv_get hv (k := 146) (j := 26) (l := 0) (u := 999) rfl
  have hA1190 : jxw ((jxw (1024 * (jxw (1 + y1)))) + (a 146 26)) = 1024 * (1 + y1) + a 146 26 := by
    have := iv_get hv (k := 146) (j := 26) (l := 0) (u := 999) rfl
    rw [jxw_id (x := 1 + y1) (by omega) (by omega), jxw_id (x := 1024 * (1 + y1)) (by omega) (by omega), jxw_id (by omega) (by omega)]
  have hf1192_ : jfr jW_X12_atom a0 a1190_ := jfr_tr hf hf1190_ rfl
  have h1193_ := iv_get hv1190_ (k := 146) (j := 23) (l := 0) (u := 200) rfl
  have h1194_ : a1190_ 146 23 = a 146 23 := hf1190_ 146 23 rfl
  have h1195_ := iv_get hv1190_ (k := 146) (j := 22) (l := 0) (u := 200) rfl
  have h1196_ : a1190_ 146 22 = a 146 22 := hf1190_ 146 22 rfl
  exact jt_rI ⟨hv1190_, hf1192_, rfl, (show (0 ≤ 1 ∧ 1 ≤ 1) from by omega), (show a0 146 23 ≤ a1190_ 146 23 from by omega), (show a1190_ 146 23 ≤ a1190_ 146 22 from by omega), (show (1 = 1 → (a0 146 23) + 2 ≤ a1190_ 146 23) from by omega), (show ((1 = 0 ∧ a1190_ 146 32 = a0 146 32) ∨ (1 = 1 ∧ a1190_ 146 32 = (a0 146 32) + 1)) from by omega), (fun _ => by rw [show (a0 146 32).toNat = (a 146 32).toNat from (by omega), hq1190_1, hA1190]; omega), (fun k hk => by rw [hq1190_2 k (by omega)]; exact hfat 168 k rfl)⟩
theorem cp_X12_atom_105 (E : jxE) (d : Nat) (hd : Nat.ble 3 (d + 1) = true) (x1 : Int) (a0 b0 : Nat → Nat → Int) (hv0 : iv a0) (hp0 : (a0 146 23) + (a0 146 25) ≤ a0 146 22) (hp1 : (0 ≤ x1 → 2 ≤ a0 146 25)) (hp2 : a0 146 32 < 64) (hp3 : x1 ≤ 15) (hp4 : 0 - 1 ≤ x1) : ∀ (y1 s1 s2 : Int) (a : Nat → Nat → Int), iv a → jfr jW_X12_atom a0 a → 3 ≤ y1 → y1 ≤ 8 → 0 ≤ s1 → s1 ≤ 0 → 15 ≤ s2 → s2 ≤ 999 → 1 ≤ a 146 33 → a 146 23 ≤ a 146 22 → (a0 146 23) + 2 ≤ a 146 23 → 3 ≤ y1 → y1 ≤ 9 → a 146 32 = a0 146 32 → (jfr jWat a0 a) → jt (jxX E d 220 105 [some (.inr (.inr (.inl 146))), some (.inl y1)] [.inl s2, .inl s1, .inr (.inr (.inl 146))] (jxSH, a, b0)) (jQ_X12_atom x1 a0 b0) := by
  intro y1 s1 s2 a hv hf hi0 hi1 hi2 hi3 hi4 hi5 hi6 hi7 hi8 hi9 hi10 hi11 hfat
  refine jt_eq (bq_X12_atom_105 E d y1 s1 s2 a b0) ?_
  have h1197_ := iv_get hv (k := 146) (j := 33) (l := 0) (u := 12) rfl
  have h1198_ := iv_get hv (k := 146) (j := 23) (l := 0) (u := 200) rfl
  have h1199_ := iv_get hv (k := 146) (j := 22) (l := 0) (u := 200) rfl
  have h1200_ : a 146 22 = a0 146 22 := hf 146 22 rfl
  have h1201_ := iv_get hv0 (k := 146) (j := 22) (l := 0) (u := 200) rfl
  have h1202_ := iv_get hv0 (k := 146) (j := 23) (l := 0) (u := 200) rfl
  have h1203_ := iv_get hv (k := 146) (j := 32) (l := 0) (u := 64) rfl
  have h1204_ := iv_get hv0 (k := 146) (j := 32) (l := 0) (u := 64) rfl
  refine jt_bI (sp_X12_number E d (jd_le hd rfl) s1 s2 a b0 hv (show a 146 23 ≤ a 146 22 from by omega)) (fun r1205_ a1205_ b1205_ h1205_ => ?_)
  obtain ⟨hv1205_, hf1205_, rfl, hq1205_0, hq1205_1, hq1205_2, hq1205_3⟩ := h1205_
  have h1206_ := iv_get hv1205_ (k := 146) (j := 23) (l := 0) (u := 200) rfl
  have h1207_ := iv_get hv1205_ (k := 146) (j := 26) (l := 0) (u := 999) rfl
  refine jt_ite (fun c1208_ => ?_) (fun c1208_ => ?_)
  ·
    have hf1209_ : jfr jW_X12_atom a0 a1205_ := jfr_tr hf hf1205_ rfl
    have h1210_ := iv_get hv1205_ (k := 146) (j := 22) (l := 0) (u := 200) rfl
    have h1211_ : a1205_ 146 22 = a 146 22 := hf1205_ 146 22 rfl
    have h1212_ := iv_get hv1205_ (k := 146) (j := 32) (l := 0) (u := 64) rfl
    have h1213_ : a1205_ 146 32 = a 146 32 := hf1205_ 146 32 rfl
    have hf1214_ : jfr jWat a0 a1205_ := jfr_tr hfat hf1205_ rfl
    exact jt_rI ⟨hv1205_, hf1209_, rfl, (show (0 ≤ 0 ∧ 0 ≤ 1) from by omega), (show a0 146 23 ≤ a1205_ 146 23 from by omega), (show a1205_ 146 23 ≤ a1205_ 146 22 from by omega), (show (0 = 1 → (a0 146 23) + 2 ≤ a1205_ 146 23) from by omega), (show ((0 = 0 ∧ a1205_ 146 32 = a0 146 32) ∨ (0 = 1 ∧ a1205_ 146 32 = (a0 146 32) + 1)) from by omega), (fun h => by omega), (fun k _ => hf1214_ 168 k rfl)⟩
  ·
    have hf1215_ : jfr jW_X12_atom a0 a1205_ := jfr_tr hf hf1205_ rfl
    have h1216_ := iv_get hv1205_ (k := 146) (j := 33) (l := 0) (u := 12) rfl
    have h1217_ : a1205_ 146 33 = a 146 33 := hf1205_ 146 33 rfl
    have h1218_ := iv_get hv1205_ (k := 146) (j := 22) (l := 0) (u := 200) rfl
    have h1219_ : a1205_ 146 22 = a 146 22 := hf1205_ 146 22 rfl
    have h1220_ := iv_get hv1205_ (k := 146) (j := 32) (l := 0) (u := 64) rfl
    have h1221_ : a1205_ 146 32 = a 146 32 := hf1205_ 146 32 rfl
    have hf1222_ : jfr jWat a0 a1205_ := jfr_tr hfat hf1205_ rfl
    exact cp_X12_atom_113 E d hd x1 a0 b0 hv0 hp0 hp1 hp2 hp3 hp4 y1 a1205_ hv1205_ hf1215_ (show 3 ≤ y1 from by omega) (show y1 ≤ 9 from by omega) (show 1 ≤ a1205_ 146 33 from by omega) (show a1205_ 146 23 ≤ a1205_ 146 22 from by omega) (show (a0 146 23) + 2 ≤ a1205_ 146 23 from by omega) (show 3 ≤ y1 from by omega) (show y1 ≤ 9 from by omega) (show a1205_ 146 32 = a0 146 32 from by omega) hf1222_
theorem cp_X12_atom_79 (E : jxE) (d : Nat) (hd : Nat.ble 3 (d + 1) = true) (x1 : Int) (a0 b0 : Nat → Nat → Int) (hv0 : iv a0) (hp0 : (a0 146 23) + (a0 146 25) ≤ a0 146 22) (hp1 : (0 ≤ x1 → 2 ≤ a0 146 25)) (hp2 : a0 146 32 < 64) (hp3 : x1 ≤ 15) (hp4 : 0 - 1 ≤ x1) : ∀ (y1 : Int) (a : Nat → Nat → Int), iv a → jfr jW_X12_atom a0 a → 3 ≤ y1 → y1 ≤ 8 → 1 ≤ a 146 33 → a 146 23 ≤ a 146 22 → (a0 146 23) + 2 ≤ a 146 23 → 3 ≤ y1 → y1 ≤ 9 → a 146 32 = a0 146 32 → (jfr jWat a0 a) → jt (jxX E d 220 79 [some (.inr (.inr (.inl 146))), some (.inl y1)] [] (jxSH, a, b0)) (jQ_X12_atom x1 a0 b0) := by
  intro y1 a hv hf hi0 hi1 hi2 hi3 hi4 hi5 hi6 hi7 hfat
  refine jt_eq (bq_X12_atom_79 E d y1 a b0) ?_
  have h1223_ := iv_get hv (k := 146) (j := 33) (l := 0) (u := 12) rfl
  have h1224_ := iv_get hv (k := 146) (j := 23) (l := 0) (u := 200) rfl
  have h1225_ := iv_get hv (k := 146) (j := 22) (l := 0) (u := 200) rfl
  have h1226_ : a 146 22 = a0 146 22 := hf 146 22 rfl
  have h1227_ := iv_get hv0 (k := 146) (j := 22) (l := 0) (u := 200) rfl
  have h1228_ := iv_get hv0 (k := 146) (j := 23) (l := 0) (u := 200) rfl
  have h1229_ := iv_get hv (k := 146) (j := 32) (l := 0) (u := 64) rfl
  have h1230_ := iv_get hv0 (k := 146) (j := 32) (l := 0) (u := 64) rfl
  refine jt_ite (fun c1231_ => ?_) (fun c1231_ => ?_)
  ·
    refine jt_ite (fun c1232_ => ?_) (fun c1232_ => ?_)
    ·
      exact cp_X12_atom_105 E d hd x1 a0 b0 hv0 hp0 hp1 hp2 hp3 hp4 y1 0 999 a hv hf (show 3 ≤ y1 from by omega) (show y1 ≤ 8 from by omega) (show 0 ≤ 0 from by omega) (show 0 ≤ 0 from by omega) (show 15 ≤ 999 from by omega) (show 999 ≤ 999 from by omega) (show 1 ≤ a 146 33 from by omega) (show a 146 23 ≤ a 146 22 from by omega) (show (a0 146 23) + 2 ≤ a 146 23 from by omega) (show 3 ≤ y1 from by omega) (show y1 ≤ 9 from by omega) (show a 146 32 = a0 146 32 from by omega) hfat
    ·
      exact cp_X12_atom_105 E d hd x1 a0 b0 hv0 hp0 hp1 hp2 hp3 hp4 y1 0 99 a hv hf (show 3 ≤ y1 from by omega) (show y1 ≤ 8 from by omega) (show 0 ≤ 0 from by omega) (show 0 ≤ 0 from by omega) (show 15 ≤ 99 from by omega) (show 99 ≤ 999 from by omega) (show 1 ≤ a 146 33 from by omega) (show a 146 23 ≤ a 146 22 from by omega) (show (a0 146 23) + 2 ≤ a 146 23 from by omega) (show 3 ≤ y1 from by omega) (show y1 ≤ 9 from by omega) (show a 146 32 = a0 146 32 from by omega) hfat
  ·
    exact cp_X12_atom_105 E d hd x1 a0 b0 hv0 hp0 hp1 hp2 hp3 hp4 y1 0 15 a hv hf (show 3 ≤ y1 from by omega) (show y1 ≤ 8 from by omega) (show 0 ≤ 0 from by omega) (show 0 ≤ 0 from by omega) (show 15 ≤ 15 from by omega) (show 15 ≤ 999 from by omega) (show 1 ≤ a 146 33 from by omega) (show a 146 23 ≤ a 146 22 from by omega) (show (a0 146 23) + 2 ≤ a 146 23 from by omega) (show 3 ≤ y1 from by omega) (show y1 ≤ 9 from by omega) (show a 146 32 = a0 146 32 from by omega) hfat
theorem cp_X12_atom_53 (E : jxE) (d : Nat) (hd : Nat.ble 3 (d + 1) = true) (x1 : Int) (a0 b0 : Nat → Nat → Int) (hv0 : iv a0) (hp0 : (a0 146 23) + (a0 146 25) ≤ a0 146 22) (hp1 : (0 ≤ x1 → 2 ≤ a0 146 25)) (hp2 : a0 146 32 < 64) (hp3 : x1 ≤ 15) (hp4 : 0 - 1 ≤ x1) : ∀ (y1 : Int) (a : Nat → Nat → Int), iv a → jfr jW_X12_atom a0 a → 3 ≤ y1 → y1 ≤ 9 → a 146 33 ≤ 11 → a 146 23 ≤ a 146 22 → (a0 146 23) + 2 ≤ a 146 23 → 3 ≤ y1 → y1 ≤ 9 → a 146 32 = a0 146 32 → (jfr jWat a0 a) → jt (jxX E d 220 53 [some (.inr (.inr (.inl 146))), some (.inl y1)] [] (jxSH, a, b0)) (jQ_X12_atom x1 a0 b0) := by
  intro y1 a hv hf hi0 hi1 hi2 hi3 hi4 hi5 hi6 hi7 hfat
  refine jt_eq (bq_X12_atom_53 E d y1 a b0) ?_
  have h1233_ := iv_get hv (k := 146) (j := 33) (l := 0) (u := 12) rfl
  have h1234_ := iv_get hv (k := 146) (j := 23) (l := 0) (u := 200) rfl
  have h1235_ := iv_get hv (k := 146) (j := 22) (l := 0) (u := 200) rfl
  have h1236_ : a 146 22 = a0 146 22 := hf 146 22 rfl
  have h1237_ := iv_get hv0 (k := 146) (j := 22) (l := 0) (u := 200) rfl
  have h1238_ := iv_get hv0 (k := 146) (j := 23) (l := 0) (u := 200) rfl
  have h1239_ := iv_get hv (k := 146) (j := 32) (l := 0) (u := 64) rfl
  have h1240_ := iv_get hv0 (k := 146) (j := 32) (l := 0) (u := 64) rfl
  refine jt_ite (fun c1241_ => ?_) (fun c1241_ => ?_)
  ·
    have h1243_ : jxw ((a 146 33) + 1) = (a 146 33) + 1 := jxw_id (by omega) (by omega)
    have hv1242_ : iv (jxu a 146 33 (jxw ((a 146 33) + 1))) := iv_put hv (l := 0) (u := 12) rfl (by omega) (by omega)
    have hv1244_ : iv (jxu (jxu a 146 33 (jxw ((a 146 33) + 1))) 146 26 0) := iv_put hv1242_ (l := 0) (u := 999) rfl (by omega) (by omega)
    have hf1245_ : jfr jW_X12_atom a0 (jxu a 146 33 (jxw ((a 146 33) + 1))) := jfr_put hf rfl
    have hf1246_ : jfr jW_X12_atom a0 (jxu (jxu a 146 33 (jxw ((a 146 33) + 1))) 146 26 0) := jfr_put hf1245_ rfl
    have hf1247_ : jfr jWat a0 (jxu a 146 33 (jxw ((a 146 33) + 1))) := jfr_put hfat rfl
    have hf1248_ : jfr jWat a0 (jxu (jxu a 146 33 (jxw ((a 146 33) + 1))) 146 26 0) := jfr_put hf1247_ rfl
    exact cp_X12_atom_113 E d hd x1 a0 b0 hv0 hp0 hp1 hp2 hp3 hp4 y1 (jxu (jxu a 146 33 (jxw ((a 146 33) + 1))) 146 26 0) hv1244_ hf1246_ (show 3 ≤ y1 from by omega) (show y1 ≤ 9 from by omega) (show 1 ≤ jxw ((a 146 33) + 1) from by omega) (show a 146 23 ≤ a 146 22 from by omega) (show (a0 146 23) + 2 ≤ a 146 23 from by omega) (show 3 ≤ y1 from by omega) (show y1 ≤ 9 from by omega) (show a 146 32 = a0 146 32 from by omega) hf1248_
  ·
    refine jt_ite (fun c1249_ => ?_) (fun c1249_ => ?_)
    ·
      have h1251_ : jxw ((a 146 33) + 1) = (a 146 33) + 1 := jxw_id (by omega) (by omega)
      have hv1250_ : iv (jxu a 146 33 (jxw ((a 146 33) + 1))) := iv_put hv (l := 0) (u := 12) rfl (by omega) (by omega)
      have hv1252_ : iv (jxu (jxu a 146 33 (jxw ((a 146 33) + 1))) 146 26 0) := iv_put hv1250_ (l := 0) (u := 999) rfl (by omega) (by omega)
      have hf1253_ : jfr jW_X12_atom a0 (jxu a 146 33 (jxw ((a 146 33) + 1))) := jfr_put hf rfl
      have hf1254_ : jfr jW_X12_atom a0 (jxu (jxu a 146 33 (jxw ((a 146 33) + 1))) 146 26 0) := jfr_put hf1253_ rfl
      have hf1255_ : jfr jWat a0 (jxu a 146 33 (jxw ((a 146 33) + 1))) := jfr_put hfat rfl
      have hf1256_ : jfr jWat a0 (jxu (jxu a 146 33 (jxw ((a 146 33) + 1))) 146 26 0) := jfr_put hf1255_ rfl
      exact cp_X12_atom_113 E d hd x1 a0 b0 hv0 hp0 hp1 hp2 hp3 hp4 y1 (jxu (jxu a 146 33 (jxw ((a 146 33) + 1))) 146 26 0) hv1252_ hf1254_ (show 3 ≤ y1 from by omega) (show y1 ≤ 9 from by omega) (show 1 ≤ jxw ((a 146 33) + 1) from by omega) (show a 146 23 ≤ a 146 22 from by omega) (show (a0 146 23) + 2 ≤ a 146 23 from by omega) (show 3 ≤ y1 from by omega) (show y1 ≤ 9 from by omega) (show a 146 32 = a0 146 32 from by omega) hf1256_
    ·
      have h1258_ : jxw ((a 146 33) + 1) = (a 146 33) + 1 := jxw_id (by omega) (by omega)
      have hv1257_ : iv (jxu a 146 33 (jxw ((a 146 33) + 1))) := iv_put hv (l := 0) (u := 12) rfl (by omega) (by omega)
      have hv1259_ : iv (jxu (jxu a 146 33 (jxw ((a 146 33) + 1))) 146 26 0) := iv_put hv1257_ (l := 0) (u := 999) rfl (by omega) (by omega)
      have hf1260_ : jfr jW_X12_atom a0 (jxu a 146 33 (jxw ((a 146 33) + 1))) := jfr_put hf rfl
      have hf1261_ : jfr jW_X12_atom a0 (jxu (jxu a 146 33 (jxw ((a 146 33) + 1))) 146 26 0) := jfr_put hf1260_ rfl
      have hf1262_ : jfr jWat a0 (jxu a 146 33 (jxw ((a 146 33) + 1))) := jfr_put hfat rfl
      have hf1263_ : jfr jWat a0 (jxu (jxu a 146 33 (jxw ((a 146 33) + 1))) 146 26 0) := jfr_put hf1262_ rfl
      exact cp_X12_atom_79 E d hd x1 a0 b0 hv0 hp0 hp1 hp2 hp3 hp4 y1 (jxu (jxu a 146 33 (jxw ((a 146 33) + 1))) 146 26 0) hv1259_ hf1261_ (show 3 ≤ y1 from by omega) (show y1 ≤ 8 from by omega) (show 1 ≤ jxw ((a 146 33) + 1) from by omega) (show a 146 23 ≤ a 146 22 from by omega) (show (a0 146 23) + 2 ≤ a 146 23 from by omega) (show 3 ≤ y1 from by omega) (show y1 ≤ 9 from by omega) (show a 146 32 = a0 146 32 from by omega) hf1263_
theorem sp_X12_atom (E : jxE) (d : Nat) (hd : Nat.ble 3 d = true) (x1 : Int) (a0 b0 : Nat → Nat → Int) (hv0 : iv a0) (hp0 : (a0 146 23) + (a0 146 25) ≤ a0 146 22) (hp1 : (0 ≤ x1 → 2 ≤ a0 146 25)) (hp2 : a0 146 32 < 64) (hp3 : x1 ≤ 15) (hp4 : 0 - 1 ≤ x1) : jt (jxC E d 220 [.inr (.inr (.inl 146)), .inl x1] (jxSH, a0, b0)) (jQ_X12_atom x1 a0 b0) := by
  obtain ⟨d, rfl⟩ := jd_succ hd
  refine jt_eq (bq_X12_atom E d x1 a0 b0) ?_
  have h1264_ := iv_get hv0 (k := 146) (j := 23) (l := 0) (u := 200) rfl
  have h1265_ := iv_get hv0 (k := 146) (j := 25) (l := 0) (u := 200) rfl
  have h1266_ := iv_get hv0 (k := 146) (j := 22) (l := 0) (u := 200) rfl
  have h1267_ := iv_get hv0 (k := 146) (j := 32) (l := 0) (u := 64) rfl
  refine jt_ite (fun c1268_ => ?_) (fun c1268_ => ?_)
  ·
    refine jt_bI (sp_X12_fails E d (jd_le hd rfl) 0 (a0 146 23) a0 b0 hv0) (fun r1269_ a1269_ b1269_ h1269_ => ?_)
    obtain ⟨hv1269_, hf1269_, rfl, hq1269_0, hq1269_1⟩ := h1269_
    refine jt_grd (by omega) ?_
    have hf1270_ : jfr jW_X12_atom a0 a1269_ := jfr_tr (jfr_rf _ _) hf1269_ rfl
    have h1271_ := iv_get hv1269_ (k := 146) (j := 23) (l := 0) (u := 200) rfl
    have h1272_ : a1269_ 146 23 = a0 146 23 := hf1269_ 146 23 rfl
    have h1273_ := iv_get hv1269_ (k := 146) (j := 22) (l := 0) (u := 200) rfl
    have h1274_ : a1269_ 146 22 = a0 146 22 := hf1269_ 146 22 rfl
    have h1275_ := iv_get hv1269_ (k := 146) (j := 32) (l := 0) (u := 64) rfl
    have h1276_ : a1269_ 146 32 = a0 146 32 := hf1269_ 146 32 rfl
    have hf1277_ : jfr jWat a0 a1269_ := jfr_tr (jfr_rf _ _) hf1269_ rfl
    exact jt_rI ⟨hv1269_, hf1270_, rfl, (show (0 ≤ r1269_ ∧ r1269_ ≤ 1) from by omega), (show a0 146 23 ≤ a1269_ 146 23 from by omega), (show a1269_ 146 23 ≤ a1269_ 146 22 from by omega), (show (r1269_ = 1 → (a0 146 23) + 2 ≤ a1269_ 146 23) from by omega), (show ((r1269_ = 0 ∧ a1269_ 146 32 = a0 146 32) ∨ (r1269_ = 1 ∧ a1269_ 146 32 = (a0 146 32) + 1)) from by omega), (fun h => by omega), (fun k _ => hf1277_ 168 k rfl)⟩
  ·
    refine jt_ite (fun c1278_ => ?_) (fun c1278_ => ?_)
    ·
      refine jt_bI (sp_X12_fails E d (jd_le hd rfl) 0 (a0 146 23) a0 b0 hv0) (fun r1279_ a1279_ b1279_ h1279_ => ?_)
      obtain ⟨hv1279_, hf1279_, rfl, hq1279_0, hq1279_1⟩ := h1279_
      refine jt_grd (by omega) ?_
      have hf1280_ : jfr jW_X12_atom a0 a1279_ := jfr_tr (jfr_rf _ _) hf1279_ rfl
      have h1281_ := iv_get hv1279_ (k := 146) (j := 23) (l := 0) (u := 200) rfl
      have h1282_ : a1279_ 146 23 = a0 146 23 := hf1279_ 146 23 rfl
      have h1283_ := iv_get hv1279_ (k := 146) (j := 22) (l := 0) (u := 200) rfl
      have h1284_ : a1279_ 146 22 = a0 146 22 := hf1279_ 146 22 rfl
      have h1285_ := iv_get hv1279_ (k := 146) (j := 32) (l := 0) (u := 64) rfl
      have h1286_ : a1279_ 146 32 = a0 146 32 := hf1279_ 146 32 rfl
      have hf1287_ : jfr jWat a0 a1279_ := jfr_tr (jfr_rf _ _) hf1279_ rfl
      exact jt_rI ⟨hv1279_, hf1280_, rfl, (show (0 ≤ r1279_ ∧ r1279_ ≤ 1) from by omega), (show a0 146 23 ≤ a1279_ 146 23 from by omega), (show a1279_ 146 23 ≤ a1279_ 146 22 from by omega), (show (r1279_ = 1 → (a0 146 23) + 2 ≤ a1279_ 146 23) from by omega), (show ((r1279_ = 0 ∧ a1279_ 146 32 = a0 146 32) ∨ (r1279_ = 1 ∧ a1279_ 146 32 = (a0 146 32) + 1)) from by omega), (fun h => by omega), (fun k _ => hf1287_ 168 k rfl)⟩
    ·
      have h1288_ := iv_get hv0 (k := 146) (j := 33) (l := 0) (u := 12) rfl
      refine jt_ite (fun c1289_ => ?_) (fun c1289_ => ?_)
      ·
        refine jt_bI (sp_X12_fails E d (jd_le hd rfl) 2 (a0 146 23) a0 b0 hv0) (fun r1290_ a1290_ b1290_ h1290_ => ?_)
        obtain ⟨hv1290_, hf1290_, rfl, hq1290_0, hq1290_1⟩ := h1290_
        refine jt_grd (by omega) ?_
        have hf1291_ : jfr jW_X12_atom a0 a1290_ := jfr_tr (jfr_rf _ _) hf1290_ rfl
        have h1292_ := iv_get hv1290_ (k := 146) (j := 23) (l := 0) (u := 200) rfl
        have h1293_ : a1290_ 146 23 = a0 146 23 := hf1290_ 146 23 rfl
        have h1294_ := iv_get hv1290_ (k := 146) (j := 22) (l := 0) (u := 200) rfl
        have h1295_ : a1290_ 146 22 = a0 146 22 := hf1290_ 146 22 rfl
        have h1296_ := iv_get hv1290_ (k := 146) (j := 32) (l := 0) (u := 64) rfl
        have h1297_ : a1290_ 146 32 = a0 146 32 := hf1290_ 146 32 rfl
        have hf1298_ : jfr jWat a0 a1290_ := jfr_tr (jfr_rf _ _) hf1290_ rfl
        exact jt_rI ⟨hv1290_, hf1291_, rfl, (show (0 ≤ r1290_ ∧ r1290_ ≤ 1) from by omega), (show a0 146 23 ≤ a1290_ 146 23 from by omega), (show a1290_ 146 23 ≤ a1290_ 146 22 from by omega), (show (r1290_ = 1 → (a0 146 23) + 2 ≤ a1290_ 146 23) from by omega), (show ((r1290_ = 0 ∧ a1290_ 146 32 = a0 146 32) ∨ (r1290_ = 1 ∧ a1290_ 146 32 = (a0 146 32) + 1)) from by omega), (fun h => by omega), (fun k _ => hf1298_ 168 k rfl)⟩
      ·
        have h1300_ : jxw ((a0 146 23) + (a0 146 25)) = (a0 146 23) + (a0 146 25) := jxw_id (by omega) (by omega)
        have hv1299_ : iv (jxu a0 146 23 (jxw ((a0 146 23) + (a0 146 25)))) := iv_put hv0 (l := 0) (u := 200) rfl (by omega) (by omega)
        have hf1301_ : jfr jW_X12_atom a0 (jxu a0 146 23 (jxw ((a0 146 23) + (a0 146 25)))) := jfr_put (jfr_rf _ _) rfl
        have hf1302_ : jfr jWat a0 (jxu a0 146 23 (jxw ((a0 146 23) + (a0 146 25)))) := jfr_put (jfr_rf _ _) rfl
        exact cp_X12_atom_53 E d hd x1 a0 b0 hv0 hp0 hp1 hp2 hp3 hp4 x1 (jxu a0 146 23 (jxw ((a0 146 23) + (a0 146 25)))) hv1299_ hf1301_ (show 3 ≤ x1 from by omega) (show x1 ≤ 9 from by omega) (show a0 146 33 ≤ 11 from by omega) (show jxw ((a0 146 23) + (a0 146 25)) ≤ a0 146 22 from by omega) (show (a0 146 23) + 2 ≤ jxw ((a0 146 23) + (a0 146 25)) from by omega) (show 3 ≤ x1 from by omega) (show x1 ≤ 9 from by omega) (show a0 146 32 = a0 146 32 from by omega) hf1302_
def jW_X12_clause : List (Nat × Nat) := [(146, 23), (146, 24), (146, 25), (146, 26), (146, 27), (195, 9999)]
abbrev jQ_X12_clause (x1 : Int) (a0 b0 : Nat → Nat → Int) : List jxV → (Nat → Nat → Int) → (Nat → Nat → Int) → Prop := rI (fun r a b => (iv a) ∧ (jfr jW_X12_clause a0 a) ∧ (b0 = b) ∧ ((0 ≤ r ∧ r ≤ 1)) ∧ (a0 146 23 ≤ a 146 23) ∧ (a 146 23 ≤ a 146 22) ∧ ((r = 1 → (x1 < 12 ∧ (a0 146 23) + 2 ≤ a 146 23))))
theorem cp_X12_clause_155 (E : jxE) (d : Nat) (hd : Nat.ble 3 (d + 1) = true) (x1 : Int) (a0 b0 : Nat → Nat → Int) (hv0 : iv a0) (hp0 : a0 146 23 ≤ a0 146 22) (hp1 : 0 ≤ x1) (hp2 : x1 ≤ 12) : ∀ (a : Nat → Nat → Int), iv a → jfr jW_X12_clause a0 a → a0 146 23 ≤ a 146 23 → a 146 23 ≤ a 146 22 → jt (jxX E d 281 155 [none, none, none, none, none] [] (jxSH, a, b0)) (jQ_X12_clause x1 a0 b0) := by
  intro a hv hf hi0 hi1
  refine jt_eq (bq_X12_clause_155 E d a b0) ?_
  have h1303_ := iv_get hv0 (k := 146) (j := 23) (l := 0) (u := 200) rfl
  have h1304_ := iv_get hv (k := 146) (j := 23) (l := 0) (u := 200) rfl
  have h1305_ := iv_get hv (k := 146) (j := 22) (l := 0) (u := 200) rfl
  have h1306_ : a 146 22 = a0 146 22 := hf 146 22 rfl
  have h1307_ := iv_get hv0 (k := 146) (j := 22) (l := 0) (u := 200) rfl
  exact jt_rI ⟨hv, hf, rfl, (show (0 ≤ 0 ∧ 0 ≤ 1) from by omega), (show a0 146 23 ≤ a 146 23 from by omega), (show a 146 23 ≤ a 146 22 from by omega), (show (0 = 1 → (x1 < 12 ∧ (a0 146 23) + 2 ≤ a 146 23)) from by omega)⟩
theorem cp_X12_clause_157 (E : jxE) (d : Nat) (hd : Nat.ble 3 (d + 1) = true) (x1 : Int) (a0 b0 : Nat → Nat → Int) (hv0 : iv a0) (hp0 : a0 146 23 ≤ a0 146 22) (hp1 : 0 ≤ x1) (hp2 : x1 ≤ 12) : ∀ (y1 : Int) (a : Nat → Nat → Int), iv a → jfr jW_X12_clause a0 a → 0 ≤ y1 → y1 ≤ 11 → a 146 23 ≤ a 146 22 → (a0 146 23) + 2 ≤ a 146 23 → y1 = x1 → y1 < 12 → 0 ≤ y1 → a 146 26 ≤ 900 → jt (jxX E d 281 157 [some (.inr (.inr (.inl 146))), some (.inl y1), none, none, none] [] (jxSH, a, b0)) (jQ_X12_clause x1 a0 b0) := by
  intro y1 a hv hf hi0 hi1 hi2 hi3 hi4 hi5 hi6 hi7
  refine jt_eq (bq_X12_clause_157 E d y1 a b0) ?_
  have h1308_ := iv_get hv (k := 146) (j := 23) (l := 0) (u := 200) rfl
  have h1309_ := iv_get hv (k := 146) (j := 22) (l := 0) (u := 200) rfl
  have h1310_ : a 146 22 = a0 146 22 := hf 146 22 rfl
  have h1311_ := iv_get hv0 (k := 146) (j := 22) (l := 0) (u := 200) rfl
  have h1312_ := iv_get hv0 (k := 146) (j := 23) (l := 0) (u := 200) rfl
  have h1313_ := iv_get hv (k := 146) (j := 26) (l := 0) (u := 999) rfl
  have h1314_ : jxw (3 * y1) = 3 * y1 := jxw_id (by omega) (by omega)
  have h1315_ : jxw ((jxw (3 * y1)) + 2) = (jxw (3 * y1)) + 2 := jxw_id (by omega) (by omega)
  refine jt_grd (by omega) ?_
  have hv1316_ : iv (jxu a 195 ((jxw ((jxw (3 * y1)) + 2)).toNat) (a 146 26)) := iv_put hv (l := 0) (u := 900) rfl (by omega) (by omega)
  have hf1317_ : jfr jW_X12_clause a0 (jxu a 195 ((jxw ((jxw (3 * y1)) + 2)).toNat) (a 146 26)) := jfr_put hf rfl
  exact jt_rI ⟨hv1316_, hf1317_, rfl, (show (0 ≤ 1 ∧ 1 ≤ 1) from by omega), (show a0 146 23 ≤ a 146 23 from by omega), (show a 146 23 ≤ a 146 22 from by omega), (show (1 = 1 → (x1 < 12 ∧ (a0 146 23) + 2 ≤ a 146 23)) from by omega)⟩
theorem cp_X12_clause_130 (E : jxE) (d : Nat) (hd : Nat.ble 3 (d + 1) = true) (x1 : Int) (a0 b0 : Nat → Nat → Int) (hv0 : iv a0) (hp0 : a0 146 23 ≤ a0 146 22) (hp1 : 0 ≤ x1) (hp2 : x1 ≤ 12) : ∀ (y1 : Int) (a : Nat → Nat → Int), iv a → jfr jW_X12_clause a0 a → 0 ≤ y1 → y1 ≤ 11 → a 146 23 ≤ a 146 22 → (a0 146 23) + 2 ≤ a 146 23 → y1 = x1 → y1 < 12 → 0 ≤ y1 → a 146 26 ≤ 500 → jt (jxX E d 281 130 [some (.inr (.inr (.inl 146))), some (.inl y1), none, none, none] [] (jxSH, a, b0)) (jQ_X12_clause x1 a0 b0) := by
  intro y1 a hv hf hi0 hi1 hi2 hi3 hi4 hi5 hi6 hi7
  refine jt_eq (bq_X12_clause_130 E d y1 a b0) ?_
  have h1318_ := iv_get hv (k := 146) (j := 23) (l := 0) (u := 200) rfl
  have h1319_ := iv_get hv (k := 146) (j := 22) (l := 0) (u := 200) rfl
  have h1320_ : a 146 22 = a0 146 22 := hf 146 22 rfl
  have h1321_ := iv_get hv0 (k := 146) (j := 22) (l := 0) (u := 200) rfl
  have h1322_ := iv_get hv0 (k := 146) (j := 23) (l := 0) (u := 200) rfl
  have h1323_ := iv_get hv (k := 146) (j := 26) (l := 0) (u := 999) rfl
  have h1324_ : jxw (3 * y1) = 3 * y1 := jxw_id (by omega) (by omega)
  have h1325_ : jxw ((jxw (3 * y1)) + 1) = (jxw (3 * y1)) + 1 := jxw_id (by omega) (by omega)
  refine jt_grd (by omega) ?_
  have hv1326_ : iv (jxu a 195 ((jxw ((jxw (3 * y1)) + 1)).toNat) (a 146 26)) := iv_put hv (l := 0) (u := 900) rfl (by omega) (by omega)
  refine jt_bI (sp_X12_number E d (jd_le hd rfl) 1 900 (jxu a 195 ((jxw ((jxw (3 * y1)) + 1)).toNat) (a 146 26)) b0 hv1326_ (show a 146 23 ≤ a 146 22 from by omega)) (fun r1327_ a1327_ b1327_ h1327_ => ?_)
  obtain ⟨hv1327_, hf1327_, rfl, hq1327_0, hq1327_1, hq1327_2, hq1327_3⟩ := h1327_
  have h1328_ := iv_get hv1327_ (k := 146) (j := 23) (l := 0) (u := 200) rfl
  have h1329_ : a 146 23 ≤ a1327_ 146 23 := hq1327_1
  have h1330_ : a1327_ 146 23 ≤ a 146 22 := hq1327_2
  have h1331_ := iv_get hv1327_ (k := 146) (j := 26) (l := 0) (u := 999) rfl
  have h1332_ : (r1327_ = 1 → (1 ≤ a1327_ 146 26 ∧ a1327_ 146 26 ≤ 900)) := hq1327_3
  refine jt_ite (fun c1333_ => ?_) (fun c1333_ => ?_)
  ·
    have hf1334_ : jfr jW_X12_clause a0 (jxu a 195 ((jxw ((jxw (3 * y1)) + 1)).toNat) (a 146 26)) := jfr_put hf rfl
    have hf1335_ : jfr jW_X12_clause a0 a1327_ := jfr_tr hf1334_ hf1327_ rfl
    have h1336_ := iv_get hv1327_ (k := 146) (j := 22) (l := 0) (u := 200) rfl
    have h1337_ : a1327_ 146 22 = a 146 22 := hf1327_ 146 22 rfl
    exact cp_X12_clause_155 E d hd x1 a0 b0 hv0 hp0 hp1 hp2 a1327_ hv1327_ hf1335_ (show a0 146 23 ≤ a1327_ 146 23 from by omega) (show a1327_ 146 23 ≤ a1327_ 146 22 from by omega)
  ·
    have hf1338_ : jfr jW_X12_clause a0 (jxu a 195 ((jxw ((jxw (3 * y1)) + 1)).toNat) (a 146 26)) := jfr_put hf rfl
    have hf1339_ : jfr jW_X12_clause a0 a1327_ := jfr_tr hf1338_ hf1327_ rfl
    have h1340_ := iv_get hv1327_ (k := 146) (j := 22) (l := 0) (u := 200) rfl
    have h1341_ : a1327_ 146 22 = a 146 22 := hf1327_ 146 22 rfl
    exact cp_X12_clause_157 E d hd x1 a0 b0 hv0 hp0 hp1 hp2 y1 a1327_ hv1327_ hf1339_ (show 0 ≤ y1 from by omega) (show y1 ≤ 11 from by omega) (show a1327_ 146 23 ≤ a1327_ 146 22 from by omega) (show (a0 146 23) + 2 ≤ a1327_ 146 23 from by omega) (show y1 = x1 from by omega) (show y1 < 12 from by omega) (show 0 ≤ y1 from by omega) (show a1327_ 146 26 ≤ 900 from by omega)
theorem cp_X12_clause_69 (E : jxE) (d : Nat) (hd : Nat.ble 3 (d + 1) = true) (x1 : Int) (a0 b0 : Nat → Nat → Int) (hv0 : iv a0) (hp0 : a0 146 23 ≤ a0 146 22) (hp1 : 0 ≤ x1) (hp2 : x1 ≤ 12) : ∀ n : Nat, (∀ (y1 y2 y3 y4 : Int) (a : Nat → Nat → Int), (((11 - y4) * 1) + 0).toNat ≤ n → iv a → jfr jW_X12_clause a0 a → 1 ≤ y1 → y1 ≤ 11 → 0 ≤ y2 → y2 ≤ 999 → 0 ≤ y3 → y3 ≤ 900 → 0 ≤ y4 → y4 ≤ 10 → a 146 23 ≤ a 146 22 → (a0 146 23) + 2 ≤ a 146 23 → y1 = x1 → y1 < 12 → 0 ≤ y1 → 0 ≤ y2 → y2 ≤ 3 → 0 ≤ y3 → y3 ≤ 900 → 0 ≤ y4 → y4 < y1 → jt (jxX E d 281 100 [some (.inr (.inr (.inl 146))), some (.inl y1), some (.inl y2), some (.inl y3), some (.inl y4)] [] (jxSH, a, b0)) (jQ_X12_clause x1 a0 b0)) ∧ (∀ (y1 y2 y3 y4 : Int) (a : Nat → Nat → Int), (((11 - y4) * 1) + 0).toNat ≤ n → iv a → jfr jW_X12_clause a0 a → 0 ≤ y1 → y1 ≤ 11 → 0 ≤ y2 → y2 ≤ 999 → 0 ≤ y3 → y3 ≤ 900 → 0 ≤ y4 → y4 ≤ 11 → a 146 23 ≤ a 146 22 → (a0 146 23) + 2 ≤ a 146 23 → y1 = x1 → y1 < 12 → 0 ≤ y1 → 0 ≤ y2 → y2 ≤ 3 → 0 ≤ y3 → y3 ≤ 900 → 0 ≤ y4 → y4 ≤ y1 → jt (jxX E d 281 69 [some (.inr (.inr (.inl 146))), some (.inl y1), some (.inl y2), some (.inl y3), some (.inl y4)] [] (jxSH, a, b0)) (jQ_X12_clause x1 a0 b0)) := by
  refine jx_ind fun n ih => ?_
  have ih100 : ∀ (y1 y2 y3 y4 : Int) (a : Nat → Nat → Int), (((11 - y4) * 1) + 0).toNat < n → iv a → jfr jW_X12_clause a0 a → 1 ≤ y1 → y1 ≤ 11 → 0 ≤ y2 → y2 ≤ 999 → 0 ≤ y3 → y3 ≤ 900 → 0 ≤ y4 → y4 ≤ 10 → a 146 23 ≤ a 146 22 → (a0 146 23) + 2 ≤ a 146 23 → y1 = x1 → y1 < 12 → 0 ≤ y1 → 0 ≤ y2 → y2 ≤ 3 → 0 ≤ y3 → y3 ≤ 900 → 0 ≤ y4 → y4 < y1 → jt (jxX E d 281 100 [some (.inr (.inr (.inl 146))), some (.inl y1), some (.inl y2), some (.inl y3), some (.inl y4)] [] (jxSH, a, b0)) (jQ_X12_clause x1 a0 b0) := fun y1 y2 y3 y4 a hlt i0 i1 i2 i3 i4 i5 i6 i7 i8 i9 i10 i11 i12 i13 i14 i15 i16 i17 i18 i19 i20 => (ih _ hlt).1 y1 y2 y3 y4 a (Nat.le_refl _) i0 i1 i2 i3 i4 i5 i6 i7 i8 i9 i10 i11 i12 i13 i14 i15 i16 i17 i18 i19 i20
  have ih69 : ∀ (y1 y2 y3 y4 : Int) (a : Nat → Nat → Int), (((11 - y4) * 1) + 0).toNat < n → iv a → jfr jW_X12_clause a0 a → 0 ≤ y1 → y1 ≤ 11 → 0 ≤ y2 → y2 ≤ 999 → 0 ≤ y3 → y3 ≤ 900 → 0 ≤ y4 → y4 ≤ 11 → a 146 23 ≤ a 146 22 → (a0 146 23) + 2 ≤ a 146 23 → y1 = x1 → y1 < 12 → 0 ≤ y1 → 0 ≤ y2 → y2 ≤ 3 → 0 ≤ y3 → y3 ≤ 900 → 0 ≤ y4 → y4 ≤ y1 → jt (jxX E d 281 69 [some (.inr (.inr (.inl 146))), some (.inl y1), some (.inl y2), some (.inl y3), some (.inl y4)] [] (jxSH, a, b0)) (jQ_X12_clause x1 a0 b0) := fun y1 y2 y3 y4 a hlt i0 i1 i2 i3 i4 i5 i6 i7 i8 i9 i10 i11 i12 i13 i14 i15 i16 i17 i18 i19 i20 => (ih _ hlt).2 y1 y2 y3 y4 a (Nat.le_refl _) i0 i1 i2 i3 i4 i5 i6 i7 i8 i9 i10 i11 i12 i13 i14 i15 i16 i17 i18 i19 i20
  have hc100 : ∀ (y1 y2 y3 y4 : Int) (a : Nat → Nat → Int), (((11 - y4) * 1) + 0).toNat ≤ n → iv a → jfr jW_X12_clause a0 a → 1 ≤ y1 → y1 ≤ 11 → 0 ≤ y2 → y2 ≤ 999 → 0 ≤ y3 → y3 ≤ 900 → 0 ≤ y4 → y4 ≤ 10 → a 146 23 ≤ a 146 22 → (a0 146 23) + 2 ≤ a 146 23 → y1 = x1 → y1 < 12 → 0 ≤ y1 → 0 ≤ y2 → y2 ≤ 3 → 0 ≤ y3 → y3 ≤ 900 → 0 ≤ y4 → y4 < y1 → jt (jxX E d 281 100 [some (.inr (.inr (.inl 146))), some (.inl y1), some (.inl y2), some (.inl y3), some (.inl y4)] [] (jxSH, a, b0)) (jQ_X12_clause x1 a0 b0) := by
    intro y1 y2 y3 y4 a hm hv hf hi0 hi1 hi2 hi3 hi4 hi5 hi6 hi7 hi8 hi9 hi10 hi11 hi12 hi13 hi14 hi15 hi16 hi17 hi18
    refine jt_eq (bq_X12_clause_100 E d y1 y2 y3 y4 a b0) ?_
    have h1342_ := iv_get hv (k := 146) (j := 23) (l := 0) (u := 200) rfl
    have h1343_ := iv_get hv (k := 146) (j := 22) (l := 0) (u := 200) rfl
    have h1344_ : a 146 22 = a0 146 22 := hf 146 22 rfl
    have h1345_ := iv_get hv0 (k := 146) (j := 22) (l := 0) (u := 200) rfl
    have h1346_ := iv_get hv0 (k := 146) (j := 23) (l := 0) (u := 200) rfl
    have h1347_ : jxw (y4 + 1) = y4 + 1 := jxw_id (by omega) (by omega)
    exact ih69 y1 y2 y3 (jxw (y4 + 1)) a (show (((11 - (jxw (y4 + 1))) * 1) + 0).toNat < n from by omega) hv hf (show 0 ≤ y1 from by omega) (show y1 ≤ 11 from by omega) (show 0 ≤ y2 from by omega) (show y2 ≤ 999 from by omega) (show 0 ≤ y3 from by omega) (show y3 ≤ 900 from by omega) (show 0 ≤ jxw (y4 + 1) from by omega) (show jxw (y4 + 1) ≤ 11 from by omega) (show a 146 23 ≤ a 146 22 from by omega) (show (a0 146 23) + 2 ≤ a 146 23 from by omega) (show y1 = x1 from by omega) (show y1 < 12 from by omega) (show 0 ≤ y1 from by omega) (show 0 ≤ y2 from by omega) (show y2 ≤ 3 from by omega) (show 0 ≤ y3 from by omega) (show y3 ≤ 900 from by omega) (show 0 ≤ jxw (y4 + 1) from by omega) (show jxw (y4 + 1) ≤ y1 from by omega)
  have hc69 : ∀ (y1 y2 y3 y4 : Int) (a : Nat → Nat → Int), (((11 - y4) * 1) + 0).toNat ≤ n → iv a → jfr jW_X12_clause a0 a → 0 ≤ y1 → y1 ≤ 11 → 0 ≤ y2 → y2 ≤ 999 → 0 ≤ y3 → y3 ≤ 900 → 0 ≤ y4 → y4 ≤ 11 → a 146 23 ≤ a 146 22 → (a0 146 23) + 2 ≤ a 146 23 → y1 = x1 → y1 < 12 → 0 ≤ y1 → 0 ≤ y2 → y2 ≤ 3 → 0 ≤ y3 → y3 ≤ 900 → 0 ≤ y4 → y4 ≤ y1 → jt (jxX E d 281 69 [some (.inr (.inr (.inl 146))), some (.inl y1), some (.inl y2), some (.inl y3), some (.inl y4)] [] (jxSH, a, b0)) (jQ_X12_clause x1 a0 b0) := by
    intro y1 y2 y3 y4 a hm hv hf hi0 hi1 hi2 hi3 hi4 hi5 hi6 hi7 hi8 hi9 hi10 hi11 hi12 hi13 hi14 hi15 hi16 hi17 hi18
    refine jt_eq (bq_X12_clause_69 E d y1 y2 y3 y4 a b0) ?_
    have h1348_ := iv_get hv (k := 146) (j := 23) (l := 0) (u := 200) rfl
    have h1349_ := iv_get hv (k := 146) (j := 22) (l := 0) (u := 200) rfl
    have h1350_ : a 146 22 = a0 146 22 := hf 146 22 rfl
    have h1351_ := iv_get hv0 (k := 146) (j := 22) (l := 0) (u := 200) rfl
    have h1352_ := iv_get hv0 (k := 146) (j := 23) (l := 0) (u := 200) rfl
    refine jt_ite (fun c1353_ => ?_) (fun c1353_ => ?_)
    ·
      have h1354_ : jxw (3 * y4) = 3 * y4 := jxw_id (by omega) (by omega)
      refine jt_grd (by omega) ?_
      have h1355_ := iv_get hv (k := 195) (j := (jxw (3 * y4)).toNat) (l := 0) (u := 900) rfl
      refine jt_ite (fun c1356_ => ?_) (fun c1356_ => ?_)
      ·
        have h1357_ : jxw ((jxw (3 * y4)) + 1) = (jxw (3 * y4)) + 1 := jxw_id (by omega) (by omega)
        refine jt_grd (by omega) ?_
        have h1358_ := iv_get hv (k := 195) (j := (jxw ((jxw (3 * y4)) + 1)).toNat) (l := 0) (u := 900) rfl
        exact hc100 y1 y2 (a 195 ((jxw ((jxw (3 * y4)) + 1)).toNat)) y4 a (show (((11 - y4) * 1) + 0).toNat ≤ n from by omega) hv hf (show 1 ≤ y1 from by omega) (show y1 ≤ 11 from by omega) (show 0 ≤ y2 from by omega) (show y2 ≤ 999 from by omega) (show 0 ≤ a 195 ((jxw ((jxw (3 * y4)) + 1)).toNat) from by omega) (show a 195 ((jxw ((jxw (3 * y4)) + 1)).toNat) ≤ 900 from by omega) (show 0 ≤ y4 from by omega) (show y4 ≤ 10 from by omega) (show a 146 23 ≤ a 146 22 from by omega) (show (a0 146 23) + 2 ≤ a 146 23 from by omega) (show y1 = x1 from by omega) (show y1 < 12 from by omega) (show 0 ≤ y1 from by omega) (show 0 ≤ y2 from by omega) (show y2 ≤ 3 from by omega) (show 0 ≤ a 195 ((jxw ((jxw (3 * y4)) + 1)).toNat) from by omega) (show a 195 ((jxw ((jxw (3 * y4)) + 1)).toNat) ≤ 900 from by omega) (show 0 ≤ y4 from by omega) (show y4 < y1 from by omega)
      ·
        exact hc100 y1 y2 y3 y4 a (show (((11 - y4) * 1) + 0).toNat ≤ n from by omega) hv hf (show 1 ≤ y1 from by omega) (show y1 ≤ 11 from by omega) (show 0 ≤ y2 from by omega) (show y2 ≤ 999 from by omega) (show 0 ≤ y3 from by omega) (show y3 ≤ 900 from by omega) (show 0 ≤ y4 from by omega) (show y4 ≤ 10 from by omega) (show a 146 23 ≤ a 146 22 from by omega) (show (a0 146 23) + 2 ≤ a 146 23 from by omega) (show y1 = x1 from by omega) (show y1 < 12 from by omega) (show 0 ≤ y1 from by omega) (show 0 ≤ y2 from by omega) (show y2 ≤ 3 from by omega) (show 0 ≤ y3 from by omega) (show y3 ≤ 900 from by omega) (show 0 ≤ y4 from by omega) (show y4 < y1 from by omega)
    ·
      refine jt_bI (sp_X12_number E d (jd_le hd rfl) (jxw (y3 + 1)) 500 a b0 hv (show a 146 23 ≤ a 146 22 from by omega)) (fun r1359_ a1359_ b1359_ h1359_ => ?_)
      obtain ⟨hv1359_, hf1359_, rfl, hq1359_0, hq1359_1, hq1359_2, hq1359_3⟩ := h1359_
      have h1360_ := iv_get hv1359_ (k := 146) (j := 23) (l := 0) (u := 200) rfl
      have h1361_ : jxw (y3 + 1) = y3 + 1 := jxw_id (by omega) (by omega)
      have h1362_ := iv_get hv1359_ (k := 146) (j := 26) (l := 0) (u := 999) rfl
      refine jt_ite (fun c1363_ => ?_) (fun c1363_ => ?_)
      ·
        have hf1364_ : jfr jW_X12_clause a0 a1359_ := jfr_tr hf hf1359_ rfl
        have h1365_ := iv_get hv1359_ (k := 146) (j := 22) (l := 0) (u := 200) rfl
        have h1366_ : a1359_ 146 22 = a 146 22 := hf1359_ 146 22 rfl
        exact jt_rI ⟨hv1359_, hf1364_, rfl, (show (0 ≤ 0 ∧ 0 ≤ 1) from by omega), (show a0 146 23 ≤ a1359_ 146 23 from by omega), (show a1359_ 146 23 ≤ a1359_ 146 22 from by omega), (show (0 = 1 → (x1 < 12 ∧ (a0 146 23) + 2 ≤ a1359_ 146 23)) from by omega)⟩
      ·
        have h1367_ : jxw (3 * y1) = 3 * y1 := jxw_id (by omega) (by omega)
        refine jt_grd (by omega) ?_
        have hv1368_ : iv (jxu a1359_ 195 ((jxw (3 * y1)).toNat) y2) := iv_put hv1359_ (l := 0) (u := 900) rfl (by omega) (by omega)
        have hf1369_ : jfr jW_X12_clause a0 a1359_ := jfr_tr hf hf1359_ rfl
        have hf1370_ : jfr jW_X12_clause a0 (jxu a1359_ 195 ((jxw (3 * y1)).toNat) y2) := jfr_put hf1369_ rfl
        have h1371_ := iv_get hv1359_ (k := 146) (j := 22) (l := 0) (u := 200) rfl
        have h1372_ : a1359_ 146 22 = a 146 22 := hf1359_ 146 22 rfl
        exact cp_X12_clause_130 E d hd x1 a0 b0 hv0 hp0 hp1 hp2 y1 (jxu a1359_ 195 ((jxw (3 * y1)).toNat) y2) hv1368_ hf1370_ (show 0 ≤ y1 from by omega) (show y1 ≤ 11 from by omega) (show a1359_ 146 23 ≤ a1359_ 146 22 from by omega) (show (a0 146 23) + 2 ≤ a1359_ 146 23 from by omega) (show y1 = x1 from by omega) (show y1 < 12 from by omega) (show 0 ≤ y1 from by omega) (show a1359_ 146 26 ≤ 500 from by omega)
  exact ⟨hc100, hc69⟩
theorem cp_X12_clause_48 (E : jxE) (d : Nat) (hd : Nat.ble 3 (d + 1) = true) (x1 : Int) (a0 b0 : Nat → Nat → Int) (hv0 : iv a0) (hp0 : a0 146 23 ≤ a0 146 22) (hp1 : 0 ≤ x1) (hp2 : x1 ≤ 12) : ∀ (y1 : Int) (a : Nat → Nat → Int), iv a → jfr jW_X12_clause a0 a → 0 ≤ y1 → y1 ≤ 11 → a 146 23 ≤ a 146 22 → (a0 146 23) + 2 ≤ a 146 23 → y1 = x1 → y1 < 12 → 0 ≤ y1 → jt (jxX E d 281 48 [some (.inr (.inr (.inl 146))), some (.inl y1), none, none, none] [] (jxSH, a, b0)) (jQ_X12_clause x1 a0 b0) := by
  intro y1 a hv hf hi0 hi1 hi2 hi3 hi4 hi5 hi6
  refine jt_eq (bq_X12_clause_48 E d y1 a b0) ?_
  have h1373_ := iv_get hv (k := 146) (j := 23) (l := 0) (u := 200) rfl
  have h1374_ := iv_get hv (k := 146) (j := 22) (l := 0) (u := 200) rfl
  have h1375_ : a 146 22 = a0 146 22 := hf 146 22 rfl
  have h1376_ := iv_get hv0 (k := 146) (j := 22) (l := 0) (u := 200) rfl
  have h1377_ := iv_get hv0 (k := 146) (j := 23) (l := 0) (u := 200) rfl
  refine jt_bI (sp_X12_number E d (jd_le hd rfl) 0 3 a b0 hv (show a 146 23 ≤ a 146 22 from by omega)) (fun r1378_ a1378_ b1378_ h1378_ => ?_)
  obtain ⟨hv1378_, hf1378_, rfl, hq1378_0, hq1378_1, hq1378_2, hq1378_3⟩ := h1378_
  have h1379_ := iv_get hv1378_ (k := 146) (j := 23) (l := 0) (u := 200) rfl
  have h1380_ := iv_get hv1378_ (k := 146) (j := 26) (l := 0) (u := 999) rfl
  refine jt_ite (fun c1381_ => ?_) (fun c1381_ => ?_)
  ·
    have hf1382_ : jfr jW_X12_clause a0 a1378_ := jfr_tr hf hf1378_ rfl
    have h1383_ := iv_get hv1378_ (k := 146) (j := 22) (l := 0) (u := 200) rfl
    have h1384_ : a1378_ 146 22 = a 146 22 := hf1378_ 146 22 rfl
    exact jt_rI ⟨hv1378_, hf1382_, rfl, (show (0 ≤ 0 ∧ 0 ≤ 1) from by omega), (show a0 146 23 ≤ a1378_ 146 23 from by omega), (show a1378_ 146 23 ≤ a1378_ 146 22 from by omega), (show (0 = 1 → (x1 < 12 ∧ (a0 146 23) + 2 ≤ a1378_ 146 23)) from by omega)⟩
  ·
    have hf1385_ : jfr jW_X12_clause a0 a1378_ := jfr_tr hf hf1378_ rfl
    have h1386_ := iv_get hv1378_ (k := 146) (j := 22) (l := 0) (u := 200) rfl
    have h1387_ : a1378_ 146 22 = a 146 22 := hf1378_ 146 22 rfl
    exact (cp_X12_clause_69 E d hd x1 a0 b0 hv0 hp0 hp1 hp2 _).2 y1 (a1378_ 146 26) 0 0 a1378_ (Nat.le_refl _) hv1378_ hf1385_ (show 0 ≤ y1 from by omega) (show y1 ≤ 11 from by omega) (show 0 ≤ a1378_ 146 26 from by omega) (show a1378_ 146 26 ≤ 999 from by omega) (show 0 ≤ 0 from by omega) (show 0 ≤ 900 from by omega) (show 0 ≤ 0 from by omega) (show 0 ≤ 11 from by omega) (show a1378_ 146 23 ≤ a1378_ 146 22 from by omega) (show (a0 146 23) + 2 ≤ a1378_ 146 23 from by omega) (show y1 = x1 from by omega) (show y1 < 12 from by omega) (show 0 ≤ y1 from by omega) (show 0 ≤ a1378_ 146 26 from by omega) (show a1378_ 146 26 ≤ 3 from by omega) (show 0 ≤ 0 from by omega) (show 0 ≤ 900 from by omega) (show 0 ≤ 0 from by omega) (show 0 ≤ y1 from by omega)
theorem sp_X12_clause (E : jxE) (d : Nat) (hd : Nat.ble 3 d = true) (x1 : Int) (a0 b0 : Nat → Nat → Int) (hv0 : iv a0) (hp0 : a0 146 23 ≤ a0 146 22) (hp1 : 0 ≤ x1) (hp2 : x1 ≤ 12) : jt (jxC E d 281 [.inr (.inr (.inl 146)), .inl x1] (jxSH, a0, b0)) (jQ_X12_clause x1 a0 b0) := by
  obtain ⟨d, rfl⟩ := jd_succ hd
  refine jt_eq (bq_X12_clause E d x1 a0 b0) ?_
  have h1388_ := iv_get hv0 (k := 146) (j := 23) (l := 0) (u := 200) rfl
  have h1389_ := iv_get hv0 (k := 146) (j := 22) (l := 0) (u := 200) rfl
  refine jt_bI (sp_X12_wordHere E d (jd_le hd rfl) a0 b0 hv0 (show a0 146 23 ≤ a0 146 22 from by omega)) (fun r1390_ a1390_ b1390_ h1390_ => ?_)
  obtain ⟨hv1390_, hf1390_, rfl, hq1390_0, hq1390_1, hq1390_2, hq1390_3, hq1390_4, hq1390_5, hq1390_6⟩ := h1390_
  have h1391_ := iv_get hv1390_ (k := 146) (j := 23) (l := 0) (u := 200) rfl
  have h1392_ := iv_get hv1390_ (k := 146) (j := 25) (l := 0) (u := 200) rfl
  have h1393_ := iv_get hv1390_ (k := 146) (j := 22) (l := 0) (u := 200) rfl
  have h1394_ : a1390_ 146 22 = a0 146 22 := hf1390_ 146 22 rfl
  have h1395_ := iv_get hv0 (k := 164) (j := (a0 146 23).toNat) (l := (-128)) (u := 127) rfl
  refine jt_ite (fun c1396_ => ?_) (fun c1396_ => ?_)
  ·
    refine jt_ite (fun c1397_ => ?_) (fun c1397_ => ?_)
    ·
      refine jt_bI (sp_X12_fails E d (jd_le hd rfl) 2 (a1390_ 146 23) a1390_ b0 hv1390_) (fun r1398_ a1398_ b1398_ h1398_ => ?_)
      obtain ⟨hv1398_, hf1398_, rfl, hq1398_0, hq1398_1⟩ := h1398_
      refine jt_grd (by omega) ?_
      have hf1399_ : jfr jW_X12_clause a0 a1390_ := jfr_tr (jfr_rf _ _) hf1390_ rfl
      have hf1400_ : jfr jW_X12_clause a0 a1398_ := jfr_tr hf1399_ hf1398_ rfl
      have h1401_ := iv_get hv1398_ (k := 146) (j := 23) (l := 0) (u := 200) rfl
      have h1402_ : a1398_ 146 23 = a1390_ 146 23 := hf1398_ 146 23 rfl
      have h1403_ := iv_get hv1398_ (k := 146) (j := 22) (l := 0) (u := 200) rfl
      have h1404_ : a1398_ 146 22 = a1390_ 146 22 := hf1398_ 146 22 rfl
      exact jt_rI ⟨hv1398_, hf1400_, rfl, (show (0 ≤ r1398_ ∧ r1398_ ≤ 1) from by omega), (show a0 146 23 ≤ a1398_ 146 23 from by omega), (show a1398_ 146 23 ≤ a1398_ 146 22 from by omega), (show (r1398_ = 1 → (x1 < 12 ∧ (a0 146 23) + 2 ≤ a1398_ 146 23)) from by omega)⟩
    ·
      have h1406_ : jxw ((a1390_ 146 23) + (a1390_ 146 25)) = (a1390_ 146 23) + (a1390_ 146 25) := jxw_id (by omega) (by omega)
      have hv1405_ : iv (jxu a1390_ 146 23 (jxw ((a1390_ 146 23) + (a1390_ 146 25)))) := iv_put hv1390_ (l := 0) (u := 200) rfl (by omega) (by omega)
      have hf1407_ : jfr jW_X12_clause a0 a1390_ := jfr_tr (jfr_rf _ _) hf1390_ rfl
      have hf1408_ : jfr jW_X12_clause a0 (jxu a1390_ 146 23 (jxw ((a1390_ 146 23) + (a1390_ 146 25)))) := jfr_put hf1407_ rfl
      exact cp_X12_clause_48 E d hd x1 a0 b0 hv0 hp0 hp1 hp2 x1 (jxu a1390_ 146 23 (jxw ((a1390_ 146 23) + (a1390_ 146 25)))) hv1405_ hf1408_ (show 0 ≤ x1 from by omega) (show x1 ≤ 11 from by omega) (show jxw ((a1390_ 146 23) + (a1390_ 146 25)) ≤ a1390_ 146 22 from by omega) (show (a0 146 23) + 2 ≤ jxw ((a1390_ 146 23) + (a1390_ 146 25)) from by omega) (show x1 = x1 from by omega) (show x1 < 12 from by omega) (show 0 ≤ x1 from by omega)
  ·
    refine jt_bI (sp_X12_fails E d (jd_le hd rfl) 0 (a1390_ 146 23) a1390_ b0 hv1390_) (fun r1409_ a1409_ b1409_ h1409_ => ?_)
    obtain ⟨hv1409_, hf1409_, rfl, hq1409_0, hq1409_1⟩ := h1409_
    refine jt_grd (by omega) ?_
    have hf1410_ : jfr jW_X12_clause a0 a1390_ := jfr_tr (jfr_rf _ _) hf1390_ rfl
    have hf1411_ : jfr jW_X12_clause a0 a1409_ := jfr_tr hf1410_ hf1409_ rfl
    have h1412_ := iv_get hv1409_ (k := 146) (j := 23) (l := 0) (u := 200) rfl
    have h1413_ : a1409_ 146 23 = a1390_ 146 23 := hf1409_ 146 23 rfl
    have h1414_ := iv_get hv1409_ (k := 146) (j := 22) (l := 0) (u := 200) rfl
    have h1415_ : a1409_ 146 22 = a1390_ 146 22 := hf1409_ 146 22 rfl
    exact jt_rI ⟨hv1409_, hf1411_, rfl, (show (0 ≤ r1409_ ∧ r1409_ ≤ 1) from by omega), (show a0 146 23 ≤ a1409_ 146 23 from by omega), (show a1409_ 146 23 ≤ a1409_ 146 22 from by omega), (show (r1409_ = 1 → (x1 < 12 ∧ (a0 146 23) + 2 ≤ a1409_ 146 23)) from by omega)⟩
def jW_X12_rules : List (Nat × Nat) := [(146, 22), (146, 23), (146, 24), (146, 25), (146, 26), (146, 27), (171, 9999), (172, 9999)]
abbrev jQ_X12_rules (a0 b0 : Nat → Nat → Int) : List jxV → (Nat → Nat → Int) → (Nat → Nat → Int) → Prop := rI (fun r a b => (iv a) ∧ (jfr jW_X12_rules a0 a) ∧ (b0 = b))
theorem cp_X12_rules_301 (E : jxE) (d : Nat) (hd : Nat.ble 3 (d + 1) = true) (a0 b0 : Nat → Nat → Int) (hv0 : iv a0) : ∀ n : Nat, (∀ (y2 y5 : Int) (a : Nat → Nat → Int), (((5 - y5) * 1) + 0).toNat ≤ n → iv a → jfr jW_X12_rules a0 a → 0 ≤ y5 → y5 ≤ 5 → a 146 22 ≤ 0 → jt (jxX E d 232 301 [some (.inr (.inr (.inl 146))), none, some (.inl y2), none, none, some (.inl y5)] [] (jxSH, a, b0)) (jQ_X12_rules a0 b0)) := by
  refine jx_ind fun n ih => ?_
  have ih301 : ∀ (y2 y5 : Int) (a : Nat → Nat → Int), (((5 - y5) * 1) + 0).toNat < n → iv a → jfr jW_X12_rules a0 a → 0 ≤ y5 → y5 ≤ 5 → a 146 22 ≤ 0 → jt (jxX E d 232 301 [some (.inr (.inr (.inl 146))), none, some (.inl y2), none, none, some (.inl y5)] [] (jxSH, a, b0)) (jQ_X12_rules a0 b0) := fun y2 y5 a hlt i0 i1 i2 i3 i4 => (ih _ hlt) y2 y5 a (Nat.le_refl _) i0 i1 i2 i3 i4
  have hc301 : ∀ (y2 y5 : Int) (a : Nat → Nat → Int), (((5 - y5) * 1) + 0).toNat ≤ n → iv a → jfr jW_X12_rules a0 a → 0 ≤ y5 → y5 ≤ 5 → a 146 22 ≤ 0 → jt (jxX E d 232 301 [some (.inr (.inr (.inl 146))), none, some (.inl y2), none, none, some (.inl y5)] [] (jxSH, a, b0)) (jQ_X12_rules a0 b0) := by
    intro y2 y5 a hm hv hf hi0 hi1 hi2
    refine jt_eq (bq_X12_rules_301 E d y2 y5 a b0) ?_
    have h1416_ := iv_get hv (k := 146) (j := 22) (l := 0) (u := 200) rfl
    refine jt_ite (fun c1417_ => ?_) (fun c1417_ => ?_)
    ·
      refine jt_grd (by omega) ?_
      refine jt_grd (by omega) ?_
      have hv1418_ : iv (jxu a 171 (y5.toNat) (a 172 (y5.toNat))) := iv_putf hv rfl
      have hf1419_ : jfr jW_X12_rules a0 (jxu a 171 (y5.toNat) (a 172 (y5.toNat))) := jfr_put hf rfl
      have h1420_ : jxw (y5 + 1) = y5 + 1 := jxw_id (by omega) (by omega)
      exact ih301 y2 (jxw (y5 + 1)) (jxu a 171 (y5.toNat) (a 172 (y5.toNat))) (show (((5 - (jxw (y5 + 1))) * 1) + 0).toNat < n from by omega) hv1418_ hf1419_ (show 0 ≤ jxw (y5 + 1) from by omega) (show jxw (y5 + 1) ≤ 5 from by omega) (show a 146 22 ≤ 0 from by omega)
    ·
      exact jt_rI ⟨hv, hf, rfl⟩
  exact hc301
theorem cp_X12_rules_281 (E : jxE) (d : Nat) (hd : Nat.ble 3 (d + 1) = true) (a0 b0 : Nat → Nat → Int) (hv0 : iv a0) : ∀ (y2 y3 : Int) (a : Nat → Nat → Int), iv a → jfr jW_X12_rules a0 a → 0 ≤ y3 → y3 ≤ 1 → a 146 22 ≤ 100 → 0 ≤ y3 → y3 ≤ 1 → jt (jxX E d 232 281 [some (.inr (.inr (.inl 146))), none, some (.inl y2), some (.inl y3), none, none] [] (jxSH, a, b0)) (jQ_X12_rules a0 b0) := by
  intro y2 y3 a hv hf hi0 hi1 hi2 hi3 hi4
  refine jt_eq (bq_X12_rules_281 E d y2 y3 a b0) ?_
  have h1421_ := iv_get hv (k := 146) (j := 22) (l := 0) (u := 200) rfl
  refine jt_ite (fun c1422_ => ?_) (fun c1422_ => ?_)
  ·
    have hv1423_ : iv (jxu a 146 22 0) := iv_put hv (l := 0) (u := 200) rfl (by omega) (by omega)
    have hf1424_ : jfr jW_X12_rules a0 (jxu a 146 22 0) := jfr_put hf rfl
    exact jt_rI ⟨hv1423_, hf1424_, rfl⟩
  ·
    have hv1425_ : iv (jxu a 146 22 0) := iv_put hv (l := 0) (u := 200) rfl (by omega) (by omega)
    have hf1426_ : jfr jW_X12_rules a0 (jxu a 146 22 0) := jfr_put hf rfl
    exact (cp_X12_rules_301 E d hd a0 b0 hv0 _) y2 0 (jxu a 146 22 0) (Nat.le_refl _) hv1425_ hf1426_ (show 0 ≤ 0 from by omega) (show 0 ≤ 5 from by omega) (show 0 ≤ 0 from by omega)
theorem cp_X12_rules_65 (E : jxE) (d : Nat) (hd : Nat.ble 3 (d + 1) = true) (a0 b0 : Nat → Nat → Int) (hv0 : iv a0) : ∀ n : Nat, (∀ (y1 y2 y3 y4 : Int) (a : Nat → Nat → Int), (((((a 146 22) - (a 146 23)) + (2 * y3)) + y4) + 1).toNat ≤ n → iv a → jfr jW_X12_rules a0 a → 0 ≤ y3 → y3 ≤ 1 → 0 ≤ y4 → y4 ≤ 1 → a 146 22 ≤ 100 → a 146 23 ≤ a 146 22 → 0 ≤ y2 → y2 ≤ a 146 23 → 0 ≤ y3 → 0 ≤ y4 → y3 ≤ 1 → y4 ≤ 1 → jt (jxX E d 232 278 [some (.inr (.inr (.inl 146))), some (.inl y1), some (.inl y2), some (.inl y3), some (.inl y4), none] [] (jxSH, a, b0)) (jQ_X12_rules a0 b0)) ∧ (∀ (y1 y2 y3 y4 : Int) (a : Nat → Nat → Int), (((((a 146 22) - (a 146 23)) + (2 * y3)) + y4) + 1).toNat ≤ n → iv a → jfr jW_X12_rules a0 a → 0 ≤ y3 → y3 ≤ 1 → 0 ≤ y4 → y4 ≤ 1 → a 146 22 ≤ 100 → a 146 23 ≤ a 146 22 → 0 ≤ y2 → y2 ≤ a 146 23 → 0 ≤ y3 → 0 ≤ y4 → y3 ≤ 1 → y4 ≤ 1 → jt (jxX E d 232 251 [some (.inr (.inr (.inl 146))), some (.inl y1), some (.inl y2), some (.inl y3), some (.inl y4), none] [] (jxSH, a, b0)) (jQ_X12_rules a0 b0)) ∧ (∀ (y1 y2 y3 y4 : Int) (a : Nat → Nat → Int), (((((a 146 22) - (a 146 23)) + (2 * y3)) + y4) + 1).toNat ≤ n → iv a → jfr jW_X12_rules a0 a → 0 ≤ y3 → y3 ≤ 1 → 0 ≤ y4 → y4 ≤ 1 → a 146 22 ≤ 100 → a 146 23 ≤ a 146 22 → 0 ≤ y2 → y2 ≤ a 146 23 → 0 ≤ y3 → 0 ≤ y4 → y3 ≤ 1 → y4 ≤ 1 → (y4 = 1 → a 146 23 < a 146 22) → jt (jxX E d 232 236 [some (.inr (.inr (.inl 146))), some (.inl y1), some (.inl y2), some (.inl y3), some (.inl y4), none] [] (jxSH, a, b0)) (jQ_X12_rules a0 b0)) ∧ (∀ (y1 y2 y3 s0 : Int) (a : Nat → Nat → Int), (((((a 146 22) - (a 146 23)) + (2 * y3)) + s0) + 1).toNat ≤ n → iv a → jfr jW_X12_rules a0 a → 0 ≤ y3 → y3 ≤ 1 → 0 ≤ s0 → s0 ≤ 1 → a 146 22 ≤ 100 → a 146 23 ≤ a 146 22 → 0 ≤ y2 → y2 ≤ a 146 23 → 0 ≤ y3 → 0 ≤ s0 → y3 ≤ 1 → s0 ≤ 1 → (s0 = 1 → (a 146 23 < a 146 22 ∧ ¬ a 164 ((a 146 23).toNat) = 32)) → jt (jxX E d 232 210 [some (.inr (.inr (.inl 146))), some (.inl y1), some (.inl y2), some (.inl y3), none, none] [.inl s0] (jxSH, a, b0)) (jQ_X12_rules a0 b0)) ∧ (∀ (y1 y2 y3 : Int) (a : Nat → Nat → Int), ((((a 146 22) - (a 146 23)) + (2 * y3)) + 2).toNat ≤ n → iv a → jfr jW_X12_rules a0 a → 1 ≤ y3 → y3 ≤ 1 → a 146 22 ≤ 100 → a 146 23 ≤ a 146 22 → 0 ≤ y2 → y2 ≤ a 146 23 → 0 ≤ y3 → y3 ≤ 1 → a 146 23 < a 146 22 → ¬ a 164 ((a 146 23).toNat) = 32 → jt (jxX E d 232 205 [some (.inr (.inr (.inl 146))), some (.inl y1), some (.inl y2), some (.inl y3), none, none] [] (jxSH, a, b0)) (jQ_X12_rules a0 b0)) ∧ (∀ (y1 y2 y3 : Int) (a : Nat → Nat → Int), ((((a 146 22) - (a 146 23)) + (2 * y3)) + 1).toNat ≤ n → iv a → jfr jW_X12_rules a0 a → 0 ≤ y3 → y3 ≤ 1 → a 146 22 ≤ 100 → a 146 23 ≤ a 146 22 → 0 ≤ y2 → y2 ≤ a 146 23 → 0 ≤ y3 → y3 ≤ 1 → jt (jxX E d 232 209 [some (.inr (.inr (.inl 146))), some (.inl y1), some (.inl y2), some (.inl y3), none, none] [] (jxSH, a, b0)) (jQ_X12_rules a0 b0)) ∧ (∀ (y1 y2 y5 s1 : Int) (a : Nat → Nat → Int), (((a 146 22) - (a 146 23)) + 4).toNat ≤ n → iv a → jfr jW_X12_rules a0 a → 0 - 11 ≤ y5 → y5 ≤ 5 → 0 ≤ s1 → s1 ≤ 1 → a 146 22 ≤ 100 → a 146 23 ≤ a 146 22 → 0 ≤ y2 → y2 + 2 ≤ a 146 23 → 0 ≤ y5 → y5 ≤ 4 → jt (jxX E d 232 170 [some (.inr (.inr (.inl 146))), some (.inl y1), some (.inl y2), none, none, some (.inl y5)] [.inl s1, .inr (.inr (.inl 146))] (jxSH, a, b0)) (jQ_X12_rules a0 b0)) ∧ (∀ (y1 y2 y5 : Int) (a : Nat → Nat → Int), (((a 146 22) - (a 146 23)) + 4).toNat ≤ n → iv a → jfr jW_X12_rules a0 a → 0 ≤ y5 → y5 ≤ 3 → a 146 22 ≤ 100 → a 146 23 ≤ a 146 22 → 0 ≤ y2 → y2 + 2 ≤ a 146 23 → 0 ≤ y5 → y5 ≤ 4 → jt (jxX E d 232 165 [some (.inr (.inr (.inl 146))), some (.inl y1), some (.inl y2), none, none, some (.inl y5)] [.inr (.inr (.inl 146))] (jxSH, a, b0)) (jQ_X12_rules a0 b0)) ∧ (∀ (y1 y2 y5 : Int) (a : Nat → Nat → Int), (((a 146 22) - (a 146 23)) + 4).toNat ≤ n → iv a → jfr jW_X12_rules a0 a → 0 - 11 ≤ y5 → y5 ≤ 5 → a 146 22 ≤ 100 → a 146 23 ≤ a 146 22 → 0 ≤ y2 → y2 + 2 ≤ a 146 23 → 0 ≤ y5 → y5 ≤ 4 → jt (jxX E d 232 153 [some (.inr (.inr (.inl 146))), some (.inl y1), some (.inl y2), none, none, some (.inl y5)] [] (jxSH, a, b0)) (jQ_X12_rules a0 b0)) ∧ (∀ (y1 y2 y3 y5 : Int) (a : Nat → Nat → Int), (((a 146 22) - (a 146 23)) + 2).toNat ≤ n → iv a → jfr jW_X12_rules a0 a → 0 ≤ y3 → y3 ≤ 1 → 0 - 11 ≤ y5 → y5 ≤ 5 → a 146 22 ≤ 100 → a 146 23 ≤ a 146 22 → 0 ≤ y2 → y2 ≤ a 146 23 → (a 146 23) + (a 146 25) ≤ a 146 22 → 0 ≤ y3 → y3 ≤ 1 → (y3 = 1 → ((0 ≤ y5 ∧ y5 ≤ 4) ∧ 2 ≤ a 146 25)) → jt (jxX E d 232 126 [some (.inr (.inr (.inl 146))), some (.inl y1), some (.inl y2), some (.inl y3), none, some (.inl y5)] [] (jxSH, a, b0)) (jQ_X12_rules a0 b0)) ∧ (∀ (y1 y2 y5 : Int) (a : Nat → Nat → Int), (((a 146 22) - (a 146 23)) + 2).toNat ≤ n → iv a → jfr jW_X12_rules a0 a → 0 - 11 ≤ y5 → y5 ≤ 5 → a 146 22 ≤ 100 → a 146 23 ≤ a 146 22 → 0 ≤ y2 → y2 ≤ a 146 23 → (a 146 23) + (a 146 25) ≤ a 146 22 → jt (jxX E d 232 93 [some (.inr (.inr (.inl 146))), some (.inl y1), some (.inl y2), none, none, some (.inl y5)] [] (jxSH, a, b0)) (jQ_X12_rules a0 b0)) ∧ (∀ (y1 y2 y3 y5 : Int) (a : Nat → Nat → Int), (((a 146 22) - (a 146 23)) + 2).toNat ≤ n → iv a → jfr jW_X12_rules a0 a → 1 ≤ y3 → y3 ≤ 1 → 0 ≤ y5 → y5 ≤ 4 → a 146 22 ≤ 100 → a 146 23 ≤ a 146 22 → 0 ≤ y2 → y2 ≤ a 146 23 → (a 146 23) + (a 146 25) ≤ a 146 22 → 0 ≤ y3 → y3 ≤ 1 → 0 ≤ y5 → y5 ≤ 4 → 2 ≤ a 146 25 → jt (jxX E d 232 106 [some (.inr (.inr (.inl 146))), some (.inl y1), some (.inl y2), some (.inl y3), none, some (.inl y5)] [] (jxSH, a, b0)) (jQ_X12_rules a0 b0)) ∧ (∀ (y1 y2 y3 y4 : Int) (a : Nat → Nat → Int), ((((a 146 22) - (a 146 23)) + y3) + y4).toNat ≤ n → iv a → jfr jW_X12_rules a0 a → 0 ≤ y3 → y3 ≤ 1 → 0 ≤ y4 → y4 ≤ 1 → a 146 22 ≤ 100 → a 146 23 ≤ a 146 22 → 0 ≤ y2 → y2 ≤ a 146 23 → 0 ≤ y3 → 0 ≤ y4 → y3 ≤ 1 → y4 ≤ 1 → jt (jxX E d 232 65 [some (.inr (.inr (.inl 146))), some (.inl y1), some (.inl y2), some (.inl y3), some (.inl y4), none] [] (jxSH, a, b0)) (jQ_X12_rules a0 b0)) := by
  refine jx_ind fun n ih => ?_
  have ih278 : ∀ (y1 y2 y3 y4 : Int) (a : Nat → Nat → Int), (((((a 146 22) - (a 146 23)) + (2 * y3)) + y4) + 1).toNat < n → iv a → jfr jW_X12_rules a0 a → 0 ≤ y3 → y3 ≤ 1 → 0 ≤ y4 → y4 ≤ 1 → a 146 22 ≤ 100 → a 146 23 ≤ a 146 22 → 0 ≤ y2 → y2 ≤ a 146 23 → 0 ≤ y3 → 0 ≤ y4 → y3 ≤ 1 → y4 ≤ 1 → jt (jxX E d 232 278 [some (.inr (.inr (.inl 146))), some (.inl y1), some (.inl y2), some (.inl y3), some (.inl y4), none] [] (jxSH, a, b0)) (jQ_X12_rules a0 b0) := fun y1 y2 y3 y4 a hlt i0 i1 i2 i3 i4 i5 i6 i7 i8 i9 i10 i11 i12 i13 => (ih _ hlt).1 y1 y2 y3 y4 a (Nat.le_refl _) i0 i1 i2 i3 i4 i5 i6 i7 i8 i9 i10 i11 i12 i13
  have ih251 : ∀ (y1 y2 y3 y4 : Int) (a : Nat → Nat → Int), (((((a 146 22) - (a 146 23)) + (2 * y3)) + y4) + 1).toNat < n → iv a → jfr jW_X12_rules a0 a → 0 ≤ y3 → y3 ≤ 1 → 0 ≤ y4 → y4 ≤ 1 → a 146 22 ≤ 100 → a 146 23 ≤ a 146 22 → 0 ≤ y2 → y2 ≤ a 146 23 → 0 ≤ y3 → 0 ≤ y4 → y3 ≤ 1 → y4 ≤ 1 → jt (jxX E d 232 251 [some (.inr (.inr (.inl 146))), some (.inl y1), some (.inl y2), some (.inl y3), some (.inl y4), none] [] (jxSH, a, b0)) (jQ_X12_rules a0 b0) := fun y1 y2 y3 y4 a hlt i0 i1 i2 i3 i4 i5 i6 i7 i8 i9 i10 i11 i12 i13 => (ih _ hlt).2.1 y1 y2 y3 y4 a (Nat.le_refl _) i0 i1 i2 i3 i4 i5 i6 i7 i8 i9 i10 i11 i12 i13
  have ih236 : ∀ (y1 y2 y3 y4 : Int) (a : Nat → Nat → Int), (((((a 146 22) - (a 146 23)) + (2 * y3)) + y4) + 1).toNat < n → iv a → jfr jW_X12_rules a0 a → 0 ≤ y3 → y3 ≤ 1 → 0 ≤ y4 → y4 ≤ 1 → a 146 22 ≤ 100 → a 146 23 ≤ a 146 22 → 0 ≤ y2 → y2 ≤ a 146 23 → 0 ≤ y3 → 0 ≤ y4 → y3 ≤ 1 → y4 ≤ 1 → (y4 = 1 → a 146 23 < a 146 22) → jt (jxX E d 232 236 [some (.inr (.inr (.inl 146))), some (.inl y1), some (.inl y2), some (.inl y3), some (.inl y4), none] [] (jxSH, a, b0)) (jQ_X12_rules a0 b0) := fun y1 y2 y3 y4 a hlt i0 i1 i2 i3 i4 i5 i6 i7 i8 i9 i10 i11 i12 i13 i14 => (ih _ hlt).2.2.1 y1 y2 y3 y4 a (Nat.le_refl _) i0 i1 i2 i3 i4 i5 i6 i7 i8 i9 i10 i11 i12 i13 i14
  have ih210 : ∀ (y1 y2 y3 s0 : Int) (a : Nat → Nat → Int), (((((a 146 22) - (a 146 23)) + (2 * y3)) + s0) + 1).toNat < n → iv a → jfr jW_X12_rules a0 a → 0 ≤ y3 → y3 ≤ 1 → 0 ≤ s0 → s0 ≤ 1 → a 146 22 ≤ 100 → a 146 23 ≤ a 146 22 → 0 ≤ y2 → y2 ≤ a 146 23 → 0 ≤ y3 → 0 ≤ s0 → y3 ≤ 1 → s0 ≤ 1 → (s0 = 1 → (a 146 23 < a 146 22 ∧ ¬ a 164 ((a 146 23).toNat) = 32)) → jt (jxX E d 232 210 [some (.inr (.inr (.inl 146))), some (.inl y1), some (.inl y2), some (.inl y3), none, none] [.inl s0] (jxSH, a, b0)) (jQ_X12_rules a0 b0) := fun y1 y2 y3 s0 a hlt i0 i1 i2 i3 i4 i5 i6 i7 i8 i9 i10 i11 i12 i13 i14 => (ih _ hlt).2.2.2.1 y1 y2 y3 s0 a (Nat.le_refl _) i0 i1 i2 i3 i4 i5 i6 i7 i8 i9 i10 i11 i12 i13 i14
  have ih205 : ∀ (y1 y2 y3 : Int) (a : Nat → Nat → Int), ((((a 146 22) - (a 146 23)) + (2 * y3)) + 2).toNat < n → iv a → jfr jW_X12_rules a0 a → 1 ≤ y3 → y3 ≤ 1 → a 146 22 ≤ 100 → a 146 23 ≤ a 146 22 → 0 ≤ y2 → y2 ≤ a 146 23 → 0 ≤ y3 → y3 ≤ 1 → a 146 23 < a 146 22 → ¬ a 164 ((a 146 23).toNat) = 32 → jt (jxX E d 232 205 [some (.inr (.inr (.inl 146))), some (.inl y1), some (.inl y2), some (.inl y3), none, none] [] (jxSH, a, b0)) (jQ_X12_rules a0 b0) := fun y1 y2 y3 a hlt i0 i1 i2 i3 i4 i5 i6 i7 i8 i9 i10 i11 => (ih _ hlt).2.2.2.2.1 y1 y2 y3 a (Nat.le_refl _) i0 i1 i2 i3 i4 i5 i6 i7 i8 i9 i10 i11
  have ih209 : ∀ (y1 y2 y3 : Int) (a : Nat → Nat → Int), ((((a 146 22) - (a 146 23)) + (2 * y3)) + 1).toNat < n → iv a → jfr jW_X12_rules a0 a → 0 ≤ y3 → y3 ≤ 1 → a 146 22 ≤ 100 → a 146 23 ≤ a 146 22 → 0 ≤ y2 → y2 ≤ a 146 23 → 0 ≤ y3 → y3 ≤ 1 → jt (jxX E d 232 209 [some (.inr (.inr (.inl 146))), some (.inl y1), some (.inl y2), some (.inl y3), none, none] [] (jxSH, a, b0)) (jQ_X12_rules a0 b0) := fun y1 y2 y3 a hlt i0 i1 i2 i3 i4 i5 i6 i7 i8 i9 => (ih _ hlt).2.2.2.2.2.1 y1 y2 y3 a (Nat.le_refl _) i0 i1 i2 i3 i4 i5 i6 i7 i8 i9
  have ih170 : ∀ (y1 y2 y5 s1 : Int) (a : Nat → Nat → Int), (((a 146 22) - (a 146 23)) + 4).toNat < n → iv a → jfr jW_X12_rules a0 a → 0 - 11 ≤ y5 → y5 ≤ 5 → 0 ≤ s1 → s1 ≤ 1 → a 146 22 ≤ 100 → a 146 23 ≤ a 146 22 → 0 ≤ y2 → y2 + 2 ≤ a 146 23 → 0 ≤ y5 → y5 ≤ 4 → jt (jxX E d 232 170 [some (.inr (.inr (.inl 146))), some (.inl y1), some (.inl y2), none, none, some (.inl y5)] [.inl s1, .inr (.inr (.inl 146))] (jxSH, a, b0)) (jQ_X12_rules a0 b0) := fun y1 y2 y5 s1 a hlt i0 i1 i2 i3 i4 i5 i6 i7 i8 i9 i10 i11 => (ih _ hlt).2.2.2.2.2.2.1 y1 y2 y5 s1 a (Nat.le_refl _) i0 i1 i2 i3 i4 i5 i6 i7 i8 i9 i10 i11
  have ih165 : ∀ (y1 y2 y5 : Int) (a : Nat → Nat → Int), (((a 146 22) - (a 146 23)) + 4).toNat < n → iv a → jfr jW_X12_rules a0 a → 0 ≤ y5 → y5 ≤ 3 → a 146 22 ≤ 100 → a 146 23 ≤ a 146 22 → 0 ≤ y2 → y2 + 2 ≤ a 146 23 → 0 ≤ y5 → y5 ≤ 4 → jt (jxX E d 232 165 [some (.inr (.inr (.inl 146))), some (.inl y1), some (.inl y2), none, none, some (.inl y5)] [.inr (.inr (.inl 146))] (jxSH, a, b0)) (jQ_X12_rules a0 b0) := fun y1 y2 y5 a hlt i0 i1 i2 i3 i4 i5 i6 i7 i8 i9 => (ih _ hlt).2.2.2.2.2.2.2.1 y1 y2 y5 a (Nat.le_refl _) i0 i1 i2 i3 i4 i5 i6 i7 i8 i9
  have ih153 : ∀ (y1 y2 y5 : Int) (a : Nat → Nat → Int), (((a 146 22) - (a 146 23)) + 4).toNat < n → iv a → jfr jW_X12_rules a0 a → 0 - 11 ≤ y5 → y5 ≤ 5 → a 146 22 ≤ 100 → a 146 23 ≤ a 146 22 → 0 ≤ y2 → y2 + 2 ≤ a 146 23 → 0 ≤ y5 → y5 ≤ 4 → jt (jxX E d 232 153 [some (.inr (.inr (.inl 146))), some (.inl y1), some (.inl y2), none, none, some (.inl y5)] [] (jxSH, a, b0)) (jQ_X12_rules a0 b0) := fun y1 y2 y5 a hlt i0 i1 i2 i3 i4 i5 i6 i7 i8 i9 => (ih _ hlt).2.2.2.2.2.2.2.2.1 y1 y2 y5 a (Nat.le_refl _) i0 i1 i2 i3 i4 i5 i6 i7 i8 i9
  have ih126 : ∀ (y1 y2 y3 y5 : Int) (a : Nat → Nat → Int), (((a 146 22) - (a 146 23)) + 2).toNat < n → iv a → jfr jW_X12_rules a0 a → 0 ≤ y3 → y3 ≤ 1 → 0 - 11 ≤ y5 → y5 ≤ 5 → a 146 22 ≤ 100 → a 146 23 ≤ a 146 22 → 0 ≤ y2 → y2 ≤ a 146 23 → (a 146 23) + (a 146 25) ≤ a 146 22 → 0 ≤ y3 → y3 ≤ 1 → (y3 = 1 → ((0 ≤ y5 ∧ y5 ≤ 4) ∧ 2 ≤ a 146 25)) → jt (jxX E d 232 126 [some (.inr (.inr (.inl 146))), some (.inl y1), some (.inl y2), some (.inl y3), none, some (.inl y5)] [] (jxSH, a, b0)) (jQ_X12_rules a0 b0) := fun y1 y2 y3 y5 a hlt i0 i1 i2 i3 i4 i5 i6 i7 i8 i9 i10 i11 i12 i13 => (ih _ hlt).2.2.2.2.2.2.2.2.2.1 y1 y2 y3 y5 a (Nat.le_refl _) i0 i1 i2 i3 i4 i5 i6 i7 i8 i9 i10 i11 i12 i13
  have ih93 : ∀ (y1 y2 y5 : Int) (a : Nat → Nat → Int), (((a 146 22) - (a 146 23)) + 2).toNat < n → iv a → jfr jW_X12_rules a0 a → 0 - 11 ≤ y5 → y5 ≤ 5 → a 146 22 ≤ 100 → a 146 23 ≤ a 146 22 → 0 ≤ y2 → y2 ≤ a 146 23 → (a 146 23) + (a 146 25) ≤ a 146 22 → jt (jxX E d 232 93 [some (.inr (.inr (.inl 146))), some (.inl y1), some (.inl y2), none, none, some (.inl y5)] [] (jxSH, a, b0)) (jQ_X12_rules a0 b0) := fun y1 y2 y5 a hlt i0 i1 i2 i3 i4 i5 i6 i7 i8 => (ih _ hlt).2.2.2.2.2.2.2.2.2.2.1 y1 y2 y5 a (Nat.le_refl _) i0 i1 i2 i3 i4 i5 i6 i7 i8
  have ih106 : ∀ (y1 y2 y3 y5 : Int) (a : Nat → Nat → Int), (((a 146 22) - (a 146 23)) + 2).toNat < n → iv a → jfr jW_X12_rules a0 a → 1 ≤ y3 → y3 ≤ 1 → 0 ≤ y5 → y5 ≤ 4 → a 146 22 ≤ 100 → a 146 23 ≤ a 146 22 → 0 ≤ y2 → y2 ≤ a 146 23 → (a 146 23) + (a 146 25) ≤ a 146 22 → 0 ≤ y3 → y3 ≤ 1 → 0 ≤ y5 → y5 ≤ 4 → 2 ≤ a 146 25 → jt (jxX E d 232 106 [some (.inr (.inr (.inl 146))), some (.inl y1), some (.inl y2), some (.inl y3), none, some (.inl y5)] [] (jxSH, a, b0)) (jQ_X12_rules a0 b0) := fun y1 y2 y3 y5 a hlt i0 i1 i2 i3 i4 i5 i6 i7 i8 i9 i10 i11 i12 i13 i14 i15 => (ih _ hlt).2.2.2.2.2.2.2.2.2.2.2.1 y1 y2 y3 y5 a (Nat.le_refl _) i0 i1 i2 i3 i4 i5 i6 i7 i8 i9 i10 i11 i12 i13 i14 i15
  have ih65 : ∀ (y1 y2 y3 y4 : Int) (a : Nat → Nat → Int), ((((a 146 22) - (a 146 23)) + y3) + y4).toNat < n → iv a → jfr jW_X12_rules a0 a → 0 ≤ y3 → y3 ≤ 1 → 0 ≤ y4 → y4 ≤ 1 → a 146 22 ≤ 100 → a 146 23 ≤ a 146 22 → 0 ≤ y2 → y2 ≤ a 146 23 → 0 ≤ y3 → 0 ≤ y4 → y3 ≤ 1 → y4 ≤ 1 → jt (jxX E d 232 65 [some (.inr (.inr (.inl 146))), some (.inl y1), some (.inl y2), some (.inl y3), some (.inl y4), none] [] (jxSH, a, b0)) (jQ_X12_rules a0 b0) := fun y1 y2 y3 y4 a hlt i0 i1 i2 i3 i4 i5 i6 i7 i8 i9 i10 i11 i12 i13 => (ih _ hlt).2.2.2.2.2.2.2.2.2.2.2.2 y1 y2 y3 y4 a (Nat.le_refl _) i0 i1 i2 i3 i4 i5 i6 i7 i8 i9 i10 i11 i12 i13
  have hc278 : ∀ (y1 y2 y3 y4 : Int) (a : Nat → Nat → Int), (((((a 146 22) - (a 146 23)) + (2 * y3)) + y4) + 1).toNat ≤ n → iv a → jfr jW_X12_rules a0 a → 0 ≤ y3 → y3 ≤ 1 → 0 ≤ y4 → y4 ≤ 1 → a 146 22 ≤ 100 → a 146 23 ≤ a 146 22 → 0 ≤ y2 → y2 ≤ a 146 23 → 0 ≤ y3 → 0 ≤ y4 → y3 ≤ 1 → y4 ≤ 1 → jt (jxX E d 232 278 [some (.inr (.inr (.inl 146))), some (.inl y1), some (.inl y2), some (.inl y3), some (.inl y4), none] [] (jxSH, a, b0)) (jQ_X12_rules a0 b0) := by
    intro y1 y2 y3 y4 a hm hv hf hi0 hi1 hi2 hi3 hi4 hi5 hi6 hi7 hi8 hi9 hi10 hi11
    refine jt_eq (bq_X12_rules_278 E d y1 y2 y3 y4 a b0) ?_
    have h1427_ := iv_get hv (k := 146) (j := 22) (l := 0) (u := 200) rfl
    have h1428_ := iv_get hv (k := 146) (j := 23) (l := 0) (u := 200) rfl
    exact ih65 y1 y2 y3 y4 a (show ((((a 146 22) - (a 146 23)) + y3) + y4).toNat < n from by omega) hv hf (show 0 ≤ y3 from by omega) (show y3 ≤ 1 from by omega) (show 0 ≤ y4 from by omega) (show y4 ≤ 1 from by omega) (show a 146 22 ≤ 100 from by omega) (show a 146 23 ≤ a 146 22 from by omega) (show 0 ≤ y2 from by omega) (show y2 ≤ a 146 23 from by omega) (show 0 ≤ y3 from by omega) (show 0 ≤ y4 from by omega) (show y3 ≤ 1 from by omega) (show y4 ≤ 1 from by omega)
  have hc251 : ∀ (y1 y2 y3 y4 : Int) (a : Nat → Nat → Int), (((((a 146 22) - (a 146 23)) + (2 * y3)) + y4) + 1).toNat ≤ n → iv a → jfr jW_X12_rules a0 a → 0 ≤ y3 → y3 ≤ 1 → 0 ≤ y4 → y4 ≤ 1 → a 146 22 ≤ 100 → a 146 23 ≤ a 146 22 → 0 ≤ y2 → y2 ≤ a 146 23 → 0 ≤ y3 → 0 ≤ y4 → y3 ≤ 1 → y4 ≤ 1 → jt (jxX E d 232 251 [some (.inr (.inr (.inl 146))), some (.inl y1), some (.inl y2), some (.inl y3), some (.inl y4), none] [] (jxSH, a, b0)) (jQ_X12_rules a0 b0) := by
    intro y1 y2 y3 y4 a hm hv hf hi0 hi1 hi2 hi3 hi4 hi5 hi6 hi7 hi8 hi9 hi10 hi11
    refine jt_eq (bq_X12_rules_251 E d y1 y2 y3 y4 a b0) ?_
    have h1429_ := iv_get hv (k := 146) (j := 22) (l := 0) (u := 200) rfl
    have h1430_ := iv_get hv (k := 146) (j := 23) (l := 0) (u := 200) rfl
    refine jt_ite (fun c1431_ => ?_) (fun c1431_ => ?_)
    ·
      exact hc278 y1 y2 y3 y4 a (show (((((a 146 22) - (a 146 23)) + (2 * y3)) + y4) + 1).toNat ≤ n from by omega) hv hf (show 0 ≤ y3 from by omega) (show y3 ≤ 1 from by omega) (show 0 ≤ y4 from by omega) (show y4 ≤ 1 from by omega) (show a 146 22 ≤ 100 from by omega) (show a 146 23 ≤ a 146 22 from by omega) (show 0 ≤ y2 from by omega) (show y2 ≤ a 146 23 from by omega) (show 0 ≤ y3 from by omega) (show 0 ≤ y4 from by omega) (show y3 ≤ 1 from by omega) (show y4 ≤ 1 from by omega)
    ·
      refine jt_ite (fun c1432_ => ?_) (fun c1432_ => ?_)
      ·
        exact hc278 y1 y2 y3 y4 a (show (((((a 146 22) - (a 146 23)) + (2 * y3)) + y4) + 1).toNat ≤ n from by omega) hv hf (show 0 ≤ y3 from by omega) (show y3 ≤ 1 from by omega) (show 0 ≤ y4 from by omega) (show y4 ≤ 1 from by omega) (show a 146 22 ≤ 100 from by omega) (show a 146 23 ≤ a 146 22 from by omega) (show 0 ≤ y2 from by omega) (show y2 ≤ a 146 23 from by omega) (show 0 ≤ y3 from by omega) (show 0 ≤ y4 from by omega) (show y3 ≤ 1 from by omega) (show y4 ≤ 1 from by omega)
      ·
        refine jt_bI (sp_X12_see E d (jd_le hd rfl) a b0 hv (show a 146 23 ≤ a 146 22 from by omega)) (fun r1433_ a1433_ b1433_ h1433_ => ?_)
        obtain ⟨hv1433_, hf1433_, rfl, hq1433_0, hq1433_1, hq1433_2, hq1433_3⟩ := h1433_
        have h1434_ := iv_get hv1433_ (k := 146) (j := 23) (l := 0) (u := 200) rfl
        have h1435_ := iv_get hv1433_ (k := 164) (j := (a1433_ 146 23).toNat) (l := (-128)) (u := 127) rfl
        have h1436_ : a1433_ 164 ((a1433_ 146 23).toNat) = a 164 ((a1433_ 146 23).toNat) := hf1433_ 164 ((a1433_ 146 23).toNat) rfl
        have h1437_ := iv_get hv (k := 164) (j := (a1433_ 146 23).toNat) (l := (-128)) (u := 127) rfl
        have h1438_ : a 164 ((a1433_ 146 23).toNat) = a0 164 ((a1433_ 146 23).toNat) := hf 164 ((a1433_ 146 23).toNat) rfl
        have h1439_ := iv_get hv0 (k := 164) (j := (a1433_ 146 23).toNat) (l := (-128)) (u := 127) rfl
        have h1440_ := iv_get hv (k := 164) (j := (a 146 23).toNat) (l := (-128)) (u := 127) rfl
        have h1441_ : a 164 ((a 146 23).toNat) = a0 164 ((a 146 23).toNat) := hf 164 ((a 146 23).toNat) rfl
        have h1442_ := iv_get hv0 (k := 164) (j := (a 146 23).toNat) (l := (-128)) (u := 127) rfl
        refine jt_ite (fun c1443_ => ?_) (fun c1443_ => ?_)
        ·
          refine jt_bI (sp_X12_fails E d (jd_le hd rfl) 0 (a1433_ 146 23) a1433_ b0 hv1433_) (fun r1444_ a1444_ b1444_ h1444_ => ?_)
          obtain ⟨hv1444_, hf1444_, rfl, hq1444_0, hq1444_1⟩ := h1444_
          have hf1445_ : jfr jW_X12_rules a0 a1433_ := jfr_tr hf hf1433_ rfl
          have hf1446_ : jfr jW_X12_rules a0 a1444_ := jfr_tr hf1445_ hf1444_ rfl
          have h1447_ := iv_get hv1444_ (k := 146) (j := 22) (l := 0) (u := 200) rfl
          have h1448_ : a1444_ 146 22 = a1433_ 146 22 := hf1444_ 146 22 rfl
          have h1449_ := iv_get hv1433_ (k := 146) (j := 22) (l := 0) (u := 200) rfl
          have h1450_ : a1433_ 146 22 = a 146 22 := hf1433_ 146 22 rfl
          have h1451_ := iv_get hv1444_ (k := 146) (j := 23) (l := 0) (u := 200) rfl
          have h1452_ : a1444_ 146 23 = a1433_ 146 23 := hf1444_ 146 23 rfl
          exact hc278 y1 y2 r1444_ y4 a1444_ (show (((((a1444_ 146 22) - (a1444_ 146 23)) + (2 * r1444_)) + y4) + 1).toNat ≤ n from by omega) hv1444_ hf1446_ (show 0 ≤ r1444_ from by omega) (show r1444_ ≤ 1 from by omega) (show 0 ≤ y4 from by omega) (show y4 ≤ 1 from by omega) (show a1444_ 146 22 ≤ 100 from by omega) (show a1444_ 146 23 ≤ a1444_ 146 22 from by omega) (show 0 ≤ y2 from by omega) (show y2 ≤ a1444_ 146 23 from by omega) (show 0 ≤ r1444_ from by omega) (show 0 ≤ y4 from by omega) (show r1444_ ≤ 1 from by omega) (show y4 ≤ 1 from by omega)
        ·
          have hf1453_ : jfr jW_X12_rules a0 a1433_ := jfr_tr hf hf1433_ rfl
          have h1454_ := iv_get hv1433_ (k := 146) (j := 22) (l := 0) (u := 200) rfl
          have h1455_ : a1433_ 146 22 = a 146 22 := hf1433_ 146 22 rfl
          exact hc278 y1 y2 y3 y4 a1433_ (show (((((a1433_ 146 22) - (a1433_ 146 23)) + (2 * y3)) + y4) + 1).toNat ≤ n from by omega) hv1433_ hf1453_ (show 0 ≤ y3 from by omega) (show y3 ≤ 1 from by omega) (show 0 ≤ y4 from by omega) (show y4 ≤ 1 from by omega) (show a1433_ 146 22 ≤ 100 from by omega) (show a1433_ 146 23 ≤ a1433_ 146 22 from by omega) (show 0 ≤ y2 from by omega) (show y2 ≤ a1433_ 146 23 from by omega) (show 0 ≤ y3 from by omega) (show 0 ≤ y4 from by omega) (show y3 ≤ 1 from by omega) (show y4 ≤ 1 from by omega)
  have hc236 : ∀ (y1 y2 y3 y4 : Int) (a : Nat → Nat → Int), (((((a 146 22) - (a 146 23)) + (2 * y3)) + y4) + 1).toNat ≤ n → iv a → jfr jW_X12_rules a0 a → 0 ≤ y3 → y3 ≤ 1 → 0 ≤ y4 → y4 ≤ 1 → a 146 22 ≤ 100 → a 146 23 ≤ a 146 22 → 0 ≤ y2 → y2 ≤ a 146 23 → 0 ≤ y3 → 0 ≤ y4 → y3 ≤ 1 → y4 ≤ 1 → (y4 = 1 → a 146 23 < a 146 22) → jt (jxX E d 232 236 [some (.inr (.inr (.inl 146))), some (.inl y1), some (.inl y2), some (.inl y3), some (.inl y4), none] [] (jxSH, a, b0)) (jQ_X12_rules a0 b0) := by
    intro y1 y2 y3 y4 a hm hv hf hi0 hi1 hi2 hi3 hi4 hi5 hi6 hi7 hi8 hi9 hi10 hi11 hi12
    refine jt_eq (bq_X12_rules_236 E d y1 y2 y3 y4 a b0) ?_
    have h1456_ := iv_get hv (k := 146) (j := 22) (l := 0) (u := 200) rfl
    have h1457_ := iv_get hv (k := 146) (j := 23) (l := 0) (u := 200) rfl
    refine jt_ite (fun c1458_ => ?_) (fun c1458_ => ?_)
    ·
      exact hc251 y1 y2 y3 y4 a (show (((((a 146 22) - (a 146 23)) + (2 * y3)) + y4) + 1).toNat ≤ n from by omega) hv hf (show 0 ≤ y3 from by omega) (show y3 ≤ 1 from by omega) (show 0 ≤ y4 from by omega) (show y4 ≤ 1 from by omega) (show a 146 22 ≤ 100 from by omega) (show a 146 23 ≤ a 146 22 from by omega) (show 0 ≤ y2 from by omega) (show y2 ≤ a 146 23 from by omega) (show 0 ≤ y3 from by omega) (show 0 ≤ y4 from by omega) (show y3 ≤ 1 from by omega) (show y4 ≤ 1 from by omega)
    ·
      have h1460_ : jxw ((a 146 23) + 1) = (a 146 23) + 1 := jxw_id (by omega) (by omega)
      have hv1459_ : iv (jxu a 146 23 (jxw ((a 146 23) + 1))) := iv_put hv (l := 0) (u := 200) rfl (by omega) (by omega)
      have hf1461_ : jfr jW_X12_rules a0 (jxu a 146 23 (jxw ((a 146 23) + 1))) := jfr_put hf rfl
      exact hc251 y1 y2 y3 y4 (jxu a 146 23 (jxw ((a 146 23) + 1))) (show (((((a 146 22) - (jxw ((a 146 23) + 1))) + (2 * y3)) + y4) + 1).toNat ≤ n from by omega) hv1459_ hf1461_ (show 0 ≤ y3 from by omega) (show y3 ≤ 1 from by omega) (show 0 ≤ y4 from by omega) (show y4 ≤ 1 from by omega) (show a 146 22 ≤ 100 from by omega) (show jxw ((a 146 23) + 1) ≤ a 146 22 from by omega) (show 0 ≤ y2 from by omega) (show y2 ≤ jxw ((a 146 23) + 1) from by omega) (show 0 ≤ y3 from by omega) (show 0 ≤ y4 from by omega) (show y3 ≤ 1 from by omega) (show y4 ≤ 1 from by omega)
  have hc210 : ∀ (y1 y2 y3 s0 : Int) (a : Nat → Nat → Int), (((((a 146 22) - (a 146 23)) + (2 * y3)) + s0) + 1).toNat ≤ n → iv a → jfr jW_X12_rules a0 a → 0 ≤ y3 → y3 ≤ 1 → 0 ≤ s0 → s0 ≤ 1 → a 146 22 ≤ 100 → a 146 23 ≤ a 146 22 → 0 ≤ y2 → y2 ≤ a 146 23 → 0 ≤ y3 → 0 ≤ s0 → y3 ≤ 1 → s0 ≤ 1 → (s0 = 1 → (a 146 23 < a 146 22 ∧ ¬ a 164 ((a 146 23).toNat) = 32)) → jt (jxX E d 232 210 [some (.inr (.inr (.inl 146))), some (.inl y1), some (.inl y2), some (.inl y3), none, none] [.inl s0] (jxSH, a, b0)) (jQ_X12_rules a0 b0) := by
    intro y1 y2 y3 s0 a hm hv hf hi0 hi1 hi2 hi3 hi4 hi5 hi6 hi7 hi8 hi9 hi10 hi11 hi12
    refine jt_eq (bq_X12_rules_210 E d y1 y2 y3 s0 a b0) ?_
    have h1462_ := iv_get hv (k := 146) (j := 22) (l := 0) (u := 200) rfl
    have h1463_ := iv_get hv (k := 146) (j := 23) (l := 0) (u := 200) rfl
    have h1464_ := iv_get hv (k := 164) (j := (a 146 23).toNat) (l := (-128)) (u := 127) rfl
    have h1465_ : a 164 ((a 146 23).toNat) = a0 164 ((a 146 23).toNat) := hf 164 ((a 146 23).toNat) rfl
    have h1466_ := iv_get hv0 (k := 164) (j := (a 146 23).toNat) (l := (-128)) (u := 127) rfl
    refine jt_ite (fun c1467_ => ?_) (fun c1467_ => ?_)
    ·
      exact hc236 y1 y2 y3 s0 a (show (((((a 146 22) - (a 146 23)) + (2 * y3)) + s0) + 1).toNat ≤ n from by omega) hv hf (show 0 ≤ y3 from by omega) (show y3 ≤ 1 from by omega) (show 0 ≤ s0 from by omega) (show s0 ≤ 1 from by omega) (show a 146 22 ≤ 100 from by omega) (show a 146 23 ≤ a 146 22 from by omega) (show 0 ≤ y2 from by omega) (show y2 ≤ a 146 23 from by omega) (show 0 ≤ y3 from by omega) (show 0 ≤ s0 from by omega) (show y3 ≤ 1 from by omega) (show s0 ≤ 1 from by omega) (show (s0 = 1 → a 146 23 < a 146 22) from by omega)
    ·
      refine jt_bI (sp_X12_see E d (jd_le hd rfl) a b0 hv (show a 146 23 ≤ a 146 22 from by omega)) (fun r1468_ a1468_ b1468_ h1468_ => ?_)
      obtain ⟨hv1468_, hf1468_, rfl, hq1468_0, hq1468_1, hq1468_2, hq1468_3⟩ := h1468_
      have h1469_ := iv_get hv1468_ (k := 146) (j := 23) (l := 0) (u := 200) rfl
      have h1470_ := iv_get hv1468_ (k := 164) (j := (a1468_ 146 23).toNat) (l := (-128)) (u := 127) rfl
      have h1471_ : a1468_ 164 ((a1468_ 146 23).toNat) = a 164 ((a1468_ 146 23).toNat) := hf1468_ 164 ((a1468_ 146 23).toNat) rfl
      have h1472_ := iv_get hv (k := 164) (j := (a1468_ 146 23).toNat) (l := (-128)) (u := 127) rfl
      have h1473_ : a 164 ((a1468_ 146 23).toNat) = a0 164 ((a1468_ 146 23).toNat) := hf 164 ((a1468_ 146 23).toNat) rfl
      have h1474_ := iv_get hv0 (k := 164) (j := (a1468_ 146 23).toNat) (l := (-128)) (u := 127) rfl
      refine jt_ite (fun c1475_ => ?_) (fun c1475_ => ?_)
      ·
        have hf1476_ : jfr jW_X12_rules a0 a1468_ := jfr_tr hf hf1468_ rfl
        have h1477_ := iv_get hv1468_ (k := 146) (j := 22) (l := 0) (u := 200) rfl
        have h1478_ : a1468_ 146 22 = a 146 22 := hf1468_ 146 22 rfl
        exact hc236 y1 y2 y3 s0 a1468_ (show (((((a1468_ 146 22) - (a1468_ 146 23)) + (2 * y3)) + s0) + 1).toNat ≤ n from by omega) hv1468_ hf1476_ (show 0 ≤ y3 from by omega) (show y3 ≤ 1 from by omega) (show 0 ≤ s0 from by omega) (show s0 ≤ 1 from by omega) (show a1468_ 146 22 ≤ 100 from by omega) (show a1468_ 146 23 ≤ a1468_ 146 22 from by omega) (show 0 ≤ y2 from by omega) (show y2 ≤ a1468_ 146 23 from by omega) (show 0 ≤ y3 from by omega) (show 0 ≤ s0 from by omega) (show y3 ≤ 1 from by omega) (show s0 ≤ 1 from by omega) (show (s0 = 1 → a1468_ 146 23 < a1468_ 146 22) from by omega)
      ·
        refine jt_bI (sp_X12_fails E d (jd_le hd rfl) 0 (a1468_ 146 23) a1468_ b0 hv1468_) (fun r1479_ a1479_ b1479_ h1479_ => ?_)
        obtain ⟨hv1479_, hf1479_, rfl, hq1479_0, hq1479_1⟩ := h1479_
        have hf1480_ : jfr jW_X12_rules a0 a1468_ := jfr_tr hf hf1468_ rfl
        have hf1481_ : jfr jW_X12_rules a0 a1479_ := jfr_tr hf1480_ hf1479_ rfl
        have h1482_ := iv_get hv1479_ (k := 146) (j := 22) (l := 0) (u := 200) rfl
        have h1483_ : a1479_ 146 22 = a1468_ 146 22 := hf1479_ 146 22 rfl
        have h1484_ := iv_get hv1468_ (k := 146) (j := 22) (l := 0) (u := 200) rfl
        have h1485_ : a1468_ 146 22 = a 146 22 := hf1468_ 146 22 rfl
        have h1486_ := iv_get hv1479_ (k := 146) (j := 23) (l := 0) (u := 200) rfl
        have h1487_ : a1479_ 146 23 = a1468_ 146 23 := hf1479_ 146 23 rfl
        exact hc236 y1 y2 r1479_ s0 a1479_ (show (((((a1479_ 146 22) - (a1479_ 146 23)) + (2 * r1479_)) + s0) + 1).toNat ≤ n from by omega) hv1479_ hf1481_ (show 0 ≤ r1479_ from by omega) (show r1479_ ≤ 1 from by omega) (show 0 ≤ s0 from by omega) (show s0 ≤ 1 from by omega) (show a1479_ 146 22 ≤ 100 from by omega) (show a1479_ 146 23 ≤ a1479_ 146 22 from by omega) (show 0 ≤ y2 from by omega) (show y2 ≤ a1479_ 146 23 from by omega) (show 0 ≤ r1479_ from by omega) (show 0 ≤ s0 from by omega) (show r1479_ ≤ 1 from by omega) (show s0 ≤ 1 from by omega) (show (s0 = 1 → a1479_ 146 23 < a1479_ 146 22) from by omega)
  have hc205 : ∀ (y1 y2 y3 : Int) (a : Nat → Nat → Int), ((((a 146 22) - (a 146 23)) + (2 * y3)) + 2).toNat ≤ n → iv a → jfr jW_X12_rules a0 a → 1 ≤ y3 → y3 ≤ 1 → a 146 22 ≤ 100 → a 146 23 ≤ a 146 22 → 0 ≤ y2 → y2 ≤ a 146 23 → 0 ≤ y3 → y3 ≤ 1 → a 146 23 < a 146 22 → ¬ a 164 ((a 146 23).toNat) = 32 → jt (jxX E d 232 205 [some (.inr (.inr (.inl 146))), some (.inl y1), some (.inl y2), some (.inl y3), none, none] [] (jxSH, a, b0)) (jQ_X12_rules a0 b0) := by
    intro y1 y2 y3 a hm hv hf hi0 hi1 hi2 hi3 hi4 hi5 hi6 hi7 hi8 hi9
    refine jt_eq (bq_X12_rules_205 E d y1 y2 y3 a b0) ?_
    have h1488_ := iv_get hv (k := 146) (j := 22) (l := 0) (u := 200) rfl
    have h1489_ := iv_get hv (k := 146) (j := 23) (l := 0) (u := 200) rfl
    have h1490_ := iv_get hv (k := 164) (j := (a 146 23).toNat) (l := (-128)) (u := 127) rfl
    have h1491_ : a 164 ((a 146 23).toNat) = a0 164 ((a 146 23).toNat) := hf 164 ((a 146 23).toNat) rfl
    have h1492_ := iv_get hv0 (k := 164) (j := (a 146 23).toNat) (l := (-128)) (u := 127) rfl
    exact hc210 y1 y2 y3 1 a (show (((((a 146 22) - (a 146 23)) + (2 * y3)) + 1) + 1).toNat ≤ n from by omega) hv hf (show 0 ≤ y3 from by omega) (show y3 ≤ 1 from by omega) (show 0 ≤ 1 from by omega) (show 1 ≤ 1 from by omega) (show a 146 22 ≤ 100 from by omega) (show a 146 23 ≤ a 146 22 from by omega) (show 0 ≤ y2 from by omega) (show y2 ≤ a 146 23 from by omega) (show 0 ≤ y3 from by omega) (show 0 ≤ 1 from by omega) (show y3 ≤ 1 from by omega) (show 1 ≤ 1 from by omega) (show (1 = 1 → (a 146 23 < a 146 22 ∧ ¬ a 164 ((a 146 23).toNat) = 32)) from by omega)
  have hc209 : ∀ (y1 y2 y3 : Int) (a : Nat → Nat → Int), ((((a 146 22) - (a 146 23)) + (2 * y3)) + 1).toNat ≤ n → iv a → jfr jW_X12_rules a0 a → 0 ≤ y3 → y3 ≤ 1 → a 146 22 ≤ 100 → a 146 23 ≤ a 146 22 → 0 ≤ y2 → y2 ≤ a 146 23 → 0 ≤ y3 → y3 ≤ 1 → jt (jxX E d 232 209 [some (.inr (.inr (.inl 146))), some (.inl y1), some (.inl y2), some (.inl y3), none, none] [] (jxSH, a, b0)) (jQ_X12_rules a0 b0) := by
    intro y1 y2 y3 a hm hv hf hi0 hi1 hi2 hi3 hi4 hi5 hi6 hi7
    refine jt_eq (bq_X12_rules_209 E d y1 y2 y3 a b0) ?_
    have h1493_ := iv_get hv (k := 146) (j := 22) (l := 0) (u := 200) rfl
    have h1494_ := iv_get hv (k := 146) (j := 23) (l := 0) (u := 200) rfl
    have h1495_ := iv_get hv (k := 164) (j := (a 146 23).toNat) (l := (-128)) (u := 127) rfl
    have h1496_ : a 164 ((a 146 23).toNat) = a0 164 ((a 146 23).toNat) := hf 164 ((a 146 23).toNat) rfl
    have h1497_ := iv_get hv0 (k := 164) (j := (a 146 23).toNat) (l := (-128)) (u := 127) rfl
    exact hc210 y1 y2 y3 0 a (show (((((a 146 22) - (a 146 23)) + (2 * y3)) + 0) + 1).toNat ≤ n from by omega) hv hf (show 0 ≤ y3 from by omega) (show y3 ≤ 1 from by omega) (show 0 ≤ 0 from by omega) (show 0 ≤ 1 from by omega) (show a 146 22 ≤ 100 from by omega) (show a 146 23 ≤ a 146 22 from by omega) (show 0 ≤ y2 from by omega) (show y2 ≤ a 146 23 from by omega) (show 0 ≤ y3 from by omega) (show 0 ≤ 0 from by omega) (show y3 ≤ 1 from by omega) (show 0 ≤ 1 from by omega) (show (0 = 1 → (a 146 23 < a 146 22 ∧ ¬ a 164 ((a 146 23).toNat) = 32)) from by omega)
  have hc170 : ∀ (y1 y2 y5 s1 : Int) (a : Nat → Nat → Int), (((a 146 22) - (a 146 23)) + 4).toNat ≤ n → iv a → jfr jW_X12_rules a0 a → 0 - 11 ≤ y5 → y5 ≤ 5 → 0 ≤ s1 → s1 ≤ 1 → a 146 22 ≤ 100 → a 146 23 ≤ a 146 22 → 0 ≤ y2 → y2 + 2 ≤ a 146 23 → 0 ≤ y5 → y5 ≤ 4 → jt (jxX E d 232 170 [some (.inr (.inr (.inl 146))), some (.inl y1), some (.inl y2), none, none, some (.inl y5)] [.inl s1, .inr (.inr (.inl 146))] (jxSH, a, b0)) (jQ_X12_rules a0 b0) := by
    intro y1 y2 y5 s1 a hm hv hf hi0 hi1 hi2 hi3 hi4 hi5 hi6 hi7 hi8 hi9
    refine jt_eq (bq_X12_rules_170 E d y1 y2 y5 s1 a b0) ?_
    have h1498_ := iv_get hv (k := 146) (j := 22) (l := 0) (u := 200) rfl
    have h1499_ := iv_get hv (k := 146) (j := 23) (l := 0) (u := 200) rfl
    refine jt_eI (eq_X12_mostOf E d (jd_le hd rfl) y5 a b0) ?_
    refine jt_bI (sp_X12_number E d (jd_le hd rfl) s1 (f_X12_mostOf a b0 y5) a b0 hv (show a 146 23 ≤ a 146 22 from by omega)) (fun r1500_ a1500_ b1500_ h1500_ => ?_)
    obtain ⟨hv1500_, hf1500_, rfl, hq1500_0, hq1500_1, hq1500_2, hq1500_3⟩ := h1500_
    have h1501_ := iv_get hv1500_ (k := 146) (j := 23) (l := 0) (u := 200) rfl
    have h1502_ := iv_get hv1500_ (k := 146) (j := 26) (l := 0) (u := 999) rfl
    have h1503_ := f_X12_mostOf_eq a b0 y5
    refine jt_grd (by omega) ?_
    refine jt_ite (fun c1504_ => ?_) (fun c1504_ => ?_)
    ·
      have hv1505_ : iv (jxu a1500_ 172 (y5.toNat) (a1500_ 146 26)) := iv_putf hv1500_ rfl
      have hf1506_ : jfr jW_X12_rules a0 a1500_ := jfr_tr hf hf1500_ rfl
      have hf1507_ : jfr jW_X12_rules a0 (jxu a1500_ 172 (y5.toNat) (a1500_ 146 26)) := jfr_put hf1506_ rfl
      have h1508_ := iv_get hv1500_ (k := 146) (j := 22) (l := 0) (u := 200) rfl
      have h1509_ : a1500_ 146 22 = a 146 22 := hf1500_ 146 22 rfl
      have h1510_ := jxw_im (y2 + 1)
      have h1511_ := jxw_rg (y2 + 1)
      exact hc209 y1 (jxw (y2 + 1)) r1500_ (jxu a1500_ 172 (y5.toNat) (a1500_ 146 26)) (show ((((a1500_ 146 22) - (a1500_ 146 23)) + (2 * r1500_)) + 1).toNat ≤ n from by omega) hv1505_ hf1507_ (show 0 ≤ r1500_ from by omega) (show r1500_ ≤ 1 from by omega) (show a1500_ 146 22 ≤ 100 from by omega) (show a1500_ 146 23 ≤ a1500_ 146 22 from by omega) (show 0 ≤ jxw (y2 + 1) from by omega) (show jxw (y2 + 1) ≤ a1500_ 146 23 from by omega) (show 0 ≤ r1500_ from by omega) (show r1500_ ≤ 1 from by omega)
    ·
      have hv1512_ : iv (jxu a1500_ 172 (y5.toNat) (a1500_ 146 26)) := iv_putf hv1500_ rfl
      have h1513_ := iv_get hv1500_ (k := 146) (j := 22) (l := 0) (u := 200) rfl
      have h1514_ : a1500_ 146 22 = a 146 22 := hf1500_ 146 22 rfl
      refine jt_bI (sp_X12_see E d (jd_le hd rfl) (jxu a1500_ 172 (y5.toNat) (a1500_ 146 26)) b0 hv1512_ (show a1500_ 146 23 ≤ a1500_ 146 22 from by omega)) (fun r1515_ a1515_ b1515_ h1515_ => ?_)
      obtain ⟨hv1515_, hf1515_, rfl, hq1515_0, hq1515_1, hq1515_2, hq1515_3⟩ := h1515_
      have h1516_ := iv_get hv1515_ (k := 146) (j := 23) (l := 0) (u := 200) rfl
      have h1517_ : a1500_ 146 23 ≤ a1515_ 146 23 := hq1515_0
      have h1518_ : a1515_ 146 23 ≤ a1500_ 146 22 := hq1515_1
      have h1519_ := iv_get hv1515_ (k := 164) (j := (a1515_ 146 23).toNat) (l := (-128)) (u := 127) rfl
      have h1520_ : a1515_ 164 ((a1515_ 146 23).toNat) = a1500_ 164 ((a1515_ 146 23).toNat) := hf1515_ 164 ((a1515_ 146 23).toNat) rfl
      have h1521_ := iv_get hv1500_ (k := 164) (j := (a1515_ 146 23).toNat) (l := (-128)) (u := 127) rfl
      have h1522_ : a1500_ 164 ((a1515_ 146 23).toNat) = a 164 ((a1515_ 146 23).toNat) := hf1500_ 164 ((a1515_ 146 23).toNat) rfl
      have h1523_ := iv_get hv (k := 164) (j := (a1515_ 146 23).toNat) (l := (-128)) (u := 127) rfl
      have h1524_ : a 164 ((a1515_ 146 23).toNat) = a0 164 ((a1515_ 146 23).toNat) := hf 164 ((a1515_ 146 23).toNat) rfl
      have h1525_ := iv_get hv0 (k := 164) (j := (a1515_ 146 23).toNat) (l := (-128)) (u := 127) rfl
      have h1526_ : ((r1515_ = 0 - 1 ∧ a1515_ 146 23 = a1500_ 146 22) ∨ (((0 ≤ r1515_ ∧ r1515_ ≤ 255) ∧ a1515_ 146 23 < a1500_ 146 22) ∧ ¬ a1515_ 164 ((a1515_ 146 23).toNat) = 32)) := hq1515_2
      have h1527_ := iv_get hv1500_ (k := 164) (j := (a1500_ 146 23).toNat) (l := (-128)) (u := 127) rfl
      have h1528_ : a1500_ 164 ((a1500_ 146 23).toNat) = a 164 ((a1500_ 146 23).toNat) := hf1500_ 164 ((a1500_ 146 23).toNat) rfl
      have h1529_ := iv_get hv (k := 164) (j := (a1500_ 146 23).toNat) (l := (-128)) (u := 127) rfl
      have h1530_ : a 164 ((a1500_ 146 23).toNat) = a0 164 ((a1500_ 146 23).toNat) := hf 164 ((a1500_ 146 23).toNat) rfl
      have h1531_ := iv_get hv0 (k := 164) (j := (a1500_ 146 23).toNat) (l := (-128)) (u := 127) rfl
      have h1532_ : ((a1500_ 146 23 < a1500_ 146 22 ∧ ¬ a1500_ 164 ((a1500_ 146 23).toNat) = 32) → a1515_ 146 23 = a1500_ 146 23) := hq1515_3
      refine jt_ite (fun c1533_ => ?_) (fun c1533_ => ?_)
      ·
        have hf1534_ : jfr jW_X12_rules a0 a1500_ := jfr_tr hf hf1500_ rfl
        have hf1535_ : jfr jW_X12_rules a0 (jxu a1500_ 172 (y5.toNat) (a1500_ 146 26)) := jfr_put hf1534_ rfl
        have hf1536_ : jfr jW_X12_rules a0 a1515_ := jfr_tr hf1535_ hf1515_ rfl
        have h1537_ := iv_get hv1515_ (k := 146) (j := 22) (l := 0) (u := 200) rfl
        have h1538_ : a1515_ 146 22 = a1500_ 146 22 := hf1515_ 146 22 rfl
        have h1539_ := jxw_im (y2 + 1)
        have h1540_ := jxw_rg (y2 + 1)
        exact hc209 y1 (jxw (y2 + 1)) r1500_ a1515_ (show ((((a1515_ 146 22) - (a1515_ 146 23)) + (2 * r1500_)) + 1).toNat ≤ n from by omega) hv1515_ hf1536_ (show 0 ≤ r1500_ from by omega) (show r1500_ ≤ 1 from by omega) (show a1515_ 146 22 ≤ 100 from by omega) (show a1515_ 146 23 ≤ a1515_ 146 22 from by omega) (show 0 ≤ jxw (y2 + 1) from by omega) (show jxw (y2 + 1) ≤ a1515_ 146 23 from by omega) (show 0 ≤ r1500_ from by omega) (show r1500_ ≤ 1 from by omega)
      ·
        have hf1541_ : jfr jW_X12_rules a0 a1500_ := jfr_tr hf hf1500_ rfl
        have hf1542_ : jfr jW_X12_rules a0 (jxu a1500_ 172 (y5.toNat) (a1500_ 146 26)) := jfr_put hf1541_ rfl
        have hf1543_ : jfr jW_X12_rules a0 a1515_ := jfr_tr hf1542_ hf1515_ rfl
        have h1544_ := iv_get hv1515_ (k := 146) (j := 22) (l := 0) (u := 200) rfl
        have h1545_ : a1515_ 146 22 = a1500_ 146 22 := hf1515_ 146 22 rfl
        have h1546_ := jxw_im (y2 + 1)
        have h1547_ := jxw_rg (y2 + 1)
        exact hc205 y1 (jxw (y2 + 1)) r1500_ a1515_ (show ((((a1515_ 146 22) - (a1515_ 146 23)) + (2 * r1500_)) + 2).toNat ≤ n from by omega) hv1515_ hf1543_ (show 1 ≤ r1500_ from by omega) (show r1500_ ≤ 1 from by omega) (show a1515_ 146 22 ≤ 100 from by omega) (show a1515_ 146 23 ≤ a1515_ 146 22 from by omega) (show 0 ≤ jxw (y2 + 1) from by omega) (show jxw (y2 + 1) ≤ a1515_ 146 23 from by omega) (show 0 ≤ r1500_ from by omega) (show r1500_ ≤ 1 from by omega) (show a1515_ 146 23 < a1515_ 146 22 from by omega) (show ¬ a1515_ 164 ((a1515_ 146 23).toNat) = 32 from by omega)
  have hc165 : ∀ (y1 y2 y5 : Int) (a : Nat → Nat → Int), (((a 146 22) - (a 146 23)) + 4).toNat ≤ n → iv a → jfr jW_X12_rules a0 a → 0 ≤ y5 → y5 ≤ 3 → a 146 22 ≤ 100 → a 146 23 ≤ a 146 22 → 0 ≤ y2 → y2 + 2 ≤ a 146 23 → 0 ≤ y5 → y5 ≤ 4 → jt (jxX E d 232 165 [some (.inr (.inr (.inl 146))), some (.inl y1), some (.inl y2), none, none, some (.inl y5)] [.inr (.inr (.inl 146))] (jxSH, a, b0)) (jQ_X12_rules a0 b0) := by
    intro y1 y2 y5 a hm hv hf hi0 hi1 hi2 hi3 hi4 hi5 hi6 hi7
    refine jt_eq (bq_X12_rules_165 E d y1 y2 y5 a b0) ?_
    have h1548_ := iv_get hv (k := 146) (j := 22) (l := 0) (u := 200) rfl
    have h1549_ := iv_get hv (k := 146) (j := 23) (l := 0) (u := 200) rfl
    exact hc170 y1 y2 y5 1 a (show (((a 146 22) - (a 146 23)) + 4).toNat ≤ n from by omega) hv hf (show 0 - 11 ≤ y5 from by omega) (show y5 ≤ 5 from by omega) (show 0 ≤ 1 from by omega) (show 1 ≤ 1 from by omega) (show a 146 22 ≤ 100 from by omega) (show a 146 23 ≤ a 146 22 from by omega) (show 0 ≤ y2 from by omega) (show y2 + 2 ≤ a 146 23 from by omega) (show 0 ≤ y5 from by omega) (show y5 ≤ 4 from by omega)
  have hc153 : ∀ (y1 y2 y5 : Int) (a : Nat → Nat → Int), (((a 146 22) - (a 146 23)) + 4).toNat ≤ n → iv a → jfr jW_X12_rules a0 a → 0 - 11 ≤ y5 → y5 ≤ 5 → a 146 22 ≤ 100 → a 146 23 ≤ a 146 22 → 0 ≤ y2 → y2 + 2 ≤ a 146 23 → 0 ≤ y5 → y5 ≤ 4 → jt (jxX E d 232 153 [some (.inr (.inr (.inl 146))), some (.inl y1), some (.inl y2), none, none, some (.inl y5)] [] (jxSH, a, b0)) (jQ_X12_rules a0 b0) := by
    intro y1 y2 y5 a hm hv hf hi0 hi1 hi2 hi3 hi4 hi5 hi6 hi7
    refine jt_eq (bq_X12_rules_153 E d y1 y2 y5 a b0) ?_
    have h1550_ := iv_get hv (k := 146) (j := 22) (l := 0) (u := 200) rfl
    have h1551_ := iv_get hv (k := 146) (j := 23) (l := 0) (u := 200) rfl
    refine jt_ite (fun c1552_ => ?_) (fun c1552_ => ?_)
    ·
      exact hc165 y1 y2 y5 a (show (((a 146 22) - (a 146 23)) + 4).toNat ≤ n from by omega) hv hf (show 0 ≤ y5 from by omega) (show y5 ≤ 3 from by omega) (show a 146 22 ≤ 100 from by omega) (show a 146 23 ≤ a 146 22 from by omega) (show 0 ≤ y2 from by omega) (show y2 + 2 ≤ a 146 23 from by omega) (show 0 ≤ y5 from by omega) (show y5 ≤ 4 from by omega)
    ·
      refine jt_ite (fun c1553_ => ?_) (fun c1553_ => ?_)
      ·
        exact hc165 y1 y2 y5 a (show (((a 146 22) - (a 146 23)) + 4).toNat ≤ n from by omega) hv hf (show 0 ≤ y5 from by omega) (show y5 ≤ 3 from by omega) (show a 146 22 ≤ 100 from by omega) (show a 146 23 ≤ a 146 22 from by omega) (show 0 ≤ y2 from by omega) (show y2 + 2 ≤ a 146 23 from by omega) (show 0 ≤ y5 from by omega) (show y5 ≤ 4 from by omega)
      ·
        exact hc170 y1 y2 y5 0 a (show (((a 146 22) - (a 146 23)) + 4).toNat ≤ n from by omega) hv hf (show 0 - 11 ≤ y5 from by omega) (show y5 ≤ 5 from by omega) (show 0 ≤ 0 from by omega) (show 0 ≤ 1 from by omega) (show a 146 22 ≤ 100 from by omega) (show a 146 23 ≤ a 146 22 from by omega) (show 0 ≤ y2 from by omega) (show y2 + 2 ≤ a 146 23 from by omega) (show 0 ≤ y5 from by omega) (show y5 ≤ 4 from by omega)
  have hc126 : ∀ (y1 y2 y3 y5 : Int) (a : Nat → Nat → Int), (((a 146 22) - (a 146 23)) + 2).toNat ≤ n → iv a → jfr jW_X12_rules a0 a → 0 ≤ y3 → y3 ≤ 1 → 0 - 11 ≤ y5 → y5 ≤ 5 → a 146 22 ≤ 100 → a 146 23 ≤ a 146 22 → 0 ≤ y2 → y2 ≤ a 146 23 → (a 146 23) + (a 146 25) ≤ a 146 22 → 0 ≤ y3 → y3 ≤ 1 → (y3 = 1 → ((0 ≤ y5 ∧ y5 ≤ 4) ∧ 2 ≤ a 146 25)) → jt (jxX E d 232 126 [some (.inr (.inr (.inl 146))), some (.inl y1), some (.inl y2), some (.inl y3), none, some (.inl y5)] [] (jxSH, a, b0)) (jQ_X12_rules a0 b0) := by
    intro y1 y2 y3 y5 a hm hv hf hi0 hi1 hi2 hi3 hi4 hi5 hi6 hi7 hi8 hi9 hi10 hi11
    refine jt_eq (bq_X12_rules_126 E d y1 y2 y3 y5 a b0) ?_
    have h1554_ := iv_get hv (k := 146) (j := 22) (l := 0) (u := 200) rfl
    have h1555_ := iv_get hv (k := 146) (j := 23) (l := 0) (u := 200) rfl
    have h1556_ := iv_get hv (k := 146) (j := 25) (l := 0) (u := 200) rfl
    refine jt_ite (fun c1557_ => ?_) (fun c1557_ => ?_)
    ·
      exact cp_X12_rules_281 E d hd a0 b0 hv0 y2 y3 a hv hf (show 0 ≤ y3 from by omega) (show y3 ≤ 1 from by omega) (show a 146 22 ≤ 100 from by omega) (show 0 ≤ y3 from by omega) (show y3 ≤ 1 from by omega)
    ·
      have h1559_ : jxw ((a 146 23) + (a 146 25)) = (a 146 23) + (a 146 25) := jxw_id (by omega) (by omega)
      have hv1558_ : iv (jxu a 146 23 (jxw ((a 146 23) + (a 146 25)))) := iv_put hv (l := 0) (u := 200) rfl (by omega) (by omega)
      have hf1560_ : jfr jW_X12_rules a0 (jxu a 146 23 (jxw ((a 146 23) + (a 146 25)))) := jfr_put hf rfl
      exact hc153 (jxor y1 (jxshl 1 y5)) y2 y5 (jxu a 146 23 (jxw ((a 146 23) + (a 146 25)))) (show (((a 146 22) - (jxw ((a 146 23) + (a 146 25)))) + 4).toNat ≤ n from by omega) hv1558_ hf1560_ (show 0 - 11 ≤ y5 from by omega) (show y5 ≤ 5 from by omega) (show a 146 22 ≤ 100 from by omega) (show jxw ((a 146 23) + (a 146 25)) ≤ a 146 22 from by omega) (show 0 ≤ y2 from by omega) (show y2 + 2 ≤ jxw ((a 146 23) + (a 146 25)) from by omega) (show 0 ≤ y5 from by omega) (show y5 ≤ 4 from by omega)
  have hc93 : ∀ (y1 y2 y5 : Int) (a : Nat → Nat → Int), (((a 146 22) - (a 146 23)) + 2).toNat ≤ n → iv a → jfr jW_X12_rules a0 a → 0 - 11 ≤ y5 → y5 ≤ 5 → a 146 22 ≤ 100 → a 146 23 ≤ a 146 22 → 0 ≤ y2 → y2 ≤ a 146 23 → (a 146 23) + (a 146 25) ≤ a 146 22 → jt (jxX E d 232 93 [some (.inr (.inr (.inl 146))), some (.inl y1), some (.inl y2), none, none, some (.inl y5)] [] (jxSH, a, b0)) (jQ_X12_rules a0 b0) := by
    intro y1 y2 y5 a hm hv hf hi0 hi1 hi2 hi3 hi4 hi5 hi6
    refine jt_eq (bq_X12_rules_93 E d y1 y2 y5 a b0) ?_
    have h1561_ := iv_get hv (k := 146) (j := 22) (l := 0) (u := 200) rfl
    have h1562_ := iv_get hv (k := 146) (j := 23) (l := 0) (u := 200) rfl
    have h1563_ := iv_get hv (k := 146) (j := 25) (l := 0) (u := 200) rfl
    refine jt_bI (sp_X12_fails E d (jd_le hd rfl) 0 (a 146 23) a b0 hv) (fun r1564_ a1564_ b1564_ h1564_ => ?_)
    obtain ⟨hv1564_, hf1564_, rfl, hq1564_0, hq1564_1⟩ := h1564_
    have hf1565_ : jfr jW_X12_rules a0 a1564_ := jfr_tr hf hf1564_ rfl
    have h1566_ := iv_get hv1564_ (k := 146) (j := 22) (l := 0) (u := 200) rfl
    have h1567_ : a1564_ 146 22 = a 146 22 := hf1564_ 146 22 rfl
    have h1568_ := iv_get hv1564_ (k := 146) (j := 23) (l := 0) (u := 200) rfl
    have h1569_ : a1564_ 146 23 = a 146 23 := hf1564_ 146 23 rfl
    have h1570_ := iv_get hv1564_ (k := 146) (j := 25) (l := 0) (u := 200) rfl
    have h1571_ : a1564_ 146 25 = a 146 25 := hf1564_ 146 25 rfl
    exact hc126 y1 y2 r1564_ y5 a1564_ (show (((a1564_ 146 22) - (a1564_ 146 23)) + 2).toNat ≤ n from by omega) hv1564_ hf1565_ (show 0 ≤ r1564_ from by omega) (show r1564_ ≤ 1 from by omega) (show 0 - 11 ≤ y5 from by omega) (show y5 ≤ 5 from by omega) (show a1564_ 146 22 ≤ 100 from by omega) (show a1564_ 146 23 ≤ a1564_ 146 22 from by omega) (show 0 ≤ y2 from by omega) (show y2 ≤ a1564_ 146 23 from by omega) (show (a1564_ 146 23) + (a1564_ 146 25) ≤ a1564_ 146 22 from by omega) (show 0 ≤ r1564_ from by omega) (show r1564_ ≤ 1 from by omega) (show (r1564_ = 1 → ((0 ≤ y5 ∧ y5 ≤ 4) ∧ 2 ≤ a1564_ 146 25)) from by omega)
  have hc106 : ∀ (y1 y2 y3 y5 : Int) (a : Nat → Nat → Int), (((a 146 22) - (a 146 23)) + 2).toNat ≤ n → iv a → jfr jW_X12_rules a0 a → 1 ≤ y3 → y3 ≤ 1 → 0 ≤ y5 → y5 ≤ 4 → a 146 22 ≤ 100 → a 146 23 ≤ a 146 22 → 0 ≤ y2 → y2 ≤ a 146 23 → (a 146 23) + (a 146 25) ≤ a 146 22 → 0 ≤ y3 → y3 ≤ 1 → 0 ≤ y5 → y5 ≤ 4 → 2 ≤ a 146 25 → jt (jxX E d 232 106 [some (.inr (.inr (.inl 146))), some (.inl y1), some (.inl y2), some (.inl y3), none, some (.inl y5)] [] (jxSH, a, b0)) (jQ_X12_rules a0 b0) := by
    intro y1 y2 y3 y5 a hm hv hf hi0 hi1 hi2 hi3 hi4 hi5 hi6 hi7 hi8 hi9 hi10 hi11 hi12 hi13
    refine jt_eq (bq_X12_rules_106 E d y1 y2 y3 y5 a b0) ?_
    have h1572_ := iv_get hv (k := 146) (j := 22) (l := 0) (u := 200) rfl
    have h1573_ := iv_get hv (k := 146) (j := 23) (l := 0) (u := 200) rfl
    have h1574_ := iv_get hv (k := 146) (j := 25) (l := 0) (u := 200) rfl
    have h1575_ := jxshr_b y1 y5
    have h1576_ := jxand_r (jxshr y1 y5) 1 (by decide) (by decide)
    refine jt_ite (fun c1577_ => ?_) (fun c1577_ => ?_)
    ·
      refine jt_bI (sp_X12_fails E d (jd_le hd rfl) 2 (a 146 23) a b0 hv) (fun r1578_ a1578_ b1578_ h1578_ => ?_)
      obtain ⟨hv1578_, hf1578_, rfl, hq1578_0, hq1578_1⟩ := h1578_
      have hf1579_ : jfr jW_X12_rules a0 a1578_ := jfr_tr hf hf1578_ rfl
      have h1580_ := iv_get hv1578_ (k := 146) (j := 22) (l := 0) (u := 200) rfl
      have h1581_ : a1578_ 146 22 = a 146 22 := hf1578_ 146 22 rfl
      have h1582_ := iv_get hv1578_ (k := 146) (j := 23) (l := 0) (u := 200) rfl
      have h1583_ : a1578_ 146 23 = a 146 23 := hf1578_ 146 23 rfl
      have h1584_ := iv_get hv1578_ (k := 146) (j := 25) (l := 0) (u := 200) rfl
      have h1585_ : a1578_ 146 25 = a 146 25 := hf1578_ 146 25 rfl
      exact hc126 y1 y2 r1578_ y5 a1578_ (show (((a1578_ 146 22) - (a1578_ 146 23)) + 2).toNat ≤ n from by omega) hv1578_ hf1579_ (show 0 ≤ r1578_ from by omega) (show r1578_ ≤ 1 from by omega) (show 0 - 11 ≤ y5 from by omega) (show y5 ≤ 5 from by omega) (show a1578_ 146 22 ≤ 100 from by omega) (show a1578_ 146 23 ≤ a1578_ 146 22 from by omega) (show 0 ≤ y2 from by omega) (show y2 ≤ a1578_ 146 23 from by omega) (show (a1578_ 146 23) + (a1578_ 146 25) ≤ a1578_ 146 22 from by omega) (show 0 ≤ r1578_ from by omega) (show r1578_ ≤ 1 from by omega) (show (r1578_ = 1 → ((0 ≤ y5 ∧ y5 ≤ 4) ∧ 2 ≤ a1578_ 146 25)) from by omega)
    ·
      exact hc126 y1 y2 y3 y5 a (show (((a 146 22) - (a 146 23)) + 2).toNat ≤ n from by omega) hv hf (show 0 ≤ y3 from by omega) (show y3 ≤ 1 from by omega) (show 0 - 11 ≤ y5 from by omega) (show y5 ≤ 5 from by omega) (show a 146 22 ≤ 100 from by omega) (show a 146 23 ≤ a 146 22 from by omega) (show 0 ≤ y2 from by omega) (show y2 ≤ a 146 23 from by omega) (show (a 146 23) + (a 146 25) ≤ a 146 22 from by omega) (show 0 ≤ y3 from by omega) (show y3 ≤ 1 from by omega) (show (y3 = 1 → ((0 ≤ y5 ∧ y5 ≤ 4) ∧ 2 ≤ a 146 25)) from by omega)
  have hc65 : ∀ (y1 y2 y3 y4 : Int) (a : Nat → Nat → Int), ((((a 146 22) - (a 146 23)) + y3) + y4).toNat ≤ n → iv a → jfr jW_X12_rules a0 a → 0 ≤ y3 → y3 ≤ 1 → 0 ≤ y4 → y4 ≤ 1 → a 146 22 ≤ 100 → a 146 23 ≤ a 146 22 → 0 ≤ y2 → y2 ≤ a 146 23 → 0 ≤ y3 → 0 ≤ y4 → y3 ≤ 1 → y4 ≤ 1 → jt (jxX E d 232 65 [some (.inr (.inr (.inl 146))), some (.inl y1), some (.inl y2), some (.inl y3), some (.inl y4), none] [] (jxSH, a, b0)) (jQ_X12_rules a0 b0) := by
    intro y1 y2 y3 y4 a hm hv hf hi0 hi1 hi2 hi3 hi4 hi5 hi6 hi7 hi8 hi9 hi10 hi11
    refine jt_eq (bq_X12_rules_65 E d y1 y2 y3 y4 a b0) ?_
    have h1586_ := iv_get hv (k := 146) (j := 22) (l := 0) (u := 200) rfl
    have h1587_ := iv_get hv (k := 146) (j := 23) (l := 0) (u := 200) rfl
    refine jt_ite (fun c1588_ => ?_) (fun c1588_ => ?_)
    ·
      exact cp_X12_rules_281 E d hd a0 b0 hv0 y2 y3 a hv hf (show 0 ≤ y3 from by omega) (show y3 ≤ 1 from by omega) (show a 146 22 ≤ 100 from by omega) (show 0 ≤ y3 from by omega) (show y3 ≤ 1 from by omega)
    ·
      refine jt_ite (fun c1589_ => ?_) (fun c1589_ => ?_)
      ·
        exact cp_X12_rules_281 E d hd a0 b0 hv0 y2 y3 a hv hf (show 0 ≤ y3 from by omega) (show y3 ≤ 1 from by omega) (show a 146 22 ≤ 100 from by omega) (show 0 ≤ y3 from by omega) (show y3 ≤ 1 from by omega)
      ·
        refine jt_bI (sp_X12_wordHere E d (jd_le hd rfl) a b0 hv (show a 146 23 ≤ a 146 22 from by omega)) (fun r1590_ a1590_ b1590_ h1590_ => ?_)
        obtain ⟨hv1590_, hf1590_, rfl, hq1590_0, hq1590_1, hq1590_2, hq1590_3, hq1590_4, hq1590_5, hq1590_6⟩ := h1590_
        have h1591_ := iv_get hv1590_ (k := 146) (j := 23) (l := 0) (u := 200) rfl
        have h1592_ := iv_get hv1590_ (k := 146) (j := 25) (l := 0) (u := 200) rfl
        have h1593_ := iv_get hv1590_ (k := 146) (j := 22) (l := 0) (u := 200) rfl
        have h1594_ : a1590_ 146 22 = a 146 22 := hf1590_ 146 22 rfl
        have h1595_ := iv_get hv (k := 164) (j := (a 146 23).toNat) (l := (-128)) (u := 127) rfl
        have h1596_ : a 164 ((a 146 23).toNat) = a0 164 ((a 146 23).toNat) := hf 164 ((a 146 23).toNat) rfl
        have h1597_ := iv_get hv0 (k := 164) (j := (a 146 23).toNat) (l := (-128)) (u := 127) rfl
        refine jt_eI (eq_X12_in E d (jd_le hd rfl) (jxw (r1590_ - 10)) 0 4 a1590_ b0) ?_
        have h1598_ : jxw (r1590_ - 10) = r1590_ - 10 := jxw_id (by omega) (by omega)
        have h1599_ := f_X12_in_eq a1590_ b0 (jxw (r1590_ - 10)) 0 4
        refine jt_ite (fun c1600_ => ?_) (fun c1600_ => ?_)
        ·
          have hf1601_ : jfr jW_X12_rules a0 a1590_ := jfr_tr hf hf1590_ rfl
          exact hc93 y1 y2 (jxw (r1590_ - 10)) a1590_ (show (((a1590_ 146 22) - (a1590_ 146 23)) + 2).toNat ≤ n from by omega) hv1590_ hf1601_ (show 0 - 11 ≤ jxw (r1590_ - 10) from by omega) (show jxw (r1590_ - 10) ≤ 5 from by omega) (show a1590_ 146 22 ≤ 100 from by omega) (show a1590_ 146 23 ≤ a1590_ 146 22 from by omega) (show 0 ≤ y2 from by omega) (show y2 ≤ a1590_ 146 23 from by omega) (show (a1590_ 146 23) + (a1590_ 146 25) ≤ a1590_ 146 22 from by omega)
        ·
          have hf1602_ : jfr jW_X12_rules a0 a1590_ := jfr_tr hf hf1590_ rfl
          exact hc106 y1 y2 y3 (jxw (r1590_ - 10)) a1590_ (show (((a1590_ 146 22) - (a1590_ 146 23)) + 2).toNat ≤ n from by omega) hv1590_ hf1602_ (show 1 ≤ y3 from by omega) (show y3 ≤ 1 from by omega) (show 0 ≤ jxw (r1590_ - 10) from by omega) (show jxw (r1590_ - 10) ≤ 4 from by omega) (show a1590_ 146 22 ≤ 100 from by omega) (show a1590_ 146 23 ≤ a1590_ 146 22 from by omega) (show 0 ≤ y2 from by omega) (show y2 ≤ a1590_ 146 23 from by omega) (show (a1590_ 146 23) + (a1590_ 146 25) ≤ a1590_ 146 22 from by omega) (show 0 ≤ y3 from by omega) (show y3 ≤ 1 from by omega) (show 0 ≤ jxw (r1590_ - 10) from by omega) (show jxw (r1590_ - 10) ≤ 4 from by omega) (show 2 ≤ a1590_ 146 25 from by omega)
  exact ⟨hc278, hc251, hc236, hc210, hc205, hc209, hc170, hc165, hc153, hc126, hc93, hc106, hc65⟩
theorem cp_X12_rules_27 (E : jxE) (d : Nat) (hd : Nat.ble 3 (d + 1) = true) (a0 b0 : Nat → Nat → Int) (hv0 : iv a0) : ∀ n : Nat, (∀ (y1 y2 y3 : Int) (a : Nat → Nat → Int), (((5 - y3) * 1) + 0).toNat ≤ n → iv a → jfr jW_X12_rules a0 a → 0 ≤ y1 → y1 ≤ 0 → 0 ≤ y2 → y2 ≤ 0 → 0 ≤ y3 → y3 ≤ 5 → a 146 22 ≤ 100 → a 146 23 ≤ a 146 22 → y2 = 0 → jt (jxX E d 232 27 [some (.inr (.inr (.inl 146))), some (.inl y1), some (.inl y2), some (.inl y3), none, none] [] (jxSH, a, b0)) (jQ_X12_rules a0 b0)) := by
  refine jx_ind fun n ih => ?_
  have ih27 : ∀ (y1 y2 y3 : Int) (a : Nat → Nat → Int), (((5 - y3) * 1) + 0).toNat < n → iv a → jfr jW_X12_rules a0 a → 0 ≤ y1 → y1 ≤ 0 → 0 ≤ y2 → y2 ≤ 0 → 0 ≤ y3 → y3 ≤ 5 → a 146 22 ≤ 100 → a 146 23 ≤ a 146 22 → y2 = 0 → jt (jxX E d 232 27 [some (.inr (.inr (.inl 146))), some (.inl y1), some (.inl y2), some (.inl y3), none, none] [] (jxSH, a, b0)) (jQ_X12_rules a0 b0) := fun y1 y2 y3 a hlt i0 i1 i2 i3 i4 i5 i6 i7 i8 i9 i10 => (ih _ hlt) y1 y2 y3 a (Nat.le_refl _) i0 i1 i2 i3 i4 i5 i6 i7 i8 i9 i10
  have hc27 : ∀ (y1 y2 y3 : Int) (a : Nat → Nat → Int), (((5 - y3) * 1) + 0).toNat ≤ n → iv a → jfr jW_X12_rules a0 a → 0 ≤ y1 → y1 ≤ 0 → 0 ≤ y2 → y2 ≤ 0 → 0 ≤ y3 → y3 ≤ 5 → a 146 22 ≤ 100 → a 146 23 ≤ a 146 22 → y2 = 0 → jt (jxX E d 232 27 [some (.inr (.inr (.inl 146))), some (.inl y1), some (.inl y2), some (.inl y3), none, none] [] (jxSH, a, b0)) (jQ_X12_rules a0 b0) := by
    intro y1 y2 y3 a hm hv hf hi0 hi1 hi2 hi3 hi4 hi5 hi6 hi7 hi8
    refine jt_eq (bq_X12_rules_27 E d y1 y2 y3 a b0) ?_
    have h1603_ := iv_get hv (k := 146) (j := 22) (l := 0) (u := 200) rfl
    have h1604_ := iv_get hv (k := 146) (j := 23) (l := 0) (u := 200) rfl
    refine jt_ite (fun c1605_ => ?_) (fun c1605_ => ?_)
    ·
      refine jt_eI (eq_X12_without E d (jd_le hd rfl) y3 a b0) ?_
      refine jt_grd (by omega) ?_
      have hv1606_ : iv (jxu a 172 (y3.toNat) (f_X12_without a b0 y3)) := iv_putf hv rfl
      have hf1607_ : jfr jW_X12_rules a0 (jxu a 172 (y3.toNat) (f_X12_without a b0 y3)) := jfr_put hf rfl
      have h1608_ : jxw (y3 + 1) = y3 + 1 := jxw_id (by omega) (by omega)
      exact ih27 y1 y2 (jxw (y3 + 1)) (jxu a 172 (y3.toNat) (f_X12_without a b0 y3)) (show (((5 - (jxw (y3 + 1))) * 1) + 0).toNat < n from by omega) hv1606_ hf1607_ (show 0 ≤ y1 from by omega) (show y1 ≤ 0 from by omega) (show 0 ≤ y2 from by omega) (show y2 ≤ 0 from by omega) (show 0 ≤ jxw (y3 + 1) from by omega) (show jxw (y3 + 1) ≤ 5 from by omega) (show a 146 22 ≤ 100 from by omega) (show a 146 23 ≤ a 146 22 from by omega) (show y2 = 0 from by omega)
    ·
      refine jt_bI (sp_X12_see E d (jd_le hd rfl) a b0 hv (show a 146 23 ≤ a 146 22 from by omega)) (fun r1609_ a1609_ b1609_ h1609_ => ?_)
      obtain ⟨hv1609_, hf1609_, rfl, hq1609_0, hq1609_1, hq1609_2, hq1609_3⟩ := h1609_
      have h1610_ := iv_get hv1609_ (k := 146) (j := 23) (l := 0) (u := 200) rfl
      have h1611_ := iv_get hv1609_ (k := 164) (j := (a1609_ 146 23).toNat) (l := (-128)) (u := 127) rfl
      have h1612_ : a1609_ 164 ((a1609_ 146 23).toNat) = a 164 ((a1609_ 146 23).toNat) := hf1609_ 164 ((a1609_ 146 23).toNat) rfl
      have h1613_ := iv_get hv (k := 164) (j := (a1609_ 146 23).toNat) (l := (-128)) (u := 127) rfl
      have h1614_ : a 164 ((a1609_ 146 23).toNat) = a0 164 ((a1609_ 146 23).toNat) := hf 164 ((a1609_ 146 23).toNat) rfl
      have h1615_ := iv_get hv0 (k := 164) (j := (a1609_ 146 23).toNat) (l := (-128)) (u := 127) rfl
      have h1616_ := iv_get hv (k := 164) (j := (a 146 23).toNat) (l := (-128)) (u := 127) rfl
      have h1617_ : a 164 ((a 146 23).toNat) = a0 164 ((a 146 23).toNat) := hf 164 ((a 146 23).toNat) rfl
      have h1618_ := iv_get hv0 (k := 164) (j := (a 146 23).toNat) (l := (-128)) (u := 127) rfl
      refine jt_ite (fun c1619_ => ?_) (fun c1619_ => ?_)
      ·
        have hf1620_ : jfr jW_X12_rules a0 a1609_ := jfr_tr hf hf1609_ rfl
        have h1621_ := iv_get hv1609_ (k := 146) (j := 22) (l := 0) (u := 200) rfl
        have h1622_ : a1609_ 146 22 = a 146 22 := hf1609_ 146 22 rfl
        exact (cp_X12_rules_65 E d hd a0 b0 hv0 _).2.2.2.2.2.2.2.2.2.2.2.2 y1 y2 1 0 a1609_ (Nat.le_refl _) hv1609_ hf1620_ (show 0 ≤ 1 from by omega) (show 1 ≤ 1 from by omega) (show 0 ≤ 0 from by omega) (show 0 ≤ 1 from by omega) (show a1609_ 146 22 ≤ 100 from by omega) (show a1609_ 146 23 ≤ a1609_ 146 22 from by omega) (show 0 ≤ y2 from by omega) (show y2 ≤ a1609_ 146 23 from by omega) (show 0 ≤ 1 from by omega) (show 0 ≤ 0 from by omega) (show 1 ≤ 1 from by omega) (show 0 ≤ 1 from by omega)
      ·
        have hf1623_ : jfr jW_X12_rules a0 a1609_ := jfr_tr hf hf1609_ rfl
        have h1624_ := iv_get hv1609_ (k := 146) (j := 22) (l := 0) (u := 200) rfl
        have h1625_ : a1609_ 146 22 = a 146 22 := hf1609_ 146 22 rfl
        exact (cp_X12_rules_65 E d hd a0 b0 hv0 _).2.2.2.2.2.2.2.2.2.2.2.2 y1 y2 1 1 a1609_ (Nat.le_refl _) hv1609_ hf1623_ (show 0 ≤ 1 from by omega) (show 1 ≤ 1 from by omega) (show 0 ≤ 1 from by omega) (show 1 ≤ 1 from by omega) (show a1609_ 146 22 ≤ 100 from by omega) (show a1609_ 146 23 ≤ a1609_ 146 22 from by omega) (show 0 ≤ y2 from by omega) (show y2 ≤ a1609_ 146 23 from by omega) (show 0 ≤ 1 from by omega) (show 0 ≤ 1 from by omega) (show 1 ≤ 1 from by omega) (show 1 ≤ 1 from by omega)
  exact hc27
theorem cp_X12_rules_25 (E : jxE) (d : Nat) (hd : Nat.ble 3 (d + 1) = true) (a0 b0 : Nat → Nat → Int) (hv0 : iv a0) : ∀ (y1 y2 : Int) (a : Nat → Nat → Int), iv a → jfr jW_X12_rules a0 a → 0 ≤ y1 → y1 ≤ 0 → 0 ≤ y2 → y2 ≤ 0 → a 146 22 ≤ 100 → a 146 23 ≤ a 146 22 → y2 = 0 → jt (jxX E d 232 25 [some (.inr (.inr (.inl 146))), some (.inl y1), some (.inl y2), none, none, none] [] (jxSH, a, b0)) (jQ_X12_rules a0 b0) := by
  intro y1 y2 a hv hf hi0 hi1 hi2 hi3 hi4 hi5 hi6
  refine jt_eq (bq_X12_rules_25 E d y1 y2 a b0) ?_
  have h1626_ := iv_get hv (k := 146) (j := 22) (l := 0) (u := 200) rfl
  have h1627_ := iv_get hv (k := 146) (j := 23) (l := 0) (u := 200) rfl
  exact (cp_X12_rules_27 E d hd a0 b0 hv0 _) y1 y2 0 a (Nat.le_refl _) hv hf (show 0 ≤ y1 from by omega) (show y1 ≤ 0 from by omega) (show 0 ≤ y2 from by omega) (show y2 ≤ 0 from by omega) (show 0 ≤ 0 from by omega) (show 0 ≤ 5 from by omega) (show a 146 22 ≤ 100 from by omega) (show a 146 23 ≤ a 146 22 from by omega) (show y2 = 0 from by omega)
theorem sp_X12_rules (E : jxE) (d : Nat) (hd : Nat.ble 3 d = true) (a0 b0 : Nat → Nat → Int) (hv0 : iv a0) : jt (jxC E d 232 [.inr (.inr (.inl 146))] (jxSH, a0, b0)) (jQ_X12_rules a0 b0) := by
  obtain ⟨d, rfl⟩ := jd_succ hd
  refine jt_eq (bq_X12_rules E d a0 b0) ?_
  have h1628_ := iv_get hv0 (k := 146) (j := 22) (l := 0) (u := 200) rfl
  refine jt_ite (fun c1629_ => ?_) (fun c1629_ => ?_)
  ·
    exact jt_rI ⟨hv0, (jfr_rf _ _), rfl⟩
  ·
    have hv1630_ : iv (jxu a0 146 23 0) := iv_put hv0 (l := 0) (u := 200) rfl (by omega) (by omega)
    have hv1631_ : iv (jxu (jxu a0 146 23 0) 146 24 0) := iv_putf hv1630_ rfl
    have hf1632_ : jfr jW_X12_rules a0 (jxu a0 146 23 0) := jfr_put (jfr_rf _ _) rfl
    have hf1633_ : jfr jW_X12_rules a0 (jxu (jxu a0 146 23 0) 146 24 0) := jfr_put hf1632_ rfl
    exact cp_X12_rules_25 E d hd a0 b0 hv0 0 0 (jxu (jxu a0 146 23 0) 146 24 0) hv1631_ hf1633_ (show 0 ≤ 0 from by omega) (show 0 ≤ 0 from by omega) (show 0 ≤ 0 from by omega) (show 0 ≤ 0 from by omega) (show a0 146 22 ≤ 100 from by omega) (show 0 ≤ a0 146 22 from by omega) (show 0 = 0 from by omega)
def jW_X12_rates : List (Nat × Nat) := [(146, 22), (146, 23), (146, 24), (146, 25), (146, 26), (146, 27), (146, 68), (192, 9999), (193, 9999), (194, 9999), (195, 9999)]
abbrev jQ_X12_rates (x1 : Int) (a0 b0 : Nat → Nat → Int) : List jxV → (Nat → Nat → Int) → (Nat → Nat → Int) → Prop := rI (fun r a b => (iv a) ∧ (jfr jW_X12_rates a0 a) ∧ (b0 = b))
theorem cp_X12_rates_154 (E : jxE) (d : Nat) (hd : Nat.ble 4 (d + 1) = true) (x1 : Int) (a0 b0 : Nat → Nat → Int) (hv0 : iv a0) : ∀ n : Nat, (∀ (y2 y5 : Int) (a : Nat → Nat → Int), (((36 - y5) * 1) + 0).toNat ≤ n → iv a → jfr jW_X12_rates a0 a → 0 ≤ y5 → y5 ≤ 35 → a 146 68 ≤ 9 → 0 ≤ y2 → y2 ≤ 12 → 0 ≤ y5 → y5 < 3 * y2 → a 146 68 ≤ 9 → jt (jxX E d 282 184 [some (.inr (.inr (.inl 146))), none, some (.inl y2), none, none, some (.inl y5)] [] (jxSH, a, b0)) (jQ_X12_rates x1 a0 b0)) ∧ (∀ (y2 y5 : Int) (a : Nat → Nat → Int), (((36 - y5) * 1) + 0).toNat ≤ n → iv a → jfr jW_X12_rates a0 a → 0 ≤ y5 → y5 ≤ 36 → a 146 68 ≤ 9 → 0 ≤ y2 → y2 ≤ 12 → 0 ≤ y5 → a 146 68 ≤ 9 → jt (jxX E d 282 154 [some (.inr (.inr (.inl 146))), none, some (.inl y2), none, none, some (.inl y5)] [] (jxSH, a, b0)) (jQ_X12_rates x1 a0 b0)) := by
  refine jx_ind fun n ih => ?_
  have ih184 : ∀ (y2 y5 : Int) (a : Nat → Nat → Int), (((36 - y5) * 1) + 0).toNat < n → iv a → jfr jW_X12_rates a0 a → 0 ≤ y5 → y5 ≤ 35 → a 146 68 ≤ 9 → 0 ≤ y2 → y2 ≤ 12 → 0 ≤ y5 → y5 < 3 * y2 → a 146 68 ≤ 9 → jt (jxX E d 282 184 [some (.inr (.inr (.inl 146))), none, some (.inl y2), none, none, some (.inl y5)] [] (jxSH, a, b0)) (jQ_X12_rates x1 a0 b0) := fun y2 y5 a hlt i0 i1 i2 i3 i4 i5 i6 i7 i8 i9 => (ih _ hlt).1 y2 y5 a (Nat.le_refl _) i0 i1 i2 i3 i4 i5 i6 i7 i8 i9
  have ih154 : ∀ (y2 y5 : Int) (a : Nat → Nat → Int), (((36 - y5) * 1) + 0).toNat < n → iv a → jfr jW_X12_rates a0 a → 0 ≤ y5 → y5 ≤ 36 → a 146 68 ≤ 9 → 0 ≤ y2 → y2 ≤ 12 → 0 ≤ y5 → a 146 68 ≤ 9 → jt (jxX E d 282 154 [some (.inr (.inr (.inl 146))), none, some (.inl y2), none, none, some (.inl y5)] [] (jxSH, a, b0)) (jQ_X12_rates x1 a0 b0) := fun y2 y5 a hlt i0 i1 i2 i3 i4 i5 i6 i7 i8 => (ih _ hlt).2 y2 y5 a (Nat.le_refl _) i0 i1 i2 i3 i4 i5 i6 i7 i8
  have hc184 : ∀ (y2 y5 : Int) (a : Nat → Nat → Int), (((36 - y5) * 1) + 0).toNat ≤ n → iv a → jfr jW_X12_rates a0 a → 0 ≤ y5 → y5 ≤ 35 → a 146 68 ≤ 9 → 0 ≤ y2 → y2 ≤ 12 → 0 ≤ y5 → y5 < 3 * y2 → a 146 68 ≤ 9 → jt (jxX E d 282 184 [some (.inr (.inr (.inl 146))), none, some (.inl y2), none, none, some (.inl y5)] [] (jxSH, a, b0)) (jQ_X12_rates x1 a0 b0) := by
    intro y2 y5 a hm hv hf hi0 hi1 hi2 hi3 hi4 hi5 hi6 hi7
    refine jt_eq (bq_X12_rates_184 E d y2 y5 a b0) ?_
    have h1634_ := iv_get hv (k := 146) (j := 68) (l := 0) (u := 10) rfl
    have h1635_ : jxw (y5 + 1) = y5 + 1 := jxw_id (by omega) (by omega)
    exact ih154 y2 (jxw (y5 + 1)) a (show (((36 - (jxw (y5 + 1))) * 1) + 0).toNat < n from by omega) hv hf (show 0 ≤ jxw (y5 + 1) from by omega) (show jxw (y5 + 1) ≤ 36 from by omega) (show a 146 68 ≤ 9 from by omega) (show 0 ≤ y2 from by omega) (show y2 ≤ 12 from by omega) (show 0 ≤ jxw (y5 + 1) from by omega) (show a 146 68 ≤ 9 from by omega)
  have hc154 : ∀ (y2 y5 : Int) (a : Nat → Nat → Int), (((36 - y5) * 1) + 0).toNat ≤ n → iv a → jfr jW_X12_rates a0 a → 0 ≤ y5 → y5 ≤ 36 → a 146 68 ≤ 9 → 0 ≤ y2 → y2 ≤ 12 → 0 ≤ y5 → a 146 68 ≤ 9 → jt (jxX E d 282 154 [some (.inr (.inr (.inl 146))), none, some (.inl y2), none, none, some (.inl y5)] [] (jxSH, a, b0)) (jQ_X12_rates x1 a0 b0) := by
    intro y2 y5 a hm hv hf hi0 hi1 hi2 hi3 hi4 hi5 hi6
    refine jt_eq (bq_X12_rates_154 E d y2 y5 a b0) ?_
    have h1636_ := iv_get hv (k := 146) (j := 68) (l := 0) (u := 10) rfl
    have h1637_ : jxw (3 * y2) = 3 * y2 := jxw_id (by omega) (by omega)
    refine jt_ite (fun c1638_ => ?_) (fun c1638_ => ?_)
    ·
      refine jt_grd (by omega) ?_
      have h1639_ : jxw (36 * (a 146 68)) = 36 * (a 146 68) := jxw_id (by omega) (by omega)
      have h1640_ : jxw ((jxw (36 * (a 146 68))) + y5) = (jxw (36 * (a 146 68))) + y5 := jxw_id (by omega) (by omega)
      refine jt_grd (by omega) ?_
      have h1642_ := iv_get hv (k := 195) (j := y5.toNat) (l := 0) (u := 900) rfl
      have hv1641_ : iv (jxu a 194 ((jxw ((jxw (36 * (a 146 68))) + y5)).toNat) (a 195 (y5.toNat))) := iv_put hv (l := 0) (u := 900) rfl (by omega) (by omega)
      have hf1643_ : jfr jW_X12_rates a0 (jxu a 194 ((jxw ((jxw (36 * (a 146 68))) + y5)).toNat) (a 195 (y5.toNat))) := jfr_put hf rfl
      exact hc184 y2 y5 (jxu a 194 ((jxw ((jxw (36 * (a 146 68))) + y5)).toNat) (a 195 (y5.toNat))) (show (((36 - y5) * 1) + 0).toNat ≤ n from by omega) hv1641_ hf1643_ (show 0 ≤ y5 from by omega) (show y5 ≤ 35 from by omega) (show a 146 68 ≤ 9 from by omega) (show 0 ≤ y2 from by omega) (show y2 ≤ 12 from by omega) (show 0 ≤ y5 from by omega) (show y5 < 3 * y2 from by omega) (show a 146 68 ≤ 9 from by omega)
    ·
      have h1645_ : jxw ((a 146 68) + 1) = (a 146 68) + 1 := jxw_id (by omega) (by omega)
      have hv1644_ : iv (jxu a 146 68 (jxw ((a 146 68) + 1))) := iv_put hv (l := 0) (u := 10) rfl (by omega) (by omega)
      have hf1646_ : jfr jW_X12_rates a0 (jxu a 146 68 (jxw ((a 146 68) + 1))) := jfr_put hf rfl
      exact jt_rI ⟨hv1644_, hf1646_, rfl⟩
  exact ⟨hc184, hc154⟩
theorem cp_X12_rates_151 (E : jxE) (d : Nat) (hd : Nat.ble 4 (d + 1) = true) (x1 : Int) (a0 b0 : Nat → Nat → Int) (hv0 : iv a0) : ∀ (y2 : Int) (a : Nat → Nat → Int), iv a → jfr jW_X12_rates a0 a → a 146 68 ≤ 9 → 0 ≤ y2 → y2 ≤ 12 → a 146 68 ≤ 9 → jt (jxX E d 282 151 [some (.inr (.inr (.inl 146))), none, some (.inl y2), none, none, none] [] (jxSH, a, b0)) (jQ_X12_rates x1 a0 b0) := by
  intro y2 a hv hf hi0 hi1 hi2 hi3
  refine jt_eq (bq_X12_rates_151 E d y2 a b0) ?_
  have h1647_ := iv_get hv (k := 146) (j := 68) (l := 0) (u := 10) rfl
  exact (cp_X12_rates_154 E d hd x1 a0 b0 hv0 _).2 y2 0 a (Nat.le_refl _) hv hf (show 0 ≤ 0 from by omega) (show 0 ≤ 36 from by omega) (show a 146 68 ≤ 9 from by omega) (show 0 ≤ y2 from by omega) (show y2 ≤ 12 from by omega) (show 0 ≤ 0 from by omega) (show a 146 68 ≤ 9 from by omega)
theorem cp_X12_rates_114 (E : jxE) (d : Nat) (hd : Nat.ble 4 (d + 1) = true) (x1 : Int) (a0 b0 : Nat → Nat → Int) (hv0 : iv a0) : ∀ (y1 y2 y3 : Int) (a : Nat → Nat → Int), iv a → jfr jW_X12_rates a0 a → 0 ≤ y1 → y1 ≤ 1999 → 0 ≤ y3 → y3 ≤ 1 → a 146 68 ≤ 9 → a 146 23 ≤ a 146 22 → 0 ≤ y2 → y2 ≤ 13 → (y3 = 1 → y2 ≤ 12) → 0 ≤ y3 → y3 ≤ 1 → jt (jxX E d 282 114 [some (.inr (.inr (.inl 146))), some (.inl y1), some (.inl y2), some (.inl y3), none, none] [] (jxSH, a, b0)) (jQ_X12_rates x1 a0 b0) := by
  intro y1 y2 y3 a hv hf hi0 hi1 hi2 hi3 hi4 hi5 hi6 hi7 hi8 hi9 hi10
  refine jt_eq (bq_X12_rates_114 E d y1 y2 y3 a b0) ?_
  have h1648_ := iv_get hv (k := 146) (j := 68) (l := 0) (u := 10) rfl
  have h1649_ := iv_get hv (k := 146) (j := 23) (l := 0) (u := 200) rfl
  have h1650_ := iv_get hv (k := 146) (j := 22) (l := 0) (u := 200) rfl
  refine jt_ite (fun c1651_ => ?_) (fun c1651_ => ?_)
  ·
    have hv1652_ : iv (jxu a 146 22 0) := iv_put hv (l := 0) (u := 200) rfl (by omega) (by omega)
    have hf1653_ : jfr jW_X12_rates a0 (jxu a 146 22 0) := jfr_put hf rfl
    exact jt_rI ⟨hv1652_, hf1653_, rfl⟩
  ·
    refine jt_grd (by omega) ?_
    refine jt_grd (by omega) ?_
    have hv1654_ : iv (jxu a 146 22 0) := iv_put hv (l := 0) (u := 200) rfl (by omega) (by omega)
    have hv1655_ : iv (jxu (jxu a 146 22 0) 192 ((a 146 68).toNat) y1) := iv_putf hv1654_ rfl
    have hv1656_ : iv (jxu (jxu (jxu a 146 22 0) 192 ((a 146 68).toNat) y1) 193 ((a 146 68).toNat) y2) := iv_put hv1655_ (l := 0) (u := 12) rfl (by omega) (by omega)
    have hf1657_ : jfr jW_X12_rates a0 (jxu a 146 22 0) := jfr_put hf rfl
    have hf1658_ : jfr jW_X12_rates a0 (jxu (jxu a 146 22 0) 192 ((a 146 68).toNat) y1) := jfr_put hf1657_ rfl
    have hf1659_ : jfr jW_X12_rates a0 (jxu (jxu (jxu a 146 22 0) 192 ((a 146 68).toNat) y1) 193 ((a 146 68).toNat) y2) := jfr_put hf1658_ rfl
    exact cp_X12_rates_151 E d hd x1 a0 b0 hv0 y2 (jxu (jxu (jxu a 146 22 0) 192 ((a 146 68).toNat) y1) 193 ((a 146 68).toNat) y2) hv1656_ hf1659_ (show a 146 68 ≤ 9 from by omega) (show 0 ≤ y2 from by omega) (show y2 ≤ 12 from by omega) (show a 146 68 ≤ 9 from by omega)
theorem cp_X12_rates_35 (E : jxE) (d : Nat) (hd : Nat.ble 4 (d + 1) = true) (x1 : Int) (a0 b0 : Nat → Nat → Int) (hv0 : iv a0) : ∀ n : Nat, (∀ (y1 y2 y3 y4 : Int) (a : Nat → Nat → Int), (((((a 146 22) - (a 146 23)) + (2 * y3)) + y4) + 1).toNat ≤ n → iv a → jfr jW_X12_rates a0 a → 0 ≤ y1 → y1 ≤ 1999 → 0 ≤ y3 → y3 ≤ 1 → 0 ≤ y4 → y4 ≤ 1 → a 146 68 ≤ 9 → a 146 23 ≤ a 146 22 → 0 ≤ y2 → y2 ≤ 13 → (y3 = 1 → y2 ≤ 12) → 0 ≤ y3 → 0 ≤ y4 → y3 ≤ 1 → y4 ≤ 1 → (y4 = 1 → a 146 23 < a 146 22) → jt (jxX E d 282 96 [some (.inr (.inr (.inl 146))), some (.inl y1), some (.inl y2), some (.inl y3), some (.inl y4), none] [] (jxSH, a, b0)) (jQ_X12_rates x1 a0 b0)) ∧ (∀ (y1 y2 y3 s0 : Int) (a : Nat → Nat → Int), (((((a 146 22) - (a 146 23)) + (2 * y3)) + s0) + 1).toNat ≤ n → iv a → jfr jW_X12_rates a0 a → 0 ≤ y1 → y1 ≤ 1999 → 0 ≤ y3 → y3 ≤ 1 → 0 ≤ s0 → s0 ≤ 1 → a 146 68 ≤ 9 → a 146 23 ≤ a 146 22 → 0 ≤ y2 → y2 ≤ 13 → (y3 = 1 → y2 ≤ 12) → 0 ≤ y3 → 0 ≤ s0 → y3 ≤ 1 → s0 ≤ 1 → (s0 = 1 → (a 146 23 < a 146 22 ∧ ¬ a 164 ((a 146 23).toNat) = 32)) → jt (jxX E d 282 70 [some (.inr (.inr (.inl 146))), some (.inl y1), some (.inl y2), some (.inl y3), none, none] [.inl s0] (jxSH, a, b0)) (jQ_X12_rates x1 a0 b0)) ∧ (∀ (y1 y2 y3 : Int) (a : Nat → Nat → Int), ((((a 146 22) - (a 146 23)) + (2 * y3)) + 2).toNat ≤ n → iv a → jfr jW_X12_rates a0 a → 0 ≤ y1 → y1 ≤ 1999 → 1 ≤ y3 → y3 ≤ 1 → a 146 68 ≤ 9 → a 146 23 ≤ a 146 22 → 0 ≤ y2 → y2 ≤ 13 → (y3 = 1 → y2 ≤ 12) → 0 ≤ y3 → y3 ≤ 1 → a 146 23 < a 146 22 → ¬ a 164 ((a 146 23).toNat) = 32 → jt (jxX E d 282 65 [some (.inr (.inr (.inl 146))), some (.inl y1), some (.inl y2), some (.inl y3), none, none] [] (jxSH, a, b0)) (jQ_X12_rates x1 a0 b0)) ∧ (∀ (y1 y2 y3 : Int) (a : Nat → Nat → Int), ((((a 146 22) - (a 146 23)) + (2 * y3)) + 1).toNat ≤ n → iv a → jfr jW_X12_rates a0 a → 0 ≤ y1 → y1 ≤ 1999 → 0 ≤ y3 → y3 ≤ 1 → a 146 68 ≤ 9 → a 146 23 ≤ a 146 22 → 0 ≤ y2 → y2 ≤ 13 → (y3 = 1 → y2 ≤ 12) → 0 ≤ y3 → y3 ≤ 1 → jt (jxX E d 282 69 [some (.inr (.inr (.inl 146))), some (.inl y1), some (.inl y2), some (.inl y3), none, none] [] (jxSH, a, b0)) (jQ_X12_rates x1 a0 b0)) ∧ (∀ (y1 y2 y3 y4 : Int) (a : Nat → Nat → Int), ((((a 146 22) - (a 146 23)) + y3) + y4).toNat ≤ n → iv a → jfr jW_X12_rates a0 a → 0 ≤ y1 → y1 ≤ 1999 → 0 ≤ y3 → y3 ≤ 1 → 0 ≤ y4 → y4 ≤ 1 → a 146 68 ≤ 9 → a 146 23 ≤ a 146 22 → 0 ≤ y2 → y2 ≤ 13 → (y3 = 1 → y2 ≤ 12) → 0 ≤ y3 → 0 ≤ y4 → y3 ≤ 1 → y4 ≤ 1 → jt (jxX E d 282 35 [some (.inr (.inr (.inl 146))), some (.inl y1), some (.inl y2), some (.inl y3), some (.inl y4), none] [] (jxSH, a, b0)) (jQ_X12_rates x1 a0 b0)) := by
  refine jx_ind fun n ih => ?_
  have ih96 : ∀ (y1 y2 y3 y4 : Int) (a : Nat → Nat → Int), (((((a 146 22) - (a 146 23)) + (2 * y3)) + y4) + 1).toNat < n → iv a → jfr jW_X12_rates a0 a → 0 ≤ y1 → y1 ≤ 1999 → 0 ≤ y3 → y3 ≤ 1 → 0 ≤ y4 → y4 ≤ 1 → a 146 68 ≤ 9 → a 146 23 ≤ a 146 22 → 0 ≤ y2 → y2 ≤ 13 → (y3 = 1 → y2 ≤ 12) → 0 ≤ y3 → 0 ≤ y4 → y3 ≤ 1 → y4 ≤ 1 → (y4 = 1 → a 146 23 < a 146 22) → jt (jxX E d 282 96 [some (.inr (.inr (.inl 146))), some (.inl y1), some (.inl y2), some (.inl y3), some (.inl y4), none] [] (jxSH, a, b0)) (jQ_X12_rates x1 a0 b0) := fun y1 y2 y3 y4 a hlt i0 i1 i2 i3 i4 i5 i6 i7 i8 i9 i10 i11 i12 i13 i14 i15 i16 i17 => (ih _ hlt).1 y1 y2 y3 y4 a (Nat.le_refl _) i0 i1 i2 i3 i4 i5 i6 i7 i8 i9 i10 i11 i12 i13 i14 i15 i16 i17
  have ih70 : ∀ (y1 y2 y3 s0 : Int) (a : Nat → Nat → Int), (((((a 146 22) - (a 146 23)) + (2 * y3)) + s0) + 1).toNat < n → iv a → jfr jW_X12_rates a0 a → 0 ≤ y1 → y1 ≤ 1999 → 0 ≤ y3 → y3 ≤ 1 → 0 ≤ s0 → s0 ≤ 1 → a 146 68 ≤ 9 → a 146 23 ≤ a 146 22 → 0 ≤ y2 → y2 ≤ 13 → (y3 = 1 → y2 ≤ 12) → 0 ≤ y3 → 0 ≤ s0 → y3 ≤ 1 → s0 ≤ 1 → (s0 = 1 → (a 146 23 < a 146 22 ∧ ¬ a 164 ((a 146 23).toNat) = 32)) → jt (jxX E d 282 70 [some (.inr (.inr (.inl 146))), some (.inl y1), some (.inl y2), some (.inl y3), none, none] [.inl s0] (jxSH, a, b0)) (jQ_X12_rates x1 a0 b0) := fun y1 y2 y3 s0 a hlt i0 i1 i2 i3 i4 i5 i6 i7 i8 i9 i10 i11 i12 i13 i14 i15 i16 i17 => (ih _ hlt).2.1 y1 y2 y3 s0 a (Nat.le_refl _) i0 i1 i2 i3 i4 i5 i6 i7 i8 i9 i10 i11 i12 i13 i14 i15 i16 i17
  have ih65 : ∀ (y1 y2 y3 : Int) (a : Nat → Nat → Int), ((((a 146 22) - (a 146 23)) + (2 * y3)) + 2).toNat < n → iv a → jfr jW_X12_rates a0 a → 0 ≤ y1 → y1 ≤ 1999 → 1 ≤ y3 → y3 ≤ 1 → a 146 68 ≤ 9 → a 146 23 ≤ a 146 22 → 0 ≤ y2 → y2 ≤ 13 → (y3 = 1 → y2 ≤ 12) → 0 ≤ y3 → y3 ≤ 1 → a 146 23 < a 146 22 → ¬ a 164 ((a 146 23).toNat) = 32 → jt (jxX E d 282 65 [some (.inr (.inr (.inl 146))), some (.inl y1), some (.inl y2), some (.inl y3), none, none] [] (jxSH, a, b0)) (jQ_X12_rates x1 a0 b0) := fun y1 y2 y3 a hlt i0 i1 i2 i3 i4 i5 i6 i7 i8 i9 i10 i11 i12 i13 i14 => (ih _ hlt).2.2.1 y1 y2 y3 a (Nat.le_refl _) i0 i1 i2 i3 i4 i5 i6 i7 i8 i9 i10 i11 i12 i13 i14
  have ih69 : ∀ (y1 y2 y3 : Int) (a : Nat → Nat → Int), ((((a 146 22) - (a 146 23)) + (2 * y3)) + 1).toNat < n → iv a → jfr jW_X12_rates a0 a → 0 ≤ y1 → y1 ≤ 1999 → 0 ≤ y3 → y3 ≤ 1 → a 146 68 ≤ 9 → a 146 23 ≤ a 146 22 → 0 ≤ y2 → y2 ≤ 13 → (y3 = 1 → y2 ≤ 12) → 0 ≤ y3 → y3 ≤ 1 → jt (jxX E d 282 69 [some (.inr (.inr (.inl 146))), some (.inl y1), some (.inl y2), some (.inl y3), none, none] [] (jxSH, a, b0)) (jQ_X12_rates x1 a0 b0) := fun y1 y2 y3 a hlt i0 i1 i2 i3 i4 i5 i6 i7 i8 i9 i10 i11 i12 => (ih _ hlt).2.2.2.1 y1 y2 y3 a (Nat.le_refl _) i0 i1 i2 i3 i4 i5 i6 i7 i8 i9 i10 i11 i12
  have ih35 : ∀ (y1 y2 y3 y4 : Int) (a : Nat → Nat → Int), ((((a 146 22) - (a 146 23)) + y3) + y4).toNat < n → iv a → jfr jW_X12_rates a0 a → 0 ≤ y1 → y1 ≤ 1999 → 0 ≤ y3 → y3 ≤ 1 → 0 ≤ y4 → y4 ≤ 1 → a 146 68 ≤ 9 → a 146 23 ≤ a 146 22 → 0 ≤ y2 → y2 ≤ 13 → (y3 = 1 → y2 ≤ 12) → 0 ≤ y3 → 0 ≤ y4 → y3 ≤ 1 → y4 ≤ 1 → jt (jxX E d 282 35 [some (.inr (.inr (.inl 146))), some (.inl y1), some (.inl y2), some (.inl y3), some (.inl y4), none] [] (jxSH, a, b0)) (jQ_X12_rates x1 a0 b0) := fun y1 y2 y3 y4 a hlt i0 i1 i2 i3 i4 i5 i6 i7 i8 i9 i10 i11 i12 i13 i14 i15 i16 => (ih _ hlt).2.2.2.2 y1 y2 y3 y4 a (Nat.le_refl _) i0 i1 i2 i3 i4 i5 i6 i7 i8 i9 i10 i11 i12 i13 i14 i15 i16
  have hc96 : ∀ (y1 y2 y3 y4 : Int) (a : Nat → Nat → Int), (((((a 146 22) - (a 146 23)) + (2 * y3)) + y4) + 1).toNat ≤ n → iv a → jfr jW_X12_rates a0 a → 0 ≤ y1 → y1 ≤ 1999 → 0 ≤ y3 → y3 ≤ 1 → 0 ≤ y4 → y4 ≤ 1 → a 146 68 ≤ 9 → a 146 23 ≤ a 146 22 → 0 ≤ y2 → y2 ≤ 13 → (y3 = 1 → y2 ≤ 12) → 0 ≤ y3 → 0 ≤ y4 → y3 ≤ 1 → y4 ≤ 1 → (y4 = 1 → a 146 23 < a 146 22) → jt (jxX E d 282 96 [some (.inr (.inr (.inl 146))), some (.inl y1), some (.inl y2), some (.inl y3), some (.inl y4), none] [] (jxSH, a, b0)) (jQ_X12_rates x1 a0 b0) := by
    intro y1 y2 y3 y4 a hm hv hf hi0 hi1 hi2 hi3 hi4 hi5 hi6 hi7 hi8 hi9 hi10 hi11 hi12 hi13 hi14 hi15
    refine jt_eq (bq_X12_rates_96 E d y1 y2 y3 y4 a b0) ?_
    have h1660_ := iv_get hv (k := 146) (j := 68) (l := 0) (u := 10) rfl
    have h1661_ := iv_get hv (k := 146) (j := 23) (l := 0) (u := 200) rfl
    have h1662_ := iv_get hv (k := 146) (j := 22) (l := 0) (u := 200) rfl
    refine jt_ite (fun c1663_ => ?_) (fun c1663_ => ?_)
    ·
      exact ih35 y1 y2 y3 y4 a (show ((((a 146 22) - (a 146 23)) + y3) + y4).toNat < n from by omega) hv hf (show 0 ≤ y1 from by omega) (show y1 ≤ 1999 from by omega) (show 0 ≤ y3 from by omega) (show y3 ≤ 1 from by omega) (show 0 ≤ y4 from by omega) (show y4 ≤ 1 from by omega) (show a 146 68 ≤ 9 from by omega) (show a 146 23 ≤ a 146 22 from by omega) (show 0 ≤ y2 from by omega) (show y2 ≤ 13 from by omega) (show (y3 = 1 → y2 ≤ 12) from by omega) (show 0 ≤ y3 from by omega) (show 0 ≤ y4 from by omega) (show y3 ≤ 1 from by omega) (show y4 ≤ 1 from by omega)
    ·
      have h1665_ : jxw ((a 146 23) + 1) = (a 146 23) + 1 := jxw_id (by omega) (by omega)
      have hv1664_ : iv (jxu a 146 23 (jxw ((a 146 23) + 1))) := iv_put hv (l := 0) (u := 200) rfl (by omega) (by omega)
      have hf1666_ : jfr jW_X12_rates a0 (jxu a 146 23 (jxw ((a 146 23) + 1))) := jfr_put hf rfl
      exact ih35 y1 y2 y3 y4 (jxu a 146 23 (jxw ((a 146 23) + 1))) (show ((((a 146 22) - (jxw ((a 146 23) + 1))) + y3) + y4).toNat < n from by omega) hv1664_ hf1666_ (show 0 ≤ y1 from by omega) (show y1 ≤ 1999 from by omega) (show 0 ≤ y3 from by omega) (show y3 ≤ 1 from by omega) (show 0 ≤ y4 from by omega) (show y4 ≤ 1 from by omega) (show a 146 68 ≤ 9 from by omega) (show jxw ((a 146 23) + 1) ≤ a 146 22 from by omega) (show 0 ≤ y2 from by omega) (show y2 ≤ 13 from by omega) (show (y3 = 1 → y2 ≤ 12) from by omega) (show 0 ≤ y3 from by omega) (show 0 ≤ y4 from by omega) (show y3 ≤ 1 from by omega) (show y4 ≤ 1 from by omega)
  have hc70 : ∀ (y1 y2 y3 s0 : Int) (a : Nat → Nat → Int), (((((a 146 22) - (a 146 23)) + (2 * y3)) + s0) + 1).toNat ≤ n → iv a → jfr jW_X12_rates a0 a → 0 ≤ y1 → y1 ≤ 1999 → 0 ≤ y3 → y3 ≤ 1 → 0 ≤ s0 → s0 ≤ 1 → a 146 68 ≤ 9 → a 146 23 ≤ a 146 22 → 0 ≤ y2 → y2 ≤ 13 → (y3 = 1 → y2 ≤ 12) → 0 ≤ y3 → 0 ≤ s0 → y3 ≤ 1 → s0 ≤ 1 → (s0 = 1 → (a 146 23 < a 146 22 ∧ ¬ a 164 ((a 146 23).toNat) = 32)) → jt (jxX E d 282 70 [some (.inr (.inr (.inl 146))), some (.inl y1), some (.inl y2), some (.inl y3), none, none] [.inl s0] (jxSH, a, b0)) (jQ_X12_rates x1 a0 b0) := by
    intro y1 y2 y3 s0 a hm hv hf hi0 hi1 hi2 hi3 hi4 hi5 hi6 hi7 hi8 hi9 hi10 hi11 hi12 hi13 hi14 hi15
    refine jt_eq (bq_X12_rates_70 E d y1 y2 y3 s0 a b0) ?_
    have h1667_ := iv_get hv (k := 146) (j := 68) (l := 0) (u := 10) rfl
    have h1668_ := iv_get hv (k := 146) (j := 23) (l := 0) (u := 200) rfl
    have h1669_ := iv_get hv (k := 146) (j := 22) (l := 0) (u := 200) rfl
    have h1670_ := iv_get hv (k := 164) (j := (a 146 23).toNat) (l := (-128)) (u := 127) rfl
    have h1671_ : a 164 ((a 146 23).toNat) = a0 164 ((a 146 23).toNat) := hf 164 ((a 146 23).toNat) rfl
    have h1672_ := iv_get hv0 (k := 164) (j := (a 146 23).toNat) (l := (-128)) (u := 127) rfl
    refine jt_ite (fun c1673_ => ?_) (fun c1673_ => ?_)
    ·
      exact hc96 y1 y2 y3 s0 a (show (((((a 146 22) - (a 146 23)) + (2 * y3)) + s0) + 1).toNat ≤ n from by omega) hv hf (show 0 ≤ y1 from by omega) (show y1 ≤ 1999 from by omega) (show 0 ≤ y3 from by omega) (show y3 ≤ 1 from by omega) (show 0 ≤ s0 from by omega) (show s0 ≤ 1 from by omega) (show a 146 68 ≤ 9 from by omega) (show a 146 23 ≤ a 146 22 from by omega) (show 0 ≤ y2 from by omega) (show y2 ≤ 13 from by omega) (show (y3 = 1 → y2 ≤ 12) from by omega) (show 0 ≤ y3 from by omega) (show 0 ≤ s0 from by omega) (show y3 ≤ 1 from by omega) (show s0 ≤ 1 from by omega) (show (s0 = 1 → a 146 23 < a 146 22) from by omega)
    ·
      refine jt_bI (sp_X12_see E d (jd_le hd rfl) a b0 hv (show a 146 23 ≤ a 146 22 from by omega)) (fun r1674_ a1674_ b1674_ h1674_ => ?_)
      obtain ⟨hv1674_, hf1674_, rfl, hq1674_0, hq1674_1, hq1674_2, hq1674_3⟩ := h1674_
      have h1675_ := iv_get hv1674_ (k := 146) (j := 23) (l := 0) (u := 200) rfl
      have h1676_ := iv_get hv1674_ (k := 164) (j := (a1674_ 146 23).toNat) (l := (-128)) (u := 127) rfl
      have h1677_ : a1674_ 164 ((a1674_ 146 23).toNat) = a 164 ((a1674_ 146 23).toNat) := hf1674_ 164 ((a1674_ 146 23).toNat) rfl
      have h1678_ := iv_get hv (k := 164) (j := (a1674_ 146 23).toNat) (l := (-128)) (u := 127) rfl
      have h1679_ : a 164 ((a1674_ 146 23).toNat) = a0 164 ((a1674_ 146 23).toNat) := hf 164 ((a1674_ 146 23).toNat) rfl
      have h1680_ := iv_get hv0 (k := 164) (j := (a1674_ 146 23).toNat) (l := (-128)) (u := 127) rfl
      refine jt_ite (fun c1681_ => ?_) (fun c1681_ => ?_)
      ·
        have hf1682_ : jfr jW_X12_rates a0 a1674_ := jfr_tr hf hf1674_ rfl
        have h1683_ := iv_get hv1674_ (k := 146) (j := 68) (l := 0) (u := 10) rfl
        have h1684_ : a1674_ 146 68 = a 146 68 := hf1674_ 146 68 rfl
        have h1685_ := iv_get hv1674_ (k := 146) (j := 22) (l := 0) (u := 200) rfl
        have h1686_ : a1674_ 146 22 = a 146 22 := hf1674_ 146 22 rfl
        exact hc96 y1 y2 y3 s0 a1674_ (show (((((a1674_ 146 22) - (a1674_ 146 23)) + (2 * y3)) + s0) + 1).toNat ≤ n from by omega) hv1674_ hf1682_ (show 0 ≤ y1 from by omega) (show y1 ≤ 1999 from by omega) (show 0 ≤ y3 from by omega) (show y3 ≤ 1 from by omega) (show 0 ≤ s0 from by omega) (show s0 ≤ 1 from by omega) (show a1674_ 146 68 ≤ 9 from by omega) (show a1674_ 146 23 ≤ a1674_ 146 22 from by omega) (show 0 ≤ y2 from by omega) (show y2 ≤ 13 from by omega) (show (y3 = 1 → y2 ≤ 12) from by omega) (show 0 ≤ y3 from by omega) (show 0 ≤ s0 from by omega) (show y3 ≤ 1 from by omega) (show s0 ≤ 1 from by omega) (show (s0 = 1 → a1674_ 146 23 < a1674_ 146 22) from by omega)
      ·
        refine jt_bI (sp_X12_fails E d (jd_le hd rfl) 0 (a1674_ 146 23) a1674_ b0 hv1674_) (fun r1687_ a1687_ b1687_ h1687_ => ?_)
        obtain ⟨hv1687_, hf1687_, rfl, hq1687_0, hq1687_1⟩ := h1687_
        have hf1688_ : jfr jW_X12_rates a0 a1674_ := jfr_tr hf hf1674_ rfl
        have hf1689_ : jfr jW_X12_rates a0 a1687_ := jfr_tr hf1688_ hf1687_ rfl
        have h1690_ := iv_get hv1687_ (k := 146) (j := 68) (l := 0) (u := 10) rfl
        have h1691_ : a1687_ 146 68 = a1674_ 146 68 := hf1687_ 146 68 rfl
        have h1692_ := iv_get hv1674_ (k := 146) (j := 68) (l := 0) (u := 10) rfl
        have h1693_ : a1674_ 146 68 = a 146 68 := hf1674_ 146 68 rfl
        have h1694_ := iv_get hv1687_ (k := 146) (j := 23) (l := 0) (u := 200) rfl
        have h1695_ : a1687_ 146 23 = a1674_ 146 23 := hf1687_ 146 23 rfl
        have h1696_ := iv_get hv1687_ (k := 146) (j := 22) (l := 0) (u := 200) rfl
        have h1697_ : a1687_ 146 22 = a1674_ 146 22 := hf1687_ 146 22 rfl
        have h1698_ := iv_get hv1674_ (k := 146) (j := 22) (l := 0) (u := 200) rfl
        have h1699_ : a1674_ 146 22 = a 146 22 := hf1674_ 146 22 rfl
        exact hc96 y1 y2 r1687_ s0 a1687_ (show (((((a1687_ 146 22) - (a1687_ 146 23)) + (2 * r1687_)) + s0) + 1).toNat ≤ n from by omega) hv1687_ hf1689_ (show 0 ≤ y1 from by omega) (show y1 ≤ 1999 from by omega) (show 0 ≤ r1687_ from by omega) (show r1687_ ≤ 1 from by omega) (show 0 ≤ s0 from by omega) (show s0 ≤ 1 from by omega) (show a1687_ 146 68 ≤ 9 from by omega) (show a1687_ 146 23 ≤ a1687_ 146 22 from by omega) (show 0 ≤ y2 from by omega) (show y2 ≤ 13 from by omega) (show (r1687_ = 1 → y2 ≤ 12) from by omega) (show 0 ≤ r1687_ from by omega) (show 0 ≤ s0 from by omega) (show r1687_ ≤ 1 from by omega) (show s0 ≤ 1 from by omega) (show (s0 = 1 → a1687_ 146 23 < a1687_ 146 22) from by omega)
  have hc65 : ∀ (y1 y2 y3 : Int) (a : Nat → Nat → Int), ((((a 146 22) - (a 146 23)) + (2 * y3)) + 2).toNat ≤ n → iv a → jfr jW_X12_rates a0 a → 0 ≤ y1 → y1 ≤ 1999 → 1 ≤ y3 → y3 ≤ 1 → a 146 68 ≤ 9 → a 146 23 ≤ a 146 22 → 0 ≤ y2 → y2 ≤ 13 → (y3 = 1 → y2 ≤ 12) → 0 ≤ y3 → y3 ≤ 1 → a 146 23 < a 146 22 → ¬ a 164 ((a 146 23).toNat) = 32 → jt (jxX E d 282 65 [some (.inr (.inr (.inl 146))), some (.inl y1), some (.inl y2), some (.inl y3), none, none] [] (jxSH, a, b0)) (jQ_X12_rates x1 a0 b0) := by
    intro y1 y2 y3 a hm hv hf hi0 hi1 hi2 hi3 hi4 hi5 hi6 hi7 hi8 hi9 hi10 hi11 hi12
    refine jt_eq (bq_X12_rates_65 E d y1 y2 y3 a b0) ?_
    have h1700_ := iv_get hv (k := 146) (j := 68) (l := 0) (u := 10) rfl
    have h1701_ := iv_get hv (k := 146) (j := 23) (l := 0) (u := 200) rfl
    have h1702_ := iv_get hv (k := 146) (j := 22) (l := 0) (u := 200) rfl
    have h1703_ := iv_get hv (k := 164) (j := (a 146 23).toNat) (l := (-128)) (u := 127) rfl
    have h1704_ : a 164 ((a 146 23).toNat) = a0 164 ((a 146 23).toNat) := hf 164 ((a 146 23).toNat) rfl
    have h1705_ := iv_get hv0 (k := 164) (j := (a 146 23).toNat) (l := (-128)) (u := 127) rfl
    exact hc70 y1 y2 y3 1 a (show (((((a 146 22) - (a 146 23)) + (2 * y3)) + 1) + 1).toNat ≤ n from by omega) hv hf (show 0 ≤ y1 from by omega) (show y1 ≤ 1999 from by omega) (show 0 ≤ y3 from by omega) (show y3 ≤ 1 from by omega) (show 0 ≤ 1 from by omega) (show 1 ≤ 1 from by omega) (show a 146 68 ≤ 9 from by omega) (show a 146 23 ≤ a 146 22 from by omega) (show 0 ≤ y2 from by omega) (show y2 ≤ 13 from by omega) (show (y3 = 1 → y2 ≤ 12) from by omega) (show 0 ≤ y3 from by omega) (show 0 ≤ 1 from by omega) (show y3 ≤ 1 from by omega) (show 1 ≤ 1 from by omega) (show (1 = 1 → (a 146 23 < a 146 22 ∧ ¬ a 164 ((a 146 23).toNat) = 32)) from by omega)
  have hc69 : ∀ (y1 y2 y3 : Int) (a : Nat → Nat → Int), ((((a 146 22) - (a 146 23)) + (2 * y3)) + 1).toNat ≤ n → iv a → jfr jW_X12_rates a0 a → 0 ≤ y1 → y1 ≤ 1999 → 0 ≤ y3 → y3 ≤ 1 → a 146 68 ≤ 9 → a 146 23 ≤ a 146 22 → 0 ≤ y2 → y2 ≤ 13 → (y3 = 1 → y2 ≤ 12) → 0 ≤ y3 → y3 ≤ 1 → jt (jxX E d 282 69 [some (.inr (.inr (.inl 146))), some (.inl y1), some (.inl y2), some (.inl y3), none, none] [] (jxSH, a, b0)) (jQ_X12_rates x1 a0 b0) := by
    intro y1 y2 y3 a hm hv hf hi0 hi1 hi2 hi3 hi4 hi5 hi6 hi7 hi8 hi9 hi10
    refine jt_eq (bq_X12_rates_69 E d y1 y2 y3 a b0) ?_
    have h1706_ := iv_get hv (k := 146) (j := 68) (l := 0) (u := 10) rfl
    have h1707_ := iv_get hv (k := 146) (j := 23) (l := 0) (u := 200) rfl
    have h1708_ := iv_get hv (k := 146) (j := 22) (l := 0) (u := 200) rfl
    have h1709_ := iv_get hv (k := 164) (j := (a 146 23).toNat) (l := (-128)) (u := 127) rfl
    have h1710_ : a 164 ((a 146 23).toNat) = a0 164 ((a 146 23).toNat) := hf 164 ((a 146 23).toNat) rfl
    have h1711_ := iv_get hv0 (k := 164) (j := (a 146 23).toNat) (l := (-128)) (u := 127) rfl
    exact hc70 y1 y2 y3 0 a (show (((((a 146 22) - (a 146 23)) + (2 * y3)) + 0) + 1).toNat ≤ n from by omega) hv hf (show 0 ≤ y1 from by omega) (show y1 ≤ 1999 from by omega) (show 0 ≤ y3 from by omega) (show y3 ≤ 1 from by omega) (show 0 ≤ 0 from by omega) (show 0 ≤ 1 from by omega) (show a 146 68 ≤ 9 from by omega) (show a 146 23 ≤ a 146 22 from by omega) (show 0 ≤ y2 from by omega) (show y2 ≤ 13 from by omega) (show (y3 = 1 → y2 ≤ 12) from by omega) (show 0 ≤ y3 from by omega) (show 0 ≤ 0 from by omega) (show y3 ≤ 1 from by omega) (show 0 ≤ 1 from by omega) (show (0 = 1 → (a 146 23 < a 146 22 ∧ ¬ a 164 ((a 146 23).toNat) = 32)) from by omega)
  have hc35 : ∀ (y1 y2 y3 y4 : Int) (a : Nat → Nat → Int), ((((a 146 22) - (a 146 23)) + y3) + y4).toNat ≤ n → iv a → jfr jW_X12_rates a0 a → 0 ≤ y1 → y1 ≤ 1999 → 0 ≤ y3 → y3 ≤ 1 → 0 ≤ y4 → y4 ≤ 1 → a 146 68 ≤ 9 → a 146 23 ≤ a 146 22 → 0 ≤ y2 → y2 ≤ 13 → (y3 = 1 → y2 ≤ 12) → 0 ≤ y3 → 0 ≤ y4 → y3 ≤ 1 → y4 ≤ 1 → jt (jxX E d 282 35 [some (.inr (.inr (.inl 146))), some (.inl y1), some (.inl y2), some (.inl y3), some (.inl y4), none] [] (jxSH, a, b0)) (jQ_X12_rates x1 a0 b0) := by
    intro y1 y2 y3 y4 a hm hv hf hi0 hi1 hi2 hi3 hi4 hi5 hi6 hi7 hi8 hi9 hi10 hi11 hi12 hi13 hi14
    refine jt_eq (bq_X12_rates_35 E d y1 y2 y3 y4 a b0) ?_
    have h1712_ := iv_get hv (k := 146) (j := 68) (l := 0) (u := 10) rfl
    have h1713_ := iv_get hv (k := 146) (j := 23) (l := 0) (u := 200) rfl
    have h1714_ := iv_get hv (k := 146) (j := 22) (l := 0) (u := 200) rfl
    refine jt_ite (fun c1715_ => ?_) (fun c1715_ => ?_)
    ·
      exact cp_X12_rates_114 E d hd x1 a0 b0 hv0 y1 y2 y3 a hv hf (show 0 ≤ y1 from by omega) (show y1 ≤ 1999 from by omega) (show 0 ≤ y3 from by omega) (show y3 ≤ 1 from by omega) (show a 146 68 ≤ 9 from by omega) (show a 146 23 ≤ a 146 22 from by omega) (show 0 ≤ y2 from by omega) (show y2 ≤ 13 from by omega) (show (y3 = 1 → y2 ≤ 12) from by omega) (show 0 ≤ y3 from by omega) (show y3 ≤ 1 from by omega)
    ·
      refine jt_ite (fun c1716_ => ?_) (fun c1716_ => ?_)
      ·
        exact cp_X12_rates_114 E d hd x1 a0 b0 hv0 y1 y2 y3 a hv hf (show 0 ≤ y1 from by omega) (show y1 ≤ 1999 from by omega) (show 0 ≤ y3 from by omega) (show y3 ≤ 1 from by omega) (show a 146 68 ≤ 9 from by omega) (show a 146 23 ≤ a 146 22 from by omega) (show 0 ≤ y2 from by omega) (show y2 ≤ 13 from by omega) (show (y3 = 1 → y2 ≤ 12) from by omega) (show 0 ≤ y3 from by omega) (show y3 ≤ 1 from by omega)
      ·
        refine jt_bI (sp_X12_clause E d (jd_le hd rfl) y2 a b0 hv (show a 146 23 ≤ a 146 22 from by omega) (show 0 ≤ y2 from by omega) (show y2 ≤ 12 from by omega)) (fun r1717_ a1717_ b1717_ h1717_ => ?_)
        obtain ⟨hv1717_, hf1717_, rfl, hq1717_0, hq1717_1, hq1717_2, hq1717_3⟩ := h1717_
        have h1718_ := iv_get hv1717_ (k := 146) (j := 23) (l := 0) (u := 200) rfl
        have h1719_ := iv_get hv1717_ (k := 146) (j := 22) (l := 0) (u := 200) rfl
        have h1720_ : a1717_ 146 22 = a 146 22 := hf1717_ 146 22 rfl
        refine jt_ite (fun c1721_ => ?_) (fun c1721_ => ?_)
        ·
          have hf1722_ : jfr jW_X12_rates a0 a1717_ := jfr_tr hf hf1717_ rfl
          have h1723_ := iv_get hv1717_ (k := 146) (j := 68) (l := 0) (u := 10) rfl
          have h1724_ : a1717_ 146 68 = a 146 68 := hf1717_ 146 68 rfl
          have h1725_ : jxw (y2 + 1) = y2 + 1 := jxw_id (by omega) (by omega)
          exact hc69 y1 (jxw (y2 + 1)) r1717_ a1717_ (show ((((a1717_ 146 22) - (a1717_ 146 23)) + (2 * r1717_)) + 1).toNat ≤ n from by omega) hv1717_ hf1722_ (show 0 ≤ y1 from by omega) (show y1 ≤ 1999 from by omega) (show 0 ≤ r1717_ from by omega) (show r1717_ ≤ 1 from by omega) (show a1717_ 146 68 ≤ 9 from by omega) (show a1717_ 146 23 ≤ a1717_ 146 22 from by omega) (show 0 ≤ jxw (y2 + 1) from by omega) (show jxw (y2 + 1) ≤ 13 from by omega) (show (r1717_ = 1 → jxw (y2 + 1) ≤ 12) from by omega) (show 0 ≤ r1717_ from by omega) (show r1717_ ≤ 1 from by omega)
        ·
          refine jt_bI (sp_X12_see E d (jd_le hd rfl) a1717_ b0 hv1717_ (show a1717_ 146 23 ≤ a1717_ 146 22 from by omega)) (fun r1726_ a1726_ b1726_ h1726_ => ?_)
          obtain ⟨hv1726_, hf1726_, rfl, hq1726_0, hq1726_1, hq1726_2, hq1726_3⟩ := h1726_
          have h1727_ := iv_get hv1726_ (k := 146) (j := 23) (l := 0) (u := 200) rfl
          have h1728_ := iv_get hv1726_ (k := 164) (j := (a1726_ 146 23).toNat) (l := (-128)) (u := 127) rfl
          have h1729_ : a1726_ 164 ((a1726_ 146 23).toNat) = a1717_ 164 ((a1726_ 146 23).toNat) := hf1726_ 164 ((a1726_ 146 23).toNat) rfl
          have h1730_ := iv_get hv1717_ (k := 164) (j := (a1726_ 146 23).toNat) (l := (-128)) (u := 127) rfl
          have h1731_ : a1717_ 164 ((a1726_ 146 23).toNat) = a 164 ((a1726_ 146 23).toNat) := hf1717_ 164 ((a1726_ 146 23).toNat) rfl
          have h1732_ := iv_get hv (k := 164) (j := (a1726_ 146 23).toNat) (l := (-128)) (u := 127) rfl
          have h1733_ : a 164 ((a1726_ 146 23).toNat) = a0 164 ((a1726_ 146 23).toNat) := hf 164 ((a1726_ 146 23).toNat) rfl
          have h1734_ := iv_get hv0 (k := 164) (j := (a1726_ 146 23).toNat) (l := (-128)) (u := 127) rfl
          have h1735_ := iv_get hv1717_ (k := 164) (j := (a1717_ 146 23).toNat) (l := (-128)) (u := 127) rfl
          have h1736_ : a1717_ 164 ((a1717_ 146 23).toNat) = a 164 ((a1717_ 146 23).toNat) := hf1717_ 164 ((a1717_ 146 23).toNat) rfl
          have h1737_ := iv_get hv (k := 164) (j := (a1717_ 146 23).toNat) (l := (-128)) (u := 127) rfl
          have h1738_ : a 164 ((a1717_ 146 23).toNat) = a0 164 ((a1717_ 146 23).toNat) := hf 164 ((a1717_ 146 23).toNat) rfl
          have h1739_ := iv_get hv0 (k := 164) (j := (a1717_ 146 23).toNat) (l := (-128)) (u := 127) rfl
          refine jt_ite (fun c1740_ => ?_) (fun c1740_ => ?_)
          ·
            have hf1741_ : jfr jW_X12_rates a0 a1717_ := jfr_tr hf hf1717_ rfl
            have hf1742_ : jfr jW_X12_rates a0 a1726_ := jfr_tr hf1741_ hf1726_ rfl
            have h1743_ := iv_get hv1726_ (k := 146) (j := 68) (l := 0) (u := 10) rfl
            have h1744_ : a1726_ 146 68 = a1717_ 146 68 := hf1726_ 146 68 rfl
            have h1745_ := iv_get hv1717_ (k := 146) (j := 68) (l := 0) (u := 10) rfl
            have h1746_ : a1717_ 146 68 = a 146 68 := hf1717_ 146 68 rfl
            have h1747_ := iv_get hv1726_ (k := 146) (j := 22) (l := 0) (u := 200) rfl
            have h1748_ : a1726_ 146 22 = a1717_ 146 22 := hf1726_ 146 22 rfl
            have h1749_ : jxw (y2 + 1) = y2 + 1 := jxw_id (by omega) (by omega)
            exact hc69 y1 (jxw (y2 + 1)) r1717_ a1726_ (show ((((a1726_ 146 22) - (a1726_ 146 23)) + (2 * r1717_)) + 1).toNat ≤ n from by omega) hv1726_ hf1742_ (show 0 ≤ y1 from by omega) (show y1 ≤ 1999 from by omega) (show 0 ≤ r1717_ from by omega) (show r1717_ ≤ 1 from by omega) (show a1726_ 146 68 ≤ 9 from by omega) (show a1726_ 146 23 ≤ a1726_ 146 22 from by omega) (show 0 ≤ jxw (y2 + 1) from by omega) (show jxw (y2 + 1) ≤ 13 from by omega) (show (r1717_ = 1 → jxw (y2 + 1) ≤ 12) from by omega) (show 0 ≤ r1717_ from by omega) (show r1717_ ≤ 1 from by omega)
          ·
            have hf1750_ : jfr jW_X12_rates a0 a1717_ := jfr_tr hf hf1717_ rfl
            have hf1751_ : jfr jW_X12_rates a0 a1726_ := jfr_tr hf1750_ hf1726_ rfl
            have h1752_ := iv_get hv1726_ (k := 146) (j := 68) (l := 0) (u := 10) rfl
            have h1753_ : a1726_ 146 68 = a1717_ 146 68 := hf1726_ 146 68 rfl
            have h1754_ := iv_get hv1717_ (k := 146) (j := 68) (l := 0) (u := 10) rfl
            have h1755_ : a1717_ 146 68 = a 146 68 := hf1717_ 146 68 rfl
            have h1756_ := iv_get hv1726_ (k := 146) (j := 22) (l := 0) (u := 200) rfl
            have h1757_ : a1726_ 146 22 = a1717_ 146 22 := hf1726_ 146 22 rfl
            have h1758_ : jxw (y2 + 1) = y2 + 1 := jxw_id (by omega) (by omega)
            exact hc65 y1 (jxw (y2 + 1)) r1717_ a1726_ (show ((((a1726_ 146 22) - (a1726_ 146 23)) + (2 * r1717_)) + 2).toNat ≤ n from by omega) hv1726_ hf1751_ (show 0 ≤ y1 from by omega) (show y1 ≤ 1999 from by omega) (show 1 ≤ r1717_ from by omega) (show r1717_ ≤ 1 from by omega) (show a1726_ 146 68 ≤ 9 from by omega) (show a1726_ 146 23 ≤ a1726_ 146 22 from by omega) (show 0 ≤ jxw (y2 + 1) from by omega) (show jxw (y2 + 1) ≤ 13 from by omega) (show (r1717_ = 1 → jxw (y2 + 1) ≤ 12) from by omega) (show 0 ≤ r1717_ from by omega) (show r1717_ ≤ 1 from by omega) (show a1726_ 146 23 < a1726_ 146 22 from by omega) (show ¬ a1726_ 164 ((a1726_ 146 23).toNat) = 32 from by omega)
  exact ⟨hc96, hc70, hc65, hc69, hc35⟩
theorem cp_X12_rates_30 (E : jxE) (d : Nat) (hd : Nat.ble 4 (d + 1) = true) (x1 : Int) (a0 b0 : Nat → Nat → Int) (hv0 : iv a0) : ∀ (y1 y2 : Int) (a : Nat → Nat → Int), iv a → jfr jW_X12_rates a0 a → 0 ≤ y1 → y1 ≤ 1999 → 0 ≤ y2 → y2 ≤ 0 → a 146 68 ≤ 9 → a 146 23 ≤ a 146 22 → jt (jxX E d 282 30 [some (.inr (.inr (.inl 146))), some (.inl y1), some (.inl y2), none, none, none] [] (jxSH, a, b0)) (jQ_X12_rates x1 a0 b0) := by
  intro y1 y2 a hv hf hi0 hi1 hi2 hi3 hi4 hi5
  refine jt_eq (bq_X12_rates_30 E d y1 y2 a b0) ?_
  have h1759_ := iv_get hv (k := 146) (j := 68) (l := 0) (u := 10) rfl
  have h1760_ := iv_get hv (k := 146) (j := 23) (l := 0) (u := 200) rfl
  have h1761_ := iv_get hv (k := 146) (j := 22) (l := 0) (u := 200) rfl
  exact (cp_X12_rates_35 E d hd x1 a0 b0 hv0 _).2.2.2.2 y1 y2 1 1 a (Nat.le_refl _) hv hf (show 0 ≤ y1 from by omega) (show y1 ≤ 1999 from by omega) (show 0 ≤ 1 from by omega) (show 1 ≤ 1 from by omega) (show 0 ≤ 1 from by omega) (show 1 ≤ 1 from by omega) (show a 146 68 ≤ 9 from by omega) (show a 146 23 ≤ a 146 22 from by omega) (show 0 ≤ y2 from by omega) (show y2 ≤ 13 from by omega) (show (1 = 1 → y2 ≤ 12) from by omega) (show 0 ≤ 1 from by omega) (show 0 ≤ 1 from by omega) (show 1 ≤ 1 from by omega) (show 1 ≤ 1 from by omega)
theorem sp_X12_rates (E : jxE) (d : Nat) (hd : Nat.ble 4 d = true) (x1 : Int) (a0 b0 : Nat → Nat → Int) (hv0 : iv a0) : jt (jxC E d 282 [.inr (.inr (.inl 146)), .inl x1] (jxSH, a0, b0)) (jQ_X12_rates x1 a0 b0) := by
  obtain ⟨d, rfl⟩ := jd_succ hd
  refine jt_eq (bq_X12_rates E d x1 a0 b0) ?_
  have h1762_ := iv_get hv0 (k := 146) (j := 68) (l := 0) (u := 10) rfl
  refine jt_ite (fun c1763_ => ?_) (fun c1763_ => ?_)
  ·
    exact jt_rI ⟨hv0, (jfr_rf _ _), rfl⟩
  ·
    refine jt_eI (eq_X12_isDay E d (jd_le hd rfl) x1 a0 b0) ?_
    have h1764_ := f_X12_isDay_eq a0 b0 x1
    have h1765_ := f_X12_in_eq a0 b0 x1 0 1999
    refine jt_ite (fun c1766_ => ?_) (fun c1766_ => ?_)
    ·
      exact jt_rI ⟨hv0, (jfr_rf _ _), rfl⟩
    ·
      have hv1767_ : iv (jxu a0 146 23 0) := iv_put hv0 (l := 0) (u := 200) rfl (by omega) (by omega)
      have hv1768_ : iv (jxu (jxu a0 146 23 0) 146 24 0) := iv_putf hv1767_ rfl
      have hf1769_ : jfr jW_X12_rates a0 (jxu a0 146 23 0) := jfr_put (jfr_rf _ _) rfl
      have hf1770_ : jfr jW_X12_rates a0 (jxu (jxu a0 146 23 0) 146 24 0) := jfr_put hf1769_ rfl
      have h1771_ := iv_get hv0 (k := 146) (j := 22) (l := 0) (u := 200) rfl
      exact cp_X12_rates_30 E d hd x1 a0 b0 hv0 x1 0 (jxu (jxu a0 146 23 0) 146 24 0) hv1768_ hf1770_ (show 0 ≤ x1 from by omega) (show x1 ≤ 1999 from by omega) (show 0 ≤ 0 from by omega) (show 0 ≤ 0 from by omega) (show a0 146 68 ≤ 9 from by omega) (show 0 ≤ a0 146 22 from by omega)
