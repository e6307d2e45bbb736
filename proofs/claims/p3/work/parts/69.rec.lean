def jW_X10_readOne : List (Nat × Nat) := [(2, 2), (2, 3), (11, 6), (11, 7), (54, 9999)]
abbrev jQ_X10_readOne (x1 : Int) (a0 b0 : Nat → Nat → Int) : List jxV → (Nat → Nat → Int) → (Nat → Nat → Int) → Prop := rV (fun a b => (iv a) ∧ (jfr jW_X10_readOne a0 a) ∧ (b0 = b))
def Sp_X10_readOne (E : jxE) (n_ : Nat) : Prop := ∀ (d : Nat) (hd : 3 * n_ + 13 ≤ d) (x1 : Int) (a0 b0 : Nat → Nat → Int) (hv0 : iv a0) (hp0 : 0 ≤ x1) (hp1 : x1 ≤ 10) (hpn : 10 - x1 ≤ (n_ : Int)) , jt (jxC E d 145 [.inr (.inr (.inl 11)), .inl x1] (jxSH, a0, b0)) (jQ_X10_readOne x1 a0 b0)
def jW_X10_readBoth : List (Nat × Nat) := [(2, 2), (2, 3), (11, 6), (11, 7), (54, 9999)]
abbrev jQ_X10_readBoth (x1 : Int) (a0 b0 : Nat → Nat → Int) : List jxV → (Nat → Nat → Int) → (Nat → Nat → Int) → Prop := rV (fun a b => (iv a) ∧ (jfr jW_X10_readBoth a0 a) ∧ (b0 = b))
def Sp_X10_readBoth (E : jxE) (n_ : Nat) : Prop := ∀ (d : Nat) (hd : 3 * n_ + 14 ≤ d) (x1 : Int) (a0 b0 : Nat → Nat → Int) (hv0 : iv a0) (hp0 : 0 ≤ x1) (hp1 : x1 ≤ 10) (hpn : 10 - x1 ≤ (n_ : Int)) , jt (jxC E d 144 [.inr (.inr (.inl 11)), .inl x1] (jxSH, a0, b0)) (jQ_X10_readBoth x1 a0 b0)
def jW_X10_readEither : List (Nat × Nat) := [(2, 2), (2, 3), (11, 6), (11, 7), (54, 9999)]
abbrev jQ_X10_readEither (x1 : Int) (a0 b0 : Nat → Nat → Int) : List jxV → (Nat → Nat → Int) → (Nat → Nat → Int) → Prop := rV (fun a b => (iv a) ∧ (jfr jW_X10_readEither a0 a) ∧ (b0 = b))
def Sp_X10_readEither (E : jxE) (n_ : Nat) : Prop := ∀ (d : Nat) (hd : 3 * n_ + 15 ≤ d) (x1 : Int) (a0 b0 : Nat → Nat → Int) (hv0 : iv a0) (hp0 : 0 ≤ x1) (hp1 : x1 ≤ 10) (hpn : 10 - x1 ≤ (n_ : Int)) , jt (jxC E d 143 [.inr (.inr (.inl 11)), .inl x1] (jxSH, a0, b0)) (jQ_X10_readEither x1 a0 b0)
def jW_X5_markFrom : List (Nat × Nat) := [(90, 8)]
abbrev jQ_X5_markFrom (x1 x2 x3 x4 x5 : Int) (a0 b0 : Nat → Nat → Int) : List jxV → (Nat → Nat → Int) → (Nat → Nat → Int) → Prop := rV (fun a b => (iv a) ∧ (jfr jW_X5_markFrom a0 a))
def Sp_X5_markFrom (E : jxE) (n_ : Nat) : Prop := ∀ (d : Nat) (hd : n_ + 5 ≤ d) (x1 x2 x3 x4 x5 : Int) (a0 b0 : Nat → Nat → Int) (hv0 : iv a0) (hp0 : 0 ≤ x1) (hp1 : x1 ≤ 11) (hp2 : 0 ≤ x2) (hp3 : x2 ≤ 11) (hp4 : 0 ≤ x3) (hp5 : x3 ≤ 4095) (hp6 : 1 ≤ x5) (hp7 : x5 ≤ 5) (hpn : 5 - x5 ≤ (n_ : Int)) , jt (jxC E d 87 [.inr (.inr (.inl 90)), .inl x1, .inl x2, .inl x3, .inl x4, .inl x5] (jxSH, a0, b0)) (jQ_X5_markFrom x1 x2 x3 x4 x5 a0 b0)
def jW_X5_firstRing : List (Nat × Nat) := [(96, 9999)]
abbrev jQ_X5_firstRing (x1 x2 x3 x4 x5 : Int) (a0 b0 : Nat → Nat → Int) : List jxV → (Nat → Nat → Int) → (Nat → Nat → Int) → Prop := rI (fun r a b => (iv a) ∧ (jfr jW_X5_firstRing a0 a) ∧ (b0 = b) ∧ (0 ≤ r) ∧ (r ≤ 5))
def Sp_X5_firstRing (E : jxE) (n_ : Nat) : Prop := ∀ (d : Nat) (hd : n_ + 5 ≤ d) (x1 x2 x3 x4 x5 : Int) (a0 b0 : Nat → Nat → Int) (hv0 : iv a0) (hp0 : 0 ≤ x1) (hp1 : x1 ≤ 11) (hp2 : 0 ≤ x2) (hp3 : x2 ≤ 4095) (hp4 : 1 ≤ x4) (hp5 : x4 ≤ 5) (hp6 : 0 ≤ x5) (hp7 : x5 ≤ 4095) (hpn : 5 - x4 ≤ (n_ : Int)) , jt (jxC E d 95 [.inr (.inr (.inl 90)), .inl x1, .inl x2, .inl x3, .inl x4, .inl x5] (jxSH, a0, b0)) (jQ_X5_firstRing x1 x2 x3 x4 x5 a0 b0)
theorem cp_X10_readOne_128 (E : jxE) (n_ : Nat) (hR : ∀ m, m + 1 = n_ → Sp_X10_readOne E m ∧ Sp_X10_readEither E m) (d : Nat) (hd : 3 * n_ + 13 ≤ (d + 1)) (x1 : Int) (a0 b0 : Nat → Nat → Int) (hv0 : iv a0) (hp0 : 0 ≤ x1) (hp1 : x1 ≤ 10) (hpn : 10 - x1 ≤ (n_ : Int)) : ∀ (a : Nat → Nat → Int), iv a → jfr jW_X10_readOne a0 a → jt (jxX E d 145 128 [none, none, none, none, none] [] (jxSH, a, b0)) (jQ_X10_readOne x1 a0 b0) := by
  intro a hv hf
  refine jt_eq (bq_X10_readOne_128 E d a b0) ?_
  exact jt_rV ⟨hv, hf, rfl⟩
theorem cp_X10_readOne_113 (E : jxE) (n_ : Nat) (hR : ∀ m, m + 1 = n_ → Sp_X10_readOne E m ∧ Sp_X10_readEither E m) (d : Nat) (hd : 3 * n_ + 13 ≤ (d + 1)) (x1 : Int) (a0 b0 : Nat → Nat → Int) (hv0 : iv a0) (hp0 : 0 ≤ x1) (hp1 : x1 ≤ 10) (hpn : 10 - x1 ≤ (n_ : Int)) : ∀ (a : Nat → Nat → Int), iv a → jfr jW_X10_readOne a0 a → jt (jxX E d 145 113 [some (.inr (.inr (.inl 11))), none, none, none, none] [] (jxSH, a, b0)) (jQ_X10_readOne x1 a0 b0) := by
  intro a hv hf
  refine jt_eq (bq_X10_readOne_113 E d a b0) ?_
  refine jt_bV (sp_X8_noteCannotStand E d (Nat.ble_eq_true_of_le (by omega)) a b0 hv) (fun a1_ b1_ h1_ => ?_)
  obtain ⟨hv1_, hf1_, rfl⟩ := h1_
  have hf2_ : jfr jW_X10_readOne a0 a1_ := jfr_tr hf hf1_ rfl
  exact cp_X10_readOne_128 E n_ hR d hd x1 a0 b0 hv0 hp0 hp1 hpn a1_ hv1_ hf2_
theorem cp_X10_readOne_68 (E : jxE) (n_ : Nat) (hR : ∀ m, m + 1 = n_ → Sp_X10_readOne E m ∧ Sp_X10_readEither E m) (d : Nat) (hd : 3 * n_ + 13 ≤ (d + 1)) (x1 : Int) (a0 b0 : Nat → Nat → Int) (hv0 : iv a0) (hp0 : 0 ≤ x1) (hp1 : x1 ≤ 10) (hpn : 10 - x1 ≤ (n_ : Int)) : ∀ (y1 y2 y3 y4 : Int) (a : Nat → Nat → Int), iv a → jfr jW_X10_readOne a0 a → 0 ≤ y1 → y1 ≤ 10 → 0 ≤ y2 → y2 ≤ 200 → 0 ≤ y3 → y3 ≤ 1 → 0 ≤ y4 → y4 ≤ 1 → y1 = x1 → (y3 = 0 ∨ y3 = 1) → (y4 = 0 ∨ y4 = 1) → ((y3 = 0 ∧ y4 = 0) ∨ y1 ≤ 9) → jt (jxX E d 145 68 [some (.inr (.inr (.inl 11))), some (.inl y1), some (.inl y2), some (.inl y3), some (.inl y4)] [] (jxSH, a, b0)) (jQ_X10_readOne x1 a0 b0) := by
  intro y1 y2 y3 y4 a hv hf hi0 hi1 hi2 hi3 hi4 hi5 hi6 hi7 hi8 hi9 hi10 hi11
  refine jt_eq (bq_X10_readOne_68 E d y1 y2 y3 y4 a b0) ?_
  refine jt_ite (fun c3_ => ?_) (fun c3_ => ?_)
  ·
    refine jt_ite (fun c4_ => ?_) (fun c4_ => ?_)
    ·
      refine jt_bV (sp_X10_readAtom E d (Nat.ble_eq_true_of_le (by omega)) y2 a b0 hv) (fun a5_ b5_ h5_ => ?_)
      obtain ⟨hv5_, hf5_, rfl⟩ := h5_
      have hf6_ : jfr jW_X10_readOne a0 a5_ := jfr_tr hf hf5_ rfl
      exact cp_X10_readOne_128 E n_ hR d hd x1 a0 b0 hv0 hp0 hp1 hpn a5_ hv5_ hf6_
    ·
      have h7_ : jxw (y1 + 1) = y1 + 1 := jxw_id (by omega) (by omega)
      refine jt_bV ((hR (n_ - 1) (by omega)).2 d (by omega) (jxw (y1 + 1)) a b0 hv (show 0 ≤ jxw (y1 + 1) from by omega) (show jxw (y1 + 1) ≤ 10 from by omega) (by omega)) (fun a8_ b8_ h8_ => ?_)
      obtain ⟨hv8_, hf8_, rfl⟩ := h8_
      refine jt_bI (sp_X8_takesSign E d (Nat.ble_eq_true_of_le (by omega)) 41 a8_ b0 hv8_) (fun r9_ a9_ b9_ h9_ => ?_)
      obtain ⟨hv9_, hf9_, rfl, hq9_0⟩ := h9_
      refine jt_ite (fun c10_ => ?_) (fun c10_ => ?_)
      ·
        have hf11_ : jfr jW_X10_readOne a0 a8_ := jfr_tr hf hf8_ rfl
        have hf12_ : jfr jW_X10_readOne a0 a9_ := jfr_tr hf11_ hf9_ rfl
        exact cp_X10_readOne_113 E n_ hR d hd x1 a0 b0 hv0 hp0 hp1 hpn a9_ hv9_ hf12_
      ·
        have hf13_ : jfr jW_X10_readOne a0 a8_ := jfr_tr hf hf8_ rfl
        have hf14_ : jfr jW_X10_readOne a0 a9_ := jfr_tr hf13_ hf9_ rfl
        exact cp_X10_readOne_128 E n_ hR d hd x1 a0 b0 hv0 hp0 hp1 hpn a9_ hv9_ hf14_
  ·
    have h15_ : jxw (y1 + 1) = y1 + 1 := jxw_id (by omega) (by omega)
    refine jt_bV ((hR (n_ - 1) (by omega)).1 d (by omega) (jxw (y1 + 1)) a b0 hv (show 0 ≤ jxw (y1 + 1) from by omega) (show jxw (y1 + 1) ≤ 10 from by omega) (by omega)) (fun a16_ b16_ h16_ => ?_)
    obtain ⟨hv16_, hf16_, rfl⟩ := h16_
    refine jt_bV (sp_X10_addStep E d (Nat.ble_eq_true_of_le (by omega)) 7 0 a16_ b0 hv16_) (fun a17_ b17_ h17_ => ?_)
    obtain ⟨hv17_, hf17_, rfl⟩ := h17_
    have hf18_ : jfr jW_X10_readOne a0 a16_ := jfr_tr hf hf16_ rfl
    have hf19_ : jfr jW_X10_readOne a0 a17_ := jfr_tr hf18_ hf17_ rfl
    exact cp_X10_readOne_128 E n_ hR d hd x1 a0 b0 hv0 hp0 hp1 hpn a17_ hv17_ hf19_
theorem cp_X10_readOne_50 (E : jxE) (n_ : Nat) (hR : ∀ m, m + 1 = n_ → Sp_X10_readOne E m ∧ Sp_X10_readEither E m) (d : Nat) (hd : 3 * n_ + 13 ≤ (d + 1)) (x1 : Int) (a0 b0 : Nat → Nat → Int) (hv0 : iv a0) (hp0 : 0 ≤ x1) (hp1 : x1 ≤ 10) (hpn : 10 - x1 ≤ (n_ : Int)) : ∀ (y1 y2 y3 y4 : Int) (a : Nat → Nat → Int), iv a → jfr jW_X10_readOne a0 a → 0 ≤ y1 → y1 ≤ 10 → 0 ≤ y2 → y2 ≤ 200 → 0 ≤ y3 → y3 ≤ 1 → 0 ≤ y4 → y4 ≤ 1 → y1 = x1 → (y3 = 0 ∨ y3 = 1) → (y4 = 0 ∨ y4 = 1) → jt (jxX E d 145 50 [some (.inr (.inr (.inl 11))), some (.inl y1), some (.inl y2), some (.inl y3), some (.inl y4)] [] (jxSH, a, b0)) (jQ_X10_readOne x1 a0 b0) := by
  intro y1 y2 y3 y4 a hv hf hi0 hi1 hi2 hi3 hi4 hi5 hi6 hi7 hi8 hi9 hi10
  refine jt_eq (bq_X10_readOne_50 E d y1 y2 y3 y4 a b0) ?_
  refine jt_ite (fun c20_ => ?_) (fun c20_ => ?_)
  ·
    exact cp_X10_readOne_68 E n_ hR d hd x1 a0 b0 hv0 hp0 hp1 hpn y1 y2 y3 y4 a hv hf (show 0 ≤ y1 from by omega) (show y1 ≤ 10 from by omega) (show 0 ≤ y2 from by omega) (show y2 ≤ 200 from by omega) (show 0 ≤ y3 from by omega) (show y3 ≤ 1 from by omega) (show 0 ≤ y4 from by omega) (show y4 ≤ 1 from by omega) (show y1 = x1 from by omega) (show (y3 = 0 ∨ y3 = 1) from by omega) (show (y4 = 0 ∨ y4 = 1) from by omega) (show ((y3 = 0 ∧ y4 = 0) ∨ y1 ≤ 9) from by omega)
  ·
    refine jt_bV (sp_X8_noteFault E d (Nat.ble_eq_true_of_le (by omega)) y2 3 a b0 hv) (fun a21_ b21_ h21_ => ?_)
    obtain ⟨hv21_, hf21_, rfl⟩ := h21_
    have hf22_ : jfr jW_X10_readOne a0 a21_ := jfr_tr hf hf21_ rfl
    exact cp_X10_readOne_128 E n_ hR d hd x1 a0 b0 hv0 hp0 hp1 hpn a21_ hv21_ hf22_
theorem cp_X10_readOne_39 (E : jxE) (n_ : Nat) (hR : ∀ m, m + 1 = n_ → Sp_X10_readOne E m ∧ Sp_X10_readEither E m) (d : Nat) (hd : 3 * n_ + 13 ≤ (d + 1)) (x1 : Int) (a0 b0 : Nat → Nat → Int) (hv0 : iv a0) (hp0 : 0 ≤ x1) (hp1 : x1 ≤ 10) (hpn : 10 - x1 ≤ (n_ : Int)) : ∀ (y1 y2 y3 s0 : Int) (a : Nat → Nat → Int), iv a → jfr jW_X10_readOne a0 a → 0 ≤ y1 → y1 ≤ 10 → 0 ≤ y2 → y2 ≤ 200 → 0 ≤ y3 → y3 ≤ 1 → 0 ≤ s0 → s0 ≤ 1 → y1 = x1 → (y3 = 0 ∨ y3 = 1) → (s0 = 0 ∨ s0 = 1) → jt (jxX E d 145 39 [some (.inr (.inr (.inl 11))), some (.inl y1), some (.inl y2), some (.inl y3), none] [.inl s0] (jxSH, a, b0)) (jQ_X10_readOne x1 a0 b0) := by
  intro y1 y2 y3 s0 a hv hf hi0 hi1 hi2 hi3 hi4 hi5 hi6 hi7 hi8 hi9 hi10
  refine jt_eq (bq_X10_readOne_39 E d y1 y2 y3 s0 a b0) ?_
  refine jt_ite (fun c23_ => ?_) (fun c23_ => ?_)
  ·
    refine jt_ite (fun c24_ => ?_) (fun c24_ => ?_)
    ·
      exact cp_X10_readOne_68 E n_ hR d hd x1 a0 b0 hv0 hp0 hp1 hpn y1 y2 y3 s0 a hv hf (show 0 ≤ y1 from by omega) (show y1 ≤ 10 from by omega) (show 0 ≤ y2 from by omega) (show y2 ≤ 200 from by omega) (show 0 ≤ y3 from by omega) (show y3 ≤ 1 from by omega) (show 0 ≤ s0 from by omega) (show s0 ≤ 1 from by omega) (show y1 = x1 from by omega) (show (y3 = 0 ∨ y3 = 1) from by omega) (show (s0 = 0 ∨ s0 = 1) from by omega) (show ((y3 = 0 ∧ s0 = 0) ∨ y1 ≤ 9) from by omega)
    ·
      exact cp_X10_readOne_50 E n_ hR d hd x1 a0 b0 hv0 hp0 hp1 hpn y1 y2 y3 s0 a hv hf (show 0 ≤ y1 from by omega) (show y1 ≤ 10 from by omega) (show 0 ≤ y2 from by omega) (show y2 ≤ 200 from by omega) (show 0 ≤ y3 from by omega) (show y3 ≤ 1 from by omega) (show 0 ≤ s0 from by omega) (show s0 ≤ 1 from by omega) (show y1 = x1 from by omega) (show (y3 = 0 ∨ y3 = 1) from by omega) (show (s0 = 0 ∨ s0 = 1) from by omega)
  ·
    exact cp_X10_readOne_50 E n_ hR d hd x1 a0 b0 hv0 hp0 hp1 hpn y1 y2 y3 s0 a hv hf (show 0 ≤ y1 from by omega) (show y1 ≤ 10 from by omega) (show 0 ≤ y2 from by omega) (show y2 ≤ 200 from by omega) (show 0 ≤ y3 from by omega) (show y3 ≤ 1 from by omega) (show 0 ≤ s0 from by omega) (show s0 ≤ 1 from by omega) (show y1 = x1 from by omega) (show (y3 = 0 ∨ y3 = 1) from by omega) (show (s0 = 0 ∨ s0 = 1) from by omega)
theorem cp_X10_readOne_34 (E : jxE) (n_ : Nat) (hR : ∀ m, m + 1 = n_ → Sp_X10_readOne E m ∧ Sp_X10_readEither E m) (d : Nat) (hd : 3 * n_ + 13 ≤ (d + 1)) (x1 : Int) (a0 b0 : Nat → Nat → Int) (hv0 : iv a0) (hp0 : 0 ≤ x1) (hp1 : x1 ≤ 10) (hpn : 10 - x1 ≤ (n_ : Int)) : ∀ (y1 y2 y3 : Int) (a : Nat → Nat → Int), iv a → jfr jW_X10_readOne a0 a → 0 ≤ y1 → y1 ≤ 10 → 0 ≤ y2 → y2 ≤ 200 → 0 ≤ y3 → y3 ≤ 0 → y1 = x1 → (y3 = 0 ∨ y3 = 1) → jt (jxX E d 145 34 [some (.inr (.inr (.inl 11))), some (.inl y1), some (.inl y2), some (.inl y3), none] [] (jxSH, a, b0)) (jQ_X10_readOne x1 a0 b0) := by
  intro y1 y2 y3 a hv hf hi0 hi1 hi2 hi3 hi4 hi5 hi6 hi7
  refine jt_eq (bq_X10_readOne_34 E d y1 y2 y3 a b0) ?_
  exact cp_X10_readOne_39 E n_ hR d hd x1 a0 b0 hv0 hp0 hp1 hpn y1 y2 y3 1 a hv hf (show 0 ≤ y1 from by omega) (show y1 ≤ 10 from by omega) (show 0 ≤ y2 from by omega) (show y2 ≤ 200 from by omega) (show 0 ≤ y3 from by omega) (show y3 ≤ 1 from by omega) (show 0 ≤ 1 from by omega) (show 1 ≤ 1 from by omega) (show y1 = x1 from by omega) (show (y3 = 0 ∨ y3 = 1) from by omega) (show (1 = 0 ∨ 1 = 1) from by omega)
theorem cp_X10_readOne_38 (E : jxE) (n_ : Nat) (hR : ∀ m, m + 1 = n_ → Sp_X10_readOne E m ∧ Sp_X10_readEither E m) (d : Nat) (hd : 3 * n_ + 13 ≤ (d + 1)) (x1 : Int) (a0 b0 : Nat → Nat → Int) (hv0 : iv a0) (hp0 : 0 ≤ x1) (hp1 : x1 ≤ 10) (hpn : 10 - x1 ≤ (n_ : Int)) : ∀ (y1 y2 y3 : Int) (a : Nat → Nat → Int), iv a → jfr jW_X10_readOne a0 a → 0 ≤ y1 → y1 ≤ 10 → 0 ≤ y2 → y2 ≤ 200 → 0 ≤ y3 → y3 ≤ 1 → y1 = x1 → (y3 = 0 ∨ y3 = 1) → jt (jxX E d 145 38 [some (.inr (.inr (.inl 11))), some (.inl y1), some (.inl y2), some (.inl y3), none] [] (jxSH, a, b0)) (jQ_X10_readOne x1 a0 b0) := by
  intro y1 y2 y3 a hv hf hi0 hi1 hi2 hi3 hi4 hi5 hi6 hi7
  refine jt_eq (bq_X10_readOne_38 E d y1 y2 y3 a b0) ?_
  exact cp_X10_readOne_39 E n_ hR d hd x1 a0 b0 hv0 hp0 hp1 hpn y1 y2 y3 0 a hv hf (show 0 ≤ y1 from by omega) (show y1 ≤ 10 from by omega) (show 0 ≤ y2 from by omega) (show y2 ≤ 200 from by omega) (show 0 ≤ y3 from by omega) (show y3 ≤ 1 from by omega) (show 0 ≤ 0 from by omega) (show 0 ≤ 1 from by omega) (show y1 = x1 from by omega) (show (y3 = 0 ∨ y3 = 1) from by omega) (show (0 = 0 ∨ 0 = 1) from by omega)
theorem sr_X10_readOne (E : jxE) (n_ : Nat) (hR : ∀ m, m + 1 = n_ → Sp_X10_readOne E m ∧ Sp_X10_readEither E m) : Sp_X10_readOne E n_ := by
  intro d hd x1 a0 b0 hv0 hp0 hp1 hpn
  obtain ⟨d, rfl⟩ : ∃ d2, d = d2 + 1 := ⟨d - 1, by omega⟩
  refine jt_eq (bq_X10_readOne E d x1 a0 b0) ?_
  refine jt_eI (eq_X8_place E d (Nat.ble_eq_true_of_le (by omega)) a0 b0) ?_
  refine jt_bI (sp_X8_takesWord_r1000 E d (Nat.ble_eq_true_of_le (by omega)) a0 b0 hv0) (fun r25_ a25_ b25_ h25_ => ?_)
  obtain ⟨hv25_, hf25_, rfl, hq25_0⟩ := h25_
  refine jt_ite (fun c26_ => ?_) (fun c26_ => ?_)
  ·
    refine jt_bI (sp_X8_takesSign E d (Nat.ble_eq_true_of_le (by omega)) 40 a25_ b0 hv25_) (fun r27_ a27_ b27_ h27_ => ?_)
    obtain ⟨hv27_, hf27_, rfl, hq27_0⟩ := h27_
    refine jt_ite (fun c28_ => ?_) (fun c28_ => ?_)
    ·
      have hf29_ : jfr jW_X10_readOne a0 a25_ := jfr_tr (jfr_rf _ _) hf25_ rfl
      have hf30_ : jfr jW_X10_readOne a0 a27_ := jfr_tr hf29_ hf27_ rfl
      have h31_ := f_X8_place_eq a0 b0
      have h32_ := iv_get hv0 (k := 2) (j := 2) (l := 0) (u := 200) rfl
      exact cp_X10_readOne_38 E n_ hR d hd x1 a0 b0 hv0 hp0 hp1 hpn x1 (f_X8_place a0 b0) r25_ a27_ hv27_ hf30_ (show 0 ≤ x1 from by omega) (show x1 ≤ 10 from by omega) (show 0 ≤ f_X8_place a0 b0 from by omega) (show f_X8_place a0 b0 ≤ 200 from by omega) (show 0 ≤ r25_ from by omega) (show r25_ ≤ 1 from by omega) (show x1 = x1 from by omega) (show (r25_ = 0 ∨ r25_ = 1) from by omega)
    ·
      have hf33_ : jfr jW_X10_readOne a0 a25_ := jfr_tr (jfr_rf _ _) hf25_ rfl
      have hf34_ : jfr jW_X10_readOne a0 a27_ := jfr_tr hf33_ hf27_ rfl
      have h35_ := f_X8_place_eq a0 b0
      have h36_ := iv_get hv0 (k := 2) (j := 2) (l := 0) (u := 200) rfl
      exact cp_X10_readOne_34 E n_ hR d hd x1 a0 b0 hv0 hp0 hp1 hpn x1 (f_X8_place a0 b0) r25_ a27_ hv27_ hf34_ (show 0 ≤ x1 from by omega) (show x1 ≤ 10 from by omega) (show 0 ≤ f_X8_place a0 b0 from by omega) (show f_X8_place a0 b0 ≤ 200 from by omega) (show 0 ≤ r25_ from by omega) (show r25_ ≤ 0 from by omega) (show x1 = x1 from by omega) (show (r25_ = 0 ∨ r25_ = 1) from by omega)
  ·
    have hf37_ : jfr jW_X10_readOne a0 a25_ := jfr_tr (jfr_rf _ _) hf25_ rfl
    have h38_ := f_X8_place_eq a0 b0
    have h39_ := iv_get hv0 (k := 2) (j := 2) (l := 0) (u := 200) rfl
    exact cp_X10_readOne_38 E n_ hR d hd x1 a0 b0 hv0 hp0 hp1 hpn x1 (f_X8_place a0 b0) r25_ a25_ hv25_ hf37_ (show 0 ≤ x1 from by omega) (show x1 ≤ 10 from by omega) (show 0 ≤ f_X8_place a0 b0 from by omega) (show f_X8_place a0 b0 ≤ 200 from by omega) (show 0 ≤ r25_ from by omega) (show r25_ ≤ 1 from by omega) (show x1 = x1 from by omega) (show (r25_ = 0 ∨ r25_ = 1) from by omega)
theorem cp_X10_readBoth_7 (E : jxE) (n_ : Nat) (hOne : Sp_X10_readOne E n_) (d : Nat) (hd : 3 * n_ + 14 ≤ (d + 1)) (x1 : Int) (a0 b0 : Nat → Nat → Int) (hv0 : iv a0) (hp0 : 0 ≤ x1) (hp1 : x1 ≤ 10) (hpn : 10 - x1 ≤ (n_ : Int)) : ∀ n : Nat, (∀ (y1 y2 : Int) (a : Nat → Nat → Int), (((100 - y2) * 1) + 0).toNat ≤ n → iv a → jfr jW_X10_readBoth a0 a → 0 ≤ y1 → y1 ≤ 10 → 0 ≤ y2 → y2 ≤ 99 → y1 = x1 → jt (jxX E d 144 37 [some (.inr (.inr (.inl 11))), some (.inl y1), some (.inl y2)] [] (jxSH, a, b0)) (jQ_X10_readBoth x1 a0 b0)) ∧ (∀ (y1 y2 : Int) (a : Nat → Nat → Int), (((100 - y2) * 1) + 0).toNat ≤ n → iv a → jfr jW_X10_readBoth a0 a → 0 ≤ y1 → y1 ≤ 10 → 0 ≤ y2 → y2 ≤ 100 → y1 = x1 → jt (jxX E d 144 7 [some (.inr (.inr (.inl 11))), some (.inl y1), some (.inl y2)] [] (jxSH, a, b0)) (jQ_X10_readBoth x1 a0 b0)) := by
  refine jx_ind fun n ih => ?_
  have ih37 : ∀ (y1 y2 : Int) (a : Nat → Nat → Int), (((100 - y2) * 1) + 0).toNat < n → iv a → jfr jW_X10_readBoth a0 a → 0 ≤ y1 → y1 ≤ 10 → 0 ≤ y2 → y2 ≤ 99 → y1 = x1 → jt (jxX E d 144 37 [some (.inr (.inr (.inl 11))), some (.inl y1), some (.inl y2)] [] (jxSH, a, b0)) (jQ_X10_readBoth x1 a0 b0) := fun y1 y2 a hlt i0 i1 i2 i3 i4 i5 i6 => (ih _ hlt).1 y1 y2 a (Nat.le_refl _) i0 i1 i2 i3 i4 i5 i6
  have ih7 : ∀ (y1 y2 : Int) (a : Nat → Nat → Int), (((100 - y2) * 1) + 0).toNat < n → iv a → jfr jW_X10_readBoth a0 a → 0 ≤ y1 → y1 ≤ 10 → 0 ≤ y2 → y2 ≤ 100 → y1 = x1 → jt (jxX E d 144 7 [some (.inr (.inr (.inl 11))), some (.inl y1), some (.inl y2)] [] (jxSH, a, b0)) (jQ_X10_readBoth x1 a0 b0) := fun y1 y2 a hlt i0 i1 i2 i3 i4 i5 i6 => (ih _ hlt).2 y1 y2 a (Nat.le_refl _) i0 i1 i2 i3 i4 i5 i6
  have hc37 : ∀ (y1 y2 : Int) (a : Nat → Nat → Int), (((100 - y2) * 1) + 0).toNat ≤ n → iv a → jfr jW_X10_readBoth a0 a → 0 ≤ y1 → y1 ≤ 10 → 0 ≤ y2 → y2 ≤ 99 → y1 = x1 → jt (jxX E d 144 37 [some (.inr (.inr (.inl 11))), some (.inl y1), some (.inl y2)] [] (jxSH, a, b0)) (jQ_X10_readBoth x1 a0 b0) := by
    intro y1 y2 a hm hv hf hi0 hi1 hi2 hi3 hi4
    refine jt_eq (bq_X10_readBoth_37 E d y1 y2 a b0) ?_
    have h40_ : jxw (y2 + 1) = y2 + 1 := jxw_id (by omega) (by omega)
    exact ih7 y1 (jxw (y2 + 1)) a (show (((100 - (jxw (y2 + 1))) * 1) + 0).toNat < n from by omega) hv hf (show 0 ≤ y1 from by omega) (show y1 ≤ 10 from by omega) (show 0 ≤ jxw (y2 + 1) from by omega) (show jxw (y2 + 1) ≤ 100 from by omega) (show y1 = x1 from by omega)
  have hc7 : ∀ (y1 y2 : Int) (a : Nat → Nat → Int), (((100 - y2) * 1) + 0).toNat ≤ n → iv a → jfr jW_X10_readBoth a0 a → 0 ≤ y1 → y1 ≤ 10 → 0 ≤ y2 → y2 ≤ 100 → y1 = x1 → jt (jxX E d 144 7 [some (.inr (.inr (.inl 11))), some (.inl y1), some (.inl y2)] [] (jxSH, a, b0)) (jQ_X10_readBoth x1 a0 b0) := by
    intro y1 y2 a hm hv hf hi0 hi1 hi2 hi3 hi4
    refine jt_eq (bq_X10_readBoth_7 E d y1 y2 a b0) ?_
    refine jt_ite (fun c41_ => ?_) (fun c41_ => ?_)
    ·
      refine jt_bI (sp_X8_takesWord_r1008 E d (Nat.ble_eq_true_of_le (by omega)) a b0 hv) (fun r42_ a42_ b42_ h42_ => ?_)
      obtain ⟨hv42_, hf42_, rfl, hq42_0⟩ := h42_
      refine jt_ite (fun c43_ => ?_) (fun c43_ => ?_)
      ·
        have hf44_ : jfr jW_X10_readBoth a0 a42_ := jfr_tr hf hf42_ rfl
        exact jt_rV ⟨hv42_, hf44_, rfl⟩
      ·
        refine jt_bV (hOne d (by omega) y1 a42_ b0 hv42_ (show 0 ≤ y1 from by omega) (show y1 ≤ 10 from by omega) (by omega)) (fun a45_ b45_ h45_ => ?_)
        obtain ⟨hv45_, hf45_, rfl⟩ := h45_
        refine jt_bV (sp_X10_addStep E d (Nat.ble_eq_true_of_le (by omega)) 8 0 a45_ b0 hv45_) (fun a46_ b46_ h46_ => ?_)
        obtain ⟨hv46_, hf46_, rfl⟩ := h46_
        have hf47_ : jfr jW_X10_readBoth a0 a42_ := jfr_tr hf hf42_ rfl
        have hf48_ : jfr jW_X10_readBoth a0 a45_ := jfr_tr hf47_ hf45_ rfl
        have hf49_ : jfr jW_X10_readBoth a0 a46_ := jfr_tr hf48_ hf46_ rfl
        exact hc37 y1 y2 a46_ (show (((100 - y2) * 1) + 0).toNat ≤ n from by omega) hv46_ hf49_ (show 0 ≤ y1 from by omega) (show y1 ≤ 10 from by omega) (show 0 ≤ y2 from by omega) (show y2 ≤ 99 from by omega) (show y1 = x1 from by omega)
    ·
      exact jt_rV ⟨hv, hf, rfl⟩
  exact ⟨hc37, hc7⟩
theorem sr_X10_readBoth (E : jxE) (n_ : Nat) (hOne : Sp_X10_readOne E n_) : Sp_X10_readBoth E n_ := by
  intro d hd x1 a0 b0 hv0 hp0 hp1 hpn
  obtain ⟨d, rfl⟩ : ∃ d2, d = d2 + 1 := ⟨d - 1, by omega⟩
  refine jt_eq (bq_X10_readBoth E d x1 a0 b0) ?_
  refine jt_bV (hOne d (by omega) x1 a0 b0 hv0 (show 0 ≤ x1 from by omega) (show x1 ≤ 10 from by omega) (by omega)) (fun a50_ b50_ h50_ => ?_)
  obtain ⟨hv50_, hf50_, rfl⟩ := h50_
  have hf51_ : jfr jW_X10_readBoth a0 a50_ := jfr_tr (jfr_rf _ _) hf50_ rfl
  exact (cp_X10_readBoth_7 E n_ hOne d hd x1 a0 b0 hv0 hp0 hp1 hpn _).2 x1 0 a50_ (Nat.le_refl _) hv50_ hf51_ (show 0 ≤ x1 from by omega) (show x1 ≤ 10 from by omega) (show 0 ≤ 0 from by omega) (show 0 ≤ 100 from by omega) (show x1 = x1 from by omega)
theorem cp_X10_readEither_7 (E : jxE) (n_ : Nat) (hBoth : Sp_X10_readBoth E n_) (d : Nat) (hd : 3 * n_ + 15 ≤ (d + 1)) (x1 : Int) (a0 b0 : Nat → Nat → Int) (hv0 : iv a0) (hp0 : 0 ≤ x1) (hp1 : x1 ≤ 10) (hpn : 10 - x1 ≤ (n_ : Int)) : ∀ n : Nat, (∀ (y1 y2 : Int) (a : Nat → Nat → Int), (((100 - y2) * 1) + 0).toNat ≤ n → iv a → jfr jW_X10_readEither a0 a → 0 ≤ y1 → y1 ≤ 10 → 0 ≤ y2 → y2 ≤ 99 → y1 = x1 → jt (jxX E d 143 37 [some (.inr (.inr (.inl 11))), some (.inl y1), some (.inl y2)] [] (jxSH, a, b0)) (jQ_X10_readEither x1 a0 b0)) ∧ (∀ (y1 y2 : Int) (a : Nat → Nat → Int), (((100 - y2) * 1) + 0).toNat ≤ n → iv a → jfr jW_X10_readEither a0 a → 0 ≤ y1 → y1 ≤ 10 → 0 ≤ y2 → y2 ≤ 100 → y1 = x1 → jt (jxX E d 143 7 [some (.inr (.inr (.inl 11))), some (.inl y1), some (.inl y2)] [] (jxSH, a, b0)) (jQ_X10_readEither x1 a0 b0)) := by
  refine jx_ind fun n ih => ?_
  have ih37 : ∀ (y1 y2 : Int) (a : Nat → Nat → Int), (((100 - y2) * 1) + 0).toNat < n → iv a → jfr jW_X10_readEither a0 a → 0 ≤ y1 → y1 ≤ 10 → 0 ≤ y2 → y2 ≤ 99 → y1 = x1 → jt (jxX E d 143 37 [some (.inr (.inr (.inl 11))), some (.inl y1), some (.inl y2)] [] (jxSH, a, b0)) (jQ_X10_readEither x1 a0 b0) := fun y1 y2 a hlt i0 i1 i2 i3 i4 i5 i6 => (ih _ hlt).1 y1 y2 a (Nat.le_refl _) i0 i1 i2 i3 i4 i5 i6
  have ih7 : ∀ (y1 y2 : Int) (a : Nat → Nat → Int), (((100 - y2) * 1) + 0).toNat < n → iv a → jfr jW_X10_readEither a0 a → 0 ≤ y1 → y1 ≤ 10 → 0 ≤ y2 → y2 ≤ 100 → y1 = x1 → jt (jxX E d 143 7 [some (.inr (.inr (.inl 11))), some (.inl y1), some (.inl y2)] [] (jxSH, a, b0)) (jQ_X10_readEither x1 a0 b0) := fun y1 y2 a hlt i0 i1 i2 i3 i4 i5 i6 => (ih _ hlt).2 y1 y2 a (Nat.le_refl _) i0 i1 i2 i3 i4 i5 i6
  have hc37 : ∀ (y1 y2 : Int) (a : Nat → Nat → Int), (((100 - y2) * 1) + 0).toNat ≤ n → iv a → jfr jW_X10_readEither a0 a → 0 ≤ y1 → y1 ≤ 10 → 0 ≤ y2 → y2 ≤ 99 → y1 = x1 → jt (jxX E d 143 37 [some (.inr (.inr (.inl 11))), some (.inl y1), some (.inl y2)] [] (jxSH, a, b0)) (jQ_X10_readEither x1 a0 b0) := by
    intro y1 y2 a hm hv hf hi0 hi1 hi2 hi3 hi4
    refine jt_eq (bq_X10_readEither_37 E d y1 y2 a b0) ?_
    have h52_ : jxw (y2 + 1) = y2 + 1 := jxw_id (by omega) (by omega)
    exact ih7 y1 (jxw (y2 + 1)) a (show (((100 - (jxw (y2 + 1))) * 1) + 0).toNat < n from by omega) hv hf (show 0 ≤ y1 from by omega) (show y1 ≤ 10 from by omega) (show 0 ≤ jxw (y2 + 1) from by omega) (show jxw (y2 + 1) ≤ 100 from by omega) (show y1 = x1 from by omega)
  have hc7 : ∀ (y1 y2 : Int) (a : Nat → Nat → Int), (((100 - y2) * 1) + 0).toNat ≤ n → iv a → jfr jW_X10_readEither a0 a → 0 ≤ y1 → y1 ≤ 10 → 0 ≤ y2 → y2 ≤ 100 → y1 = x1 → jt (jxX E d 143 7 [some (.inr (.inr (.inl 11))), some (.inl y1), some (.inl y2)] [] (jxSH, a, b0)) (jQ_X10_readEither x1 a0 b0) := by
    intro y1 y2 a hm hv hf hi0 hi1 hi2 hi3 hi4
    refine jt_eq (bq_X10_readEither_7 E d y1 y2 a b0) ?_
    refine jt_ite (fun c53_ => ?_) (fun c53_ => ?_)
    ·
      refine jt_bI (sp_X8_takesWord_r1009 E d (Nat.ble_eq_true_of_le (by omega)) a b0 hv) (fun r54_ a54_ b54_ h54_ => ?_)
      obtain ⟨hv54_, hf54_, rfl, hq54_0⟩ := h54_
      refine jt_ite (fun c55_ => ?_) (fun c55_ => ?_)
      ·
        have hf56_ : jfr jW_X10_readEither a0 a54_ := jfr_tr hf hf54_ rfl
        exact jt_rV ⟨hv54_, hf56_, rfl⟩
      ·
        refine jt_bV (hBoth d (by omega) y1 a54_ b0 hv54_ (show 0 ≤ y1 from by omega) (show y1 ≤ 10 from by omega) (by omega)) (fun a57_ b57_ h57_ => ?_)
        obtain ⟨hv57_, hf57_, rfl⟩ := h57_
        refine jt_bV (sp_X10_addStep E d (Nat.ble_eq_true_of_le (by omega)) 9 0 a57_ b0 hv57_) (fun a58_ b58_ h58_ => ?_)
        obtain ⟨hv58_, hf58_, rfl⟩ := h58_
        have hf59_ : jfr jW_X10_readEither a0 a54_ := jfr_tr hf hf54_ rfl
        have hf60_ : jfr jW_X10_readEither a0 a57_ := jfr_tr hf59_ hf57_ rfl
        have hf61_ : jfr jW_X10_readEither a0 a58_ := jfr_tr hf60_ hf58_ rfl
        exact hc37 y1 y2 a58_ (show (((100 - y2) * 1) + 0).toNat ≤ n from by omega) hv58_ hf61_ (show 0 ≤ y1 from by omega) (show y1 ≤ 10 from by omega) (show 0 ≤ y2 from by omega) (show y2 ≤ 99 from by omega) (show y1 = x1 from by omega)
    ·
      exact jt_rV ⟨hv, hf, rfl⟩
  exact ⟨hc37, hc7⟩
theorem sr_X10_readEither (E : jxE) (n_ : Nat) (hBoth : Sp_X10_readBoth E n_) : Sp_X10_readEither E n_ := by
  intro d hd x1 a0 b0 hv0 hp0 hp1 hpn
  obtain ⟨d, rfl⟩ : ∃ d2, d = d2 + 1 := ⟨d - 1, by omega⟩
  refine jt_eq (bq_X10_readEither E d x1 a0 b0) ?_
  refine jt_bV (hBoth d (by omega) x1 a0 b0 hv0 (show 0 ≤ x1 from by omega) (show x1 ≤ 10 from by omega) (by omega)) (fun a62_ b62_ h62_ => ?_)
  obtain ⟨hv62_, hf62_, rfl⟩ := h62_
  have hf63_ : jfr jW_X10_readEither a0 a62_ := jfr_tr (jfr_rf _ _) hf62_ rfl
  exact (cp_X10_readEither_7 E n_ hBoth d hd x1 a0 b0 hv0 hp0 hp1 hpn _).2 x1 0 a62_ (Nat.le_refl _) hv62_ hf63_ (show 0 ≤ x1 from by omega) (show x1 ≤ 10 from by omega) (show 0 ≤ 0 from by omega) (show 0 ≤ 100 from by omega) (show x1 = x1 from by omega)
theorem cp_X5_markFrom_55 (E : jxE) (n_ : Nat) (hR : ∀ m, m + 1 = n_ → Sp_X5_markFrom E m) (d : Nat) (hd : n_ + 5 ≤ (d + 1)) (x1 x2 x3 x4 x5 : Int) (a0 b0 : Nat → Nat → Int) (hv0 : iv a0) (hp0 : 0 ≤ x1) (hp1 : x1 ≤ 11) (hp2 : 0 ≤ x2) (hp3 : x2 ≤ 11) (hp4 : 0 ≤ x3) (hp5 : x3 ≤ 4095) (hp6 : 1 ≤ x5) (hp7 : x5 ≤ 5) (hpn : 5 - x5 ≤ (n_ : Int)) : ∀ n : Nat, (∀ (y1 y2 y3 y4 y5 y6 : Int) (a b : Nat → Nat → Int), (((12 - y6) * 1) + 0).toNat ≤ n → iv a → jfr jW_X5_markFrom a0 a → 0 ≤ y1 → y1 ≤ 11 → 0 ≤ y2 → y2 ≤ 11 → 0 ≤ y3 → y3 ≤ 4095 → 1 ≤ y5 → y5 ≤ 4 → 1 ≤ y6 → y6 ≤ 11 → 2 ≤ a 90 3 → y5 = x5 → y1 = x1 → jt (jxX E d 87 111 [some (.inr (.inr (.inl 90))), some (.inl y1), some (.inl y2), some (.inl y3), some (.inl y4), some (.inl y5), some (.inl y6)] [] (jxSH, a, b)) (jQ_X5_markFrom x1 x2 x3 x4 x5 a0 b0)) ∧ (∀ (y1 y2 y3 y4 y5 y6 : Int) (a b : Nat → Nat → Int), (((12 - y6) * 1) + 0).toNat ≤ n → iv a → jfr jW_X5_markFrom a0 a → 0 ≤ y1 → y1 ≤ 11 → 0 ≤ y2 → y2 ≤ 11 → 0 ≤ y3 → y3 ≤ 4095 → 1 ≤ y5 → y5 ≤ 4 → 1 ≤ y6 → y6 ≤ 11 → 2 ≤ a 90 3 → y5 = x5 → y1 = x1 → jt (jxX E d 87 84 [some (.inr (.inr (.inl 90))), some (.inl y1), some (.inl y2), some (.inl y3), some (.inl y4), some (.inl y5), some (.inl y6)] [] (jxSH, a, b)) (jQ_X5_markFrom x1 x2 x3 x4 x5 a0 b0)) ∧ (∀ (y1 y2 y3 y4 y5 y6 : Int) (a b : Nat → Nat → Int), (((12 - y6) * 1) + 0).toNat ≤ n → iv a → jfr jW_X5_markFrom a0 a → 0 ≤ y1 → y1 ≤ 11 → 0 ≤ y2 → y2 ≤ 11 → 0 ≤ y3 → y3 ≤ 4095 → 1 ≤ y5 → y5 ≤ 4 → 1 ≤ y6 → y6 ≤ 12 → y5 = x5 → y1 = x1 → jt (jxX E d 87 55 [some (.inr (.inr (.inl 90))), some (.inl y1), some (.inl y2), some (.inl y3), some (.inl y4), some (.inl y5), some (.inl y6)] [] (jxSH, a, b)) (jQ_X5_markFrom x1 x2 x3 x4 x5 a0 b0)) := by
  refine jx_ind fun n ih => ?_
  have ih111 : ∀ (y1 y2 y3 y4 y5 y6 : Int) (a b : Nat → Nat → Int), (((12 - y6) * 1) + 0).toNat < n → iv a → jfr jW_X5_markFrom a0 a → 0 ≤ y1 → y1 ≤ 11 → 0 ≤ y2 → y2 ≤ 11 → 0 ≤ y3 → y3 ≤ 4095 → 1 ≤ y5 → y5 ≤ 4 → 1 ≤ y6 → y6 ≤ 11 → 2 ≤ a 90 3 → y5 = x5 → y1 = x1 → jt (jxX E d 87 111 [some (.inr (.inr (.inl 90))), some (.inl y1), some (.inl y2), some (.inl y3), some (.inl y4), some (.inl y5), some (.inl y6)] [] (jxSH, a, b)) (jQ_X5_markFrom x1 x2 x3 x4 x5 a0 b0) := fun y1 y2 y3 y4 y5 y6 a b hlt i0 i1 i2 i3 i4 i5 i6 i7 i8 i9 i10 i11 i12 i13 i14 => (ih _ hlt).1 y1 y2 y3 y4 y5 y6 a b (Nat.le_refl _) i0 i1 i2 i3 i4 i5 i6 i7 i8 i9 i10 i11 i12 i13 i14
  have ih84 : ∀ (y1 y2 y3 y4 y5 y6 : Int) (a b : Nat → Nat → Int), (((12 - y6) * 1) + 0).toNat < n → iv a → jfr jW_X5_markFrom a0 a → 0 ≤ y1 → y1 ≤ 11 → 0 ≤ y2 → y2 ≤ 11 → 0 ≤ y3 → y3 ≤ 4095 → 1 ≤ y5 → y5 ≤ 4 → 1 ≤ y6 → y6 ≤ 11 → 2 ≤ a 90 3 → y5 = x5 → y1 = x1 → jt (jxX E d 87 84 [some (.inr (.inr (.inl 90))), some (.inl y1), some (.inl y2), some (.inl y3), some (.inl y4), some (.inl y5), some (.inl y6)] [] (jxSH, a, b)) (jQ_X5_markFrom x1 x2 x3 x4 x5 a0 b0) := fun y1 y2 y3 y4 y5 y6 a b hlt i0 i1 i2 i3 i4 i5 i6 i7 i8 i9 i10 i11 i12 i13 i14 => (ih _ hlt).2.1 y1 y2 y3 y4 y5 y6 a b (Nat.le_refl _) i0 i1 i2 i3 i4 i5 i6 i7 i8 i9 i10 i11 i12 i13 i14
  have ih55 : ∀ (y1 y2 y3 y4 y5 y6 : Int) (a b : Nat → Nat → Int), (((12 - y6) * 1) + 0).toNat < n → iv a → jfr jW_X5_markFrom a0 a → 0 ≤ y1 → y1 ≤ 11 → 0 ≤ y2 → y2 ≤ 11 → 0 ≤ y3 → y3 ≤ 4095 → 1 ≤ y5 → y5 ≤ 4 → 1 ≤ y6 → y6 ≤ 12 → y5 = x5 → y1 = x1 → jt (jxX E d 87 55 [some (.inr (.inr (.inl 90))), some (.inl y1), some (.inl y2), some (.inl y3), some (.inl y4), some (.inl y5), some (.inl y6)] [] (jxSH, a, b)) (jQ_X5_markFrom x1 x2 x3 x4 x5 a0 b0) := fun y1 y2 y3 y4 y5 y6 a b hlt i0 i1 i2 i3 i4 i5 i6 i7 i8 i9 i10 i11 i12 i13 => (ih _ hlt).2.2 y1 y2 y3 y4 y5 y6 a b (Nat.le_refl _) i0 i1 i2 i3 i4 i5 i6 i7 i8 i9 i10 i11 i12 i13
  have hc111 : ∀ (y1 y2 y3 y4 y5 y6 : Int) (a b : Nat → Nat → Int), (((12 - y6) * 1) + 0).toNat ≤ n → iv a → jfr jW_X5_markFrom a0 a → 0 ≤ y1 → y1 ≤ 11 → 0 ≤ y2 → y2 ≤ 11 → 0 ≤ y3 → y3 ≤ 4095 → 1 ≤ y5 → y5 ≤ 4 → 1 ≤ y6 → y6 ≤ 11 → 2 ≤ a 90 3 → y5 = x5 → y1 = x1 → jt (jxX E d 87 111 [some (.inr (.inr (.inl 90))), some (.inl y1), some (.inl y2), some (.inl y3), some (.inl y4), some (.inl y5), some (.inl y6)] [] (jxSH, a, b)) (jQ_X5_markFrom x1 x2 x3 x4 x5 a0 b0) := by
    intro y1 y2 y3 y4 y5 y6 a b hm hv hf hi0 hi1 hi2 hi3 hi4 hi5 hi6 hi7 hi8 hi9 hi10 hi11 hi12
    refine jt_eq (bq_X5_markFrom_111 E d y1 y2 y3 y4 y5 y6 a b) ?_
    have h64_ := iv_get hv (k := 90) (j := 3) (l := 0) (u := 12) rfl
    have h65_ : a 90 3 = a0 90 3 := hf 90 3 rfl
    have h66_ := iv_get hv0 (k := 90) (j := 3) (l := 0) (u := 12) rfl
    have h67_ : jxw (y6 + 1) = y6 + 1 := jxw_id (by omega) (by omega)
    exact ih55 y1 y2 y3 y4 y5 (jxw (y6 + 1)) a b (show (((12 - (jxw (y6 + 1))) * 1) + 0).toNat < n from by omega) hv hf (show 0 ≤ y1 from by omega) (show y1 ≤ 11 from by omega) (show 0 ≤ y2 from by omega) (show y2 ≤ 11 from by omega) (show 0 ≤ y3 from by omega) (show y3 ≤ 4095 from by omega) (show 1 ≤ y5 from by omega) (show y5 ≤ 4 from by omega) (show 1 ≤ jxw (y6 + 1) from by omega) (show jxw (y6 + 1) ≤ 12 from by omega) (show y5 = x5 from by omega) (show y1 = x1 from by omega)
  have hc84 : ∀ (y1 y2 y3 y4 y5 y6 : Int) (a b : Nat → Nat → Int), (((12 - y6) * 1) + 0).toNat ≤ n → iv a → jfr jW_X5_markFrom a0 a → 0 ≤ y1 → y1 ≤ 11 → 0 ≤ y2 → y2 ≤ 11 → 0 ≤ y3 → y3 ≤ 4095 → 1 ≤ y5 → y5 ≤ 4 → 1 ≤ y6 → y6 ≤ 11 → 2 ≤ a 90 3 → y5 = x5 → y1 = x1 → jt (jxX E d 87 84 [some (.inr (.inr (.inl 90))), some (.inl y1), some (.inl y2), some (.inl y3), some (.inl y4), some (.inl y5), some (.inl y6)] [] (jxSH, a, b)) (jQ_X5_markFrom x1 x2 x3 x4 x5 a0 b0) := by
    intro y1 y2 y3 y4 y5 y6 a b hm hv hf hi0 hi1 hi2 hi3 hi4 hi5 hi6 hi7 hi8 hi9 hi10 hi11 hi12
    refine jt_eq (bq_X5_markFrom_84 E d y1 y2 y3 y4 y5 y6 a b) ?_
    have h68_ := iv_get hv (k := 90) (j := 3) (l := 0) (u := 12) rfl
    have h69_ : a 90 3 = a0 90 3 := hf 90 3 rfl
    have h70_ := iv_get hv0 (k := 90) (j := 3) (l := 0) (u := 12) rfl
    refine jt_grd (by omega) ?_
    have h71_ := jxshl1_b y6
    have h72_ := jxor_b y3 (jxshl 1 y6)
    have h73_ : jxw (y5 + 1) = y5 + 1 := jxw_id (by omega) (by omega)
    refine jt_bV ((hR (n_ - 1) (by omega)) d (by omega) y1 y6 (jxor y3 (jxshl 1 y6)) (jxor y4 (a 93 (y6.toNat))) (jxw (y5 + 1)) a b hv (show 0 ≤ y1 from by omega) (show y1 ≤ 11 from by omega) (show 0 ≤ y6 from by omega) (show y6 ≤ 11 from by omega) (show 0 ≤ jxor y3 (jxshl 1 y6) from by omega) (show jxor y3 (jxshl 1 y6) ≤ 4095 from by omega) (show 1 ≤ jxw (y5 + 1) from by omega) (show jxw (y5 + 1) ≤ 5 from by omega) (by omega)) (fun a74_ b74_ h74_ => ?_)
    obtain ⟨hv74_, hf74_⟩ := h74_
    have hf75_ : jfr jW_X5_markFrom a0 a74_ := jfr_tr hf hf74_ rfl
    have h76_ := iv_get hv74_ (k := 90) (j := 3) (l := 0) (u := 12) rfl
    have h77_ : a74_ 90 3 = a 90 3 := hf74_ 90 3 rfl
    exact hc111 y1 y2 y3 y4 y5 y6 a74_ b74_ (show (((12 - y6) * 1) + 0).toNat ≤ n from by omega) hv74_ hf75_ (show 0 ≤ y1 from by omega) (show y1 ≤ 11 from by omega) (show 0 ≤ y2 from by omega) (show y2 ≤ 11 from by omega) (show 0 ≤ y3 from by omega) (show y3 ≤ 4095 from by omega) (show 1 ≤ y5 from by omega) (show y5 ≤ 4 from by omega) (show 1 ≤ y6 from by omega) (show y6 ≤ 11 from by omega) (show 2 ≤ a74_ 90 3 from by omega) (show y5 = x5 from by omega) (show y1 = x1 from by omega)
  have hc55 : ∀ (y1 y2 y3 y4 y5 y6 : Int) (a b : Nat → Nat → Int), (((12 - y6) * 1) + 0).toNat ≤ n → iv a → jfr jW_X5_markFrom a0 a → 0 ≤ y1 → y1 ≤ 11 → 0 ≤ y2 → y2 ≤ 11 → 0 ≤ y3 → y3 ≤ 4095 → 1 ≤ y5 → y5 ≤ 4 → 1 ≤ y6 → y6 ≤ 12 → y5 = x5 → y1 = x1 → jt (jxX E d 87 55 [some (.inr (.inr (.inl 90))), some (.inl y1), some (.inl y2), some (.inl y3), some (.inl y4), some (.inl y5), some (.inl y6)] [] (jxSH, a, b)) (jQ_X5_markFrom x1 x2 x3 x4 x5 a0 b0) := by
    intro y1 y2 y3 y4 y5 y6 a b hm hv hf hi0 hi1 hi2 hi3 hi4 hi5 hi6 hi7 hi8 hi9 hi10 hi11
    refine jt_eq (bq_X5_markFrom_55 E d y1 y2 y3 y4 y5 y6 a b) ?_
    have h78_ := iv_get hv (k := 90) (j := 3) (l := 0) (u := 12) rfl
    have h79_ : a 90 3 = a0 90 3 := hf 90 3 rfl
    have h80_ := iv_get hv0 (k := 90) (j := 3) (l := 0) (u := 12) rfl
    refine jt_ite (fun c81_ => ?_) (fun c81_ => ?_)
    ·
      refine jt_eI (eq_X5_mayFollow E d (Nat.ble_eq_true_of_le (by omega)) y2 y6 a b (show (0 ≤ y2 ∧ y2 < 12) from by omega)) ?_
      have h82_ := f_X5_mayFollow_eq a b y2 y6
      have h83_ : a 92 (y2.toNat) = a0 92 (y2.toNat) := hf 92 (y2.toNat) rfl
      have h84_ := jxshr_b (a 92 (y2.toNat)) y6
      have h85_ := jxand_r (jxshr (a 92 (y2.toNat)) y6) 1 (by decide) (by decide)
      refine jt_ite (fun c86_ => ?_) (fun c86_ => ?_)
      ·
        exact hc111 y1 y2 y3 y4 y5 y6 a b (show (((12 - y6) * 1) + 0).toNat ≤ n from by omega) hv hf (show 0 ≤ y1 from by omega) (show y1 ≤ 11 from by omega) (show 0 ≤ y2 from by omega) (show y2 ≤ 11 from by omega) (show 0 ≤ y3 from by omega) (show y3 ≤ 4095 from by omega) (show 1 ≤ y5 from by omega) (show y5 ≤ 4 from by omega) (show 1 ≤ y6 from by omega) (show y6 ≤ 11 from by omega) (show 2 ≤ a 90 3 from by omega) (show y5 = x5 from by omega) (show y1 = x1 from by omega)
      ·
        have h87_ := jxshr_b y4 y6
        have h88_ := jxand_r (jxshr y4 y6) 1 (by decide) (by decide)
        refine jt_ite (fun c89_ => ?_) (fun c89_ => ?_)
        ·
          exact hc84 y1 y2 y3 y4 y5 y6 a b (show (((12 - y6) * 1) + 0).toNat ≤ n from by omega) hv hf (show 0 ≤ y1 from by omega) (show y1 ≤ 11 from by omega) (show 0 ≤ y2 from by omega) (show y2 ≤ 11 from by omega) (show 0 ≤ y3 from by omega) (show y3 ≤ 4095 from by omega) (show 1 ≤ y5 from by omega) (show y5 ≤ 4 from by omega) (show 1 ≤ y6 from by omega) (show y6 ≤ 11 from by omega) (show 2 ≤ a 90 3 from by omega) (show y5 = x5 from by omega) (show y1 = x1 from by omega)
        ·
          exact hc111 y1 y2 y3 y4 y5 y6 a b (show (((12 - y6) * 1) + 0).toNat ≤ n from by omega) hv hf (show 0 ≤ y1 from by omega) (show y1 ≤ 11 from by omega) (show 0 ≤ y2 from by omega) (show y2 ≤ 11 from by omega) (show 0 ≤ y3 from by omega) (show y3 ≤ 4095 from by omega) (show 1 ≤ y5 from by omega) (show y5 ≤ 4 from by omega) (show 1 ≤ y6 from by omega) (show y6 ≤ 11 from by omega) (show 2 ≤ a 90 3 from by omega) (show y5 = x5 from by omega) (show y1 = x1 from by omega)
    ·
      exact jt_rV ⟨hv, hf⟩
  exact ⟨hc111, hc84, hc55⟩
theorem cp_X5_markFrom_43 (E : jxE) (n_ : Nat) (hR : ∀ m, m + 1 = n_ → Sp_X5_markFrom E m) (d : Nat) (hd : n_ + 5 ≤ (d + 1)) (x1 x2 x3 x4 x5 : Int) (a0 b0 : Nat → Nat → Int) (hv0 : iv a0) (hp0 : 0 ≤ x1) (hp1 : x1 ≤ 11) (hp2 : 0 ≤ x2) (hp3 : x2 ≤ 11) (hp4 : 0 ≤ x3) (hp5 : x3 ≤ 4095) (hp6 : 1 ≤ x5) (hp7 : x5 ≤ 5) (hpn : 5 - x5 ≤ (n_ : Int)) : ∀ (y1 y2 y3 y4 y5 : Int) (a b : Nat → Nat → Int), iv a → jfr jW_X5_markFrom a0 a → 0 ≤ y1 → y1 ≤ 11 → 0 ≤ y2 → y2 ≤ 11 → 0 ≤ y3 → y3 ≤ 4095 → 1 ≤ y5 → y5 ≤ 5 → y5 = x5 → y1 = x1 → jt (jxX E d 87 43 [some (.inr (.inr (.inl 90))), some (.inl y1), some (.inl y2), some (.inl y3), some (.inl y4), some (.inl y5), none] [] (jxSH, a, b)) (jQ_X5_markFrom x1 x2 x3 x4 x5 a0 b0) := by
  intro y1 y2 y3 y4 y5 a b hv hf hi0 hi1 hi2 hi3 hi4 hi5 hi6 hi7 hi8 hi9
  refine jt_eq (bq_X5_markFrom_43 E d y1 y2 y3 y4 y5 a b) ?_
  refine jt_ite (fun c90_ => ?_) (fun c90_ => ?_)
  ·
    have h91_ : jxw (y1 + 1) = y1 + 1 := jxw_id (by omega) (by omega)
    exact (cp_X5_markFrom_55 E n_ hR d hd x1 x2 x3 x4 x5 a0 b0 hv0 hp0 hp1 hp2 hp3 hp4 hp5 hp6 hp7 hpn _).2.2 y1 y2 y3 y4 y5 (jxw (y1 + 1)) a b (Nat.le_refl _) hv hf (show 0 ≤ y1 from by omega) (show y1 ≤ 11 from by omega) (show 0 ≤ y2 from by omega) (show y2 ≤ 11 from by omega) (show 0 ≤ y3 from by omega) (show y3 ≤ 4095 from by omega) (show 1 ≤ y5 from by omega) (show y5 ≤ 4 from by omega) (show 1 ≤ jxw (y1 + 1) from by omega) (show jxw (y1 + 1) ≤ 12 from by omega) (show y5 = x5 from by omega) (show y1 = x1 from by omega)
  ·
    exact jt_rV ⟨hv, hf⟩
theorem cp_X5_markFrom_33 (E : jxE) (n_ : Nat) (hR : ∀ m, m + 1 = n_ → Sp_X5_markFrom E m) (d : Nat) (hd : n_ + 5 ≤ (d + 1)) (x1 x2 x3 x4 x5 : Int) (a0 b0 : Nat → Nat → Int) (hv0 : iv a0) (hp0 : 0 ≤ x1) (hp1 : x1 ≤ 11) (hp2 : 0 ≤ x2) (hp3 : x2 ≤ 11) (hp4 : 0 ≤ x3) (hp5 : x3 ≤ 4095) (hp6 : 1 ≤ x5) (hp7 : x5 ≤ 5) (hpn : 5 - x5 ≤ (n_ : Int)) : ∀ (y1 y2 y3 y4 y5 : Int) (a b : Nat → Nat → Int), iv a → jfr jW_X5_markFrom a0 a → 0 ≤ y1 → y1 ≤ 11 → 0 ≤ y2 → y2 ≤ 11 → 0 ≤ y3 → y3 ≤ 4095 → 2 ≤ y5 → y5 ≤ 5 → y5 = x5 → y1 = x1 → jt (jxX E d 87 33 [some (.inr (.inr (.inl 90))), some (.inl y1), some (.inl y2), some (.inl y3), some (.inl y4), some (.inl y5), none] [] (jxSH, a, b)) (jQ_X5_markFrom x1 x2 x3 x4 x5 a0 b0) := by
  intro y1 y2 y3 y4 y5 a b hv hf hi0 hi1 hi2 hi3 hi4 hi5 hi6 hi7 hi8 hi9
  refine jt_eq (bq_X5_markFrom_33 E d y1 y2 y3 y4 y5 a b) ?_
  have h93_ := iv_get hv (k := 90) (j := 8) (l := 0) (u := 4095) rfl
  have h94_ := jxor_b (a 90 8) y3
  have hv92_ : iv (jxu a 90 8 (jxor (a 90 8) y3)) := iv_put hv (l := 0) (u := 4095) rfl (by omega) (by omega)
  have hf95_ : jfr jW_X5_markFrom a0 (jxu a 90 8 (jxor (a 90 8) y3)) := jfr_put hf rfl
  exact cp_X5_markFrom_43 E n_ hR d hd x1 x2 x3 x4 x5 a0 b0 hv0 hp0 hp1 hp2 hp3 hp4 hp5 hp6 hp7 hpn y1 y2 y3 y4 y5 (jxu a 90 8 (jxor (a 90 8) y3)) b hv92_ hf95_ (show 0 ≤ y1 from by omega) (show y1 ≤ 11 from by omega) (show 0 ≤ y2 from by omega) (show y2 ≤ 11 from by omega) (show 0 ≤ y3 from by omega) (show y3 ≤ 4095 from by omega) (show 1 ≤ y5 from by omega) (show y5 ≤ 5 from by omega) (show y5 = x5 from by omega) (show y1 = x1 from by omega)
theorem sr_X5_markFrom (E : jxE) (n_ : Nat) (hR : ∀ m, m + 1 = n_ → Sp_X5_markFrom E m) : Sp_X5_markFrom E n_ := by
  intro d hd x1 x2 x3 x4 x5 a0 b0 hv0 hp0 hp1 hp2 hp3 hp4 hp5 hp6 hp7 hpn
  obtain ⟨d, rfl⟩ : ∃ d2, d = d2 + 1 := ⟨d - 1, by omega⟩
  refine jt_eq (bq_X5_markFrom E d x1 x2 x3 x4 x5 a0 b0) ?_
  refine jt_ite (fun c96_ => ?_) (fun c96_ => ?_)
  ·
    exact cp_X5_markFrom_43 E n_ hR d hd x1 x2 x3 x4 x5 a0 b0 hv0 hp0 hp1 hp2 hp3 hp4 hp5 hp6 hp7 hpn x1 x2 x3 x4 x5 a0 b0 hv0 (jfr_rf _ _) (show 0 ≤ x1 from by omega) (show x1 ≤ 11 from by omega) (show 0 ≤ x2 from by omega) (show x2 ≤ 11 from by omega) (show 0 ≤ x3 from by omega) (show x3 ≤ 4095 from by omega) (show 1 ≤ x5 from by omega) (show x5 ≤ 5 from by omega) (show x5 = x5 from by omega) (show x1 = x1 from by omega)
  ·
    refine jt_eI (eq_X5_mayFollow E d (Nat.ble_eq_true_of_le (by omega)) x2 x1 a0 b0 (show (0 ≤ x2 ∧ x2 < 12) from by omega)) ?_
    have h97_ := f_X5_mayFollow_eq a0 b0 x2 x1
    have h98_ := jxshr_b (a0 92 (x2.toNat)) x1
    have h99_ := jxand_r (jxshr (a0 92 (x2.toNat)) x1) 1 (by decide) (by decide)
    refine jt_ite (fun c100_ => ?_) (fun c100_ => ?_)
    ·
      exact cp_X5_markFrom_43 E n_ hR d hd x1 x2 x3 x4 x5 a0 b0 hv0 hp0 hp1 hp2 hp3 hp4 hp5 hp6 hp7 hpn x1 x2 x3 x4 x5 a0 b0 hv0 (jfr_rf _ _) (show 0 ≤ x1 from by omega) (show x1 ≤ 11 from by omega) (show 0 ≤ x2 from by omega) (show x2 ≤ 11 from by omega) (show 0 ≤ x3 from by omega) (show x3 ≤ 4095 from by omega) (show 1 ≤ x5 from by omega) (show x5 ≤ 5 from by omega) (show x5 = x5 from by omega) (show x1 = x1 from by omega)
    ·
      refine jt_eI (eq_X5_wordOf E d (Nat.ble_eq_true_of_le (by omega)) x3 a0 b0) ?_
      have h101_ := f_X5_wordOf_eq a0 b0 x3
      have h102_ := jxand_r x3 4095 (by decide) (by decide)
      have h103_ := jx_td (jxand x3 4095) 64
      have h104_ := jx_tdr (jxand x3 4095) 64 (by decide)
      have h105_ : jxw (Int.tdiv (jxand x3 4095) 64) = Int.tdiv (jxand x3 4095) 64 := jxw_id (by omega) (by omega)
      refine jt_grd (by omega) ?_
      refine jt_grd (by omega) ?_
      exact cp_X5_markFrom_33 E n_ hR d hd x1 x2 x3 x4 x5 a0 b0 hv0 hp0 hp1 hp2 hp3 hp4 hp5 hp6 hp7 hpn x1 x2 x3 x4 x5 a0 (jxu b0 94 ((f_X5_wordOf a0 b0 x3).toNat) (jxorl (b0 94 ((f_X5_wordOf a0 b0 x3).toNat)) (jxshll 1 (jxw (Int.tmod x3 64))))) hv0 (jfr_rf _ _) (show 0 ≤ x1 from by omega) (show x1 ≤ 11 from by omega) (show 0 ≤ x2 from by omega) (show x2 ≤ 11 from by omega) (show 0 ≤ x3 from by omega) (show x3 ≤ 4095 from by omega) (show 2 ≤ x5 from by omega) (show x5 ≤ 5 from by omega) (show x5 = x5 from by omega) (show x1 = x1 from by omega)
theorem cp_X5_firstRing_57 (E : jxE) (n_ : Nat) (hR : ∀ m, m + 1 = n_ → Sp_X5_firstRing E m) (d : Nat) (hd : n_ + 5 ≤ (d + 1)) (x1 x2 x3 x4 x5 : Int) (a0 b0 : Nat → Nat → Int) (hv0 : iv a0) (hp0 : 0 ≤ x1) (hp1 : x1 ≤ 11) (hp2 : 0 ≤ x2) (hp3 : x2 ≤ 4095) (hp4 : 1 ≤ x4) (hp5 : x4 ≤ 5) (hp6 : 0 ≤ x5) (hp7 : x5 ≤ 4095) (hpn : 5 - x4 ≤ (n_ : Int)) : ∀ (y4 : Int) (a : Nat → Nat → Int), iv a → jfr jW_X5_firstRing a0 a → 1 ≤ y4 → y4 ≤ 5 → y4 = x4 → jt (jxX E d 95 57 [none, none, none, none, some (.inl y4), none, none, none, none] [] (jxSH, a, b0)) (jQ_X5_firstRing x1 x2 x3 x4 x5 a0 b0) := by
  intro y4 a hv hf hi0 hi1 hi2
  refine jt_eq (bq_X5_firstRing_57 E d y4 a b0) ?_
  exact jt_rI ⟨hv, hf, rfl, (show 0 ≤ y4 from by omega), (show y4 ≤ 5 from by omega)⟩
theorem cp_X5_firstRing_78 (E : jxE) (n_ : Nat) (hR : ∀ m, m + 1 = n_ → Sp_X5_firstRing E m) (d : Nat) (hd : n_ + 5 ≤ (d + 1)) (x1 x2 x3 x4 x5 : Int) (a0 b0 : Nat → Nat → Int) (hv0 : iv a0) (hp0 : 0 ≤ x1) (hp1 : x1 ≤ 11) (hp2 : 0 ≤ x2) (hp3 : x2 ≤ 4095) (hp4 : 1 ≤ x4) (hp5 : x4 ≤ 5) (hp6 : 0 ≤ x5) (hp7 : x5 ≤ 4095) (hpn : 5 - x4 ≤ (n_ : Int)) : ∀ n : Nat, (∀ (y1 y2 y3 y4 y5 y7 : Int) (a : Nat → Nat → Int), (((12 - y7) * 1) + 0).toNat ≤ n → iv a → jfr jW_X5_firstRing a0 a → 0 ≤ y1 → y1 ≤ 11 → 0 ≤ y2 → y2 ≤ 4095 → 1 ≤ y4 → y4 ≤ 4 → 0 ≤ y5 → y5 ≤ 4095 → 1 ≤ y7 → y7 ≤ 11 → 2 ≤ a 90 3 → y4 = x4 → jt (jxX E d 95 158 [some (.inr (.inr (.inl 90))), some (.inl y1), some (.inl y2), some (.inl y3), some (.inl y4), some (.inl y5), none, some (.inl y7), none] [] (jxSH, a, b0)) (jQ_X5_firstRing x1 x2 x3 x4 x5 a0 b0)) ∧ (∀ (y1 y2 y3 y4 y5 y7 y8 : Int) (a : Nat → Nat → Int), (((12 - y7) * 1) + 0).toNat ≤ n → iv a → jfr jW_X5_firstRing a0 a → 0 ≤ y1 → y1 ≤ 11 → 0 ≤ y2 → y2 ≤ 4095 → 1 ≤ y4 → y4 ≤ 4 → 0 ≤ y5 → y5 ≤ 4095 → 1 ≤ y7 → y7 ≤ 11 → 0 ≤ y8 → y8 ≤ 5 → 2 ≤ a 90 3 → y4 = x4 → jt (jxX E d 95 150 [some (.inr (.inr (.inl 90))), some (.inl y1), some (.inl y2), some (.inl y3), some (.inl y4), some (.inl y5), none, some (.inl y7), some (.inl y8)] [] (jxSH, a, b0)) (jQ_X5_firstRing x1 x2 x3 x4 x5 a0 b0)) ∧ (∀ (y1 y2 y3 y4 y5 y7 : Int) (a : Nat → Nat → Int), (((12 - y7) * 1) + 0).toNat ≤ n → iv a → jfr jW_X5_firstRing a0 a → 0 ≤ y1 → y1 ≤ 11 → 0 ≤ y2 → y2 ≤ 4095 → 1 ≤ y4 → y4 ≤ 4 → 0 ≤ y5 → y5 ≤ 4095 → 1 ≤ y7 → y7 ≤ 11 → 2 ≤ a 90 3 → y4 = x4 → jt (jxX E d 95 102 [some (.inr (.inr (.inl 90))), some (.inl y1), some (.inl y2), some (.inl y3), some (.inl y4), some (.inl y5), none, some (.inl y7), none] [] (jxSH, a, b0)) (jQ_X5_firstRing x1 x2 x3 x4 x5 a0 b0)) ∧ (∀ (y1 y2 y3 y4 y5 y7 : Int) (a : Nat → Nat → Int), (((12 - y7) * 1) + 0).toNat ≤ n → iv a → jfr jW_X5_firstRing a0 a → 0 ≤ y1 → y1 ≤ 11 → 0 ≤ y2 → y2 ≤ 4095 → 1 ≤ y4 → y4 ≤ 4 → 0 ≤ y5 → y5 ≤ 4095 → 1 ≤ y7 → y7 ≤ 12 → y4 = x4 → jt (jxX E d 95 78 [some (.inr (.inr (.inl 90))), some (.inl y1), some (.inl y2), some (.inl y3), some (.inl y4), some (.inl y5), none, some (.inl y7), none] [] (jxSH, a, b0)) (jQ_X5_firstRing x1 x2 x3 x4 x5 a0 b0)) := by
  refine jx_ind fun n ih => ?_
  have ih158 : ∀ (y1 y2 y3 y4 y5 y7 : Int) (a : Nat → Nat → Int), (((12 - y7) * 1) + 0).toNat < n → iv a → jfr jW_X5_firstRing a0 a → 0 ≤ y1 → y1 ≤ 11 → 0 ≤ y2 → y2 ≤ 4095 → 1 ≤ y4 → y4 ≤ 4 → 0 ≤ y5 → y5 ≤ 4095 → 1 ≤ y7 → y7 ≤ 11 → 2 ≤ a 90 3 → y4 = x4 → jt (jxX E d 95 158 [some (.inr (.inr (.inl 90))), some (.inl y1), some (.inl y2), some (.inl y3), some (.inl y4), some (.inl y5), none, some (.inl y7), none] [] (jxSH, a, b0)) (jQ_X5_firstRing x1 x2 x3 x4 x5 a0 b0) := fun y1 y2 y3 y4 y5 y7 a hlt i0 i1 i2 i3 i4 i5 i6 i7 i8 i9 i10 i11 i12 i13 => (ih _ hlt).1 y1 y2 y3 y4 y5 y7 a (Nat.le_refl _) i0 i1 i2 i3 i4 i5 i6 i7 i8 i9 i10 i11 i12 i13
  have ih150 : ∀ (y1 y2 y3 y4 y5 y7 y8 : Int) (a : Nat → Nat → Int), (((12 - y7) * 1) + 0).toNat < n → iv a → jfr jW_X5_firstRing a0 a → 0 ≤ y1 → y1 ≤ 11 → 0 ≤ y2 → y2 ≤ 4095 → 1 ≤ y4 → y4 ≤ 4 → 0 ≤ y5 → y5 ≤ 4095 → 1 ≤ y7 → y7 ≤ 11 → 0 ≤ y8 → y8 ≤ 5 → 2 ≤ a 90 3 → y4 = x4 → jt (jxX E d 95 150 [some (.inr (.inr (.inl 90))), some (.inl y1), some (.inl y2), some (.inl y3), some (.inl y4), some (.inl y5), none, some (.inl y7), some (.inl y8)] [] (jxSH, a, b0)) (jQ_X5_firstRing x1 x2 x3 x4 x5 a0 b0) := fun y1 y2 y3 y4 y5 y7 y8 a hlt i0 i1 i2 i3 i4 i5 i6 i7 i8 i9 i10 i11 i12 i13 i14 i15 => (ih _ hlt).2.1 y1 y2 y3 y4 y5 y7 y8 a (Nat.le_refl _) i0 i1 i2 i3 i4 i5 i6 i7 i8 i9 i10 i11 i12 i13 i14 i15
  have ih102 : ∀ (y1 y2 y3 y4 y5 y7 : Int) (a : Nat → Nat → Int), (((12 - y7) * 1) + 0).toNat < n → iv a → jfr jW_X5_firstRing a0 a → 0 ≤ y1 → y1 ≤ 11 → 0 ≤ y2 → y2 ≤ 4095 → 1 ≤ y4 → y4 ≤ 4 → 0 ≤ y5 → y5 ≤ 4095 → 1 ≤ y7 → y7 ≤ 11 → 2 ≤ a 90 3 → y4 = x4 → jt (jxX E d 95 102 [some (.inr (.inr (.inl 90))), some (.inl y1), some (.inl y2), some (.inl y3), some (.inl y4), some (.inl y5), none, some (.inl y7), none] [] (jxSH, a, b0)) (jQ_X5_firstRing x1 x2 x3 x4 x5 a0 b0) := fun y1 y2 y3 y4 y5 y7 a hlt i0 i1 i2 i3 i4 i5 i6 i7 i8 i9 i10 i11 i12 i13 => (ih _ hlt).2.2.1 y1 y2 y3 y4 y5 y7 a (Nat.le_refl _) i0 i1 i2 i3 i4 i5 i6 i7 i8 i9 i10 i11 i12 i13
  have ih78 : ∀ (y1 y2 y3 y4 y5 y7 : Int) (a : Nat → Nat → Int), (((12 - y7) * 1) + 0).toNat < n → iv a → jfr jW_X5_firstRing a0 a → 0 ≤ y1 → y1 ≤ 11 → 0 ≤ y2 → y2 ≤ 4095 → 1 ≤ y4 → y4 ≤ 4 → 0 ≤ y5 → y5 ≤ 4095 → 1 ≤ y7 → y7 ≤ 12 → y4 = x4 → jt (jxX E d 95 78 [some (.inr (.inr (.inl 90))), some (.inl y1), some (.inl y2), some (.inl y3), some (.inl y4), some (.inl y5), none, some (.inl y7), none] [] (jxSH, a, b0)) (jQ_X5_firstRing x1 x2 x3 x4 x5 a0 b0) := fun y1 y2 y3 y4 y5 y7 a hlt i0 i1 i2 i3 i4 i5 i6 i7 i8 i9 i10 i11 i12 => (ih _ hlt).2.2.2 y1 y2 y3 y4 y5 y7 a (Nat.le_refl _) i0 i1 i2 i3 i4 i5 i6 i7 i8 i9 i10 i11 i12
  have hc158 : ∀ (y1 y2 y3 y4 y5 y7 : Int) (a : Nat → Nat → Int), (((12 - y7) * 1) + 0).toNat ≤ n → iv a → jfr jW_X5_firstRing a0 a → 0 ≤ y1 → y1 ≤ 11 → 0 ≤ y2 → y2 ≤ 4095 → 1 ≤ y4 → y4 ≤ 4 → 0 ≤ y5 → y5 ≤ 4095 → 1 ≤ y7 → y7 ≤ 11 → 2 ≤ a 90 3 → y4 = x4 → jt (jxX E d 95 158 [some (.inr (.inr (.inl 90))), some (.inl y1), some (.inl y2), some (.inl y3), some (.inl y4), some (.inl y5), none, some (.inl y7), none] [] (jxSH, a, b0)) (jQ_X5_firstRing x1 x2 x3 x4 x5 a0 b0) := by
    intro y1 y2 y3 y4 y5 y7 a hm hv hf hi0 hi1 hi2 hi3 hi4 hi5 hi6 hi7 hi8 hi9 hi10 hi11
    refine jt_eq (bq_X5_firstRing_158 E d y1 y2 y3 y4 y5 y7 a b0) ?_
    have h106_ := iv_get hv (k := 90) (j := 3) (l := 0) (u := 12) rfl
    have h107_ : a 90 3 = a0 90 3 := hf 90 3 rfl
    have h108_ := iv_get hv0 (k := 90) (j := 3) (l := 0) (u := 12) rfl
    have h109_ : jxw (y7 + 1) = y7 + 1 := jxw_id (by omega) (by omega)
    exact ih78 y1 y2 y3 y4 y5 (jxw (y7 + 1)) a (show (((12 - (jxw (y7 + 1))) * 1) + 0).toNat < n from by omega) hv hf (show 0 ≤ y1 from by omega) (show y1 ≤ 11 from by omega) (show 0 ≤ y2 from by omega) (show y2 ≤ 4095 from by omega) (show 1 ≤ y4 from by omega) (show y4 ≤ 4 from by omega) (show 0 ≤ y5 from by omega) (show y5 ≤ 4095 from by omega) (show 1 ≤ jxw (y7 + 1) from by omega) (show jxw (y7 + 1) ≤ 12 from by omega) (show y4 = x4 from by omega)
  have hc150 : ∀ (y1 y2 y3 y4 y5 y7 y8 : Int) (a : Nat → Nat → Int), (((12 - y7) * 1) + 0).toNat ≤ n → iv a → jfr jW_X5_firstRing a0 a → 0 ≤ y1 → y1 ≤ 11 → 0 ≤ y2 → y2 ≤ 4095 → 1 ≤ y4 → y4 ≤ 4 → 0 ≤ y5 → y5 ≤ 4095 → 1 ≤ y7 → y7 ≤ 11 → 0 ≤ y8 → y8 ≤ 5 → 2 ≤ a 90 3 → y4 = x4 → jt (jxX E d 95 150 [some (.inr (.inr (.inl 90))), some (.inl y1), some (.inl y2), some (.inl y3), some (.inl y4), some (.inl y5), none, some (.inl y7), some (.inl y8)] [] (jxSH, a, b0)) (jQ_X5_firstRing x1 x2 x3 x4 x5 a0 b0) := by
    intro y1 y2 y3 y4 y5 y7 y8 a hm hv hf hi0 hi1 hi2 hi3 hi4 hi5 hi6 hi7 hi8 hi9 hi10 hi11 hi12 hi13
    refine jt_eq (bq_X5_firstRing_150 E d y1 y2 y3 y4 y5 y7 y8 a b0) ?_
    have h110_ := iv_get hv (k := 90) (j := 3) (l := 0) (u := 12) rfl
    have h111_ : a 90 3 = a0 90 3 := hf 90 3 rfl
    have h112_ := iv_get hv0 (k := 90) (j := 3) (l := 0) (u := 12) rfl
    refine jt_ite (fun c113_ => ?_) (fun c113_ => ?_)
    ·
      exact hc158 y1 y2 y3 y4 y5 y7 a (show (((12 - y7) * 1) + 0).toNat ≤ n from by omega) hv hf (show 0 ≤ y1 from by omega) (show y1 ≤ 11 from by omega) (show 0 ≤ y2 from by omega) (show y2 ≤ 4095 from by omega) (show 1 ≤ y4 from by omega) (show y4 ≤ 4 from by omega) (show 0 ≤ y5 from by omega) (show y5 ≤ 4095 from by omega) (show 1 ≤ y7 from by omega) (show y7 ≤ 11 from by omega) (show 2 ≤ a 90 3 from by omega) (show y4 = x4 from by omega)
    ·
      exact jt_rI ⟨hv, hf, rfl, (show 0 ≤ y8 from by omega), (show y8 ≤ 5 from by omega)⟩
  have hc102 : ∀ (y1 y2 y3 y4 y5 y7 : Int) (a : Nat → Nat → Int), (((12 - y7) * 1) + 0).toNat ≤ n → iv a → jfr jW_X5_firstRing a0 a → 0 ≤ y1 → y1 ≤ 11 → 0 ≤ y2 → y2 ≤ 4095 → 1 ≤ y4 → y4 ≤ 4 → 0 ≤ y5 → y5 ≤ 4095 → 1 ≤ y7 → y7 ≤ 11 → 2 ≤ a 90 3 → y4 = x4 → jt (jxX E d 95 102 [some (.inr (.inr (.inl 90))), some (.inl y1), some (.inl y2), some (.inl y3), some (.inl y4), some (.inl y5), none, some (.inl y7), none] [] (jxSH, a, b0)) (jQ_X5_firstRing x1 x2 x3 x4 x5 a0 b0) := by
    intro y1 y2 y3 y4 y5 y7 a hm hv hf hi0 hi1 hi2 hi3 hi4 hi5 hi6 hi7 hi8 hi9 hi10 hi11
    refine jt_eq (bq_X5_firstRing_102 E d y1 y2 y3 y4 y5 y7 a b0) ?_
    have h114_ := iv_get hv (k := 90) (j := 3) (l := 0) (u := 12) rfl
    have h115_ : a 90 3 = a0 90 3 := hf 90 3 rfl
    have h116_ := iv_get hv0 (k := 90) (j := 3) (l := 0) (u := 12) rfl
    refine jt_eI (eq_X5_mayFollow E d (Nat.ble_eq_true_of_le (by omega)) y1 y7 a b0 (show (0 ≤ y1 ∧ y1 < 12) from by omega)) ?_
    have h117_ := f_X5_mayFollow_eq a b0 y1 y7
    have h118_ : a 92 (y1.toNat) = a0 92 (y1.toNat) := hf 92 (y1.toNat) rfl
    have h119_ := jxshr_b (a 92 (y1.toNat)) y7
    have h120_ := jxand_r (jxshr (a 92 (y1.toNat)) y7) 1 (by decide) (by decide)
    refine jt_ite (fun c121_ => ?_) (fun c121_ => ?_)
    ·
      exact hc158 y1 y2 y3 y4 y5 y7 a (show (((12 - y7) * 1) + 0).toNat ≤ n from by omega) hv hf (show 0 ≤ y1 from by omega) (show y1 ≤ 11 from by omega) (show 0 ≤ y2 from by omega) (show y2 ≤ 4095 from by omega) (show 1 ≤ y4 from by omega) (show y4 ≤ 4 from by omega) (show 0 ≤ y5 from by omega) (show y5 ≤ 4095 from by omega) (show 1 ≤ y7 from by omega) (show y7 ≤ 11 from by omega) (show 2 ≤ a 90 3 from by omega) (show y4 = x4 from by omega)
    ·
      refine jt_grd (by omega) ?_
      refine jt_grd (by omega) ?_
      have hv122_ : iv (jxu a 96 (y4.toNat) y7) := iv_put hv (l := 0) (u := 11) rfl (by omega) (by omega)
      have h123_ := jxshl1_b y7
      have h124_ := jxor_b y2 (jxshl 1 y7)
      have h125_ : jxw (y4 + 1) = y4 + 1 := jxw_id (by omega) (by omega)
      refine jt_bI ((hR (n_ - 1) (by omega)) d (by omega) y7 (jxor y2 (jxshl 1 y7)) (jxor y3 (a 93 (y7.toNat))) (jxw (y4 + 1)) y5 (jxu a 96 (y4.toNat) y7) b0 hv122_ (show 0 ≤ y7 from by omega) (show y7 ≤ 11 from by omega) (show 0 ≤ jxor y2 (jxshl 1 y7) from by omega) (show jxor y2 (jxshl 1 y7) ≤ 4095 from by omega) (show 1 ≤ jxw (y4 + 1) from by omega) (show jxw (y4 + 1) ≤ 5 from by omega) (show 0 ≤ y5 from by omega) (show y5 ≤ 4095 from by omega) (by omega)) (fun r126_ a126_ b126_ h126_ => ?_)
      obtain ⟨hv126_, hf126_, rfl, hq126_0, hq126_1⟩ := h126_
      have h127_ : 0 ≤ r126_ := hq126_0
      have h128_ : r126_ ≤ 5 := hq126_1
      have hf129_ : jfr jW_X5_firstRing a0 (jxu a 96 (y4.toNat) y7) := jfr_put hf rfl
      have hf130_ : jfr jW_X5_firstRing a0 a126_ := jfr_tr hf129_ hf126_ rfl
      have h131_ := iv_get hv126_ (k := 90) (j := 3) (l := 0) (u := 12) rfl
      have h132_ : a126_ 90 3 = a 90 3 := hf126_ 90 3 rfl
      exact hc150 y1 y2 y3 y4 y5 y7 r126_ a126_ (show (((12 - y7) * 1) + 0).toNat ≤ n from by omega) hv126_ hf130_ (show 0 ≤ y1 from by omega) (show y1 ≤ 11 from by omega) (show 0 ≤ y2 from by omega) (show y2 ≤ 4095 from by omega) (show 1 ≤ y4 from by omega) (show y4 ≤ 4 from by omega) (show 0 ≤ y5 from by omega) (show y5 ≤ 4095 from by omega) (show 1 ≤ y7 from by omega) (show y7 ≤ 11 from by omega) (show 0 ≤ r126_ from by omega) (show r126_ ≤ 5 from by omega) (show 2 ≤ a126_ 90 3 from by omega) (show y4 = x4 from by omega)
  have hc78 : ∀ (y1 y2 y3 y4 y5 y7 : Int) (a : Nat → Nat → Int), (((12 - y7) * 1) + 0).toNat ≤ n → iv a → jfr jW_X5_firstRing a0 a → 0 ≤ y1 → y1 ≤ 11 → 0 ≤ y2 → y2 ≤ 4095 → 1 ≤ y4 → y4 ≤ 4 → 0 ≤ y5 → y5 ≤ 4095 → 1 ≤ y7 → y7 ≤ 12 → y4 = x4 → jt (jxX E d 95 78 [some (.inr (.inr (.inl 90))), some (.inl y1), some (.inl y2), some (.inl y3), some (.inl y4), some (.inl y5), none, some (.inl y7), none] [] (jxSH, a, b0)) (jQ_X5_firstRing x1 x2 x3 x4 x5 a0 b0) := by
    intro y1 y2 y3 y4 y5 y7 a hm hv hf hi0 hi1 hi2 hi3 hi4 hi5 hi6 hi7 hi8 hi9 hi10
    refine jt_eq (bq_X5_firstRing_78 E d y1 y2 y3 y4 y5 y7 a b0) ?_
    have h133_ := iv_get hv (k := 90) (j := 3) (l := 0) (u := 12) rfl
    have h134_ : a 90 3 = a0 90 3 := hf 90 3 rfl
    have h135_ := iv_get hv0 (k := 90) (j := 3) (l := 0) (u := 12) rfl
    refine jt_ite (fun c136_ => ?_) (fun c136_ => ?_)
    ·
      have h137_ := jxxor_b y3 (-1)
      have h138_ := jxand_b y5 (jxxor y3 (-1))
      have h139_ := jxshr_b (jxand y5 (jxxor y3 (-1))) y7
      have h140_ := jxand_r (jxshr (jxand y5 (jxxor y3 (-1))) y7) 1 (by decide) (by decide)
      refine jt_ite (fun c141_ => ?_) (fun c141_ => ?_)
      ·
        exact hc102 y1 y2 y3 y4 y5 y7 a (show (((12 - y7) * 1) + 0).toNat ≤ n from by omega) hv hf (show 0 ≤ y1 from by omega) (show y1 ≤ 11 from by omega) (show 0 ≤ y2 from by omega) (show y2 ≤ 4095 from by omega) (show 1 ≤ y4 from by omega) (show y4 ≤ 4 from by omega) (show 0 ≤ y5 from by omega) (show y5 ≤ 4095 from by omega) (show 1 ≤ y7 from by omega) (show y7 ≤ 11 from by omega) (show 2 ≤ a 90 3 from by omega) (show y4 = x4 from by omega)
      ·
        exact hc158 y1 y2 y3 y4 y5 y7 a (show (((12 - y7) * 1) + 0).toNat ≤ n from by omega) hv hf (show 0 ≤ y1 from by omega) (show y1 ≤ 11 from by omega) (show 0 ≤ y2 from by omega) (show y2 ≤ 4095 from by omega) (show 1 ≤ y4 from by omega) (show y4 ≤ 4 from by omega) (show 0 ≤ y5 from by omega) (show y5 ≤ 4095 from by omega) (show 1 ≤ y7 from by omega) (show y7 ≤ 11 from by omega) (show 2 ≤ a 90 3 from by omega) (show y4 = x4 from by omega)
    ·
      exact jt_rI ⟨hv, hf, rfl, (show 0 ≤ 0 from by omega), (show 0 ≤ 5 from by omega)⟩
  exact ⟨hc158, hc150, hc102, hc78⟩
theorem cp_X5_firstRing_60 (E : jxE) (n_ : Nat) (hR : ∀ m, m + 1 = n_ → Sp_X5_firstRing E m) (d : Nat) (hd : n_ + 5 ≤ (d + 1)) (x1 x2 x3 x4 x5 : Int) (a0 b0 : Nat → Nat → Int) (hv0 : iv a0) (hp0 : 0 ≤ x1) (hp1 : x1 ≤ 11) (hp2 : 0 ≤ x2) (hp3 : x2 ≤ 4095) (hp4 : 1 ≤ x4) (hp5 : x4 ≤ 5) (hp6 : 0 ≤ x5) (hp7 : x5 ≤ 4095) (hpn : 5 - x4 ≤ (n_ : Int)) : ∀ (y1 y2 y3 y4 y5 : Int) (a : Nat → Nat → Int), iv a → jfr jW_X5_firstRing a0 a → 0 ≤ y1 → y1 ≤ 11 → 0 ≤ y2 → y2 ≤ 4095 → 1 ≤ y4 → y4 ≤ 5 → 0 ≤ y5 → y5 ≤ 4095 → y4 = x4 → jt (jxX E d 95 60 [some (.inr (.inr (.inl 90))), some (.inl y1), some (.inl y2), some (.inl y3), some (.inl y4), some (.inl y5), none, none, none] [] (jxSH, a, b0)) (jQ_X5_firstRing x1 x2 x3 x4 x5 a0 b0) := by
  intro y1 y2 y3 y4 y5 a hv hf hi0 hi1 hi2 hi3 hi4 hi5 hi6 hi7 hi8
  refine jt_eq (bq_X5_firstRing_60 E d y1 y2 y3 y4 y5 a b0) ?_
  refine jt_ite (fun c142_ => ?_) (fun c142_ => ?_)
  ·
    have h143_ := iv_get hv (k := 96) (j := 0) (l := 0) (u := 11) rfl
    have h144_ : jxw ((a 96 0) + 1) = (a 96 0) + 1 := jxw_id (by omega) (by omega)
    exact (cp_X5_firstRing_78 E n_ hR d hd x1 x2 x3 x4 x5 a0 b0 hv0 hp0 hp1 hp2 hp3 hp4 hp5 hp6 hp7 hpn _).2.2.2 y1 y2 y3 y4 y5 (jxw ((a 96 0) + 1)) a (Nat.le_refl _) hv hf (show 0 ≤ y1 from by omega) (show y1 ≤ 11 from by omega) (show 0 ≤ y2 from by omega) (show y2 ≤ 4095 from by omega) (show 1 ≤ y4 from by omega) (show y4 ≤ 4 from by omega) (show 0 ≤ y5 from by omega) (show y5 ≤ 4095 from by omega) (show 1 ≤ jxw ((a 96 0) + 1) from by omega) (show jxw ((a 96 0) + 1) ≤ 12 from by omega) (show y4 = x4 from by omega)
  ·
    exact jt_rI ⟨hv, hf, rfl, (show 0 ≤ 0 from by omega), (show 0 ≤ 5 from by omega)⟩
theorem cp_X5_firstRing_25 (E : jxE) (n_ : Nat) (hR : ∀ m, m + 1 = n_ → Sp_X5_firstRing E m) (d : Nat) (hd : n_ + 5 ≤ (d + 1)) (x1 x2 x3 x4 x5 : Int) (a0 b0 : Nat → Nat → Int) (hv0 : iv a0) (hp0 : 0 ≤ x1) (hp1 : x1 ≤ 11) (hp2 : 0 ≤ x2) (hp3 : x2 ≤ 4095) (hp4 : 1 ≤ x4) (hp5 : x4 ≤ 5) (hp6 : 0 ≤ x5) (hp7 : x5 ≤ 4095) (hpn : 5 - x4 ≤ (n_ : Int)) : ∀ (y1 y2 y3 y4 y5 s0 : Int) (a : Nat → Nat → Int), iv a → jfr jW_X5_firstRing a0 a → 0 ≤ y1 → y1 ≤ 11 → 0 ≤ y2 → y2 ≤ 4095 → 1 ≤ y4 → y4 ≤ 5 → 0 ≤ y5 → y5 ≤ 4095 → 0 ≤ s0 → s0 ≤ 1 → y4 = x4 → jt (jxX E d 95 25 [some (.inr (.inr (.inl 90))), some (.inl y1), some (.inl y2), some (.inl y3), some (.inl y4), some (.inl y5), none, none, none] [.inl s0] (jxSH, a, b0)) (jQ_X5_firstRing x1 x2 x3 x4 x5 a0 b0) := by
  intro y1 y2 y3 y4 y5 s0 a hv hf hi0 hi1 hi2 hi3 hi4 hi5 hi6 hi7 hi8 hi9 hi10
  refine jt_eq (bq_X5_firstRing_25 E d y1 y2 y3 y4 y5 s0 a b0) ?_
  refine jt_ite (fun c145_ => ?_) (fun c145_ => ?_)
  ·
    exact cp_X5_firstRing_60 E n_ hR d hd x1 x2 x3 x4 x5 a0 b0 hv0 hp0 hp1 hp2 hp3 hp4 hp5 hp6 hp7 hpn y1 y2 y3 y4 y5 a hv hf (show 0 ≤ y1 from by omega) (show y1 ≤ 11 from by omega) (show 0 ≤ y2 from by omega) (show y2 ≤ 4095 from by omega) (show 1 ≤ y4 from by omega) (show y4 ≤ 5 from by omega) (show 0 ≤ y5 from by omega) (show y5 ≤ 4095 from by omega) (show y4 = x4 from by omega)
  ·
    have h146_ := jxxor_b y5 y2
    refine jt_grd (by omega) ?_
    refine jt_eI (eq_X5_worth E d (Nat.ble_eq_true_of_le (by omega)) y4 a b0) ?_
    refine jt_grd (by omega) ?_
    have h147_ : a 95 ((jxxor y5 y2).toNat) = a0 95 ((jxxor y5 y2).toNat) := hf 95 ((jxxor y5 y2).toNat) rfl
    have h148_ := f_X5_worth_eq a b0 y4
    have h149_ : jxw (16 * y4) = 16 * y4 := jxw_id (by omega) (by omega)
    have h150_ : jxw ((jxw (16 * y4)) - 1) = (jxw (16 * y4)) - 1 := jxw_id (by omega) (by omega)
    have h151_ := jxw_im ((a 95 ((jxxor y5 y2).toNat)) + (f_X5_worth a b0 y4))
    have h152_ := jxw_rg ((a 95 ((jxxor y5 y2).toNat)) + (f_X5_worth a b0 y4))
    have h153_ : a 95 (y5.toNat) = a0 95 (y5.toNat) := hf 95 (y5.toNat) rfl
    refine jt_ite (fun c154_ => ?_) (fun c154_ => ?_)
    ·
      exact cp_X5_firstRing_57 E n_ hR d hd x1 x2 x3 x4 x5 a0 b0 hv0 hp0 hp1 hp2 hp3 hp4 hp5 hp6 hp7 hpn y4 a hv hf (show 1 ≤ y4 from by omega) (show y4 ≤ 5 from by omega) (show y4 = x4 from by omega)
    ·
      exact cp_X5_firstRing_60 E n_ hR d hd x1 x2 x3 x4 x5 a0 b0 hv0 hp0 hp1 hp2 hp3 hp4 hp5 hp6 hp7 hpn y1 y2 y3 y4 y5 a hv hf (show 0 ≤ y1 from by omega) (show y1 ≤ 11 from by omega) (show 0 ≤ y2 from by omega) (show y2 ≤ 4095 from by omega) (show 1 ≤ y4 from by omega) (show y4 ≤ 5 from by omega) (show 0 ≤ y5 from by omega) (show y5 ≤ 4095 from by omega) (show y4 = x4 from by omega)
theorem cp_X5_firstRing_24 (E : jxE) (n_ : Nat) (hR : ∀ m, m + 1 = n_ → Sp_X5_firstRing E m) (d : Nat) (hd : n_ + 5 ≤ (d + 1)) (x1 x2 x3 x4 x5 : Int) (a0 b0 : Nat → Nat → Int) (hv0 : iv a0) (hp0 : 0 ≤ x1) (hp1 : x1 ≤ 11) (hp2 : 0 ≤ x2) (hp3 : x2 ≤ 4095) (hp4 : 1 ≤ x4) (hp5 : x4 ≤ 5) (hp6 : 0 ≤ x5) (hp7 : x5 ≤ 4095) (hpn : 5 - x4 ≤ (n_ : Int)) : ∀ (y1 y2 y3 y4 y5 : Int) (a : Nat → Nat → Int), iv a → jfr jW_X5_firstRing a0 a → 0 ≤ y1 → y1 ≤ 11 → 0 ≤ y2 → y2 ≤ 4095 → 1 ≤ y4 → y4 ≤ 5 → 0 ≤ y5 → y5 ≤ 4095 → y4 = x4 → jt (jxX E d 95 24 [some (.inr (.inr (.inl 90))), some (.inl y1), some (.inl y2), some (.inl y3), some (.inl y4), some (.inl y5), none, none, none] [] (jxSH, a, b0)) (jQ_X5_firstRing x1 x2 x3 x4 x5 a0 b0) := by
  intro y1 y2 y3 y4 y5 a hv hf hi0 hi1 hi2 hi3 hi4 hi5 hi6 hi7 hi8
  refine jt_eq (bq_X5_firstRing_24 E d y1 y2 y3 y4 y5 a b0) ?_
  exact cp_X5_firstRing_25 E n_ hR d hd x1 x2 x3 x4 x5 a0 b0 hv0 hp0 hp1 hp2 hp3 hp4 hp5 hp6 hp7 hpn y1 y2 y3 y4 y5 0 a hv hf (show 0 ≤ y1 from by omega) (show y1 ≤ 11 from by omega) (show 0 ≤ y2 from by omega) (show y2 ≤ 4095 from by omega) (show 1 ≤ y4 from by omega) (show y4 ≤ 5 from by omega) (show 0 ≤ y5 from by omega) (show y5 ≤ 4095 from by omega) (show 0 ≤ 0 from by omega) (show 0 ≤ 1 from by omega) (show y4 = x4 from by omega)
theorem sr_X5_firstRing (E : jxE) (n_ : Nat) (hR : ∀ m, m + 1 = n_ → Sp_X5_firstRing E m) : Sp_X5_firstRing E n_ := by
  intro d hd x1 x2 x3 x4 x5 a0 b0 hv0 hp0 hp1 hp2 hp3 hp4 hp5 hp6 hp7 hpn
  obtain ⟨d, rfl⟩ : ∃ d2, d = d2 + 1 := ⟨d - 1, by omega⟩
  refine jt_eq (bq_X5_firstRing E d x1 x2 x3 x4 x5 a0 b0) ?_
  refine jt_ite (fun c155_ => ?_) (fun c155_ => ?_)
  ·
    exact cp_X5_firstRing_24 E n_ hR d hd x1 x2 x3 x4 x5 a0 b0 hv0 hp0 hp1 hp2 hp3 hp4 hp5 hp6 hp7 hpn x1 x2 x3 x4 x5 a0 hv0 (jfr_rf _ _) (show 0 ≤ x1 from by omega) (show x1 ≤ 11 from by omega) (show 0 ≤ x2 from by omega) (show x2 ≤ 4095 from by omega) (show 1 ≤ x4 from by omega) (show x4 ≤ 5 from by omega) (show 0 ≤ x5 from by omega) (show x5 ≤ 4095 from by omega) (show x4 = x4 from by omega)
  ·
    refine jt_eI (eq_X5_mayFollow E d (Nat.ble_eq_true_of_le (by omega)) x1 (a0 96 0) a0 b0 (show (0 ≤ x1 ∧ x1 < 12) from by omega)) ?_
    have h156_ := iv_get hv0 (k := 96) (j := 0) (l := 0) (u := 11) rfl
    have h157_ := f_X5_mayFollow_eq a0 b0 x1 (a0 96 0)
    have h158_ := jxshr_b (a0 92 (x1.toNat)) (a0 96 0)
    have h159_ := jxand_r (jxshr (a0 92 (x1.toNat)) (a0 96 0)) 1 (by decide) (by decide)
    refine jt_ite (fun c160_ => ?_) (fun c160_ => ?_)
    ·
      exact cp_X5_firstRing_24 E n_ hR d hd x1 x2 x3 x4 x5 a0 b0 hv0 hp0 hp1 hp2 hp3 hp4 hp5 hp6 hp7 hpn x1 x2 x3 x4 x5 a0 hv0 (jfr_rf _ _) (show 0 ≤ x1 from by omega) (show x1 ≤ 11 from by omega) (show 0 ≤ x2 from by omega) (show x2 ≤ 4095 from by omega) (show 1 ≤ x4 from by omega) (show x4 ≤ 5 from by omega) (show 0 ≤ x5 from by omega) (show x5 ≤ 4095 from by omega) (show x4 = x4 from by omega)
    ·
      exact cp_X5_firstRing_25 E n_ hR d hd x1 x2 x3 x4 x5 a0 b0 hv0 hp0 hp1 hp2 hp3 hp4 hp5 hp6 hp7 hpn x1 x2 x3 x4 x5 1 a0 hv0 (jfr_rf _ _) (show 0 ≤ x1 from by omega) (show x1 ≤ 11 from by omega) (show 0 ≤ x2 from by omega) (show x2 ≤ 4095 from by omega) (show 1 ≤ x4 from by omega) (show x4 ≤ 5 from by omega) (show 0 ≤ x5 from by omega) (show x5 ≤ 4095 from by omega) (show 0 ≤ 1 from by omega) (show 1 ≤ 1 from by omega) (show x4 = x4 from by omega)
theorem sr_all (E : jxE) : ∀ n : Nat, Sp_X10_readOne E n ∧ Sp_X10_readBoth E n ∧ Sp_X10_readEither E n := by
  refine jx_ind fun n ih => ?_
  have h1 : Sp_X10_readOne E n := sr_X10_readOne E n (fun m hm => ⟨(ih m (by omega)).1, (ih m (by omega)).2.2⟩)
  have h2 := sr_X10_readBoth E n h1
  exact ⟨h1, h2, sr_X10_readEither E n h2⟩
theorem sr_all_X5_markFrom (E : jxE) : ∀ n : Nat, Sp_X5_markFrom E n := jx_ind fun n ih => sr_X5_markFrom E n (fun m hm => ih m (by omega))
theorem sr_all_X5_firstRing (E : jxE) : ∀ n : Nat, Sp_X5_firstRing E n := jx_ind fun n ih => sr_X5_firstRing E n (fun m hm => ih m (by omega))
theorem sp_X10_readEither (E : jxE) (d : Nat) (hd : Nat.ble 50 d = true) (x1 : Int) (a0 b0 : Nat → Nat → Int) (hv0 : iv a0) (hp0 : 0 ≤ x1) (hp1 : x1 ≤ 10) : jt (jxC E d 143 [.inr (.inr (.inl 11)), .inl x1] (jxSH, a0, b0)) (jQ_X10_readEither x1 a0 b0) := by
  have hd2 := Nat.le_of_ble_eq_true hd
  exact (sr_all E 10).2.2 d (by omega) x1 a0 b0 hv0 hp0 hp1 (by omega)
theorem sp_X5_markFrom (E : jxE) (d : Nat) (hd : Nat.ble 20 d = true) (x1 x2 x3 x4 x5 : Int) (a0 b0 : Nat → Nat → Int) (hv0 : iv a0) (hp0 : 0 ≤ x1) (hp1 : x1 ≤ 11) (hp2 : 0 ≤ x2) (hp3 : x2 ≤ 11) (hp4 : 0 ≤ x3) (hp5 : x3 ≤ 4095) (hp6 : 1 ≤ x5) (hp7 : x5 ≤ 5) : jt (jxC E d 87 [.inr (.inr (.inl 90)), .inl x1, .inl x2, .inl x3, .inl x4, .inl x5] (jxSH, a0, b0)) (jQ_X5_markFrom x1 x2 x3 x4 x5 a0 b0) := by
  have hd2 := Nat.le_of_ble_eq_true hd
  exact (sr_all_X5_markFrom E 4) d (by omega) x1 x2 x3 x4 x5 a0 b0 hv0 hp0 hp1 hp2 hp3 hp4 hp5 hp6 hp7 (by omega)
theorem sp_X5_firstRing (E : jxE) (d : Nat) (hd : Nat.ble 20 d = true) (x1 x2 x3 x4 x5 : Int) (a0 b0 : Nat → Nat → Int) (hv0 : iv a0) (hp0 : 0 ≤ x1) (hp1 : x1 ≤ 11) (hp2 : 0 ≤ x2) (hp3 : x2 ≤ 4095) (hp4 : 1 ≤ x4) (hp5 : x4 ≤ 5) (hp6 : 0 ≤ x5) (hp7 : x5 ≤ 4095) : jt (jxC E d 95 [.inr (.inr (.inl 90)), .inl x1, .inl x2, .inl x3, .inl x4, .inl x5] (jxSH, a0, b0)) (jQ_X5_firstRing x1 x2 x3 x4 x5 a0 b0) := by
  have hd2 := Nat.le_of_ble_eq_true hd
  exact (sr_all_X5_firstRing E 4) d (by omega) x1 x2 x3 x4 x5 a0 b0 hv0 hp0 hp1 hp2 hp3 hp4 hp5 hp6 hp7 (by omega)
def jW_X10_read : List (Nat × Nat) := [(2, 2), (2, 3), (11, 6), (11, 7), (12, 9999), (53, 9999), (54, 9999)]
abbrev jQ_X10_read (x1 : Int) (a0 b0 : Nat → Nat → Int) : List jxV → (Nat → Nat → Int) → (Nat → Nat → Int) → Prop := rI (fun r a b => (iv a) ∧ (jfr jW_X10_read a0 a) ∧ (b0 = b))
theorem cp_X10_read_49 (E : jxE) (d : Nat) (hd : Nat.ble 51 (d + 1) = true) (x1 : Int) (a0 b0 : Nat → Nat → Int) (hv0 : iv a0) : ∀ (y1 : Int) (a : Nat → Nat → Int), iv a → jfr jW_X10_read a0 a → jt (jxX E d 141 49 [some (.inr (.inr (.inl 11))), some (.inl y1)] [] (jxSH, a, b0)) (jQ_X10_read x1 a0 b0) := by
  intro y1 a hv hf
  refine jt_eq (bq_X10_read_49 E d y1 a b0) ?_
  refine jt_eI (eq_X8_isFaulty E d (jd_le hd rfl) a b0) ?_
  have h161_ := f_X8_isFaulty_eq a b0
  refine jt_ite (fun c162_ => ?_) (fun c162_ => ?_)
  ·
    refine jt_bV (sp_X10_keepDraft E d (jd_le hd rfl) y1 a b0 hv) (fun a163_ b163_ h163_ => ?_)
    obtain ⟨hv163_, hf163_, rfl⟩ := h163_
    have hf164_ : jfr jW_X10_read a0 a163_ := jfr_tr hf hf163_ rfl
    exact jt_rI ⟨hv163_, hf164_, rfl⟩
  ·
    refine jt_eI (eq_X8_answerOfFault E d (jd_le hd rfl) a b0) ?_
    exact jt_rI ⟨hv, hf, rfl⟩
theorem cp_X10_read_32 (E : jxE) (d : Nat) (hd : Nat.ble 51 (d + 1) = true) (x1 : Int) (a0 b0 : Nat → Nat → Int) (hv0 : iv a0) : ∀ (y1 : Int) (a : Nat → Nat → Int), iv a → jfr jW_X10_read a0 a → jt (jxX E d 141 32 [some (.inr (.inr (.inl 11))), some (.inl y1)] [] (jxSH, a, b0)) (jQ_X10_read x1 a0 b0) := by
  intro y1 a hv hf
  refine jt_eq (bq_X10_read_32 E d y1 a b0) ?_
  refine jt_eI (eq_X8_isAtEnd E d (jd_le hd rfl) a b0) ?_
  have h165_ := f_X8_isAtEnd_eq a b0
  have h166_ := iv_get hv (k := 2) (j := 2) (l := 0) (u := 200) rfl
  have h167_ := iv_get hv (k := 2) (j := 1) (l := 0) (u := 200) rfl
  have h168_ : a 2 1 = a0 2 1 := hf 2 1 rfl
  have h169_ := iv_get hv0 (k := 2) (j := 1) (l := 0) (u := 200) rfl
  refine jt_ite (fun c170_ => ?_) (fun c170_ => ?_)
  ·
    refine jt_bV (sp_X8_noteCannotStand E d (jd_le hd rfl) a b0 hv) (fun a171_ b171_ h171_ => ?_)
    obtain ⟨hv171_, hf171_, rfl⟩ := h171_
    have hf172_ : jfr jW_X10_read a0 a171_ := jfr_tr hf hf171_ rfl
    exact cp_X10_read_49 E d hd x1 a0 b0 hv0 y1 a171_ hv171_ hf172_
  ·
    exact cp_X10_read_49 E d hd x1 a0 b0 hv0 y1 a hv hf
theorem sp_X10_read (E : jxE) (d : Nat) (hd : Nat.ble 51 d = true) (x1 : Int) (a0 b0 : Nat → Nat → Int) (hv0 : iv a0) : jt (jxC E d 141 [.inr (.inr (.inl 11)), .inl x1] (jxSH, a0, b0)) (jQ_X10_read x1 a0 b0) := by
  obtain ⟨d, rfl⟩ := jd_succ hd
  refine jt_eq (bq_X10_read E d x1 a0 b0) ?_
  have hv173_ : iv (jxu a0 11 6 0) := iv_put hv0 (l := 0) (u := 40) rfl (by omega) (by omega)
  have hv174_ : iv (jxu (jxu a0 11 6 0) 11 7 0) := iv_put hv173_ (l := 0) (u := 12) rfl (by omega) (by omega)
  refine jt_bV (sp_X8_startReading E d (jd_le hd rfl) (jxu (jxu a0 11 6 0) 11 7 0) b0 hv174_) (fun a175_ b175_ h175_ => ?_)
  obtain ⟨hv175_, hf175_, rfl⟩ := h175_
  refine jt_eI (eq_X8_isAtEnd E d (jd_le hd rfl) a175_ b0) ?_
  have h176_ := f_X8_isAtEnd_eq a175_ b0
  have h177_ := iv_get hv175_ (k := 2) (j := 2) (l := 0) (u := 200) rfl
  have h178_ := iv_get hv175_ (k := 2) (j := 1) (l := 0) (u := 200) rfl
  have h179_ : a175_ 2 1 = a0 2 1 := hf175_ 2 1 rfl
  have h180_ := iv_get hv0 (k := 2) (j := 1) (l := 0) (u := 200) rfl
  refine jt_ite (fun c181_ => ?_) (fun c181_ => ?_)
  ·
    refine jt_bV (sp_X10_readEither E d (jd_le hd rfl) 0 a175_ b0 hv175_ (show 0 ≤ 0 from by omega) (show 0 ≤ 10 from by omega)) (fun a182_ b182_ h182_ => ?_)
    obtain ⟨hv182_, hf182_, rfl⟩ := h182_
    have hf183_ : jfr jW_X10_read a0 (jxu a0 11 6 0) := jfr_put (jfr_rf _ _) rfl
    have hf184_ : jfr jW_X10_read a0 (jxu (jxu a0 11 6 0) 11 7 0) := jfr_put hf183_ rfl
    have hf185_ : jfr jW_X10_read a0 a175_ := jfr_tr hf184_ hf175_ rfl
    have hf186_ : jfr jW_X10_read a0 a182_ := jfr_tr hf185_ hf182_ rfl
    exact cp_X10_read_32 E d hd x1 a0 b0 hv0 x1 a182_ hv182_ hf186_
  ·
    have hf187_ : jfr jW_X10_read a0 (jxu a0 11 6 0) := jfr_put (jfr_rf _ _) rfl
    have hf188_ : jfr jW_X10_read a0 (jxu (jxu a0 11 6 0) 11 7 0) := jfr_put hf187_ rfl
    have hf189_ : jfr jW_X10_read a0 a175_ := jfr_tr hf188_ hf175_ rfl
    exact cp_X10_read_49 E d hd x1 a0 b0 hv0 x1 a175_ hv175_ hf189_
def jW_X11_wish : List (Nat × Nat) := [(2, 1), (2, 2), (2, 3), (11, 6), (11, 7), (12, 9999), (53, 9999), (54, 9999)]
abbrev jQ_X11_wish (x1 : Int) (a0 b0 : Nat → Nat → Int) : List jxV → (Nat → Nat → Int) → (Nat → Nat → Int) → Prop := rI (fun r a b => (iv a) ∧ (jfr jW_X11_wish a0 a) ∧ (b0 = b))
theorem cp_X11_wish_34 (E : jxE) (d : Nat) (hd : Nat.ble 52 (d + 1) = true) (x1 : Int) (a0 b0 : Nat → Nat → Int) (hv0 : iv a0) : ∀ (y2 : Int) (a : Nat → Nat → Int), iv a → jfr jW_X11_wish a0 a → jt (jxX E d 162 34 [some (.inr (.inr (.inl 0))), none, some (.inl y2)] [] (jxSH, a, b0)) (jQ_X11_wish x1 a0 b0) := by
  intro y2 a hv hf
  refine jt_eq (bq_X11_wish_34 E d y2 a b0) ?_
  refine jt_bV (sp_X8_cut E d (jd_le hd rfl) 0 a b0 hv) (fun a190_ b190_ h190_ => ?_)
  obtain ⟨hv190_, hf190_, rfl⟩ := h190_
  have hf191_ : jfr jW_X11_wish a0 a190_ := jfr_tr hf hf190_ rfl
  exact jt_rI ⟨hv190_, hf191_, rfl⟩
theorem sp_X11_wish (E : jxE) (d : Nat) (hd : Nat.ble 52 d = true) (x1 : Int) (a0 b0 : Nat → Nat → Int) (hv0 : iv a0) : jt (jxC E d 162 [.inr (.inr (.inl 0)), .inl x1] (jxSH, a0, b0)) (jQ_X11_wish x1 a0 b0) := by
  obtain ⟨d, rfl⟩ := jd_succ hd
  refine jt_eq (bq_X11_wish E d x1 a0 b0) ?_
  refine jt_eI (eq_X3_has E d (jd_le hd rfl) x1 a0 b0) ?_
  have h192_ := f_X3_has_eq a0 b0 x1
  have h193_ := iv_get hv0 (k := 4) (j := 6) (l := 0) (u := 40) rfl
  refine jt_ite (fun c194_ => ?_) (fun c194_ => ?_)
  ·
    exact jt_rI ⟨hv0, (jfr_rf _ _), rfl⟩
  ·
    refine jt_eI (eq_X8_length E d (jd_le hd rfl) a0 b0) ?_
    have h195_ := f_X8_length_eq a0 b0
    have h196_ := iv_get hv0 (k := 2) (j := 1) (l := 0) (u := 200) rfl
    refine jt_ite (fun c197_ => ?_) (fun c197_ => ?_)
    ·
      exact jt_rI ⟨hv0, (jfr_rf _ _), rfl⟩
    ·
      refine jt_bI (sp_X10_read E d (jd_le hd rfl) x1 a0 b0 hv0) (fun r198_ a198_ b198_ h198_ => ?_)
      obtain ⟨hv198_, hf198_, rfl⟩ := h198_
      have hf199_ : jfr jW_X11_wish a0 a198_ := jfr_tr (jfr_rf _ _) hf198_ rfl
      exact cp_X11_wish_34 E d hd x1 a0 b0 hv0 r198_ a198_ hv198_ hf199_
def jW_X5_markRingSets : List (Nat × Nat) := [(90, 8)]
abbrev jQ_X5_markRingSets (a0 b0 : Nat → Nat → Int) : List jxV → (Nat → Nat → Int) → (Nat → Nat → Int) → Prop := rV (fun a b => (iv a) ∧ (jfr jW_X5_markRingSets a0 a))
theorem cp_X5_markRingSets_31 (E : jxE) (d : Nat) (hd : Nat.ble 21 (d + 1) = true) (a0 b0 : Nat → Nat → Int) (hv0 : iv a0) : ∀ n : Nat, (∀ (y1 : Int) (a b : Nat → Nat → Int), (((12 - y1) * 1) + 0).toNat ≤ n → iv a → jfr jW_X5_markRingSets a0 a → 0 ≤ y1 → y1 ≤ 11 → 1 ≤ a 90 3 → jt (jxX E d 86 55 [some (.inr (.inr (.inl 90))), some (.inl y1)] [] (jxSH, a, b)) (jQ_X5_markRingSets a0 b0)) ∧ (∀ (y1 : Int) (a b : Nat → Nat → Int), (((12 - y1) * 1) + 0).toNat ≤ n → iv a → jfr jW_X5_markRingSets a0 a → 0 ≤ y1 → y1 ≤ 12 → jt (jxX E d 86 31 [some (.inr (.inr (.inl 90))), some (.inl y1)] [] (jxSH, a, b)) (jQ_X5_markRingSets a0 b0)) := by
  refine jx_ind fun n ih => ?_
  have ih55 : ∀ (y1 : Int) (a b : Nat → Nat → Int), (((12 - y1) * 1) + 0).toNat < n → iv a → jfr jW_X5_markRingSets a0 a → 0 ≤ y1 → y1 ≤ 11 → 1 ≤ a 90 3 → jt (jxX E d 86 55 [some (.inr (.inr (.inl 90))), some (.inl y1)] [] (jxSH, a, b)) (jQ_X5_markRingSets a0 b0) := fun y1 a b hlt i0 i1 i2 i3 i4 => (ih _ hlt).1 y1 a b (Nat.le_refl _) i0 i1 i2 i3 i4
  have ih31 : ∀ (y1 : Int) (a b : Nat → Nat → Int), (((12 - y1) * 1) + 0).toNat < n → iv a → jfr jW_X5_markRingSets a0 a → 0 ≤ y1 → y1 ≤ 12 → jt (jxX E d 86 31 [some (.inr (.inr (.inl 90))), some (.inl y1)] [] (jxSH, a, b)) (jQ_X5_markRingSets a0 b0) := fun y1 a b hlt i0 i1 i2 i3 => (ih _ hlt).2 y1 a b (Nat.le_refl _) i0 i1 i2 i3
  have hc55 : ∀ (y1 : Int) (a b : Nat → Nat → Int), (((12 - y1) * 1) + 0).toNat ≤ n → iv a → jfr jW_X5_markRingSets a0 a → 0 ≤ y1 → y1 ≤ 11 → 1 ≤ a 90 3 → jt (jxX E d 86 55 [some (.inr (.inr (.inl 90))), some (.inl y1)] [] (jxSH, a, b)) (jQ_X5_markRingSets a0 b0) := by
    intro y1 a b hm hv hf hi0 hi1 hi2
    refine jt_eq (bq_X5_markRingSets_55 E d y1 a b) ?_
    have h200_ := iv_get hv (k := 90) (j := 3) (l := 0) (u := 12) rfl
    have h201_ : a 90 3 = a0 90 3 := hf 90 3 rfl
    have h202_ := iv_get hv0 (k := 90) (j := 3) (l := 0) (u := 12) rfl
    have h203_ : jxw (y1 + 1) = y1 + 1 := jxw_id (by omega) (by omega)
    exact ih31 (jxw (y1 + 1)) a b (show (((12 - (jxw (y1 + 1))) * 1) + 0).toNat < n from by omega) hv hf (show 0 ≤ jxw (y1 + 1) from by omega) (show jxw (y1 + 1) ≤ 12 from by omega)
  have hc31 : ∀ (y1 : Int) (a b : Nat → Nat → Int), (((12 - y1) * 1) + 0).toNat ≤ n → iv a → jfr jW_X5_markRingSets a0 a → 0 ≤ y1 → y1 ≤ 12 → jt (jxX E d 86 31 [some (.inr (.inr (.inl 90))), some (.inl y1)] [] (jxSH, a, b)) (jQ_X5_markRingSets a0 b0) := by
    intro y1 a b hm hv hf hi0 hi1
    refine jt_eq (bq_X5_markRingSets_31 E d y1 a b) ?_
    have h204_ := iv_get hv (k := 90) (j := 3) (l := 0) (u := 12) rfl
    have h205_ : a 90 3 = a0 90 3 := hf 90 3 rfl
    have h206_ := iv_get hv0 (k := 90) (j := 3) (l := 0) (u := 12) rfl
    refine jt_ite (fun c207_ => ?_) (fun c207_ => ?_)
    ·
      refine jt_grd (by omega) ?_
      have h208_ := jxshl1_b y1
      refine jt_bV (sp_X5_markFrom E d (jd_le hd rfl) y1 y1 (jxshl 1 y1) (a 93 (y1.toNat)) 1 a b hv (show 0 ≤ y1 from by omega) (show y1 ≤ 11 from by omega) (show 0 ≤ y1 from by omega) (show y1 ≤ 11 from by omega) (show 0 ≤ jxshl 1 y1 from by omega) (show jxshl 1 y1 ≤ 4095 from by omega) (show 1 ≤ 1 from by omega) (show 1 ≤ 5 from by omega)) (fun a209_ b209_ h209_ => ?_)
      obtain ⟨hv209_, hf209_⟩ := h209_
      have hf210_ : jfr jW_X5_markRingSets a0 a209_ := jfr_tr hf hf209_ rfl
      have h211_ := iv_get hv209_ (k := 90) (j := 3) (l := 0) (u := 12) rfl
      have h212_ : a209_ 90 3 = a 90 3 := hf209_ 90 3 rfl
      exact hc55 y1 a209_ b209_ (show (((12 - y1) * 1) + 0).toNat ≤ n from by omega) hv209_ hf210_ (show 0 ≤ y1 from by omega) (show y1 ≤ 11 from by omega) (show 1 ≤ a209_ 90 3 from by omega)
    ·
      exact jt_rV ⟨hv, hf⟩
  exact ⟨hc55, hc31⟩
theorem cp_X5_markRingSets_2 (E : jxE) (d : Nat) (hd : Nat.ble 21 (d + 1) = true) (a0 b0 : Nat → Nat → Int) (hv0 : iv a0) : ∀ n : Nat, (∀ (y1 : Int) (a b : Nat → Nat → Int), (((64 - y1) * 1) + 0).toNat ≤ n → iv a → jfr jW_X5_markRingSets a0 a → 0 ≤ y1 → y1 ≤ 64 → jt (jxX E d 86 2 [some (.inr (.inr (.inl 90))), some (.inl y1)] [] (jxSH, a, b)) (jQ_X5_markRingSets a0 b0)) := by
  refine jx_ind fun n ih => ?_
  have ih2 : ∀ (y1 : Int) (a b : Nat → Nat → Int), (((64 - y1) * 1) + 0).toNat < n → iv a → jfr jW_X5_markRingSets a0 a → 0 ≤ y1 → y1 ≤ 64 → jt (jxX E d 86 2 [some (.inr (.inr (.inl 90))), some (.inl y1)] [] (jxSH, a, b)) (jQ_X5_markRingSets a0 b0) := fun y1 a b hlt i0 i1 i2 i3 => (ih _ hlt) y1 a b (Nat.le_refl _) i0 i1 i2 i3
  have hc2 : ∀ (y1 : Int) (a b : Nat → Nat → Int), (((64 - y1) * 1) + 0).toNat ≤ n → iv a → jfr jW_X5_markRingSets a0 a → 0 ≤ y1 → y1 ≤ 64 → jt (jxX E d 86 2 [some (.inr (.inr (.inl 90))), some (.inl y1)] [] (jxSH, a, b)) (jQ_X5_markRingSets a0 b0) := by
    intro y1 a b hm hv hf hi0 hi1
    refine jt_eq (bq_X5_markRingSets_2 E d y1 a b) ?_
    refine jt_ite (fun c213_ => ?_) (fun c213_ => ?_)
    ·
      refine jt_grd (by omega) ?_
      have h214_ : jxw (y1 + 1) = y1 + 1 := jxw_id (by omega) (by omega)
      exact ih2 (jxw (y1 + 1)) a (jxu b 94 (y1.toNat) 0) (show (((64 - (jxw (y1 + 1))) * 1) + 0).toNat < n from by omega) hv hf (show 0 ≤ jxw (y1 + 1) from by omega) (show jxw (y1 + 1) ≤ 64 from by omega)
    ·
      have hv215_ : iv (jxu a 90 8 0) := iv_put hv (l := 0) (u := 4095) rfl (by omega) (by omega)
      have hf216_ : jfr jW_X5_markRingSets a0 (jxu a 90 8 0) := jfr_put hf rfl
      exact (cp_X5_markRingSets_31 E d hd a0 b0 hv0 _).2 0 (jxu a 90 8 0) b (Nat.le_refl _) hv215_ hf216_ (show 0 ≤ 0 from by omega) (show 0 ≤ 12 from by omega)
  exact hc2
theorem sp_X5_markRingSets (E : jxE) (d : Nat) (hd : Nat.ble 21 d = true) (a0 b0 : Nat → Nat → Int) (hv0 : iv a0) : jt (jxC E d 86 [.inr (.inr (.inl 90))] (jxSH, a0, b0)) (jQ_X5_markRingSets a0 b0) := by
  obtain ⟨d, rfl⟩ := jd_succ hd
  refine jt_eq (bq_X5_markRingSets E d a0 b0) ?_
  exact (cp_X5_markRingSets_2 E d hd a0 b0 hv0 _) 0 a0 b0 (Nat.le_refl _) hv0 (jfr_rf _ _) (show 0 ≤ 0 from by omega) (show 0 ≤ 64 from by omega)
def jW_X5_takeFirstRings : List (Nat × Nat) := [(90, 12), (96, 9999), (97, 9999), (104, 9999)]
abbrev jQ_X5_takeFirstRings (a0 b0 : Nat → Nat → Int) : List jxV → (Nat → Nat → Int) → (Nat → Nat → Int) → Prop := rV (fun a b => (iv a) ∧ (jfr jW_X5_takeFirstRings a0 a) ∧ (b0 = b))
theorem cp_X5_takeFirstRings_12 (E : jxE) (d : Nat) (hd : Nat.ble 21 (d + 1) = true) (a0 b0 : Nat → Nat → Int) (hv0 : iv a0) : ∀ n : Nat, (∀ (y1 y2 : Int) (a : Nat → Nat → Int), (((12 - y2) * 1) + 0).toNat ≤ n → iv a → jfr jW_X5_takeFirstRings a0 a → 0 ≤ y1 → y1 ≤ 4095 → 0 ≤ y2 → y2 ≤ 11 → 1 ≤ a 90 3 → jt (jxX E d 94 71 [some (.inr (.inr (.inl 90))), some (.inl y1), some (.inl y2), none] [] (jxSH, a, b0)) (jQ_X5_takeFirstRings a0 b0)) ∧ (∀ (y1 y2 : Int) (a : Nat → Nat → Int), (((12 - y2) * 1) + 0).toNat ≤ n → iv a → jfr jW_X5_takeFirstRings a0 a → 0 ≤ y1 → y1 ≤ 4095 → 0 ≤ y2 → y2 ≤ 11 → 1 ≤ a 90 3 → jt (jxX E d 94 36 [some (.inr (.inr (.inl 90))), some (.inl y1), some (.inl y2), none] [] (jxSH, a, b0)) (jQ_X5_takeFirstRings a0 b0)) ∧ (∀ (y1 y2 : Int) (a : Nat → Nat → Int), (((12 - y2) * 1) + 0).toNat ≤ n → iv a → jfr jW_X5_takeFirstRings a0 a → 0 ≤ y1 → y1 ≤ 4095 → 0 ≤ y2 → y2 ≤ 12 → jt (jxX E d 94 12 [some (.inr (.inr (.inl 90))), some (.inl y1), some (.inl y2), none] [] (jxSH, a, b0)) (jQ_X5_takeFirstRings a0 b0)) := by
  refine jx_ind fun n ih => ?_
  have ih71 : ∀ (y1 y2 : Int) (a : Nat → Nat → Int), (((12 - y2) * 1) + 0).toNat < n → iv a → jfr jW_X5_takeFirstRings a0 a → 0 ≤ y1 → y1 ≤ 4095 → 0 ≤ y2 → y2 ≤ 11 → 1 ≤ a 90 3 → jt (jxX E d 94 71 [some (.inr (.inr (.inl 90))), some (.inl y1), some (.inl y2), none] [] (jxSH, a, b0)) (jQ_X5_takeFirstRings a0 b0) := fun y1 y2 a hlt i0 i1 i2 i3 i4 i5 i6 => (ih _ hlt).1 y1 y2 a (Nat.le_refl _) i0 i1 i2 i3 i4 i5 i6
  have ih36 : ∀ (y1 y2 : Int) (a : Nat → Nat → Int), (((12 - y2) * 1) + 0).toNat < n → iv a → jfr jW_X5_takeFirstRings a0 a → 0 ≤ y1 → y1 ≤ 4095 → 0 ≤ y2 → y2 ≤ 11 → 1 ≤ a 90 3 → jt (jxX E d 94 36 [some (.inr (.inr (.inl 90))), some (.inl y1), some (.inl y2), none] [] (jxSH, a, b0)) (jQ_X5_takeFirstRings a0 b0) := fun y1 y2 a hlt i0 i1 i2 i3 i4 i5 i6 => (ih _ hlt).2.1 y1 y2 a (Nat.le_refl _) i0 i1 i2 i3 i4 i5 i6
  have ih12 : ∀ (y1 y2 : Int) (a : Nat → Nat → Int), (((12 - y2) * 1) + 0).toNat < n → iv a → jfr jW_X5_takeFirstRings a0 a → 0 ≤ y1 → y1 ≤ 4095 → 0 ≤ y2 → y2 ≤ 12 → jt (jxX E d 94 12 [some (.inr (.inr (.inl 90))), some (.inl y1), some (.inl y2), none] [] (jxSH, a, b0)) (jQ_X5_takeFirstRings a0 b0) := fun y1 y2 a hlt i0 i1 i2 i3 i4 i5 => (ih _ hlt).2.2 y1 y2 a (Nat.le_refl _) i0 i1 i2 i3 i4 i5
  have hc71 : ∀ (y1 y2 : Int) (a : Nat → Nat → Int), (((12 - y2) * 1) + 0).toNat ≤ n → iv a → jfr jW_X5_takeFirstRings a0 a → 0 ≤ y1 → y1 ≤ 4095 → 0 ≤ y2 → y2 ≤ 11 → 1 ≤ a 90 3 → jt (jxX E d 94 71 [some (.inr (.inr (.inl 90))), some (.inl y1), some (.inl y2), none] [] (jxSH, a, b0)) (jQ_X5_takeFirstRings a0 b0) := by
    intro y1 y2 a hm hv hf hi0 hi1 hi2 hi3 hi4
    refine jt_eq (bq_X5_takeFirstRings_71 E d y1 y2 a b0) ?_
    have h217_ := iv_get hv (k := 90) (j := 3) (l := 0) (u := 12) rfl
    have h218_ : a 90 3 = a0 90 3 := hf 90 3 rfl
    have h219_ := iv_get hv0 (k := 90) (j := 3) (l := 0) (u := 12) rfl
    have h220_ : jxw (y2 + 1) = y2 + 1 := jxw_id (by omega) (by omega)
    exact ih12 y1 (jxw (y2 + 1)) a (show (((12 - (jxw (y2 + 1))) * 1) + 0).toNat < n from by omega) hv hf (show 0 ≤ y1 from by omega) (show y1 ≤ 4095 from by omega) (show 0 ≤ jxw (y2 + 1) from by omega) (show jxw (y2 + 1) ≤ 12 from by omega)
  have hc36 : ∀ (y1 y2 : Int) (a : Nat → Nat → Int), (((12 - y2) * 1) + 0).toNat ≤ n → iv a → jfr jW_X5_takeFirstRings a0 a → 0 ≤ y1 → y1 ≤ 4095 → 0 ≤ y2 → y2 ≤ 11 → 1 ≤ a 90 3 → jt (jxX E d 94 36 [some (.inr (.inr (.inl 90))), some (.inl y1), some (.inl y2), none] [] (jxSH, a, b0)) (jQ_X5_takeFirstRings a0 b0) := by
    intro y1 y2 a hm hv hf hi0 hi1 hi2 hi3 hi4
    refine jt_eq (bq_X5_takeFirstRings_36 E d y1 y2 a b0) ?_
    have h221_ := iv_get hv (k := 90) (j := 3) (l := 0) (u := 12) rfl
    have h222_ : a 90 3 = a0 90 3 := hf 90 3 rfl
    have h223_ := iv_get hv0 (k := 90) (j := 3) (l := 0) (u := 12) rfl
    refine jt_grd (by omega) ?_
    have h224_ := jxshl1_b y2
    refine jt_bI (sp_X5_firstRing E d (jd_le hd rfl) y2 (jxshl 1 y2) (a 93 (y2.toNat)) 1 y1 a b0 hv (show 0 ≤ y2 from by omega) (show y2 ≤ 11 from by omega) (show 0 ≤ jxshl 1 y2 from by omega) (show jxshl 1 y2 ≤ 4095 from by omega) (show 1 ≤ 1 from by omega) (show 1 ≤ 5 from by omega) (show 0 ≤ y1 from by omega) (show y1 ≤ 4095 from by omega)) (fun r225_ a225_ b225_ h225_ => ?_)
    obtain ⟨hv225_, hf225_, rfl, hq225_0, hq225_1⟩ := h225_
    refine jt_ite (fun c226_ => ?_) (fun c226_ => ?_)
    ·
      have hf227_ : jfr jW_X5_takeFirstRings a0 a225_ := jfr_tr hf hf225_ rfl
      have h228_ := jxxor_b y1 (jxshl 1 y2)
      have h229_ := iv_get hv225_ (k := 90) (j := 3) (l := 0) (u := 12) rfl
      have h230_ : a225_ 90 3 = a 90 3 := hf225_ 90 3 rfl
      exact hc71 (jxxor y1 (jxshl 1 y2)) y2 a225_ (show (((12 - y2) * 1) + 0).toNat ≤ n from by omega) hv225_ hf227_ (show 0 ≤ jxxor y1 (jxshl 1 y2) from by omega) (show jxxor y1 (jxshl 1 y2) ≤ 4095 from by omega) (show 0 ≤ y2 from by omega) (show y2 ≤ 11 from by omega) (show 1 ≤ a225_ 90 3 from by omega)
    ·
      refine jt_bI (sp_X5_keepRing E d (jd_le hd rfl) r225_ a225_ b0 hv225_ (show 1 ≤ r225_ from by omega) (show r225_ ≤ 5 from by omega)) (fun r231_ a231_ b231_ h231_ => ?_)
      obtain ⟨hv231_, hf231_, rfl, hq231_0, hq231_1⟩ := h231_
      have hf232_ : jfr jW_X5_takeFirstRings a0 a225_ := jfr_tr hf hf225_ rfl
      have hf233_ : jfr jW_X5_takeFirstRings a0 a231_ := jfr_tr hf232_ hf231_ rfl
      have h234_ := jxxor_b y1 r231_
      have h235_ := iv_get hv231_ (k := 90) (j := 3) (l := 0) (u := 12) rfl
      have h236_ : a231_ 90 3 = a225_ 90 3 := hf231_ 90 3 rfl
      have h237_ := iv_get hv225_ (k := 90) (j := 3) (l := 0) (u := 12) rfl
      have h238_ : a225_ 90 3 = a 90 3 := hf225_ 90 3 rfl
      exact hc71 (jxxor y1 r231_) y2 a231_ (show (((12 - y2) * 1) + 0).toNat ≤ n from by omega) hv231_ hf233_ (show 0 ≤ jxxor y1 r231_ from by omega) (show jxxor y1 r231_ ≤ 4095 from by omega) (show 0 ≤ y2 from by omega) (show y2 ≤ 11 from by omega) (show 1 ≤ a231_ 90 3 from by omega)
  have hc12 : ∀ (y1 y2 : Int) (a : Nat → Nat → Int), (((12 - y2) * 1) + 0).toNat ≤ n → iv a → jfr jW_X5_takeFirstRings a0 a → 0 ≤ y1 → y1 ≤ 4095 → 0 ≤ y2 → y2 ≤ 12 → jt (jxX E d 94 12 [some (.inr (.inr (.inl 90))), some (.inl y1), some (.inl y2), none] [] (jxSH, a, b0)) (jQ_X5_takeFirstRings a0 b0) := by
    intro y1 y2 a hm hv hf hi0 hi1 hi2 hi3
    refine jt_eq (bq_X5_takeFirstRings_12 E d y1 y2 a b0) ?_
    have h239_ := iv_get hv (k := 90) (j := 3) (l := 0) (u := 12) rfl
    have h240_ : a 90 3 = a0 90 3 := hf 90 3 rfl
    have h241_ := iv_get hv0 (k := 90) (j := 3) (l := 0) (u := 12) rfl
    refine jt_ite (fun c242_ => ?_) (fun c242_ => ?_)
    ·
      have h243_ := jxshr_b y1 y2
      have h244_ := jxand_r (jxshr y1 y2) 1 (by decide) (by decide)
      refine jt_ite (fun c245_ => ?_) (fun c245_ => ?_)
      ·
        have hv246_ : iv (jxu a 96 0 y2) := iv_put hv (l := 0) (u := 11) rfl (by omega) (by omega)
        have hf247_ : jfr jW_X5_takeFirstRings a0 (jxu a 96 0 y2) := jfr_put hf rfl
        exact hc36 y1 y2 (jxu a 96 0 y2) (show (((12 - y2) * 1) + 0).toNat ≤ n from by omega) hv246_ hf247_ (show 0 ≤ y1 from by omega) (show y1 ≤ 4095 from by omega) (show 0 ≤ y2 from by omega) (show y2 ≤ 11 from by omega) (show 1 ≤ a 90 3 from by omega)
      ·
        exact hc71 y1 y2 a (show (((12 - y2) * 1) + 0).toNat ≤ n from by omega) hv hf (show 0 ≤ y1 from by omega) (show y1 ≤ 4095 from by omega) (show 0 ≤ y2 from by omega) (show y2 ≤ 11 from by omega) (show 1 ≤ a 90 3 from by omega)
    ·
      exact jt_rV ⟨hv, hf, rfl⟩
  exact ⟨hc71, hc36, hc12⟩
theorem sp_X5_takeFirstRings (E : jxE) (d : Nat) (hd : Nat.ble 21 d = true) (a0 b0 : Nat → Nat → Int) (hv0 : iv a0) : jt (jxC E d 94 [.inr (.inr (.inl 90))] (jxSH, a0, b0)) (jQ_X5_takeFirstRings a0 b0) := by
  obtain ⟨d, rfl⟩ := jd_succ hd
  refine jt_eq (bq_X5_takeFirstRings E d a0 b0) ?_
  have hv248_ : iv (jxu a0 90 12 0) := iv_put hv0 (l := 0) (u := 6) rfl (by omega) (by omega)
  have hf249_ : jfr jW_X5_takeFirstRings a0 (jxu a0 90 12 0) := jfr_put (jfr_rf _ _) rfl
  have h250_ := iv_get hv0 (k := 90) (j := 8) (l := 0) (u := 4095) rfl
  exact (cp_X5_takeFirstRings_12 E d hd a0 b0 hv0 _).2.2 (a0 90 8) 0 (jxu a0 90 12 0) (Nat.le_refl _) hv248_ hf249_ (show 0 ≤ a0 90 8 from by omega) (show a0 90 8 ≤ 4095 from by omega) (show 0 ≤ 0 from by omega) (show 0 ≤ 12 from by omega)
def jW_X5_find : List (Nat × Nat) := [(90, 3), (90, 8), (90, 12), (91, 9999), (92, 9999), (93, 9999), (95, 9999), (96, 9999), (97, 9999), (104, 9999)]
abbrev jQ_X5_find (a0 b0 : Nat → Nat → Int) : List jxV → (Nat → Nat → Int) → (Nat → Nat → Int) → Prop := rI (fun r a b => (iv a) ∧ (jfr jW_X5_find a0 a))
theorem sp_X5_find (E : jxE) (d : Nat) (hd : Nat.ble 25 d = true) (a0 b0 : Nat → Nat → Int) (hv0 : iv a0) : jt (jxC E d 82 [.inr (.inr (.inl 90))] (jxSH, a0, b0)) (jQ_X5_find a0 b0) := by
  obtain ⟨d, rfl⟩ := jd_succ hd
  refine jt_eq (bq_X5_find E d a0 b0) ?_
  refine jt_bV (sp_X5_seatOpenOffers E d (jd_le hd rfl) a0 b0 hv0) (fun a251_ b251_ h251_ => ?_)
  obtain ⟨hv251_, hf251_, rfl⟩ := h251_
  refine jt_bV (sp_X5_linkSeats E d (jd_le hd rfl) a251_ b0 hv251_) (fun a252_ b252_ h252_ => ?_)
  obtain ⟨hv252_, hf252_, rfl⟩ := h252_
  refine jt_bV (sp_X5_markRingSets E d (jd_le hd rfl) a252_ b0 hv252_) (fun a253_ b253_ h253_ => ?_)
  obtain ⟨hv253_, hf253_⟩ := h253_
  refine jt_bV (sp_X5_weighSets E d (jd_le hd rfl) a253_ b253_ hv253_) (fun a254_ b254_ h254_ => ?_)
  obtain ⟨hv254_, hf254_, rfl⟩ := h254_
  refine jt_bV (sp_X5_takeFirstRings E d (jd_le hd rfl) a254_ b253_ hv254_) (fun a255_ b255_ h255_ => ?_)
  obtain ⟨hv255_, hf255_, rfl⟩ := h255_
  have hf256_ : jfr jW_X5_find a0 a251_ := jfr_tr (jfr_rf _ _) hf251_ rfl
  have hf257_ : jfr jW_X5_find a0 a252_ := jfr_tr hf256_ hf252_ rfl
  have hf258_ : jfr jW_X5_find a0 a253_ := jfr_tr hf257_ hf253_ rfl
  have hf259_ : jfr jW_X5_find a0 a254_ := jfr_tr hf258_ hf254_ rfl
  have hf260_ : jfr jW_X5_find a0 a255_ := jfr_tr hf259_ hf255_ rfl
  exact jt_rI ⟨hv255_, hf260_⟩
def jW_X11_rings : List (Nat × Nat) := [(90, 3), (90, 8), (90, 12), (91, 9999), (92, 9999), (93, 9999), (95, 9999), (96, 9999), (97, 9999), (104, 9999)]
abbrev jQ_X11_rings (a0 b0 : Nat → Nat → Int) : List jxV → (Nat → Nat → Int) → (Nat → Nat → Int) → Prop := rI (fun r a b => (iv a) ∧ (jfr jW_X11_rings a0 a))
theorem sp_X11_rings (E : jxE) (d : Nat) (hd : Nat.ble 26 d = true) (a0 b0 : Nat → Nat → Int) (hv0 : iv a0) : jt (jxC E d 186 [.inr (.inr (.inl 0))] (jxSH, a0, b0)) (jQ_X11_rings a0 b0) := by
  obtain ⟨d, rfl⟩ := jd_succ hd
  refine jt_eq (bq_X11_rings E d a0 b0) ?_
  refine jt_bI (sp_X5_find E d (jd_le hd rfl) a0 b0 hv0) (fun r261_ a261_ b261_ h261_ => ?_)
  obtain ⟨hv261_, hf261_⟩ := h261_
  have hf262_ : jfr jW_X11_rings a0 a261_ := jfr_tr (jfr_rf _ _) hf261_ rfl
  exact jt_rI ⟨hv261_, hf262_⟩
