def jW_X10_readOne : List (Nat × Nat) := [(2, 2), (2, 3), (11, 6), (11, 7), (54, 9999)]
abbrev jQ_X10_readOne (x1 : Int) (a0 b0 : Nat → Nat → Int) : List jxV → (Nat → Nat → Int) → (Nat → Nat → Int) → Prop := rV (fun a b => (iv a) ∧ (jfr jW_X10_readOne a0 a) ∧ (b0 = b))
def Sp_X10_readOne (E : jxE) (n_ : Nat) : Prop := ∀ (d : Nat) (hd : 3 * n_ + 13 ≤ d) (x1 : Int) (a0 b0 : Nat → Nat → Int) (hv0 : iv a0) (hp0 : 0 ≤ x1) (hp1 : x1 ≤ 10) (hpn : 10 - x1 ≤ (n_ : Int)) , jt (jxC E d 145 [.inr (.inr (.inl 11)), .inl x1] (jxSH, a0, b0)) (jQ_X10_readOne x1 a0 b0)
def jW_X10_readBoth : List (Nat × Nat) := [(2, 2), (2, 3), (11, 6), (11, 7), (54, 9999)]
abbrev jQ_X10_readBoth (x1 : Int) (a0 b0 : Nat → Nat → Int) : List jxV → (Nat → Nat → Int) → (Nat → Nat → Int) → Prop := rV (fun a b => (iv a) ∧ (jfr jW_X10_readBoth a0 a) ∧ (b0 = b))
def Sp_X10_readBoth (E : jxE) (n_ : Nat) : Prop := ∀ (d : Nat) (hd : 3 * n_ + 14 ≤ d) (x1 : Int) (a0 b0 : Nat → Nat → Int) (hv0 : iv a0) (hp0 : 0 ≤ x1) (hp1 : x1 ≤ 10) (hpn : 10 - x1 ≤ (n_ : Int)) , jt (jxC E d 144 [.inr (.inr (.inl 11)), .inl x1] (jxSH, a0, b0)) (jQ_X10_readBoth x1 a0 b0)
def jW_X10_readEither : List (Nat × Nat) := [(2, 2), (2, 3), (11, 6), (11, 7), (54, 9999)]
abbrev jQ_X10_readEither (x1 : Int) (a0 b0 : Nat → Nat → Int) : List jxV → (Nat → Nat → Int) → (Nat → Nat → Int) → Prop := rV (fun a b => (iv a) ∧ (jfr jW_X10_readEither a0 a) ∧ (b0 = b))
def Sp_X10_readEither (E : jxE) (n_ : Nat) : Prop := ∀ (d : Nat) (hd : 3 * n_ + 15 ≤ d) (x1 : Int) (a0 b0 : Nat → Nat → Int) (hv0 : iv a0) (hp0 : 0 ≤ x1) (hp1 : x1 ≤ 10) (hpn : 10 - x1 ≤ (n_ : Int)) , jt (jxC E d 143 [.inr (.inr (.inl 11)), .inl x1] (jxSH, a0, b0)) (jQ_X10_readEither x1 a0 b0)
def jW_X5_markFrom : List (Nat × Nat) := [(90, 8)]
abbrev jQ_X5_markFrom (x1 x2 x3 x4 x5 : Int) (a0 b0 : Nat → Nat → Int) : List jxV → (Nat → Nat → Int) → (Nat → Nat → Int) → Prop := rV (fun a b => (iv a) ∧ (jfr jW_X5_markFrom a0 a))
def Sp_X5_markFrom (E : jxE) (n_ : Nat) : Prop := ∀ (d : Nat) (hd : n_ + 5 ≤ d) (x1 x2 x3 x4 x5 : Int) (a0 b0 : Nat → Nat → Int) (hv0 : iv a0) (hp0 : 0 ≤ x1) (hp1 : x1 ≤ 11) (hp2 : 0 ≤ x2) (hp3 : x2 ≤ 11) (hp4 : 0 ≤ x3) (hp5 : x3 ≤ 4095) (hp6 : 1 ≤ x5) (hp7 : x5 ≤ 5) (hpn : 5 - x5 ≤ (n_ : Int)) , jt (jxC E d 87 [.inr (.inr (.inl 90)), .inl x1, .inl x2, .inl x3, .inl x4, .inl x5] (jxSH, a0, b0)) (jQ_X5_markFrom x1 x2 x3 x4 x5 a0 b0)
def jW_X5_firstRing : List (Nat × Nat) := [(96, 9999)]
abbrev jQ_X5_firstRing (x1 x2 x3 x4 x5 : Int) (a0 b0 : Nat → Nat → Int) : List jxV → (Nat → Nat → Int) → (Nat → Nat → Int) → Prop := rI (fun r a b => (iv a) ∧ (jfr jW_X5_firstRing a0 a) ∧ (b0 = b) ∧ (0 ≤ r) ∧ (r ≤ 5))
def Sp_X5_firstRing (E : jxE) (n_ : Nat) : Prop := ∀ (d : Nat) (hd : n_ + 5 ≤ d) (x1 x2 x3 x4 x5 : Int) (a0 b0 : Nat → Nat → Int) (hv0 : iv a0) (hp0 : 0 ≤ x1) (hp1 : x1 ≤ 11) (hp2 : 0 ≤ x2) (hp3 : x2 ≤ 4095) (hp4 : 1 ≤ x4) (hp5 : x4 ≤ 5) (hp6 : 0 ≤ x5) (hp7 : x5 ≤ 4095) (hpn : 5 - x4 ≤ (n_ : Int)) , jt (jxC E d 95 [.inr (.inr (.inl 90)), .inl x1, .inl x2, .inl x3, .inl x4, .inl x5] (jxSH, a0, b0)) (jQ_X5_firstRing x1 x2 x3 x4 x5 a0 b0)
theorem cp_X10_readOne_128 (E : jxE) (n_ : Nat) (hR : ∀ m, m + 1 = n_ → Sp_X10_readOne E m ∧ Sp_X10_readEither E m) (d : Nat) (hd : 3 * n_ + 13 ≤ (d + 1)) (x1 : Int) (a0 b0 : Nat → Nat → Int) (hv0 : iv a0) (hp0 : 0 ≤ x1) (hp1 : x1 ≤ 10) (hpn : 10 - x1 ≤ (n_ : Int)) : ∀ (a : Nat → Nat → Int), iv a → jfr jW_X10_readOne a0 a → jt (jxX E d 145 128 [none, none, none, none, none] [] (jxSH, a, b0)) (jQ_X10_readOne x1 a0 b0) := by
  intro a hv hf
  refine jt_eq (bq_X10_readOne_128 E d a b0) ?_
  exact jt_rV ⟨hv, hf, rfl⟩
theorem cp_X10_readOne_113 (E : jxE) (n_ : Nat) (hR : ∀ m, m + 1 = n_ → Sp_X10_readOne E m ∧ Sp_X10_readEither E m) (d : Nat) (hd : 3 * n_ + 13 ≤ (d + 1)) (x1 : Int) (a0 b0 : Nat → Nat → Int) (hv0 : iv a0) (hp0 : 0 ≤ x1) (hp1 : x1 ≤ 10) (hpn : 10 - x1 ≤ (n_ : Int)) : ∀ (a : Nat → Nat → Int), iv a → jfr jW_X10_readOne a0 a → jt (jxX E d 145 113 [some (.inr (.inr (.inl 11))), none, none, none, none] [] (jxSH, a, b0)) (jQ_X10_readOne x1 a0 b0) := by
  intro a hv hf
  refine jt_eq (bq_X10_readOne_113 E d a b0) ?_
  refine jt_bV (sp_X8_noteCannotStand E d (Nat.ble_eq_true_of_le (by omega)) a b0 hv) (fun a1_ b1_ h1_ => ?_)
  obtain ⟨hv1_, hf1_, rfl, hq1_0, hq1_1⟩ := h1_
  have h2_ := iv_get hv (k := 2) (j := 2) (l := 0) (u := 200) rfl
  have hf3_ : jfr jW_X10_readOne a0 a1_ := jfr_tr hf hf1_ rfl
  exact cp_X10_readOne_128 E n_ hR d hd x1 a0 b0 hv0 hp0 hp1 hpn a1_ hv1_ hf3_
theorem cp_X10_readOne_68 (E : jxE) (n_ : Nat) (hR : ∀ m, m + 1 = n_ → Sp_X10_readOne E m ∧ Sp_X10_readEither E m) (d : Nat) (hd : 3 * n_ + 13 ≤ (d + 1)) (x1 : Int) (a0 b0 : Nat → Nat → Int) (hv0 : iv a0) (hp0 : 0 ≤ x1) (hp1 : x1 ≤ 10) (hpn : 10 - x1 ≤ (n_ : Int)) : ∀ (y1 y2 y3 y4 : Int) (a : Nat → Nat → Int), iv a → jfr jW_X10_readOne a0 a → 0 ≤ y1 → y1 ≤ 10 → 0 ≤ y2 → y2 ≤ 200 → 0 ≤ y3 → y3 ≤ 1 → 0 ≤ y4 → y4 ≤ 1 → y1 = x1 → (y3 = 0 ∨ y3 = 1) → (y4 = 0 ∨ y4 = 1) → ((y3 = 0 ∧ y4 = 0) ∨ y1 ≤ 9) → jt (jxX E d 145 68 [some (.inr (.inr (.inl 11))), some (.inl y1), some (.inl y2), some (.inl y3), some (.inl y4)] [] (jxSH, a, b0)) (jQ_X10_readOne x1 a0 b0) := by
  intro y1 y2 y3 y4 a hv hf hi0 hi1 hi2 hi3 hi4 hi5 hi6 hi7 hi8 hi9 hi10 hi11
  refine jt_eq (bq_X10_readOne_68 E d y1 y2 y3 y4 a b0) ?_
  refine jt_ite (fun c4_ => ?_) (fun c4_ => ?_)
  ·
    refine jt_ite (fun c5_ => ?_) (fun c5_ => ?_)
    ·
      refine jt_bV (sp_X10_readAtom E d (Nat.ble_eq_true_of_le (by omega)) y2 a b0 hv) (fun a6_ b6_ h6_ => ?_)
      obtain ⟨hv6_, hf6_, rfl⟩ := h6_
      have hf7_ : jfr jW_X10_readOne a0 a6_ := jfr_tr hf hf6_ rfl
      exact cp_X10_readOne_128 E n_ hR d hd x1 a0 b0 hv0 hp0 hp1 hpn a6_ hv6_ hf7_
    ·
      have h8_ : jxw (y1 + 1) = y1 + 1 := jxw_id (by omega) (by omega)
      refine jt_bV ((hR (n_ - 1) (by omega)).2 d (by omega) (jxw (y1 + 1)) a b0 hv (show 0 ≤ jxw (y1 + 1) from by omega) (show jxw (y1 + 1) ≤ 10 from by omega) (by omega)) (fun a9_ b9_ h9_ => ?_)
      obtain ⟨hv9_, hf9_, rfl⟩ := h9_
      refine jt_bI (sp_X8_takesSign E d (Nat.ble_eq_true_of_le (by omega)) 41 a9_ b0 hv9_) (fun r10_ a10_ b10_ h10_ => ?_)
      obtain ⟨hv10_, hf10_, rfl, hq10_0, hq10_1, hq10_2, hq10_3, hq10_4⟩ := h10_
      have h11_ := iv_get hv9_ (k := 2) (j := 1) (l := 0) (u := 200) rfl
      have h12_ : a9_ 2 1 = a 2 1 := hf9_ 2 1 rfl
      have h13_ := iv_get hv (k := 2) (j := 1) (l := 0) (u := 200) rfl
      have h14_ : a 2 1 = a0 2 1 := hf 2 1 rfl
      have h15_ := iv_get hv0 (k := 2) (j := 1) (l := 0) (u := 200) rfl
      have h16_ := iv_get hv9_ (k := 2) (j := 2) (l := 0) (u := 200) rfl
      have h17_ := iv_get hv10_ (k := 2) (j := 2) (l := 0) (u := 200) rfl
      refine jt_ite (fun c18_ => ?_) (fun c18_ => ?_)
      ·
        have hf19_ : jfr jW_X10_readOne a0 a9_ := jfr_tr hf hf9_ rfl
        have hf20_ : jfr jW_X10_readOne a0 a10_ := jfr_tr hf19_ hf10_ rfl
        exact cp_X10_readOne_113 E n_ hR d hd x1 a0 b0 hv0 hp0 hp1 hpn a10_ hv10_ hf20_
      ·
        have hf21_ : jfr jW_X10_readOne a0 a9_ := jfr_tr hf hf9_ rfl
        have hf22_ : jfr jW_X10_readOne a0 a10_ := jfr_tr hf21_ hf10_ rfl
        exact cp_X10_readOne_128 E n_ hR d hd x1 a0 b0 hv0 hp0 hp1 hpn a10_ hv10_ hf22_
  ·
    have h23_ : jxw (y1 + 1) = y1 + 1 := jxw_id (by omega) (by omega)
    refine jt_bV ((hR (n_ - 1) (by omega)).1 d (by omega) (jxw (y1 + 1)) a b0 hv (show 0 ≤ jxw (y1 + 1) from by omega) (show jxw (y1 + 1) ≤ 10 from by omega) (by omega)) (fun a24_ b24_ h24_ => ?_)
    obtain ⟨hv24_, hf24_, rfl⟩ := h24_
    refine jt_bV (sp_X10_addStep E d (Nat.ble_eq_true_of_le (by omega)) 7 0 a24_ b0 hv24_) (fun a25_ b25_ h25_ => ?_)
    obtain ⟨hv25_, hf25_, rfl⟩ := h25_
    have hf26_ : jfr jW_X10_readOne a0 a24_ := jfr_tr hf hf24_ rfl
    have hf27_ : jfr jW_X10_readOne a0 a25_ := jfr_tr hf26_ hf25_ rfl
    exact cp_X10_readOne_128 E n_ hR d hd x1 a0 b0 hv0 hp0 hp1 hpn a25_ hv25_ hf27_
theorem cp_X10_readOne_50 (E : jxE) (n_ : Nat) (hR : ∀ m, m + 1 = n_ → Sp_X10_readOne E m ∧ Sp_X10_readEither E m) (d : Nat) (hd : 3 * n_ + 13 ≤ (d + 1)) (x1 : Int) (a0 b0 : Nat → Nat → Int) (hv0 : iv a0) (hp0 : 0 ≤ x1) (hp1 : x1 ≤ 10) (hpn : 10 - x1 ≤ (n_ : Int)) : ∀ (y1 y2 y3 y4 : Int) (a : Nat → Nat → Int), iv a → jfr jW_X10_readOne a0 a → 0 ≤ y1 → y1 ≤ 10 → 0 ≤ y2 → y2 ≤ 200 → 0 ≤ y3 → y3 ≤ 1 → 0 ≤ y4 → y4 ≤ 1 → y1 = x1 → (y3 = 0 ∨ y3 = 1) → (y4 = 0 ∨ y4 = 1) → jt (jxX E d 145 50 [some (.inr (.inr (.inl 11))), some (.inl y1), some (.inl y2), some (.inl y3), some (.inl y4)] [] (jxSH, a, b0)) (jQ_X10_readOne x1 a0 b0) := by
  intro y1 y2 y3 y4 a hv hf hi0 hi1 hi2 hi3 hi4 hi5 hi6 hi7 hi8 hi9 hi10
  refine jt_eq (bq_X10_readOne_50 E d y1 y2 y3 y4 a b0) ?_
  refine jt_ite (fun c28_ => ?_) (fun c28_ => ?_)
  ·
    exact cp_X10_readOne_68 E n_ hR d hd x1 a0 b0 hv0 hp0 hp1 hpn y1 y2 y3 y4 a hv hf (show 0 ≤ y1 from by omega) (show y1 ≤ 10 from by omega) (show 0 ≤ y2 from by omega) (show y2 ≤ 200 from by omega) (show 0 ≤ y3 from by omega) (show y3 ≤ 1 from by omega) (show 0 ≤ y4 from by omega) (show y4 ≤ 1 from by omega) (show y1 = x1 from by omega) (show (y3 = 0 ∨ y3 = 1) from by omega) (show (y4 = 0 ∨ y4 = 1) from by omega) (show ((y3 = 0 ∧ y4 = 0) ∨ y1 ≤ 9) from by omega)
  ·
    refine jt_bV (sp_X8_noteFault E d (Nat.ble_eq_true_of_le (by omega)) y2 3 a b0 hv) (fun a29_ b29_ h29_ => ?_)
    obtain ⟨hv29_, hf29_, rfl, hq29_0, hq29_1⟩ := h29_
    have hf30_ : jfr jW_X10_readOne a0 a29_ := jfr_tr hf hf29_ rfl
    exact cp_X10_readOne_128 E n_ hR d hd x1 a0 b0 hv0 hp0 hp1 hpn a29_ hv29_ hf30_
theorem cp_X10_readOne_39 (E : jxE) (n_ : Nat) (hR : ∀ m, m + 1 = n_ → Sp_X10_readOne E m ∧ Sp_X10_readEither E m) (d : Nat) (hd : 3 * n_ + 13 ≤ (d + 1)) (x1 : Int) (a0 b0 : Nat → Nat → Int) (hv0 : iv a0) (hp0 : 0 ≤ x1) (hp1 : x1 ≤ 10) (hpn : 10 - x1 ≤ (n_ : Int)) : ∀ (y1 y2 y3 s0 : Int) (a : Nat → Nat → Int), iv a → jfr jW_X10_readOne a0 a → 0 ≤ y1 → y1 ≤ 10 → 0 ≤ y2 → y2 ≤ 200 → 0 ≤ y3 → y3 ≤ 1 → 0 ≤ s0 → s0 ≤ 1 → y1 = x1 → (y3 = 0 ∨ y3 = 1) → (s0 = 0 ∨ s0 = 1) → jt (jxX E d 145 39 [some (.inr (.inr (.inl 11))), some (.inl y1), some (.inl y2), some (.inl y3), none] [.inl s0] (jxSH, a, b0)) (jQ_X10_readOne x1 a0 b0) := by
  intro y1 y2 y3 s0 a hv hf hi0 hi1 hi2 hi3 hi4 hi5 hi6 hi7 hi8 hi9 hi10
  refine jt_eq (bq_X10_readOne_39 E d y1 y2 y3 s0 a b0) ?_
  refine jt_ite (fun c31_ => ?_) (fun c31_ => ?_)
  ·
    refine jt_ite (fun c32_ => ?_) (fun c32_ => ?_)
    ·
      exact cp_X10_readOne_68 E n_ hR d hd x1 a0 b0 hv0 hp0 hp1 hpn y1 y2 y3 s0 a hv hf (show 0 ≤ y1 from by omega) (show y1 ≤ 10 from by omega) (show 0 ≤ y2 from by omega) (show y2 ≤ 200 from by omega) (show 0 ≤ y3 from by omega) (show y3 ≤ 1 from by omega) (show 0 ≤ s0 from by omega) (show s0 ≤ 1 from by omega) (show y1 = x1 from by omega) (show (y3 = 0 ∨ y3 = 1) from by omega) (show (s0 = 0 ∨ s0 = 1) from by omega) (show ((y3 = 0 ∧ s0 = 0) ∨ y1 ≤ 9) from by omega)
    ·
      exact cp_X10_readOne_50 E n_ hR d hd x1 a0 b0 hv0 hp0 hp1 hpn y1 y2 y3 s0 a hv hf (show 0 ≤ y1 from by omega) (show y1 ≤ 10 from by omega) (show 0 ≤ y2 from by omega) (show y2 ≤ 200 from by omega) (show 0 ≤ y3 from by omega) (show y3 ≤ 1 from by omega) (show 0 ≤ s0 from by omega) (show s0 ≤ 1 from by omega) (show y1 = x1 from by omega) (show (y3 = 0 ∨ y3 = 1) from by omega) (show (s0 = 0 ∨ s0 = 1) from by omega)
  ·
    exact cp_X10_readOne_50 E n_ hR d hd x1 a0 b0 hv0 hp0 hp1 hpn y1 y2 y3 s0 a hv hf (show 0 ≤ y1 from by omega) (show y1 ≤ 10 from by omega) (show 0 ≤ y2 from by omega) (show y2 ≤ 200 from by omega) (show 0 ≤ y3 from by omega) (show y3 ≤ 1 from by omega) (show 0 ≤ s0 from by omega) (show s0 ≤ 1 from by omega) (show y1 = x1 from by omega) (show (y3 = 0 ∨ y3 = 1) from by omega) (show (s0 = 0 ∨ s0 = 1) from by omega)
theorem cp_X10_readOne_34 (E : jxE) (n_ : Nat) (hR : ∀ m, m + 1 = n_ → Sp_X10_readOne E m ∧ Sp_X10_readEither E m) (d : Nat) (hd : 3 * n_ + 13 ≤ (d + 1)) (x1 : Int) (a0 b0 : Nat → Nat → Int) (hv0 : iv a0) (hp0 : 0 ≤ x1) (hp1 : x1 ≤ 10) (hpn : 10 - x1 ≤ (n_ : Int)) : ∀ (y1 y2 y3 : Int) (a : Nat → Nat → Int), iv a → jfr jW_X10_readOne a0 a → 0 ≤ y1 → y1 ≤ 10 → 0 ≤ y2 → y2 ≤ 200 → 0 ≤ y3 → y3 ≤ 0 → y1 = x1 → (y3 = 0 ∨ y3 = 1) → jt (jxX E d 145 34 [some (.inr (.inr (.inl 11))), some (.inl y1), some (.inl y2), some (.inl y3), none] [] (jxSH, a, b0)) (jQ_X10_readOne x1 a0 b0) := by
  intro y1 y2 y3 a hv hf hi0 hi1 hi2 hi3 hi4 hi5 hi6 hi7
  refine jt_eq (bq_X10_readOne_34 E d y1 y2 y3 a b0) ?_
  exact cp_X10_readOne_39 E n_ hR d hd x1 a0 b0 hv0 hp0 hp1 hpn y1 y2 y3 1 a hv hf (show 0 ≤ y1 from by omega) (show y1 ≤ 10 from by omega) (show 0 ≤ y2 from by omega) (show y2 ≤ 200 from by omega) (show 0 ≤ y3 from by omega) (show y3 ≤ 1 from by omega) (show 0 ≤ 1 from by omega) (show 1 ≤ 1 from by omega) (show y1 = x1 from by omega) (show (y3 = 0 ∨ y3 = 1) from by omega) (show (1 = 0 ∨ 1 = 1) from by omega)
theorem cp_X10_readOne_38 (E : jxE) (n_ : Nat) (hR : ∀ m, m + 1 = n_ → Sp_X10_readOne E m ∧ Sp_X10_readEither E m) (d : Nat) (hd : 3 * n_ + 13 ≤ (d + 1)) (x1 : Int) (a0 b0 : Nat → Nat → Int) (hv0 : iv a0) (hp0 : 0 ≤ x1) (hp1 : x1 ≤ 10) (hpn : 10 - x1 ≤ (n_ : Int)) : ∀ (y1 y2 y3 : Int) (a : Nat → Nat → Int), iv a → jfr jW_X10_readOne a0 a → 0 ≤ y1 → y1 ≤ 10 → 0 ≤ y2 → y2 ≤ 200 → 0 ≤ y3 → y3 ≤ 1 → y1 = x1 → (y3 = 0 ∨ y3 = 1) → jt (jxX E d 145 38 [some (.inr (.inr (.inl 11))), some (.inl y1), some (.inl y2), some (.inl y3), none] [] (jxSH, a, b0)) (jQ_X10_readOne x1 a0 b0) := by
  intro y1 y2 y3 a hv hf hi0 hi1 hi2 hi3 hi4 hi5 hi6 hi7
  refine jt_eq (bq_X10_readOne_38 E d y1 y2 y3 a b0) ?_
  exact cp_X10_readOne_39 E n_ hR d hd x1 a0 b0 hv0 hp0 hp1 hpn y1 y2 y3 0 a hv hf (show 0 ≤ y1 from by omega) (show y1 ≤ 10 from by omega) (show 0 ≤ y2 from by omega) (show y2 ≤ 200 from by omega) (show 0 ≤ y3 from by omega) (show y3 ≤ 1 from by omega) (show 0 ≤ 0 from by omega) (show 0 ≤ 1 from by omega) (show y1 = x1 from by omega) (show (y3 = 0 ∨ y3 = 1) from by omega) (show (0 = 0 ∨ 0 = 1) from by omega)
theorem sr_X10_readOne (E : jxE) (n_ : Nat) (hR : ∀ m, m + 1 = n_ → Sp_X10_readOne E m ∧ Sp_X10_readEither E m) : Sp_X10_readOne E n_ := by
  intro d hd x1 a0 b0 hv0 hp0 hp1 hpn
  obtain ⟨d, rfl⟩ : ∃ d2, d = d2 + 1 := ⟨d - 1, by omega⟩
  refine jt_eq (bq_X10_readOne E d x1 a0 b0) ?_
  refine jt_eI (eq_X8_place E d (Nat.ble_eq_true_of_le (by omega)) a0 b0) ?_
  refine jt_bI (sp_X8_takesWord_r1000 E d (Nat.ble_eq_true_of_le (by omega)) a0 b0 hv0) (fun r33_ a33_ b33_ h33_ => ?_)
  obtain ⟨hv33_, hf33_, rfl, hq33_0, hq33_1, hq33_2, hq33_3, hq33_4⟩ := h33_
  have h34_ := iv_get hv0 (k := 2) (j := 1) (l := 0) (u := 200) rfl
  have h35_ := iv_get hv0 (k := 2) (j := 2) (l := 0) (u := 200) rfl
  have h36_ := iv_get hv33_ (k := 2) (j := 2) (l := 0) (u := 200) rfl
  refine jt_ite (fun c37_ => ?_) (fun c37_ => ?_)
  ·
    refine jt_bI (sp_X8_takesSign E d (Nat.ble_eq_true_of_le (by omega)) 40 a33_ b0 hv33_) (fun r38_ a38_ b38_ h38_ => ?_)
    obtain ⟨hv38_, hf38_, rfl, hq38_0, hq38_1, hq38_2, hq38_3, hq38_4⟩ := h38_
    have h39_ : a33_ 2 3 = a0 2 3 := hf33_ 2 3 rfl
    have h40_ := iv_get hv33_ (k := 2) (j := 1) (l := 0) (u := 200) rfl
    have h41_ : a33_ 2 1 = a0 2 1 := hf33_ 2 1 rfl
    have h42_ := iv_get hv38_ (k := 2) (j := 2) (l := 0) (u := 200) rfl
    refine jt_ite (fun c43_ => ?_) (fun c43_ => ?_)
    ·
      have hf44_ : jfr jW_X10_readOne a0 a33_ := jfr_tr (jfr_rf _ _) hf33_ rfl
      have hf45_ : jfr jW_X10_readOne a0 a38_ := jfr_tr hf44_ hf38_ rfl
      have h46_ := f_X8_place_eq a0 b0
      exact cp_X10_readOne_38 E n_ hR d hd x1 a0 b0 hv0 hp0 hp1 hpn x1 (f_X8_place a0 b0) r33_ a38_ hv38_ hf45_ (show 0 ≤ x1 from by omega) (show x1 ≤ 10 from by omega) (show 0 ≤ f_X8_place a0 b0 from by omega) (show f_X8_place a0 b0 ≤ 200 from by omega) (show 0 ≤ r33_ from by omega) (show r33_ ≤ 1 from by omega) (show x1 = x1 from by omega) (show (r33_ = 0 ∨ r33_ = 1) from by omega)
    ·
      have hf47_ : jfr jW_X10_readOne a0 a33_ := jfr_tr (jfr_rf _ _) hf33_ rfl
      have hf48_ : jfr jW_X10_readOne a0 a38_ := jfr_tr hf47_ hf38_ rfl
      have h49_ := f_X8_place_eq a0 b0
      exact cp_X10_readOne_34 E n_ hR d hd x1 a0 b0 hv0 hp0 hp1 hpn x1 (f_X8_place a0 b0) r33_ a38_ hv38_ hf48_ (show 0 ≤ x1 from by omega) (show x1 ≤ 10 from by omega) (show 0 ≤ f_X8_place a0 b0 from by omega) (show f_X8_place a0 b0 ≤ 200 from by omega) (show 0 ≤ r33_ from by omega) (show r33_ ≤ 0 from by omega) (show x1 = x1 from by omega) (show (r33_ = 0 ∨ r33_ = 1) from by omega)
  ·
    have hf50_ : jfr jW_X10_readOne a0 a33_ := jfr_tr (jfr_rf _ _) hf33_ rfl
    have h51_ := f_X8_place_eq a0 b0
    exact cp_X10_readOne_38 E n_ hR d hd x1 a0 b0 hv0 hp0 hp1 hpn x1 (f_X8_place a0 b0) r33_ a33_ hv33_ hf50_ (show 0 ≤ x1 from by omega) (show x1 ≤ 10 from by omega) (show 0 ≤ f_X8_place a0 b0 from by omega) (show f_X8_place a0 b0 ≤ 200 from by omega) (show 0 ≤ r33_ from by omega) (show r33_ ≤ 1 from by omega) (show x1 = x1 from by omega) (show (r33_ = 0 ∨ r33_ = 1) from by omega)
theorem cp_X10_readBoth_7 (E : jxE) (n_ : Nat) (hOne : Sp_X10_readOne E n_) (d : Nat) (hd : 3 * n_ + 14 ≤ (d + 1)) (x1 : Int) (a0 b0 : Nat → Nat → Int) (hv0 : iv a0) (hp0 : 0 ≤ x1) (hp1 : x1 ≤ 10) (hpn : 10 - x1 ≤ (n_ : Int)) : ∀ n : Nat, (∀ (y1 y2 : Int) (a : Nat → Nat → Int), (((100 - y2) * 1) + 0).toNat ≤ n → iv a → jfr jW_X10_readBoth a0 a → 0 ≤ y1 → y1 ≤ 10 → 0 ≤ y2 → y2 ≤ 99 → y1 = x1 → jt (jxX E d 144 37 [some (.inr (.inr (.inl 11))), some (.inl y1), some (.inl y2)] [] (jxSH, a, b0)) (jQ_X10_readBoth x1 a0 b0)) ∧ (∀ (y1 y2 : Int) (a : Nat → Nat → Int), (((100 - y2) * 1) + 0).toNat ≤ n → iv a → jfr jW_X10_readBoth a0 a → 0 ≤ y1 → y1 ≤ 10 → 0 ≤ y2 → y2 ≤ 100 → y1 = x1 → jt (jxX E d 144 7 [some (.inr (.inr (.inl 11))), some (.inl y1), some (.inl y2)] [] (jxSH, a, b0)) (jQ_X10_readBoth x1 a0 b0)) := by
  refine jx_ind fun n ih => ?_
  have ih37 : ∀ (y1 y2 : Int) (a : Nat → Nat → Int), (((100 - y2) * 1) + 0).toNat < n → iv a → jfr jW_X10_readBoth a0 a → 0 ≤ y1 → y1 ≤ 10 → 0 ≤ y2 → y2 ≤ 99 → y1 = x1 → jt (jxX E d 144 37 [some (.inr (.inr (.inl 11))), some (.inl y1), some (.inl y2)] [] (jxSH, a, b0)) (jQ_X10_readBoth x1 a0 b0) := fun y1 y2 a hlt i0 i1 i2 i3 i4 i5 i6 => (ih _ hlt).1 y1 y2 a (Nat.le_refl _) i0 i1 i2 i3 i4 i5 i6
  have ih7 : ∀ (y1 y2 : Int) (a : Nat → Nat → Int), (((100 - y2) * 1) + 0).toNat < n → iv a → jfr jW_X10_readBoth a0 a → 0 ≤ y1 → y1 ≤ 10 → 0 ≤ y2 → y2 ≤ 100 → y1 = x1 → jt (jxX E d 144 7 [some (.inr (.inr (.inl 11))), some (.inl y1), some (.inl y2)] [] (jxSH, a, b0)) (jQ_X10_readBoth x1 a0 b0) := fun y1 y2 a hlt i0 i1 i2 i3 i4 i5 i6 => (ih _ hlt).2 y1 y2 a (Nat.le_refl _) i0 i1 i2 i3 i4 i5 i6
  have hc37 : ∀ (y1 y2 : Int) (a : Nat → Nat → Int), (((100 - y2) * 1) + 0).toNat ≤ n → iv a → jfr jW_X10_readBoth a0 a → 0 ≤ y1 → y1 ≤ 10 → 0 ≤ y2 → y2 ≤ 99 → y1 = x1 → jt (jxX E d 144 37 [some (.inr (.inr (.inl 11))), some (.inl y1), some (.inl y2)] [] (jxSH, a, b0)) (jQ_X10_readBoth x1 a0 b0) := by
    intro y1 y2 a hm hv hf hi0 hi1 hi2 hi3 hi4
    refine jt_eq (bq_X10_readBoth_37 E d y1 y2 a b0) ?_
    have h52_ : jxw (y2 + 1) = y2 + 1 := jxw_id (by omega) (by omega)
    exact ih7 y1 (jxw (y2 + 1)) a (show (((100 - (jxw (y2 + 1))) * 1) + 0).toNat < n from by omega) hv hf (show 0 ≤ y1 from by omega) (show y1 ≤ 10 from by omega) (show 0 ≤ jxw (y2 + 1) from by omega) (show jxw (y2 + 1) ≤ 100 from by omega) (show y1 = x1 from by omega)
  have hc7 : ∀ (y1 y2 : Int) (a : Nat → Nat → Int), (((100 - y2) * 1) + 0).toNat ≤ n → iv a → jfr jW_X10_readBoth a0 a → 0 ≤ y1 → y1 ≤ 10 → 0 ≤ y2 → y2 ≤ 100 → y1 = x1 → jt (jxX E d 144 7 [some (.inr (.inr (.inl 11))), some (.inl y1), some (.inl y2)] [] (jxSH, a, b0)) (jQ_X10_readBoth x1 a0 b0) := by
    intro y1 y2 a hm hv hf hi0 hi1 hi2 hi3 hi4
    refine jt_eq (bq_X10_readBoth_7 E d y1 y2 a b0) ?_
    refine jt_ite (fun c53_ => ?_) (fun c53_ => ?_)
    ·
      refine jt_bI (sp_X8_takesWord_r1008 E d (Nat.ble_eq_true_of_le (by omega)) a b0 hv) (fun r54_ a54_ b54_ h54_ => ?_)
      obtain ⟨hv54_, hf54_, rfl, hq54_0, hq54_1, hq54_2, hq54_3, hq54_4⟩ := h54_
      have h55_ := iv_get hv (k := 2) (j := 1) (l := 0) (u := 200) rfl
      have h56_ : a 2 1 = a0 2 1 := hf 2 1 rfl
      have h57_ := iv_get hv0 (k := 2) (j := 1) (l := 0) (u := 200) rfl
      have h58_ := iv_get hv (k := 2) (j := 2) (l := 0) (u := 200) rfl
      have h59_ := iv_get hv54_ (k := 2) (j := 2) (l := 0) (u := 200) rfl
      refine jt_ite (fun c60_ => ?_) (fun c60_ => ?_)
      ·
        have hf61_ : jfr jW_X10_readBoth a0 a54_ := jfr_tr hf hf54_ rfl
        exact jt_rV ⟨hv54_, hf61_, rfl⟩
      ·
        refine jt_bV (hOne d (by omega) y1 a54_ b0 hv54_ (show 0 ≤ y1 from by omega) (show y1 ≤ 10 from by omega) (by omega)) (fun a62_ b62_ h62_ => ?_)
        obtain ⟨hv62_, hf62_, rfl⟩ := h62_
        refine jt_bV (sp_X10_addStep E d (Nat.ble_eq_true_of_le (by omega)) 8 0 a62_ b0 hv62_) (fun a63_ b63_ h63_ => ?_)
        obtain ⟨hv63_, hf63_, rfl⟩ := h63_
        have hf64_ : jfr jW_X10_readBoth a0 a54_ := jfr_tr hf hf54_ rfl
        have hf65_ : jfr jW_X10_readBoth a0 a62_ := jfr_tr hf64_ hf62_ rfl
        have hf66_ : jfr jW_X10_readBoth a0 a63_ := jfr_tr hf65_ hf63_ rfl
        exact hc37 y1 y2 a63_ (show (((100 - y2) * 1) + 0).toNat ≤ n from by omega) hv63_ hf66_ (show 0 ≤ y1 from by omega) (show y1 ≤ 10 from by omega) (show 0 ≤ y2 from by omega) (show y2 ≤ 99 from by omega) (show y1 = x1 from by omega)
    ·
      exact jt_rV ⟨hv, hf, rfl⟩
  exact ⟨hc37, hc7⟩
theorem sr_X10_readBoth (E : jxE) (n_ : Nat) (hOne : Sp_X10_readOne E n_) : Sp_X10_readBoth E n_ := by
  intro d hd x1 a0 b0 hv0 hp0 hp1 hpn
  obtain ⟨d, rfl⟩ : ∃ d2, d = d2 + 1 := ⟨d - 1, by omega⟩
  refine jt_eq (bq_X10_readBoth E d x1 a0 b0) ?_
  refine jt_bV (hOne d (by omega) x1 a0 b0 hv0 (show 0 ≤ x1 from by omega) (show x1 ≤ 10 from by omega) (by omega)) (fun a67_ b67_ h67_ => ?_)
  obtain ⟨hv67_, hf67_, rfl⟩ := h67_
  have hf68_ : jfr jW_X10_readBoth a0 a67_ := jfr_tr (jfr_rf _ _) hf67_ rfl
  exact (cp_X10_readBoth_7 E n_ hOne d hd x1 a0 b0 hv0 hp0 hp1 hpn _).2 x1 0 a67_ (Nat.le_refl _) hv67_ hf68_ (show 0 ≤ x1 from by omega) (show x1 ≤ 10 from by omega) (show 0 ≤ 0 from by omega) (show 0 ≤ 100 from by omega) (show x1 = x1 from by omega)
theorem cp_X10_readEither_7 (E : jxE) (n_ : Nat) (hBoth : Sp_X10_readBoth E n_) (d : Nat) (hd : 3 * n_ + 15 ≤ (d + 1)) (x1 : Int) (a0 b0 : Nat → Nat → Int) (hv0 : iv a0) (hp0 : 0 ≤ x1) (hp1 : x1 ≤ 10) (hpn : 10 - x1 ≤ (n_ : Int)) : ∀ n : Nat, (∀ (y1 y2 : Int) (a : Nat → Nat → Int), (((100 - y2) * 1) + 0).toNat ≤ n → iv a → jfr jW_X10_readEither a0 a → 0 ≤ y1 → y1 ≤ 10 → 0 ≤ y2 → y2 ≤ 99 → y1 = x1 → jt (jxX E d 143 37 [some (.inr (.inr (.inl 11))), some (.inl y1), some (.inl y2)] [] (jxSH, a, b0)) (jQ_X10_readEither x1 a0 b0)) ∧ (∀ (y1 y2 : Int) (a : Nat → Nat → Int), (((100 - y2) * 1) + 0).toNat ≤ n → iv a → jfr jW_X10_readEither a0 a → 0 ≤ y1 → y1 ≤ 10 → 0 ≤ y2 → y2 ≤ 100 → y1 = x1 → jt (jxX E d 143 7 [some (.inr (.inr (.inl 11))), some (.inl y1), some (.inl y2)] [] (jxSH, a, b0)) (jQ_X10_readEither x1 a0 b0)) := by
  refine jx_ind fun n ih => ?_
  have ih37 : ∀ (y1 y2 : Int) (a : Nat → Nat → Int), (((100 - y2) * 1) + 0).toNat < n → iv a → jfr jW_X10_readEither a0 a → 0 ≤ y1 → y1 ≤ 10 → 0 ≤ y2 → y2 ≤ 99 → y1 = x1 → jt (jxX E d 143 37 [some (.inr (.inr (.inl 11))), some (.inl y1), some (.inl y2)] [] (jxSH, a, b0)) (jQ_X10_readEither x1 a0 b0) := fun y1 y2 a hlt i0 i1 i2 i3 i4 i5 i6 => (ih _ hlt).1 y1 y2 a (Nat.le_refl _) i0 i1 i2 i3 i4 i5 i6
  have ih7 : ∀ (y1 y2 : Int) (a : Nat → Nat → Int), (((100 - y2) * 1) + 0).toNat < n → iv a → jfr jW_X10_readEither a0 a → 0 ≤ y1 → y1 ≤ 10 → 0 ≤ y2 → y2 ≤ 100 → y1 = x1 → jt (jxX E d 143 7 [some (.inr (.inr (.inl 11))), some (.inl y1), some (.inl y2)] [] (jxSH, a, b0)) (jQ_X10_readEither x1 a0 b0) := fun y1 y2 a hlt i0 i1 i2 i3 i4 i5 i6 => (ih _ hlt).2 y1 y2 a (Nat.le_refl _) i0 i1 i2 i3 i4 i5 i6
  have hc37 : ∀ (y1 y2 : Int) (a : Nat → Nat → Int), (((100 - y2) * 1) + 0).toNat ≤ n → iv a → jfr jW_X10_readEither a0 a → 0 ≤ y1 → y1 ≤ 10 → 0 ≤ y2 → y2 ≤ 99 → y1 = x1 → jt (jxX E d 143 37 [some (.inr (.inr (.inl 11))), some (.inl y1), some (.inl y2)] [] (jxSH, a, b0)) (jQ_X10_readEither x1 a0 b0) := by
    intro y1 y2 a hm hv hf hi0 hi1 hi2 hi3 hi4
    refine jt_eq (bq_X10_readEither_37 E d y1 y2 a b0) ?_
    have h69_ : jxw (y2 + 1) = y2 + 1 := jxw_id (by omega) (by omega)
    exact ih7 y1 (jxw (y2 + 1)) a (show (((100 - (jxw (y2 + 1))) * 1) + 0).toNat < n from by omega) hv hf (show 0 ≤ y1 from by omega) (show y1 ≤ 10 from by omega) (show 0 ≤ jxw (y2 + 1) from by omega) (show jxw (y2 + 1) ≤ 100 from by omega) (show y1 = x1 from by omega)
  have hc7 : ∀ (y1 y2 : Int) (a : Nat → Nat → Int), (((100 - y2) * 1) + 0).toNat ≤ n → iv a → jfr jW_X10_readEither a0 a → 0 ≤ y1 → y1 ≤ 10 → 0 ≤ y2 → y2 ≤ 100 → y1 = x1 → jt (jxX E d 143 7 [some (.inr (.inr (.inl 11))), some (.inl y1), some (.inl y2)] [] (jxSH, a, b0)) (jQ_X10_readEither x1 a0 b0) := by
    intro y1 y2 a hm hv hf hi0 hi1 hi2 hi3 hi4
    refine jt_eq (bq_X10_readEither_7 E d y1 y2 a b0) ?_
    refine jt_ite (fun c70_ => ?_) (fun c70_ => ?_)
    ·
      refine jt_bI (sp_X8_takesWord_r1009 E d (Nat.ble_eq_true_of_le (by omega)) a b0 hv) (fun r71_ a71_ b71_ h71_ => ?_)
      obtain ⟨hv71_, hf71_, rfl, hq71_0, hq71_1, hq71_2, hq71_3, hq71_4⟩ := h71_
      have h72_ := iv_get hv (k := 2) (j := 1) (l := 0) (u := 200) rfl
      have h73_ : a 2 1 = a0 2 1 := hf 2 1 rfl
      have h74_ := iv_get hv0 (k := 2) (j := 1) (l := 0) (u := 200) rfl
      have h75_ := iv_get hv (k := 2) (j := 2) (l := 0) (u := 200) rfl
      have h76_ := iv_get hv71_ (k := 2) (j := 2) (l := 0) (u := 200) rfl
      refine jt_ite (fun c77_ => ?_) (fun c77_ => ?_)
      ·
        have hf78_ : jfr jW_X10_readEither a0 a71_ := jfr_tr hf hf71_ rfl
        exact jt_rV ⟨hv71_, hf78_, rfl⟩
      ·
        refine jt_bV (hBoth d (by omega) y1 a71_ b0 hv71_ (show 0 ≤ y1 from by omega) (show y1 ≤ 10 from by omega) (by omega)) (fun a79_ b79_ h79_ => ?_)
        obtain ⟨hv79_, hf79_, rfl⟩ := h79_
        refine jt_bV (sp_X10_addStep E d (Nat.ble_eq_true_of_le (by omega)) 9 0 a79_ b0 hv79_) (fun a80_ b80_ h80_ => ?_)
        obtain ⟨hv80_, hf80_, rfl⟩ := h80_
        have hf81_ : jfr jW_X10_readEither a0 a71_ := jfr_tr hf hf71_ rfl
        have hf82_ : jfr jW_X10_readEither a0 a79_ := jfr_tr hf81_ hf79_ rfl
        have hf83_ : jfr jW_X10_readEither a0 a80_ := jfr_tr hf82_ hf80_ rfl
        exact hc37 y1 y2 a80_ (show (((100 - y2) * 1) + 0).toNat ≤ n from by omega) hv80_ hf83_ (show 0 ≤ y1 from by omega) (show y1 ≤ 10 from by omega) (show 0 ≤ y2 from by omega) (show y2 ≤ 99 from by omega) (show y1 = x1 from by omega)
    ·
      exact jt_rV ⟨hv, hf, rfl⟩
  exact ⟨hc37, hc7⟩
theorem sr_X10_readEither (E : jxE) (n_ : Nat) (hBoth : Sp_X10_readBoth E n_) : Sp_X10_readEither E n_ := by
  intro d hd x1 a0 b0 hv0 hp0 hp1 hpn
  obtain ⟨d, rfl⟩ : ∃ d2, d = d2 + 1 := ⟨d - 1, by omega⟩
  refine jt_eq (bq_X10_readEither E d x1 a0 b0) ?_
  refine jt_bV (hBoth d (by omega) x1 a0 b0 hv0 (show 0 ≤ x1 from by omega) (show x1 ≤ 10 from by omega) (by omega)) (fun a84_ b84_ h84_ => ?_)
  obtain ⟨hv84_, hf84_, rfl⟩ := h84_
  have hf85_ : jfr jW_X10_readEither a0 a84_ := jfr_tr (jfr_rf _ _) hf84_ rfl
  exact (cp_X10_readEither_7 E n_ hBoth d hd x1 a0 b0 hv0 hp0 hp1 hpn _).2 x1 0 a84_ (Nat.le_refl _) hv84_ hf85_ (show 0 ≤ x1 from by omega) (show x1 ≤ 10 from by omega) (show 0 ≤ 0 from by omega) (show 0 ≤ 100 from by omega) (show x1 = x1 from by omega)
theorem cp_X5_markFrom_55 (E : jxE) (n_ : Nat) (hR : ∀ m, m + 1 = n_ → Sp_X5_markFrom E m) (d : Nat) (hd : n_ + 5 ≤ (d + 1)) (x1 x2 x3 x4 x5 : Int) (a0 b0 : Nat → Nat → Int) (hv0 : iv a0) (hp0 : 0 ≤ x1) (hp1 : x1 ≤ 11) (hp2 : 0 ≤ x2) (hp3 : x2 ≤ 11) (hp4 : 0 ≤ x3) (hp5 : x3 ≤ 4095) (hp6 : 1 ≤ x5) (hp7 : x5 ≤ 5) (hpn : 5 - x5 ≤ (n_ : Int)) : ∀ n : Nat, (∀ (y1 y2 y3 y4 y5 y6 : Int) (a b : Nat → Nat → Int), (((12 - y6) * 1) + 0).toNat ≤ n → iv a → jfr jW_X5_markFrom a0 a → 0 ≤ y1 → y1 ≤ 11 → 0 ≤ y2 → y2 ≤ 11 → 0 ≤ y3 → y3 ≤ 4095 → 1 ≤ y5 → y5 ≤ 4 → 1 ≤ y6 → y6 ≤ 11 → 2 ≤ a 90 3 → y5 = x5 → y1 = x1 → jt (jxX E d 87 111 [some (.inr (.inr (.inl 90))), some (.inl y1), some (.inl y2), some (.inl y3), some (.inl y4), some (.inl y5), some (.inl y6)] [] (jxSH, a, b)) (jQ_X5_markFrom x1 x2 x3 x4 x5 a0 b0)) ∧ (∀ (y1 y2 y3 y4 y5 y6 : Int) (a b : Nat → Nat → Int), (((12 - y6) * 1) + 0).toNat ≤ n → iv a → jfr jW_X5_markFrom a0 a → 0 ≤ y1 → y1 ≤ 11 → 0 ≤ y2 → y2 ≤ 11 → 0 ≤ y3 → y3 ≤ 4095 → 1 ≤ y5 → y5 ≤ 4 → 1 ≤ y6 → y6 ≤ 11 → 2 ≤ a 90 3 → y5 = x5 → y1 = x1 → jt (jxX E d 87 84 [some (.inr (.inr (.inl 90))), some (.inl y1), some (.inl y2), some (.inl y3), some (.inl y4), some (.inl y5), some (.inl y6)] [] (jxSH, a, b)) (jQ_X5_markFrom x1 x2 x3 x4 x5 a0 b0)) ∧ (∀ (y1 y2 y3 y4 y5 y6 : Int) (a b : Nat → Nat → Int), (((12 - y6) * 1) + 0).toNat ≤ n → iv a → jfr jW_X5_markFrom a0 a → 0 ≤ y1 → y1 ≤ 11 → 0 ≤ y2 → y2 ≤ 11 → 0 ≤ y3 → y3 ≤ 4095 → 1 ≤ y5 → y5 ≤ 4 → 1 ≤ y6 → y6 ≤ 12 → y5 = x5 → y1 = x1 → jt (jxX E d 87 55 [some (.inr (.inr (.inl 90))), some (.inl y1), some (.inl y2), some (.inl y3), some (.inl y4), some (.inl y5), some (.inl y6)] [] (jxSH, a, b)) (jQ_X5_markFrom x1 x2 x3 x4 x5 a0 b0)) := by
  refine jx_ind fun n ih => ?_
  have ih111 : ∀ (y1 y2 y3 y4 y5 y6 : Int) (a b : Nat → Nat → Int), (((12 - y6) * 1) + 0).toNat < n → iv a → jfr jW_X5_markFrom a0 a → 0 ≤ y1 → y1 ≤ 11 → 0 ≤ y2 → y2 ≤ 11 → 0 ≤ y3 → y3 ≤ 4095 → 1 ≤ y5 → y5 ≤ 4 → 1 ≤ y6 → y6 ≤ 11 → 2 ≤ a 90 3 → y5 = x5 → y1 = x1 → jt (jxX E d 87 111 [some (.inr (.inr (.inl 90))), some (.inl y1), some (.inl y2), some (.inl y3), some (.inl y4), some (.inl y5), some (.inl y6)] [] (jxSH, a, b)) (jQ_X5_markFrom x1 x2 x3 x4 x5 a0 b0) := fun y1 y2 y3 y4 y5 y6 a b hlt i0 i1 i2 i3 i4 i5 i6 i7 i8 i9 i10 i11 i12 i13 i14 => (ih _ hlt).1 y1 y2 y3 y4 y5 y6 a b (Nat.le_refl _) i0 i1 i2 i3 i4 i5 i6 i7 i8 i9 i10 i11 i12 i13 i14
  have ih84 : ∀ (y1 y2 y3 y4 y5 y6 : Int) (a b : Nat → Nat → Int), (((12 - y6) * 1) + 0).toNat < n → iv a → jfr jW_X5_markFrom a0 a → 0 ≤ y1 → y1 ≤ 11 → 0 ≤ y2 → y2 ≤ 11 → 0 ≤ y3 → y3 ≤ 4095 → 1 ≤ y5 → y5 ≤ 4 → 1 ≤ y6 → y6 ≤ 11 → 2 ≤ a 90 3 → y5 = x5 → y1 = x1 → jt (jxX E d 87 84 [some (.inr (.inr (.inl 90))), some (.inl y1), some (.inl y2), some (.inl y3), some (.inl y4), some (.inl y5), some (.inl y6)] [] (jxSH, a, b)) (jQ_X5_markFrom x1 x2 x3 x4 x5 a0 b0) := fun y1 y2 y3 y4 y5 y6 a b hlt i0 i1 i2 i3 i4 i5 i6 i7 i8 i9 i10 i11 i12 i13 i14 => (ih _ hlt).2.1 y1 y2 y3 y4 y5 y6 a b (Nat.le_refl _) i0 i1 i2 i3 i4 i5 i6 i7 i8 i9 i10 i11 i12 i13 i14
  have ih55 : ∀ (y1 y2 y3 y4 y5 y6 : Int) (a b : Nat → Nat → Int), (((12 - y6) * 1) + 0).toNat < n → iv a → jfr jW_X5_markFrom a0 a → 0 ≤ y1 → y1 ≤ 11 → 0 ≤ y2 → y2 ≤ 11 → 0 ≤ y3 → y3 ≤ 4095 → 1 ≤ y5 → y5 ≤ 4 → 1 ≤ y6 → y6 ≤ 12 → y5 = x5 → y1 = x1 → jt (jxX E d 87 55 [some (.inr (.inr (.inl 90))), some (.inl y1), some (.inl y2), some (.inl y3), some (.inl y4), some (.inl y5), some (.inl y6)] [] (jxSH, a, b)) (jQ_X5_markFrom x1 x2 x3 x4 x5 a0 b0) := fun y1 y2 y3 y4 y5 y6 a b hlt i0 i1 i2 i3 i4 i5 i6 i7 i8 i9 i10 i11 i12 i13 => (ih _ hlt).2.2 y1 y2 y3 y4 y5 y6 a b (Nat.le_refl _) i0 i1 i2 i3 i4 i5 i6 i7 i8 i9 i10 i11 i12 i13
  have hc111 : ∀ (y1 y2 y3 y4 y5 y6 : Int) (a b : Nat → Nat → Int), (((12 - y6) * 1) + 0).toNat ≤ n → iv a → jfr jW_X5_markFrom a0 a → 0 ≤ y1 → y1 ≤ 11 → 0 ≤ y2 → y2 ≤ 11 → 0 ≤ y3 → y3 ≤ 4095 → 1 ≤ y5 → y5 ≤ 4 → 1 ≤ y6 → y6 ≤ 11 → 2 ≤ a 90 3 → y5 = x5 → y1 = x1 → jt (jxX E d 87 111 [some (.inr (.inr (.inl 90))), some (.inl y1), some (.inl y2), some (.inl y3), some (.inl y4), some (.inl y5), some (.inl y6)] [] (jxSH, a, b)) (jQ_X5_markFrom x1 x2 x3 x4 x5 a0 b0) := by
    intro y1 y2 y3 y4 y5 y6 a b hm hv hf hi0 hi1 hi2 hi3 hi4 hi5 hi6 hi7 hi8 hi9 hi10 hi11 hi12
    refine jt_eq (bq_X5_markFrom_111 E d y1 y2 y3 y4 y5 y6 a b) ?_
    have h86_ := iv_get hv (k := 90) (j := 3) (l := 0) (u := 12) rfl
    have h87_ : a 90 3 = a0 90 3 := hf 90 3 rfl
    have h88_ := iv_get hv0 (k := 90) (j := 3) (l := 0) (u := 12) rfl
    have h89_ : jxw (y6 + 1) = y6 + 1 := jxw_id (by omega) (by omega)
    exact ih55 y1 y2 y3 y4 y5 (jxw (y6 + 1)) a b (show (((12 - (jxw (y6 + 1))) * 1) + 0).toNat < n from by omega) hv hf (show 0 ≤ y1 from by omega) (show y1 ≤ 11 from by omega) (show 0 ≤ y2 from by omega) (show y2 ≤ 11 from by omega) (show 0 ≤ y3 from by omega) (show y3 ≤ 4095 from by omega) (show 1 ≤ y5 from by omega) (show y5 ≤ 4 from by omega) (show 1 ≤ jxw (y6 + 1) from by omega) (show jxw (y6 + 1) ≤ 12 from by omega) (show y5 = x5 from by omega) (show y1 = x1 from by omega)
  have hc84 : ∀ (y1 y2 y3 y4 y5 y6 : Int) (a b : Nat → Nat → Int), (((12 - y6) * 1) + 0).toNat ≤ n → iv a → jfr jW_X5_markFrom a0 a → 0 ≤ y1 → y1 ≤ 11 → 0 ≤ y2 → y2 ≤ 11 → 0 ≤ y3 → y3 ≤ 4095 → 1 ≤ y5 → y5 ≤ 4 → 1 ≤ y6 → y6 ≤ 11 → 2 ≤ a 90 3 → y5 = x5 → y1 = x1 → jt (jxX E d 87 84 [some (.inr (.inr (.inl 90))), some (.inl y1), some (.inl y2), some (.inl y3), some (.inl y4), some (.inl y5), some (.inl y6)] [] (jxSH, a, b)) (jQ_X5_markFrom x1 x2 x3 x4 x5 a0 b0) := by
    intro y1 y2 y3 y4 y5 y6 a b hm hv hf hi0 hi1 hi2 hi3 hi4 hi5 hi6 hi7 hi8 hi9 hi10 hi11 hi12
    refine jt_eq (bq_X5_markFrom_84 E d y1 y2 y3 y4 y5 y6 a b) ?_
    have h90_ := iv_get hv (k := 90) (j := 3) (l := 0) (u := 12) rfl
    have h91_ : a 90 3 = a0 90 3 := hf 90 3 rfl
    have h92_ := iv_get hv0 (k := 90) (j := 3) (l := 0) (u := 12) rfl
    refine jt_grd (by omega) ?_
    have h93_ := jxshl1_b y6
    have h94_ := jxor_b y3 (jxshl 1 y6)
    have h95_ : jxw (y5 + 1) = y5 + 1 := jxw_id (by omega) (by omega)
    refine jt_bV ((hR (n_ - 1) (by omega)) d (by omega) y1 y6 (jxor y3 (jxshl 1 y6)) (jxor y4 (a 93 (y6.toNat))) (jxw (y5 + 1)) a b hv (show 0 ≤ y1 from by omega) (show y1 ≤ 11 from by omega) (show 0 ≤ y6 from by omega) (show y6 ≤ 11 from by omega) (show 0 ≤ jxor y3 (jxshl 1 y6) from by omega) (show jxor y3 (jxshl 1 y6) ≤ 4095 from by omega) (show 1 ≤ jxw (y5 + 1) from by omega) (show jxw (y5 + 1) ≤ 5 from by omega) (by omega)) (fun a96_ b96_ h96_ => ?_)
    obtain ⟨hv96_, hf96_⟩ := h96_
    have hf97_ : jfr jW_X5_markFrom a0 a96_ := jfr_tr hf hf96_ rfl
    have h98_ := iv_get hv96_ (k := 90) (j := 3) (l := 0) (u := 12) rfl
    have h99_ : a96_ 90 3 = a 90 3 := hf96_ 90 3 rfl
    exact hc111 y1 y2 y3 y4 y5 y6 a96_ b96_ (show (((12 - y6) * 1) + 0).toNat ≤ n from by omega) hv96_ hf97_ (show 0 ≤ y1 from by omega) (show y1 ≤ 11 from by omega) (show 0 ≤ y2 from by omega) (show y2 ≤ 11 from by omega) (show 0 ≤ y3 from by omega) (show y3 ≤ 4095 from by omega) (show 1 ≤ y5 from by omega) (show y5 ≤ 4 from by omega) (show 1 ≤ y6 from by omega) (show y6 ≤ 11 from by omega) (show 2 ≤ a96_ 90 3 from by omega) (show y5 = x5 from by omega) (show y1 = x1 from by omega)
  have hc55 : ∀ (y1 y2 y3 y4 y5 y6 : Int) (a b : Nat → Nat → Int), (((12 - y6) * 1) + 0).toNat ≤ n → iv a → jfr jW_X5_markFrom a0 a → 0 ≤ y1 → y1 ≤ 11 → 0 ≤ y2 → y2 ≤ 11 → 0 ≤ y3 → y3 ≤ 4095 → 1 ≤ y5 → y5 ≤ 4 → 1 ≤ y6 → y6 ≤ 12 → y5 = x5 → y1 = x1 → jt (jxX E d 87 55 [some (.inr (.inr (.inl 90))), some (.inl y1), some (.inl y2), some (.inl y3), some (.inl y4), some (.inl y5), some (.inl y6)] [] (jxSH, a, b)) (jQ_X5_markFrom x1 x2 x3 x4 x5 a0 b0) := by
    intro y1 y2 y3 y4 y5 y6 a b hm hv hf hi0 hi1 hi2 hi3 hi4 hi5 hi6 hi7 hi8 hi9 hi10 hi11
    refine jt_eq (bq_X5_markFrom_55 E d y1 y2 y3 y4 y5 y6 a b) ?_
    have h100_ := iv_get hv (k := 90) (j := 3) (l := 0) (u := 12) rfl
    have h101_ : a 90 3 = a0 90 3 := hf 90 3 rfl
    have h102_ := iv_get hv0 (k := 90) (j := 3) (l := 0) (u := 12) rfl
    refine jt_ite (fun c103_ => ?_) (fun c103_ => ?_)
    ·
      refine jt_eI (eq_X5_mayFollow E d (Nat.ble_eq_true_of_le (by omega)) y2 y6 a b (show (0 ≤ y2 ∧ y2 < 12) from by omega)) ?_
      have h104_ := f_X5_mayFollow_eq a b y2 y6
      have h105_ : a 92 (y2.toNat) = a0 92 (y2.toNat) := hf 92 (y2.toNat) rfl
      have h106_ := jxshr_b (a 92 (y2.toNat)) y6
      have h107_ := jxand_r (jxshr (a 92 (y2.toNat)) y6) 1 (by decide) (by decide)
      refine jt_ite (fun c108_ => ?_) (fun c108_ => ?_)
      ·
        exact hc111 y1 y2 y3 y4 y5 y6 a b (show (((12 - y6) * 1) + 0).toNat ≤ n from by omega) hv hf (show 0 ≤ y1 from by omega) (show y1 ≤ 11 from by omega) (show 0 ≤ y2 from by omega) (show y2 ≤ 11 from by omega) (show 0 ≤ y3 from by omega) (show y3 ≤ 4095 from by omega) (show 1 ≤ y5 from by omega) (show y5 ≤ 4 from by omega) (show 1 ≤ y6 from by omega) (show y6 ≤ 11 from by omega) (show 2 ≤ a 90 3 from by omega) (show y5 = x5 from by omega) (show y1 = x1 from by omega)
      ·
        have h109_ := jxshr_b y4 y6
        have h110_ := jxand_r (jxshr y4 y6) 1 (by decide) (by decide)
        refine jt_ite (fun c111_ => ?_) (fun c111_ => ?_)
        ·
          exact hc84 y1 y2 y3 y4 y5 y6 a b (show (((12 - y6) * 1) + 0).toNat ≤ n from by omega) hv hf (show 0 ≤ y1 from by omega) (show y1 ≤ 11 from by omega) (show 0 ≤ y2 from by omega) (show y2 ≤ 11 from by omega) (show 0 ≤ y3 from by omega) (show y3 ≤ 4095 from by omega) (show 1 ≤ y5 from by omega) (show y5 ≤ 4 from by omega) (show 1 ≤ y6 from by omega) (show y6 ≤ 11 from by omega) (show 2 ≤ a 90 3 from by omega) (show y5 = x5 from by omega) (show y1 = x1 from by omega)
        ·
          exact hc111 y1 y2 y3 y4 y5 y6 a b (show (((12 - y6) * 1) + 0).toNat ≤ n from by omega) hv hf (show 0 ≤ y1 from by omega) (show y1 ≤ 11 from by omega) (show 0 ≤ y2 from by omega) (show y2 ≤ 11 from by omega) (show 0 ≤ y3 from by omega) (show y3 ≤ 4095 from by omega) (show 1 ≤ y5 from by omega) (show y5 ≤ 4 from by omega) (show 1 ≤ y6 from by omega) (show y6 ≤ 11 from by omega) (show 2 ≤ a 90 3 from by omega) (show y5 = x5 from by omega) (show y1 = x1 from by omega)
    ·
      exact jt_rV ⟨hv, hf⟩
  exact ⟨hc111, hc84, hc55⟩
theorem cp_X5_markFrom_43 (E : jxE) (n_ : Nat) (hR : ∀ m, m + 1 = n_ → Sp_X5_markFrom E m) (d : Nat) (hd : n_ + 5 ≤ (d + 1)) (x1 x2 x3 x4 x5 : Int) (a0 b0 : Nat → Nat → Int) (hv0 : iv a0) (hp0 : 0 ≤ x1) (hp1 : x1 ≤ 11) (hp2 : 0 ≤ x2) (hp3 : x2 ≤ 11) (hp4 : 0 ≤ x3) (hp5 : x3 ≤ 4095) (hp6 : 1 ≤ x5) (hp7 : x5 ≤ 5) (hpn : 5 - x5 ≤ (n_ : Int)) : ∀ (y1 y2 y3 y4 y5 : Int) (a b : Nat → Nat → Int), iv a → jfr jW_X5_markFrom a0 a → 0 ≤ y1 → y1 ≤ 11 → 0 ≤ y2 → y2 ≤ 11 → 0 ≤ y3 → y3 ≤ 4095 → 1 ≤ y5 → y5 ≤ 5 → y5 = x5 → y1 = x1 → jt (jxX E d 87 43 [some (.inr (.inr (.inl 90))), some (.inl y1), some (.inl y2), some (.inl y3), some (.inl y4), some (.inl y5), none] [] (jxSH, a, b)) (jQ_X5_markFrom x1 x2 x3 x4 x5 a0 b0) := by
  intro y1 y2 y3 y4 y5 a b hv hf hi0 hi1 hi2 hi3 hi4 hi5 hi6 hi7 hi8 hi9
  refine jt_eq (bq_X5_markFrom_43 E d y1 y2 y3 y4 y5 a b) ?_
  refine jt_ite (fun c112_ => ?_) (fun c112_ => ?_)
  ·
    have h113_ : jxw (y1 + 1) = y1 + 1 := jxw_id (by omega) (by omega)
    exact (cp_X5_markFrom_55 E n_ hR d hd x1 x2 x3 x4 x5 a0 b0 hv0 hp0 hp1 hp2 hp3 hp4 hp5 hp6 hp7 hpn _).2.2 y1 y2 y3 y4 y5 (jxw (y1 + 1)) a b (Nat.le_refl _) hv hf (show 0 ≤ y1 from by omega) (show y1 ≤ 11 from by omega) (show 0 ≤ y2 from by omega) (show y2 ≤ 11 from by omega) (show 0 ≤ y3 from by omega) (show y3 ≤ 4095 from by omega) (show 1 ≤ y5 from by omega) (show y5 ≤ 4 from by omega) (show 1 ≤ jxw (y1 + 1) from by omega) (show jxw (y1 + 1) ≤ 12 from by omega) (show y5 = x5 from by omega) (show y1 = x1 from by omega)
  ·
    exact jt_rV ⟨hv, hf⟩
theorem cp_X5_markFrom_33 (E : jxE) (n_ : Nat) (hR : ∀ m, m + 1 = n_ → Sp_X5_markFrom E m) (d : Nat) (hd : n_ + 5 ≤ (d + 1)) (x1 x2 x3 x4 x5 : Int) (a0 b0 : Nat → Nat → Int) (hv0 : iv a0) (hp0 : 0 ≤ x1) (hp1 : x1 ≤ 11) (hp2 : 0 ≤ x2) (hp3 : x2 ≤ 11) (hp4 : 0 ≤ x3) (hp5 : x3 ≤ 4095) (hp6 : 1 ≤ x5) (hp7 : x5 ≤ 5) (hpn : 5 - x5 ≤ (n_ : Int)) : ∀ (y1 y2 y3 y4 y5 : Int) (a b : Nat → Nat → Int), iv a → jfr jW_X5_markFrom a0 a → 0 ≤ y1 → y1 ≤ 11 → 0 ≤ y2 → y2 ≤ 11 → 0 ≤ y3 → y3 ≤ 4095 → 2 ≤ y5 → y5 ≤ 5 → y5 = x5 → y1 = x1 → jt (jxX E d 87 33 [some (.inr (.inr (.inl 90))), some (.inl y1), some (.inl y2), some (.inl y3), some (.inl y4), some (.inl y5), none] [] (jxSH, a, b)) (jQ_X5_markFrom x1 x2 x3 x4 x5 a0 b0) := by
  intro y1 y2 y3 y4 y5 a b hv hf hi0 hi1 hi2 hi3 hi4 hi5 hi6 hi7 hi8 hi9
  refine jt_eq (bq_X5_markFrom_33 E d y1 y2 y3 y4 y5 a b) ?_
  have h115_ := iv_get hv (k := 90) (j := 8) (l := 0) (u := 4095) rfl
  have h116_ := jxor_b (a 90 8) y3
  have hv114_ : iv (jxu a 90 8 (jxor (a 90 8) y3)) := iv_put hv (l := 0) (u := 4095) rfl (by omega) (by omega)
  have hf117_ : jfr jW_X5_markFrom a0 (jxu a 90 8 (jxor (a 90 8) y3)) := jfr_put hf rfl
  exact cp_X5_markFrom_43 E n_ hR d hd x1 x2 x3 x4 x5 a0 b0 hv0 hp0 hp1 hp2 hp3 hp4 hp5 hp6 hp7 hpn y1 y2 y3 y4 y5 (jxu a 90 8 (jxor (a 90 8) y3)) b hv114_ hf117_ (show 0 ≤ y1 from by omega) (show y1 ≤ 11 from by omega) (show 0 ≤ y2 from by omega) (show y2 ≤ 11 from by omega) (show 0 ≤ y3 from by omega) (show y3 ≤ 4095 from by omega) (show 1 ≤ y5 from by omega) (show y5 ≤ 5 from by omega) (show y5 = x5 from by omega) (show y1 = x1 from by omega)
theorem sr_X5_markFrom (E : jxE) (n_ : Nat) (hR : ∀ m, m + 1 = n_ → Sp_X5_markFrom E m) : Sp_X5_markFrom E n_ := by
  intro d hd x1 x2 x3 x4 x5 a0 b0 hv0 hp0 hp1 hp2 hp3 hp4 hp5 hp6 hp7 hpn
  obtain ⟨d, rfl⟩ : ∃ d2, d = d2 + 1 := ⟨d - 1, by omega⟩
  refine jt_eq (bq_X5_markFrom E d x1 x2 x3 x4 x5 a0 b0) ?_
  refine jt_ite (fun c118_ => ?_) (fun c118_ => ?_)
  ·
    exact cp_X5_markFrom_43 E n_ hR d hd x1 x2 x3 x4 x5 a0 b0 hv0 hp0 hp1 hp2 hp3 hp4 hp5 hp6 hp7 hpn x1 x2 x3 x4 x5 a0 b0 hv0 (jfr_rf _ _) (show 0 ≤ x1 from by omega) (show x1 ≤ 11 from by omega) (show 0 ≤ x2 from by omega) (show x2 ≤ 11 from by omega) (show 0 ≤ x3 from by omega) (show x3 ≤ 4095 from by omega) (show 1 ≤ x5 from by omega) (show x5 ≤ 5 from by omega) (show x5 = x5 from by omega) (show x1 = x1 from by omega)
  ·
    refine jt_eI (eq_X5_mayFollow E d (Nat.ble_eq_true_of_le (by omega)) x2 x1 a0 b0 (show (0 ≤ x2 ∧ x2 < 12) from by omega)) ?_
    have h119_ := f_X5_mayFollow_eq a0 b0 x2 x1
    have h120_ := jxshr_b (a0 92 (x2.toNat)) x1
    have h121_ := jxand_r (jxshr (a0 92 (x2.toNat)) x1) 1 (by decide) (by decide)
    refine jt_ite (fun c122_ => ?_) (fun c122_ => ?_)
    ·
      exact cp_X5_markFrom_43 E n_ hR d hd x1 x2 x3 x4 x5 a0 b0 hv0 hp0 hp1 hp2 hp3 hp4 hp5 hp6 hp7 hpn x1 x2 x3 x4 x5 a0 b0 hv0 (jfr_rf _ _) (show 0 ≤ x1 from by omega) (show x1 ≤ 11 from by omega) (show 0 ≤ x2 from by omega) (show x2 ≤ 11 from by omega) (show 0 ≤ x3 from by omega) (show x3 ≤ 4095 from by omega) (show 1 ≤ x5 from by omega) (show x5 ≤ 5 from by omega) (show x5 = x5 from by omega) (show x1 = x1 from by omega)
    ·
      refine jt_eI (eq_X5_wordOf E d (Nat.ble_eq_true_of_le (by omega)) x3 a0 b0) ?_
      have h123_ := f_X5_wordOf_eq a0 b0 x3
      have h124_ := jxand_r x3 4095 (by decide) (by decide)
      have h125_ := jx_td (jxand x3 4095) 64
      have h126_ := jx_tdr (jxand x3 4095) 64 (by decide)
      have h127_ : jxw (Int.tdiv (jxand x3 4095) 64) = Int.tdiv (jxand x3 4095) 64 := jxw_id (by omega) (by omega)
      refine jt_grd (by omega) ?_
      refine jt_grd (by omega) ?_
      exact cp_X5_markFrom_33 E n_ hR d hd x1 x2 x3 x4 x5 a0 b0 hv0 hp0 hp1 hp2 hp3 hp4 hp5 hp6 hp7 hpn x1 x2 x3 x4 x5 a0 (jxu b0 94 ((f_X5_wordOf a0 b0 x3).toNat) (jxorl (b0 94 ((f_X5_wordOf a0 b0 x3).toNat)) (jxshll 1 (jxw (Int.tmod x3 64))))) hv0 (jfr_rf _ _) (show 0 ≤ x1 from by omega) (show x1 ≤ 11 from by omega) (show 0 ≤ x2 from by omega) (show x2 ≤ 11 from by omega) (show 0 ≤ x3 from by omega) (show x3 ≤ 4095 from by omega) (show 2 ≤ x5 from by omega) (show x5 ≤ 5 from by omega) (show x5 = x5 from by omega) (show x1 = x1 from by omega)
theorem cp_X5_firstRing_57 (E : jxE) (n_ : Nat) (hR : ∀ m, m + 1 = n_ → Sp_X5_firstRing E m) (d : Nat) (hd : n_ + 5 ≤ (d + 1)) (x1 x2 x3 x4 x5 : Int) (a0 b0 : Nat → Nat → Int) (hv0 : iv a0) (hp0 : 0 ≤ x1) (hp1 : x1 ≤ 11) (hp2 : 0 ≤ x2) (hp3 : x2 ≤ 4095) (hp4 : 1 ≤ x4) (hp5 : x4 ≤ 5) (hp6 : 0 ≤ x5) (hp7 : x5 ≤ 4095) (hpn : 5 - x4 ≤ (n_ : Int)) : ∀ (y4 : Int) (a : Nat → Nat → Int), iv a → jfr jW_X5_firstRing a0 a → 1 ≤ y4 → y4 ≤ 5 → y4 = x4 → jt (jxX E d 95 57 [none, none, none, none, some (.inl y4), none, none, none, none] [] (jxSH, a, b0)) (jQ_X5_firstRing x1 x2 x3 x4 x5 a0 b0) := by
  intro y4 a hv hf hi0 hi1 hi2
  refine jt_eq (bq_X5_firstRing_57 E d y4 a b0) ?_
  exact jt_rI ⟨hv, hf, rfl, (show 0 ≤ y4 from by omega), (show y4 ≤ 5 from by omega)⟩
theorem cp_X5_firstRing_78 (E : jxE) (n_ : Nat) (hR : ∀ m, m + 1 = n_ → Sp_X5_firstRing E m) (d : Nat) (hd : n_ + 5 ≤ (d + 1)) (x1 x2 x3 x4 x5 : Int) (a0 b0 : Nat → Nat → Int) (hv0 : iv a0) (hp0 : 0 ≤ x1) (hp1 : x1 ≤ 11) (hp2 : 0 ≤ x2) (hp3 : x2 ≤ 4095) (hp4 : 1 ≤ x4) (hp5 : x4 ≤ 5) (hp6 : 0 ≤ x5) (hp7 : x5 ≤ 4095) (hpn : 5 - x4 ≤ (n_ : Int)) : ∀ n : Nat, (∀ (y1 y2 y3 y4 y5 y7 : Int) (a : Nat → Nat → Int), (((12 - y7) * 1) + 0).toNat ≤ n → iv a → jfr jW_X5_firstRing a0 a → 0 ≤ y1 → y1 ≤ 11 → 0 ≤ y2 → y2 ≤ 4095 → 1 ≤ y4 → y4 ≤ 4 → 0 ≤ y5 → y5 ≤ 4095 → 1 ≤ y7 → y7 ≤ 11 → 2 ≤ a 90 3 → y4 = x4 → jt (jxX E d 95 158 [some (.inr (.inr (.inl 90))), some (.inl y1), some (.inl y2), some (.inl y3), some (.inl y4), some (.inl y5), none, some (.inl y7), none] [] (jxSH, a, b0)) (jQ_X5_firstRing x1 x2 x3 x4 x5 a0 b0)) ∧ (∀ (y1 y2 y3 y4 y5 y7 y8 : Int) (a : Nat → Nat → Int), (((12 - y7) * 1) + 0).toNat ≤ n → iv a → jfr jW_X5_firstRing a0 a → 0 ≤ y1 → y1 ≤ 11 → 0 ≤ y2 → y2 ≤ 4095 → 1 ≤ y4 → y4 ≤ 4 → 0 ≤ y5 → y5 ≤ 4095 → 1 ≤ y7 → y7 ≤ 11 → 0 ≤ y8 → y8 ≤ 5 → 2 ≤ a 90 3 → y4 = x4 → jt (jxX E d 95 150 [some (.inr (.inr (.inl 90))), some (.inl y1), some (.inl y2), some (.inl y3), some (.inl y4), some (.inl y5), none, some (.inl y7), some (.inl y8)] [] (jxSH, a, b0)) (jQ_X5_firstRing x1 x2 x3 x4 x5 a0 b0)) ∧ (∀ (y1 y2 y3 y4 y5 y7 : Int) (a : Nat → Nat → Int), (((12 - y7) * 1) + 0).toNat ≤ n → iv a → jfr jW_X5_firstRing a0 a → 0 ≤ y1 → y1 ≤ 11 → 0 ≤ y2 → y2 ≤ 4095 → 1 ≤ y4 → y4 ≤ 4 → 0 ≤ y5 → y5 ≤ 4095 → 1 ≤ y7 → y7 ≤ 11 → 2 ≤ a 90 3 → y4 = x4 → jt (jxX E d 95 102 [some (.inr (.inr (.inl 90))), some (.inl y1), some (.inl y2), some (.inl y3), some (.inl y4), some (.inl y5), none, some (.inl y7), none] [] (jxSH, a, b0)) (jQ_X5_firstRing x1 x2 x3 x4 x5 a0 b0)) ∧ (∀ (y1 y2 y3 y4 y5 y7 : Int) (a : Nat → Nat → Int), (((12 - y7) * 1) + 0).toNat ≤ n → iv a → jfr jW_X5_firstRing a0 a → 0 ≤ y1 → y1 ≤ 11 → 0 ≤ y2 → y2 ≤ 4095 → 1 ≤ y4 → y4 ≤ 4 → 0 ≤ y5 → y5 ≤ 4095 → 1 ≤ y7 → y7 ≤ 12 → y4 = x4 → jt (jxX E d 95 78 [some (.inr (.inr (.inl 90))), some (.inl y1), some (.inl y2), some (.inl y3), some (.inl y4), some (.inl y5), none, some (.inl y7), none] [] (jxSH, a, b0)) (jQ_X5_firstRing x1 x2 x3 x4 x5 a0 b0)) := by
  refine jx_ind fun n ih => ?_
  have ih158 : ∀ (y1 y2 y3 y4 y5 y7 : Int) (a : Nat → Nat → Int), (((12 - y7) * 1) + 0).toNat < n → iv a → jfr jW_X5_firstRing a0 a → 0 ≤ y1 → y1 ≤ 11 → 0 ≤ y2 → y2 ≤ 4095 → 1 ≤ y4 → y4 ≤ 4 → 0 ≤ y5 → y5 ≤ 4095 → 1 ≤ y7 → y7 ≤ 11 → 2 ≤ a 90 3 → y4 = x4 → jt (jxX E d 95 158 [some (.inr (.inr (.inl 90))), some (.inl y1), some (.inl y2), some (.inl y3), some (.inl y4), some (.inl y5), none, some (.inl y7), none] [] (jxSH, a, b0)) (jQ_X5_firstRing x1 x2 x3 x4 x5 a0 b0) := fun y1 y2 y3 y4 y5 y7 a hlt i0 i1 i2 i3 i4 i5 i6 i7 i8 i9 i10 i11 i12 i13 => (ih _ hlt).1 y1 y2 y3 y4 y5 y7 a (Nat.le_refl _) i0 i1 i2 i3 i4 i5 i6 i7 i8 i9 i10 i11 i12 i13
  have ih150 : ∀ (y1 y2 y3 y4 y5 y7 y8 : Int) (a : Nat → Nat → Int), (((12 - y7) * 1) + 0).toNat < n → iv a → jfr jW_X5_firstRing a0 a → 0 ≤ y1 → y1 ≤ 11 → 0 ≤ y2 → y2 ≤ 4095 → 1 ≤ y4 → y4 ≤ 4 → 0 ≤ y5 → y5 ≤ 4095 → 1 ≤ y7 → y7 ≤ 11 → 0 ≤ y8 → y8 ≤ 5 → 2 ≤ a 90 3 → y4 = x4 → jt (jxX E d 95 150 [some (.inr (.inr (.inl 90))), some (.inl y1), some (.inl y2), some (.inl y3), some (.inl y4), some (.inl y5), none, some (.inl y7), some (.inl y8)] [] (jxSH, a, b0)) (jQ_X5_firstRing x1 x2 x3 x4 x5 a0 b0) := fun y1 y2 y3 y4 y5 y7 y8 a hlt i0 i1 i2 i3 i4 i5 i6 i7 i8 i9 i10 i11 i12 i13 i14 i15 => (ih _ hlt).2.1 y1 y2 y3 y4 y5 y7 y8 a (Nat.le_refl _) i0 i1 i2 i3 i4 i5 i6 i7 i8 i9 i10 i11 i12 i13 i14 i15
  have ih102 : ∀ (y1 y2 y3 y4 y5 y7 : Int) (a : Nat → Nat → Int), (((12 - y7) * 1) + 0).toNat < n → iv a → jfr jW_X5_firstRing a0 a → 0 ≤ y1 → y1 ≤ 11 → 0 ≤ y2 → y2 ≤ 4095 → 1 ≤ y4 → y4 ≤ 4 → 0 ≤ y5 → y5 ≤ 4095 → 1 ≤ y7 → y7 ≤ 11 → 2 ≤ a 90 3 → y4 = x4 → jt (jxX E d 95 102 [some (.inr (.inr (.inl 90))), some (.inl y1), some (.inl y2), some (.inl y3), some (.inl y4), some (.inl y5), none, some (.inl y7), none] [] (jxSH, a, b0)) (jQ_X5_firstRing x1 x2 x3 x4 x5 a0 b0) := fun y1 y2 y3 y4 y5 y7 a hlt i0 i1 i2 i3 i4 i5 i6 i7 i8 i9 i10 i11 i12 i13 => (ih _ hlt).2.2.1 y1 y2 y3 y4 y5 y7 a (Nat.le_refl _) i0 i1 i2 i3 i4 i5 i6 i7 i8 i9 i10 i11 i12 i13
  have ih78 : ∀ (y1 y2 y3 y4 y5 y7 : Int) (a : Nat → Nat → Int), (((12 - y7) * 1) + 0).toNat < n → iv a → jfr jW_X5_firstRing a0 a → 0 ≤ y1 → y1 ≤ 11 → 0 ≤ y2 → y2 ≤ 4095 → 1 ≤ y4 → y4 ≤ 4 → 0 ≤ y5 → y5 ≤ 4095 → 1 ≤ y7 → y7 ≤ 12 → y4 = x4 → jt (jxX E d 95 78 [some (.inr (.inr (.inl 90))), some (.inl y1), some (.inl y2), some (.inl y3), some (.inl y4), some (.inl y5), none, some (.inl y7), none] [] (jxSH, a, b0)) (jQ_X5_firstRing x1 x2 x3 x4 x5 a0 b0) := fun y1 y2 y3 y4 y5 y7 a hlt i0 i1 i2 i3 i4 i5 i6 i7 i8 i9 i10 i11 i12 => (ih _ hlt).2.2.2 y1 y2 y3 y4 y5 y7 a (Nat.le_refl _) i0 i1 i2 i3 i4 i5 i6 i7 i8 i9 i10 i11 i12
  have hc158 : ∀ (y1 y2 y3 y4 y5 y7 : Int) (a : Nat → Nat → Int), (((12 - y7) * 1) + 0).toNat ≤ n → iv a → jfr jW_X5_firstRing a0 a → 0 ≤ y1 → y1 ≤ 11 → 0 ≤ y2 → y2 ≤ 4095 → 1 ≤ y4 → y4 ≤ 4 → 0 ≤ y5 → y5 ≤ 4095 → 1 ≤ y7 → y7 ≤ 11 → 2 ≤ a 90 3 → y4 = x4 → jt (jxX E d 95 158 [some (.inr (.inr (.inl 90))), some (.inl y1), some (.inl y2), some (.inl y3), some (.inl y4), some (.inl y5), none, some (.inl y7), none] [] (jxSH, a, b0)) (jQ_X5_firstRing x1 x2 x3 x4 x5 a0 b0) := by
    intro y1 y2 y3 y4 y5 y7 a hm hv hf hi0 hi1 hi2 hi3 hi4 hi5 hi6 hi7 hi8 hi9 hi10 hi11
    refine jt_eq (bq_X5_firstRing_158 E d y1 y2 y3 y4 y5 y7 a b0) ?_
    have h128_ := iv_get hv (k := 90) (j := 3) (l := 0) (u := 12) rfl
    have h129_ : a 90 3 = a0 90 3 := hf 90 3 rfl
    have h130_ := iv_get hv0 (k := 90) (j := 3) (l := 0) (u := 12) rfl
    have h131_ : jxw (y7 + 1) = y7 + 1 := jxw_id (by omega) (by omega)
    exact ih78 y1 y2 y3 y4 y5 (jxw (y7 + 1)) a (show (((12 - (jxw (y7 + 1))) * 1) + 0).toNat < n from by omega) hv hf (show 0 ≤ y1 from by omega) (show y1 ≤ 11 from by omega) (show 0 ≤ y2 from by omega) (show y2 ≤ 4095 from by omega) (show 1 ≤ y4 from by omega) (show y4 ≤ 4 from by omega) (show 0 ≤ y5 from by omega) (show y5 ≤ 4095 from by omega) (show 1 ≤ jxw (y7 + 1) from by omega) (show jxw (y7 + 1) ≤ 12 from by omega) (show y4 = x4 from by omega)
  have hc150 : ∀ (y1 y2 y3 y4 y5 y7 y8 : Int) (a : Nat → Nat → Int), (((12 - y7) * 1) + 0).toNat ≤ n → iv a → jfr jW_X5_firstRing a0 a → 0 ≤ y1 → y1 ≤ 11 → 0 ≤ y2 → y2 ≤ 4095 → 1 ≤ y4 → y4 ≤ 4 → 0 ≤ y5 → y5 ≤ 4095 → 1 ≤ y7 → y7 ≤ 11 → 0 ≤ y8 → y8 ≤ 5 → 2 ≤ a 90 3 → y4 = x4 → jt (jxX E d 95 150 [some (.inr (.inr (.inl 90))), some (.inl y1), some (.inl y2), some (.inl y3), some (.inl y4), some (.inl y5), none, some (.inl y7), some (.inl y8)] [] (jxSH, a, b0)) (jQ_X5_firstRing x1 x2 x3 x4 x5 a0 b0) := by
    intro y1 y2 y3 y4 y5 y7 y8 a hm hv hf hi0 hi1 hi2 hi3 hi4 hi5 hi6 hi7 hi8 hi9 hi10 hi11 hi12 hi13
    refine jt_eq (bq_X5_firstRing_150 E d y1 y2 y3 y4 y5 y7 y8 a b0) ?_
    have h132_ := iv_get hv (k := 90) (j := 3) (l := 0) (u := 12) rfl
    have h133_ : a 90 3 = a0 90 3 := hf 90 3 rfl
    have h134_ := iv_get hv0 (k := 90) (j := 3) (l := 0) (u := 12) rfl
    refine jt_ite (fun c135_ => ?_) (fun c135_ => ?_)
    ·
      exact hc158 y1 y2 y3 y4 y5 y7 a (show (((12 - y7) * 1) + 0).toNat ≤ n from by omega) hv hf (show 0 ≤ y1 from by omega) (show y1 ≤ 11 from by omega) (show 0 ≤ y2 from by omega) (show y2 ≤ 4095 from by omega) (show 1 ≤ y4 from by omega) (show y4 ≤ 4 from by omega) (show 0 ≤ y5 from by omega) (show y5 ≤ 4095 from by omega) (show 1 ≤ y7 from by omega) (show y7 ≤ 11 from by omega) (show 2 ≤ a 90 3 from by omega) (show y4 = x4 from by omega)
    ·
      exact jt_rI ⟨hv, hf, rfl, (show 0 ≤ y8 from by omega), (show y8 ≤ 5 from by omega)⟩
  have hc102 : ∀ (y1 y2 y3 y4 y5 y7 : Int) (a : Nat → Nat → Int), (((12 - y7) * 1) + 0).toNat ≤ n → iv a → jfr jW_X5_firstRing a0 a → 0 ≤ y1 → y1 ≤ 11 → 0 ≤ y2 → y2 ≤ 4095 → 1 ≤ y4 → y4 ≤ 4 → 0 ≤ y5 → y5 ≤ 4095 → 1 ≤ y7 → y7 ≤ 11 → 2 ≤ a 90 3 → y4 = x4 → jt (jxX E d 95 102 [some (.inr (.inr (.inl 90))), some (.inl y1), some (.inl y2), some (.inl y3), some (.inl y4), some (.inl y5), none, some (.inl y7), none] [] (jxSH, a, b0)) (jQ_X5_firstRing x1 x2 x3 x4 x5 a0 b0) := by
    intro y1 y2 y3 y4 y5 y7 a hm hv hf hi0 hi1 hi2 hi3 hi4 hi5 hi6 hi7 hi8 hi9 hi10 hi11
    refine jt_eq (bq_X5_firstRing_102 E d y1 y2 y3 y4 y5 y7 a b0) ?_
    have h136_ := iv_get hv (k := 90) (j := 3) (l := 0) (u := 12) rfl
    have h137_ : a 90 3 = a0 90 3 := hf 90 3 rfl
    have h138_ := iv_get hv0 (k := 90) (j := 3) (l := 0) (u := 12) rfl
    refine jt_eI (eq_X5_mayFollow E d (Nat.ble_eq_true_of_le (by omega)) y1 y7 a b0 (show (0 ≤ y1 ∧ y1 < 12) from by omega)) ?_
    have h139_ := f_X5_mayFollow_eq a b0 y1 y7
    have h140_ : a 92 (y1.toNat) = a0 92 (y1.toNat) := hf 92 (y1.toNat) rfl
    have h141_ := jxshr_b (a 92 (y1.toNat)) y7
    have h142_ := jxand_r (jxshr (a 92 (y1.toNat)) y7) 1 (by decide) (by decide)
    refine jt_ite (fun c143_ => ?_) (fun c143_ => ?_)
    ·
      exact hc158 y1 y2 y3 y4 y5 y7 a (show (((12 - y7) * 1) + 0).toNat ≤ n from by omega) hv hf (show 0 ≤ y1 from by omega) (show y1 ≤ 11 from by omega) (show 0 ≤ y2 from by omega) (show y2 ≤ 4095 from by omega) (show 1 ≤ y4 from by omega) (show y4 ≤ 4 from by omega) (show 0 ≤ y5 from by omega) (show y5 ≤ 4095 from by omega) (show 1 ≤ y7 from by omega) (show y7 ≤ 11 from by omega) (show 2 ≤ a 90 3 from by omega) (show y4 = x4 from by omega)
    ·
      refine jt_grd (by omega) ?_
      refine jt_grd (by omega) ?_
      have hv144_ : iv (jxu a 96 (y4.toNat) y7) := iv_put hv (l := 0) (u := 11) rfl (by omega) (by omega)
      have h145_ := jxshl1_b y7
      have h146_ := jxor_b y2 (jxshl 1 y7)
      have h147_ : jxw (y4 + 1) = y4 + 1 := jxw_id (by omega) (by omega)
      refine jt_bI ((hR (n_ - 1) (by omega)) d (by omega) y7 (jxor y2 (jxshl 1 y7)) (jxor y3 (a 93 (y7.toNat))) (jxw (y4 + 1)) y5 (jxu a 96 (y4.toNat) y7) b0 hv144_ (show 0 ≤ y7 from by omega) (show y7 ≤ 11 from by omega) (show 0 ≤ jxor y2 (jxshl 1 y7) from by omega) (show jxor y2 (jxshl 1 y7) ≤ 4095 from by omega) (show 1 ≤ jxw (y4 + 1) from by omega) (show jxw (y4 + 1) ≤ 5 from by omega) (show 0 ≤ y5 from by omega) (show y5 ≤ 4095 from by omega) (by omega)) (fun r148_ a148_ b148_ h148_ => ?_)
      obtain ⟨hv148_, hf148_, rfl, hq148_0, hq148_1⟩ := h148_
      have h149_ : 0 ≤ r148_ := hq148_0
      have h150_ : r148_ ≤ 5 := hq148_1
      have hf151_ : jfr jW_X5_firstRing a0 (jxu a 96 (y4.toNat) y7) := jfr_put hf rfl
      have hf152_ : jfr jW_X5_firstRing a0 a148_ := jfr_tr hf151_ hf148_ rfl
      have h153_ := iv_get hv148_ (k := 90) (j := 3) (l := 0) (u := 12) rfl
      have h154_ : a148_ 90 3 = a 90 3 := hf148_ 90 3 rfl
      exact hc150 y1 y2 y3 y4 y5 y7 r148_ a148_ (show (((12 - y7) * 1) + 0).toNat ≤ n from by omega) hv148_ hf152_ (show 0 ≤ y1 from by omega) (show y1 ≤ 11 from by omega) (show 0 ≤ y2 from by omega) (show y2 ≤ 4095 from by omega) (show 1 ≤ y4 from by omega) (show y4 ≤ 4 from by omega) (show 0 ≤ y5 from by omega) (show y5 ≤ 4095 from by omega) (show 1 ≤ y7 from by omega) (show y7 ≤ 11 from by omega) (show 0 ≤ r148_ from by omega) (show r148_ ≤ 5 from by omega) (show 2 ≤ a148_ 90 3 from by omega) (show y4 = x4 from by omega)
  have hc78 : ∀ (y1 y2 y3 y4 y5 y7 : Int) (a : Nat → Nat → Int), (((12 - y7) * 1) + 0).toNat ≤ n → iv a → jfr jW_X5_firstRing a0 a → 0 ≤ y1 → y1 ≤ 11 → 0 ≤ y2 → y2 ≤ 4095 → 1 ≤ y4 → y4 ≤ 4 → 0 ≤ y5 → y5 ≤ 4095 → 1 ≤ y7 → y7 ≤ 12 → y4 = x4 → jt (jxX E d 95 78 [some (.inr (.inr (.inl 90))), some (.inl y1), some (.inl y2), some (.inl y3), some (.inl y4), some (.inl y5), none, some (.inl y7), none] [] (jxSH, a, b0)) (jQ_X5_firstRing x1 x2 x3 x4 x5 a0 b0) := by
    intro y1 y2 y3 y4 y5 y7 a hm hv hf hi0 hi1 hi2 hi3 hi4 hi5 hi6 hi7 hi8 hi9 hi10
    refine jt_eq (bq_X5_firstRing_78 E d y1 y2 y3 y4 y5 y7 a b0) ?_
    have h155_ := iv_get hv (k := 90) (j := 3) (l := 0) (u := 12) rfl
    have h156_ : a 90 3 = a0 90 3 := hf 90 3 rfl
    have h157_ := iv_get hv0 (k := 90) (j := 3) (l := 0) (u := 12) rfl
    refine jt_ite (fun c158_ => ?_) (fun c158_ => ?_)
    ·
      have h159_ := jxxor_b y3 (-1)
      have h160_ := jxand_b y5 (jxxor y3 (-1))
      have h161_ := jxshr_b (jxand y5 (jxxor y3 (-1))) y7
      have h162_ := jxand_r (jxshr (jxand y5 (jxxor y3 (-1))) y7) 1 (by decide) (by decide)
      refine jt_ite (fun c163_ => ?_) (fun c163_ => ?_)
      ·
        exact hc102 y1 y2 y3 y4 y5 y7 a (show (((12 - y7) * 1) + 0).toNat ≤ n from by omega) hv hf (show 0 ≤ y1 from by omega) (show y1 ≤ 11 from by omega) (show 0 ≤ y2 from by omega) (show y2 ≤ 4095 from by omega) (show 1 ≤ y4 from by omega) (show y4 ≤ 4 from by omega) (show 0 ≤ y5 from by omega) (show y5 ≤ 4095 from by omega) (show 1 ≤ y7 from by omega) (show y7 ≤ 11 from by omega) (show 2 ≤ a 90 3 from by omega) (show y4 = x4 from by omega)
      ·
        exact hc158 y1 y2 y3 y4 y5 y7 a (show (((12 - y7) * 1) + 0).toNat ≤ n from by omega) hv hf (show 0 ≤ y1 from by omega) (show y1 ≤ 11 from by omega) (show 0 ≤ y2 from by omega) (show y2 ≤ 4095 from by omega) (show 1 ≤ y4 from by omega) (show y4 ≤ 4 from by omega) (show 0 ≤ y5 from by omega) (show y5 ≤ 4095 from by omega) (show 1 ≤ y7 from by omega) (show y7 ≤ 11 from by omega) (show 2 ≤ a 90 3 from by omega) (show y4 = x4 from by omega)
    ·
      exact jt_rI ⟨hv, hf, rfl, (show 0 ≤ 0 from by omega), (show 0 ≤ 5 from by omega)⟩
  exact ⟨hc158, hc150, hc102, hc78⟩
theorem cp_X5_firstRing_60 (E : jxE) (n_ : Nat) (hR : ∀ m, m + 1 = n_ → Sp_X5_firstRing E m) (d : Nat) (hd : n_ + 5 ≤ (d + 1)) (x1 x2 x3 x4 x5 : Int) (a0 b0 : Nat → Nat → Int) (hv0 : iv a0) (hp0 : 0 ≤ x1) (hp1 : x1 ≤ 11) (hp2 : 0 ≤ x2) (hp3 : x2 ≤ 4095) (hp4 : 1 ≤ x4) (hp5 : x4 ≤ 5) (hp6 : 0 ≤ x5) (hp7 : x5 ≤ 4095) (hpn : 5 - x4 ≤ (n_ : Int)) : ∀ (y1 y2 y3 y4 y5 : Int) (a : Nat → Nat → Int), iv a → jfr jW_X5_firstRing a0 a → 0 ≤ y1 → y1 ≤ 11 → 0 ≤ y2 → y2 ≤ 4095 → 1 ≤ y4 → y4 ≤ 5 → 0 ≤ y5 → y5 ≤ 4095 → y4 = x4 → jt (jxX E d 95 60 [some (.inr (.inr (.inl 90))), some (.inl y1), some (.inl y2), some (.inl y3), some (.inl y4), some (.inl y5), none, none, none] [] (jxSH, a, b0)) (jQ_X5_firstRing x1 x2 x3 x4 x5 a0 b0) := by
  intro y1 y2 y3 y4 y5 a hv hf hi0 hi1 hi2 hi3 hi4 hi5 hi6 hi7 hi8
  refine jt_eq (bq_X5_firstRing_60 E d y1 y2 y3 y4 y5 a b0) ?_
  refine jt_ite (fun c164_ => ?_) (fun c164_ => ?_)
  ·
    have h165_ := iv_get hv (k := 96) (j := 0) (l := 0) (u := 11) rfl
    have h166_ : jxw ((a 96 0) + 1) = (a 96 0) + 1 := jxw_id (by omega) (by omega)
    exact (cp_X5_firstRing_78 E n_ hR d hd x1 x2 x3 x4 x5 a0 b0 hv0 hp0 hp1 hp2 hp3 hp4 hp5 hp6 hp7 hpn _).2.2.2 y1 y2 y3 y4 y5 (jxw ((a 96 0) + 1)) a (Nat.le_refl _) hv hf (show 0 ≤ y1 from by omega) (show y1 ≤ 11 from by omega) (show 0 ≤ y2 from by omega) (show y2 ≤ 4095 from by omega) (show 1 ≤ y4 from by omega) (show y4 ≤ 4 from by omega) (show 0 ≤ y5 from by omega) (show y5 ≤ 4095 from by omega) (show 1 ≤ jxw ((a 96 0) + 1) from by omega) (show jxw ((a 96 0) + 1) ≤ 12 from by omega) (show y4 = x4 from by omega)
  ·
    exact jt_rI ⟨hv, hf, rfl, (show 0 ≤ 0 from by omega), (show 0 ≤ 5 from by omega)⟩
theorem cp_X5_firstRing_25 (E : jxE) (n_ : Nat) (hR : ∀ m, m + 1 = n_ → Sp_X5_firstRing E m) (d : Nat) (hd : n_ + 5 ≤ (d + 1)) (x1 x2 x3 x4 x5 : Int) (a0 b0 : Nat → Nat → Int) (hv0 : iv a0) (hp0 : 0 ≤ x1) (hp1 : x1 ≤ 11) (hp2 : 0 ≤ x2) (hp3 : x2 ≤ 4095) (hp4 : 1 ≤ x4) (hp5 : x4 ≤ 5) (hp6 : 0 ≤ x5) (hp7 : x5 ≤ 4095) (hpn : 5 - x4 ≤ (n_ : Int)) : ∀ (y1 y2 y3 y4 y5 s0 : Int) (a : Nat → Nat → Int), iv a → jfr jW_X5_firstRing a0 a → 0 ≤ y1 → y1 ≤ 11 → 0 ≤ y2 → y2 ≤ 4095 → 1 ≤ y4 → y4 ≤ 5 → 0 ≤ y5 → y5 ≤ 4095 → 0 ≤ s0 → s0 ≤ 1 → y4 = x4 → jt (jxX E d 95 25 [some (.inr (.inr (.inl 90))), some (.inl y1), some (.inl y2), some (.inl y3), some (.inl y4), some (.inl y5), none, none, none] [.inl s0] (jxSH, a, b0)) (jQ_X5_firstRing x1 x2 x3 x4 x5 a0 b0) := by
  intro y1 y2 y3 y4 y5 s0 a hv hf hi0 hi1 hi2 hi3 hi4 hi5 hi6 hi7 hi8 hi9 hi10
  refine jt_eq (bq_X5_firstRing_25 E d y1 y2 y3 y4 y5 s0 a b0) ?_
  refine jt_ite (fun c167_ => ?_) (fun c167_ => ?_)
  ·
    exact cp_X5_firstRing_60 E n_ hR d hd x1 x2 x3 x4 x5 a0 b0 hv0 hp0 hp1 hp2 hp3 hp4 hp5 hp6 hp7 hpn y1 y2 y3 y4 y5 a hv hf (show 0 ≤ y1 from by omega) (show y1 ≤ 11 from by omega) (show 0 ≤ y2 from by omega) (show y2 ≤ 4095 from by omega) (show 1 ≤ y4 from by omega) (show y4 ≤ 5 from by omega) (show 0 ≤ y5 from by omega) (show y5 ≤ 4095 from by omega) (show y4 = x4 from by omega)
  ·
    have h168_ := jxxor_b y5 y2
    refine jt_grd (by omega) ?_
    refine jt_eI (eq_X5_worth E d (Nat.ble_eq_true_of_le (by omega)) y4 a b0) ?_
    refine jt_grd (by omega) ?_
    have h169_ : a 95 ((jxxor y5 y2).toNat) = a0 95 ((jxxor y5 y2).toNat) := hf 95 ((jxxor y5 y2).toNat) rfl
    have h170_ := f_X5_worth_eq a b0 y4
    have h171_ : jxw (16 * y4) = 16 * y4 := jxw_id (by omega) (by omega)
    have h172_ : jxw ((jxw (16 * y4)) - 1) = (jxw (16 * y4)) - 1 := jxw_id (by omega) (by omega)
    have h173_ := jxw_im ((a 95 ((jxxor y5 y2).toNat)) + (f_X5_worth a b0 y4))
    have h174_ := jxw_rg ((a 95 ((jxxor y5 y2).toNat)) + (f_X5_worth a b0 y4))
    have h175_ : a 95 (y5.toNat) = a0 95 (y5.toNat) := hf 95 (y5.toNat) rfl
    refine jt_ite (fun c176_ => ?_) (fun c176_ => ?_)
    ·
      exact cp_X5_firstRing_57 E n_ hR d hd x1 x2 x3 x4 x5 a0 b0 hv0 hp0 hp1 hp2 hp3 hp4 hp5 hp6 hp7 hpn y4 a hv hf (show 1 ≤ y4 from by omega) (show y4 ≤ 5 from by omega) (show y4 = x4 from by omega)
    ·
      exact cp_X5_firstRing_60 E n_ hR d hd x1 x2 x3 x4 x5 a0 b0 hv0 hp0 hp1 hp2 hp3 hp4 hp5 hp6 hp7 hpn y1 y2 y3 y4 y5 a hv hf (show 0 ≤ y1 from by omega) (show y1 ≤ 11 from by omega) (show 0 ≤ y2 from by omega) (show y2 ≤ 4095 from by omega) (show 1 ≤ y4 from by omega) (show y4 ≤ 5 from by omega) (show 0 ≤ y5 from by omega) (show y5 ≤ 4095 from by omega) (show y4 = x4 from by omega)
theorem cp_X5_firstRing_24 (E : jxE) (n_ : Nat) (hR : ∀ m, m + 1 = n_ → Sp_X5_firstRing E m) (d : Nat) (hd : n_ + 5 ≤ (d + 1)) (x1 x2 x3 x4 x5 : Int) (a0 b0 : Nat → Nat → Int) (hv0 : iv a0) (hp0 : 0 ≤ x1) (hp1 : x1 ≤ 11) (hp2 : 0 ≤ x2) (hp3 : x2 ≤ 4095) (hp4 : 1 ≤ x4) (hp5 : x4 ≤ 5) (hp6 : 0 ≤ x5) (hp7 : x5 ≤ 4095) (hpn : 5 - x4 ≤ (n_ : Int)) : ∀ (y1 y2 y3 y4 y5 : Int) (a : Nat → Nat → Int), iv a → jfr jW_X5_firstRing a0 a → 0 ≤ y1 → y1 ≤ 11 → 0 ≤ y2 → y2 ≤ 4095 → 1 ≤ y4 → y4 ≤ 5 → 0 ≤ y5 → y5 ≤ 4095 → y4 = x4 → jt (jxX E d 95 24 [some (.inr (.inr (.inl 90))), some (.inl y1), some (.inl y2), some (.inl y3), some (.inl y4), some (.inl y5), none, none, none] [] (jxSH, a, b0)) (jQ_X5_firstRing x1 x2 x3 x4 x5 a0 b0) := by
  intro y1 y2 y3 y4 y5 a hv hf hi0 hi1 hi2 hi3 hi4 hi5 hi6 hi7 hi8
  refine jt_eq (bq_X5_firstRing_24 E d y1 y2 y3 y4 y5 a b0) ?_
  exact cp_X5_firstRing_25 E n_ hR d hd x1 x2 x3 x4 x5 a0 b0 hv0 hp0 hp1 hp2 hp3 hp4 hp5 hp6 hp7 hpn y1 y2 y3 y4 y5 0 a hv hf (show 0 ≤ y1 from by omega) (show y1 ≤ 11 from by omega) (show 0 ≤ y2 from by omega) (show y2 ≤ 4095 from by omega) (show 1 ≤ y4 from by omega) (show y4 ≤ 5 from by omega) (show 0 ≤ y5 from by omega) (show y5 ≤ 4095 from by omega) (show 0 ≤ 0 from by omega) (show 0 ≤ 1 from by omega) (show y4 = x4 from by omega)
theorem sr_X5_firstRing (E : jxE) (n_ : Nat) (hR : ∀ m, m + 1 = n_ → Sp_X5_firstRing E m) : Sp_X5_firstRing E n_ := by
  intro d hd x1 x2 x3 x4 x5 a0 b0 hv0 hp0 hp1 hp2 hp3 hp4 hp5 hp6 hp7 hpn
  obtain ⟨d, rfl⟩ : ∃ d2, d = d2 + 1 := ⟨d - 1, by omega⟩
  refine jt_eq (bq_X5_firstRing E d x1 x2 x3 x4 x5 a0 b0) ?_
  refine jt_ite (fun c177_ => ?_) (fun c177_ => ?_)
  ·
    exact cp_X5_firstRing_24 E n_ hR d hd x1 x2 x3 x4 x5 a0 b0 hv0 hp0 hp1 hp2 hp3 hp4 hp5 hp6 hp7 hpn x1 x2 x3 x4 x5 a0 hv0 (jfr_rf _ _) (show 0 ≤ x1 from by omega) (show x1 ≤ 11 from by omega) (show 0 ≤ x2 from by omega) (show x2 ≤ 4095 from by omega) (show 1 ≤ x4 from by omega) (show x4 ≤ 5 from by omega) (show 0 ≤ x5 from by omega) (show x5 ≤ 4095 from by omega) (show x4 = x4 from by omega)
  ·
    refine jt_eI (eq_X5_mayFollow E d (Nat.ble_eq_true_of_le (by omega)) x1 (a0 96 0) a0 b0 (show (0 ≤ x1 ∧ x1 < 12) from by omega)) ?_
    have h178_ := iv_get hv0 (k := 96) (j := 0) (l := 0) (u := 11) rfl
    have h179_ := f_X5_mayFollow_eq a0 b0 x1 (a0 96 0)
    have h180_ := jxshr_b (a0 92 (x1.toNat)) (a0 96 0)
    have h181_ := jxand_r (jxshr (a0 92 (x1.toNat)) (a0 96 0)) 1 (by decide) (by decide)
    refine jt_ite (fun c182_ => ?_) (fun c182_ => ?_)
    ·
      exact cp_X5_firstRing_24 E n_ hR d hd x1 x2 x3 x4 x5 a0 b0 hv0 hp0 hp1 hp2 hp3 hp4 hp5 hp6 hp7 hpn x1 x2 x3 x4 x5 a0 hv0 (jfr_rf _ _) (show 0 ≤ x1 from by omega) (show x1 ≤ 11 from by omega) (show 0 ≤ x2 from by omega) (show x2 ≤ 4095 from by omega) (show 1 ≤ x4 from by omega) (show x4 ≤ 5 from by omega) (show 0 ≤ x5 from by omega) (show x5 ≤ 4095 from by omega) (show x4 = x4 from by omega)
    ·
      exact cp_X5_firstRing_25 E n_ hR d hd x1 x2 x3 x4 x5 a0 b0 hv0 hp0 hp1 hp2 hp3 hp4 hp5 hp6 hp7 hpn x1 x2 x3 x4 x5 1 a0 hv0 (jfr_rf _ _) (show 0 ≤ x1 from by omega) (show x1 ≤ 11 from by omega) (show 0 ≤ x2 from by omega) (show x2 ≤ 4095 from by omega) (show 1 ≤ x4 from by omega) (show x4 ≤ 5 from by omega) (show 0 ≤ x5 from by omega) (show x5 ≤ 4095 from by omega) (show 0 ≤ 1 from by omega) (show 1 ≤ 1 from by omega) (show x4 = x4 from by omega)
theorem sr_all (E : jxE) : ∀ n : Nat, Sp_X10_readOne E n ∧ Sp_X10_readBoth E n ∧ Sp_X10_readEither E n := by
  refine jx_ind fun n ih => ?_
  have h1 : Sp_X10_readOne E n := sr_X10_readOne E n (fun m hm => ⟨(ih m (by omega)).1, (ih m (by omega)).2.2⟩)
  have h2 := sr_X10_readBoth E n h1
  exact ⟨h1, h2, sr_X10_readEither E n h2⟩
theorem sr_all_X5_markFrom (E : jxE) : ∀ n : Nat, Sp_X5_markFrom E n := jx_ind fun n ih => sr_X5_markFrom E n (fun m hm => ih m (by omega))
theorem sr_all_X5_firstRing (E : jxE) : ∀ n : Nat, Sp_X5_firstRing E n := jx_ind fun n ih => sr_X5_firstRing E n (fun m hm => ih m (by omega))
theorem sp_X10_readEither (E : jxE) (d : Nat) (hd : Nat.ble 50 d = true) (x1 : Int) (a0 b0 : Nat → Nat → Int) (hv0 : iv a0) (hp0 : 0 ≤ x1) (hp1 : x1 ≤ 10) : jt (jxC E d 143 [.inr (.inr (.inl 11)), .inl x1] (jxSH, a0, b0)) (jQ_X10_readEither x1 a0 b0) := by
  have hd2 := Nat.le_of_ble_eq_true hd
  exact (sr_all E 10).2.2 d (by omega) x1 a0 b0 hv0 hp0 hp1 (by omega)
theorem sp_X5_markFrom (E : jxE) (d : Nat) (hd : Nat.ble 20 d = true) (x1 x2 x3 x4 x5 : Int) (a0 b0 : Nat → Nat → Int) (hv0 : iv a0) (hp0 : 0 ≤ x1) (hp1 : x1 ≤ 11) (hp2 : 0 ≤ x2) (hp3 : x2 ≤ 11) (hp4 : 0 ≤ x3) (hp5 : x3 ≤ 4095) (hp6 : 1 ≤ x5) (hp7 : x5 ≤ 5) : jt (jxC E d 87 [.inr (.inr (.inl 90)), .inl x1, .inl x2, .inl x3, .inl x4, .inl x5] (jxSH, a0, b0)) (jQ_X5_markFrom x1 x2 x3 x4 x5 a0 b0) := by
  have hd2 := Nat.le_of_ble_eq_true hd
  exact (sr_all_X5_markFrom E 4) d (by omega) x1 x2 x3 x4 x5 a0 b0 hv0 hp0 hp1 hp2 hp3 hp4 hp5 hp6 hp7 (by omega)
theorem sp_X5_firstRing (E : jxE) (d : Nat) (hd : Nat.ble 20 d = true) (x1 x2 x3 x4 x5 : Int) (a0 b0 : Nat → Nat → Int) (hv0 : iv a0) (hp0 : 0 ≤ x1) (hp1 : x1 ≤ 11) (hp2 : 0 ≤ x2) (hp3 : x2 ≤ 4095) (hp4 : 1 ≤ x4) (hp5 : x4 ≤ 5) (hp6 : 0 ≤ x5) (hp7 : x5 ≤ 4095) : jt (jxC E d 95 [.inr (.inr (.inl 90)), .inl x1, .inl x2, .inl x3, .inl x4, .inl x5] (jxSH, a0, b0)) (jQ_X5_firstRing x1 x2 x3 x4 x5 a0 b0) := by
  have hd2 := Nat.le_of_ble_eq_true hd
  exact (sr_all_X5_firstRing E 4) d (by omega) x1 x2 x3 x4 x5 a0 b0 hv0 hp0 hp1 hp2 hp3 hp4 hp5 hp6 hp7 (by omega)
def jW_X10_read : List (Nat × Nat) := [(2, 2), (2, 3), (11, 6), (11, 7), (12, 9999), (53, 9999), (54, 9999)]
abbrev jQ_X10_read (x1 : Int) (a0 b0 : Nat → Nat → Int) : List jxV → (Nat → Nat → Int) → (Nat → Nat → Int) → Prop := rI (fun r a b => (iv a) ∧ (jfr jW_X10_read a0 a) ∧ (b0 = b))
theorem cp_X10_read_49 (E : jxE) (d : Nat) (hd : Nat.ble 51 (d + 1) = true) (x1 : Int) (a0 b0 : Nat → Nat → Int) (hv0 : iv a0) : ∀ (y1 : Int) (a : Nat → Nat → Int), iv a → jfr jW_X10_read a0 a → jt (jxX E d 141 49 [some (.inr (.inr (.inl 11))), some (.inl y1)] [] (jxSH, a, b0)) (jQ_X10_read x1 a0 b0) := by
  intro y1 a hv hf
  refine jt_eq (bq_X10_read_49 E d y1 a b0) ?_
  refine jt_eI (eq_X8_isFaulty E d (jd_le hd rfl) a b0) ?_
  have h183_ := f_X8_isFaulty_eq a b0
  refine jt_ite (fun c184_ => ?_) (fun c184_ => ?_)
  ·
    refine jt_bV (sp_X10_keepDraft E d (jd_le hd rfl) y1 a b0 hv) (fun a185_ b185_ h185_ => ?_)
    obtain ⟨hv185_, hf185_, rfl⟩ := h185_
    have hf186_ : jfr jW_X10_read a0 a185_ := jfr_tr hf hf185_ rfl
    exact jt_rI ⟨hv185_, hf186_, rfl⟩
  ·
    refine jt_eI (eq_X8_answerOfFault E d (jd_le hd rfl) a b0) ?_
    exact jt_rI ⟨hv, hf, rfl⟩
theorem cp_X10_read_32 (E : jxE) (d : Nat) (hd : Nat.ble 51 (d + 1) = true) (x1 : Int) (a0 b0 : Nat → Nat → Int) (hv0 : iv a0) : ∀ (y1 : Int) (a : Nat → Nat → Int), iv a → jfr jW_X10_read a0 a → jt (jxX E d 141 32 [some (.inr (.inr (.inl 11))), some (.inl y1)] [] (jxSH, a, b0)) (jQ_X10_read x1 a0 b0) := by
  intro y1 a hv hf
  refine jt_eq (bq_X10_read_32 E d y1 a b0) ?_
  refine jt_eI (eq_X8_isAtEnd E d (jd_le hd rfl) a b0) ?_
  have h187_ := f_X8_isAtEnd_eq a b0
  have h188_ := iv_get hv (k := 2) (j := 2) (l := 0) (u := 200) rfl
  have h189_ := iv_get hv (k := 2) (j := 1) (l := 0) (u := 200) rfl
  have h190_ : a 2 1 = a0 2 1 := hf 2 1 rfl
  have h191_ := iv_get hv0 (k := 2) (j := 1) (l := 0) (u := 200) rfl
  refine jt_ite (fun c192_ => ?_) (fun c192_ => ?_)
  ·
    refine jt_bV (sp_X8_noteCannotStand E d (jd_le hd rfl) a b0 hv) (fun a193_ b193_ h193_ => ?_)
    obtain ⟨hv193_, hf193_, rfl, hq193_0, hq193_1⟩ := h193_
    have hf194_ : jfr jW_X10_read a0 a193_ := jfr_tr hf hf193_ rfl
    exact cp_X10_read_49 E d hd x1 a0 b0 hv0 y1 a193_ hv193_ hf194_
  ·
    exact cp_X10_read_49 E d hd x1 a0 b0 hv0 y1 a hv hf
theorem sp_X10_read (E : jxE) (d : Nat) (hd : Nat.ble 51 d = true) (x1 : Int) (a0 b0 : Nat → Nat → Int) (hv0 : iv a0) : jt (jxC E d 141 [.inr (.inr (.inl 11)), .inl x1] (jxSH, a0, b0)) (jQ_X10_read x1 a0 b0) := by
  obtain ⟨d, rfl⟩ := jd_succ hd
  refine jt_eq (bq_X10_read E d x1 a0 b0) ?_
  have hv195_ : iv (jxu a0 11 6 0) := iv_put hv0 (l := 0) (u := 40) rfl (by omega) (by omega)
  have hv196_ : iv (jxu (jxu a0 11 6 0) 11 7 0) := iv_put hv195_ (l := 0) (u := 12) rfl (by omega) (by omega)
  refine jt_bV (sp_X8_startReading E d (jd_le hd rfl) (jxu (jxu a0 11 6 0) 11 7 0) b0 hv196_) (fun a197_ b197_ h197_ => ?_)
  obtain ⟨hv197_, hf197_, rfl, hq197_0, hq197_1, hq197_2⟩ := h197_
  have h198_ : a197_ 2 3 = 0 := hq197_0
  have h199_ := iv_get hv0 (k := 2) (j := 1) (l := 0) (u := 200) rfl
  have h200_ := iv_get hv197_ (k := 2) (j := 2) (l := 0) (u := 200) rfl
  have h201_ : (a0 2 1 = 0 → a197_ 2 2 = 0) := hq197_1
  refine jt_eI (eq_X8_isAtEnd E d (jd_le hd rfl) a197_ b0) ?_
  have h202_ := f_X8_isAtEnd_eq a197_ b0
  have h203_ := iv_get hv197_ (k := 2) (j := 1) (l := 0) (u := 200) rfl
  have h204_ : a197_ 2 1 = a0 2 1 := hf197_ 2 1 rfl
  refine jt_ite (fun c205_ => ?_) (fun c205_ => ?_)
  ·
    refine jt_bV (sp_X10_readEither E d (jd_le hd rfl) 0 a197_ b0 hv197_ (show 0 ≤ 0 from by omega) (show 0 ≤ 10 from by omega)) (fun a206_ b206_ h206_ => ?_)
    obtain ⟨hv206_, hf206_, rfl⟩ := h206_
    have hf207_ : jfr jW_X10_read a0 (jxu a0 11 6 0) := jfr_put (jfr_rf _ _) rfl
    have hf208_ : jfr jW_X10_read a0 (jxu (jxu a0 11 6 0) 11 7 0) := jfr_put hf207_ rfl
    have hf209_ : jfr jW_X10_read a0 a197_ := jfr_tr hf208_ hf197_ rfl
    have hf210_ : jfr jW_X10_read a0 a206_ := jfr_tr hf209_ hf206_ rfl
    exact cp_X10_read_32 E d hd x1 a0 b0 hv0 x1 a206_ hv206_ hf210_
  ·
    have hf211_ : jfr jW_X10_read a0 (jxu a0 11 6 0) := jfr_put (jfr_rf _ _) rfl
    have hf212_ : jfr jW_X10_read a0 (jxu (jxu a0 11 6 0) 11 7 0) := jfr_put hf211_ rfl
    have hf213_ : jfr jW_X10_read a0 a197_ := jfr_tr hf212_ hf197_ rfl
    exact cp_X10_read_49 E d hd x1 a0 b0 hv0 x1 a197_ hv197_ hf213_
def jW_X11_wish : List (Nat × Nat) := [(2, 1), (2, 2), (2, 3), (11, 6), (11, 7), (12, 9999), (53, 9999), (54, 9999)]
abbrev jQ_X11_wish (x1 : Int) (a0 b0 : Nat → Nat → Int) : List jxV → (Nat → Nat → Int) → (Nat → Nat → Int) → Prop := rI (fun r a b => (iv a) ∧ (jfr jW_X11_wish a0 a) ∧ (b0 = b) ∧ ((a0 4 6 = 0 → r = 0 - 1)) ∧ ((((0 ≤ x1 ∧ x1 < a0 4 6) ∧ a0 2 1 ≤ 100) → a 2 1 = 0)) ∧ ((((x1 < 0 ∨ a0 4 6 ≤ x1) ∨ 100 < a0 2 1) → a 2 1 = a0 2 1)))
theorem cp_X11_wish_34 (E : jxE) (d : Nat) (hd : Nat.ble 52 (d + 1) = true) (x1 : Int) (a0 b0 : Nat → Nat → Int) (hv0 : iv a0) : ∀ (y2 : Int) (a : Nat → Nat → Int), iv a → jfr jW_X11_wish a0 a → 1 ≤ a0 4 6 → ((0 ≤ x1 ∧ x1 < a0 4 6) ∧ a0 2 1 ≤ 100) → jt (jxX E d 162 34 [some (.inr (.inr (.inl 0))), none, some (.inl y2)] [] (jxSH, a, b0)) (jQ_X11_wish x1 a0 b0) := by
  intro y2 a hv hf hi0 hi1
  refine jt_eq (bq_X11_wish_34 E d y2 a b0) ?_
  have h214_ := iv_get hv0 (k := 4) (j := 6) (l := 0) (u := 40) rfl
  have h215_ := iv_get hv0 (k := 2) (j := 1) (l := 0) (u := 200) rfl
  refine jt_bV (sp_X8_cut E d (jd_le hd rfl) 0 a b0 hv) (fun a216_ b216_ h216_ => ?_)
  obtain ⟨hv216_, hf216_, rfl, hq216_0⟩ := h216_
  have h217_ := iv_get hv (k := 2) (j := 1) (l := 0) (u := 200) rfl
  have h218_ := iv_get hv216_ (k := 2) (j := 1) (l := 0) (u := 200) rfl
  have hf219_ : jfr jW_X11_wish a0 a216_ := jfr_tr hf hf216_ rfl
  exact jt_rI ⟨hv216_, hf219_, rfl, (show (a0 4 6 = 0 → y2 = 0 - 1) from by omega), (show (((0 ≤ x1 ∧ x1 < a0 4 6) ∧ a0 2 1 ≤ 100) → a216_ 2 1 = 0) from by omega), (show (((x1 < 0 ∨ a0 4 6 ≤ x1) ∨ 100 < a0 2 1) → a216_ 2 1 = a0 2 1) from by omega)⟩
theorem sp_X11_wish (E : jxE) (d : Nat) (hd : Nat.ble 52 d = true) (x1 : Int) (a0 b0 : Nat → Nat → Int) (hv0 : iv a0) : jt (jxC E d 162 [.inr (.inr (.inl 0)), .inl x1] (jxSH, a0, b0)) (jQ_X11_wish x1 a0 b0) := by
  obtain ⟨d, rfl⟩ := jd_succ hd
  refine jt_eq (bq_X11_wish E d x1 a0 b0) ?_
  refine jt_eI (eq_X3_has E d (jd_le hd rfl) x1 a0 b0) ?_
  have h220_ := f_X3_has_eq a0 b0 x1
  have h221_ := iv_get hv0 (k := 4) (j := 6) (l := 0) (u := 40) rfl
  refine jt_ite (fun c222_ => ?_) (fun c222_ => ?_)
  ·
    have h223_ := iv_get hv0 (k := 2) (j := 1) (l := 0) (u := 200) rfl
    exact jt_rI ⟨hv0, (jfr_rf _ _), rfl, (show (a0 4 6 = 0 → (-1) = 0 - 1) from by omega), (show (((0 ≤ x1 ∧ x1 < a0 4 6) ∧ a0 2 1 ≤ 100) → a0 2 1 = 0) from by omega), (show (((x1 < 0 ∨ a0 4 6 ≤ x1) ∨ 100 < a0 2 1) → a0 2 1 = a0 2 1) from by omega)⟩
  ·
    refine jt_eI (eq_X8_length E d (jd_le hd rfl) a0 b0) ?_
    have h224_ := f_X8_length_eq a0 b0
    have h225_ := iv_get hv0 (k := 2) (j := 1) (l := 0) (u := 200) rfl
    refine jt_ite (fun c226_ => ?_) (fun c226_ => ?_)
    ·
      exact jt_rI ⟨hv0, (jfr_rf _ _), rfl, (show (a0 4 6 = 0 → (-1) = 0 - 1) from by omega), (show (((0 ≤ x1 ∧ x1 < a0 4 6) ∧ a0 2 1 ≤ 100) → a0 2 1 = 0) from by omega), (show (((x1 < 0 ∨ a0 4 6 ≤ x1) ∨ 100 < a0 2 1) → a0 2 1 = a0 2 1) from by omega)⟩
    ·
      refine jt_bI (sp_X10_read E d (jd_le hd rfl) x1 a0 b0 hv0) (fun r227_ a227_ b227_ h227_ => ?_)
      obtain ⟨hv227_, hf227_, rfl⟩ := h227_
      have hf228_ : jfr jW_X11_wish a0 a227_ := jfr_tr (jfr_rf _ _) hf227_ rfl
      exact cp_X11_wish_34 E d hd x1 a0 b0 hv0 r227_ a227_ hv227_ hf228_ (show 1 ≤ a0 4 6 from by omega) (show ((0 ≤ x1 ∧ x1 < a0 4 6) ∧ a0 2 1 ≤ 100) from by omega)
def jW_X5_markRingSets : List (Nat × Nat) := [(90, 8)]
abbrev jQ_X5_markRingSets (a0 b0 : Nat → Nat → Int) : List jxV → (Nat → Nat → Int) → (Nat → Nat → Int) → Prop := rV (fun a b => (iv a) ∧ (jfr jW_X5_markRingSets a0 a))
theorem cp_X5_markRingSets_31 (E : jxE) (d : Nat) (hd : Nat.ble 21 (d + 1) = true) (a0 b0 : Nat → Nat → Int) (hv0 : iv a0) : ∀ n : Nat, (∀ (y1 : Int) (a b : Nat → Nat → Int), (((12 - y1) * 1) + 0).toNat ≤ n → iv a → jfr jW_X5_markRingSets a0 a → 0 ≤ y1 → y1 ≤ 11 → 1 ≤ a 90 3 → jt (jxX E d 86 55 [some (.inr (.inr (.inl 90))), some (.inl y1)] [] (jxSH, a, b)) (jQ_X5_markRingSets a0 b0)) ∧ (∀ (y1 : Int) (a b : Nat → Nat → Int), (((12 - y1) * 1) + 0).toNat ≤ n → iv a → jfr jW_X5_markRingSets a0 a → 0 ≤ y1 → y1 ≤ 12 → jt (jxX E d 86 31 [some (.inr (.inr (.inl 90))), some (.inl y1)] [] (jxSH, a, b)) (jQ_X5_markRingSets a0 b0)) := by
  refine jx_ind fun n ih => ?_
  have ih55 : ∀ (y1 : Int) (a b : Nat → Nat → Int), (((12 - y1) * 1) + 0).toNat < n → iv a → jfr jW_X5_markRingSets a0 a → 0 ≤ y1 → y1 ≤ 11 → 1 ≤ a 90 3 → jt (jxX E d 86 55 [some (.inr (.inr (.inl 90))), some (.inl y1)] [] (jxSH, a, b)) (jQ_X5_markRingSets a0 b0) := fun y1 a b hlt i0 i1 i2 i3 i4 => (ih _ hlt).1 y1 a b (Nat.le_refl _) i0 i1 i2 i3 i4
  have ih31 : ∀ (y1 : Int) (a b : Nat → Nat → Int), (((12 - y1) * 1) + 0).toNat < n → iv a → jfr jW_X5_markRingSets a0 a → 0 ≤ y1 → y1 ≤ 12 → jt (jxX E d 86 31 [some (.inr (.inr (.inl 90))), some (.inl y1)] [] (jxSH, a, b)) (jQ_X5_markRingSets a0 b0) := fun y1 a b hlt i0 i1 i2 i3 => (ih _ hlt).2 y1 a b (Nat.le_refl _) i0 i1 i2 i3
  have hc55 : ∀ (y1 : Int) (a b : Nat → Nat → Int), (((12 - y1) * 1) + 0).toNat ≤ n → iv a → jfr jW_X5_markRingSets a0 a → 0 ≤ y1 → y1 ≤ 11 → 1 ≤ a 90 3 → jt (jxX E d 86 55 [some (.inr (.inr (.inl 90))), some (.inl y1)] [] (jxSH, a, b)) (jQ_X5_markRingSets a0 b0) := by
    intro y1 a b hm hv hf hi0 hi1 hi2
    refine jt_eq (bq_X5_markRingSets_55 E d y1 a b) ?_
    have h229_ := iv_get hv (k := 90) (j := 3) (l := 0) (u := 12) rfl
    have h230_ : a 90 3 = a0 90 3 := hf 90 3 rfl
    have h231_ := iv_get hv0 (k := 90) (j := 3) (l := 0) (u := 12) rfl
    have h232_ : jxw (y1 + 1) = y1 + 1 := jxw_id (by omega) (by omega)
    exact ih31 (jxw (y1 + 1)) a b (show (((12 - (jxw (y1 + 1))) * 1) + 0).toNat < n from by omega) hv hf (show 0 ≤ jxw (y1 + 1) from by omega) (show jxw (y1 + 1) ≤ 12 from by omega)
  have hc31 : ∀ (y1 : Int) (a b : Nat → Nat → Int), (((12 - y1) * 1) + 0).toNat ≤ n → iv a → jfr jW_X5_markRingSets a0 a → 0 ≤ y1 → y1 ≤ 12 → jt (jxX E d 86 31 [some (.inr (.inr (.inl 90))), some (.inl y1)] [] (jxSH, a, b)) (jQ_X5_markRingSets a0 b0) := by
    intro y1 a b hm hv hf hi0 hi1
    refine jt_eq (bq_X5_markRingSets_31 E d y1 a b) ?_
    have h233_ := iv_get hv (k := 90) (j := 3) (l := 0) (u := 12) rfl
    have h234_ : a 90 3 = a0 90 3 := hf 90 3 rfl
    have h235_ := iv_get hv0 (k := 90) (j := 3) (l := 0) (u := 12) rfl
    refine jt_ite (fun c236_ => ?_) (fun c236_ => ?_)
    ·
      refine jt_grd (by omega) ?_
      have h237_ := jxshl1_b y1
      refine jt_bV (sp_X5_markFrom E d (jd_le hd rfl) y1 y1 (jxshl 1 y1) (a 93 (y1.toNat)) 1 a b hv (show 0 ≤ y1 from by omega) (show y1 ≤ 11 from by omega) (show 0 ≤ y1 from by omega) (show y1 ≤ 11 from by omega) (show 0 ≤ jxshl 1 y1 from by omega) (show jxshl 1 y1 ≤ 4095 from by omega) (show 1 ≤ 1 from by omega) (show 1 ≤ 5 from by omega)) (fun a238_ b238_ h238_ => ?_)
      obtain ⟨hv238_, hf238_⟩ := h238_
      have hf239_ : jfr jW_X5_markRingSets a0 a238_ := jfr_tr hf hf238_ rfl
      have h240_ := iv_get hv238_ (k := 90) (j := 3) (l := 0) (u := 12) rfl
      have h241_ : a238_ 90 3 = a 90 3 := hf238_ 90 3 rfl
      exact hc55 y1 a238_ b238_ (show (((12 - y1) * 1) + 0).toNat ≤ n from by omega) hv238_ hf239_ (show 0 ≤ y1 from by omega) (show y1 ≤ 11 from by omega) (show 1 ≤ a238_ 90 3 from by omega)
    ·
      exact jt_rV ⟨hv, hf⟩
  exact ⟨hc55, hc31⟩
theorem cp_X5_markRingSets_2 (E : jxE) (d : Nat) (hd : Nat.ble 21 (d + 1) = true) (a0 b0 : Nat → Nat → Int) (hv0 : iv a0) : ∀ n : Nat, (∀ (y1 : Int) (a b : Nat → Nat → Int), (((64 - y1) * 1) + 0).toNat ≤ n → iv a → jfr jW_X5_markRingSets a0 a → 0 ≤ y1 → y1 ≤ 64 → jt (jxX E d 86 2 [some (.inr (.inr (.inl 90))), some (.inl y1)] [] (jxSH, a, b)) (jQ_X5_markRingSets a0 b0)) := by
  refine jx_ind fun n ih => ?_
  have ih2 : ∀ (y1 : Int) (a b : Nat → Nat → Int), (((64 - y1) * 1) + 0).toNat < n → iv a → jfr jW_X5_markRingSets a0 a → 0 ≤ y1 → y1 ≤ 64 → jt (jxX E d 86 2 [some (.inr (.inr (.inl 90))), some (.inl y1)] [] (jxSH, a, b)) (jQ_X5_markRingSets a0 b0) := fun y1 a b hlt i0 i1 i2 i3 => (ih _ hlt) y1 a b (Nat.le_refl _) i0 i1 i2 i3
  have hc2 : ∀ (y1 : Int) (a b : Nat → Nat → Int), (((64 - y1) * 1) + 0).toNat ≤ n → iv a → jfr jW_X5_markRingSets a0 a → 0 ≤ y1 → y1 ≤ 64 → jt (jxX E d 86 2 [some (.inr (.inr (.inl 90))), some (.inl y1)] [] (jxSH, a, b)) (jQ_X5_markRingSets a0 b0) := by
    intro y1 a b hm hv hf hi0 hi1
    refine jt_eq (bq_X5_markRingSets_2 E d y1 a b) ?_
    refine jt_ite (fun c242_ => ?_) (fun c242_ => ?_)
    ·
      refine jt_grd (by omega) ?_
      have h243_ : jxw (y1 + 1) = y1 + 1 := jxw_id (by omega) (by omega)
      exact ih2 (jxw (y1 + 1)) a (jxu b 94 (y1.toNat) 0) (show (((64 - (jxw (y1 + 1))) * 1) + 0).toNat < n from by omega) hv hf (show 0 ≤ jxw (y1 + 1) from by omega) (show jxw (y1 + 1) ≤ 64 from by omega)
    ·
      have hv244_ : iv (jxu a 90 8 0) := iv_put hv (l := 0) (u := 4095) rfl (by omega) (by omega)
      have hf245_ : jfr jW_X5_markRingSets a0 (jxu a 90 8 0) := jfr_put hf rfl
      exact (cp_X5_markRingSets_31 E d hd a0 b0 hv0 _).2 0 (jxu a 90 8 0) b (Nat.le_refl _) hv244_ hf245_ (show 0 ≤ 0 from by omega) (show 0 ≤ 12 from by omega)
  exact hc2
theorem sp_X5_markRingSets (E : jxE) (d : Nat) (hd : Nat.ble 21 d = true) (a0 b0 : Nat → Nat → Int) (hv0 : iv a0) : jt (jxC E d 86 [.inr (.inr (.inl 90))] (jxSH, a0, b0)) (jQ_X5_markRingSets a0 b0) := by
  obtain ⟨d, rfl⟩ := jd_succ hd
  refine jt_eq (bq_X5_markRingSets E d a0 b0) ?_
  exact (cp_X5_markRingSets_2 E d hd a0 b0 hv0 _) 0 a0 b0 (Nat.le_refl _) hv0 (jfr_rf _ _) (show 0 ≤ 0 from by omega) (show 0 ≤ 64 from by omega)
def jW_X5_takeFirstRings : List (Nat × Nat) := [(90, 12), (96, 9999), (97, 9999), (104, 9999)]
abbrev jQ_X5_takeFirstRings (a0 b0 : Nat → Nat → Int) : List jxV → (Nat → Nat → Int) → (Nat → Nat → Int) → Prop := rV (fun a b => (iv a) ∧ (jfr jW_X5_takeFirstRings a0 a) ∧ (b0 = b) ∧ ((a0 90 3 = 0 → a 90 12 = 0)))
theorem cp_X5_takeFirstRings_12 (E : jxE) (d : Nat) (hd : Nat.ble 21 (d + 1) = true) (a0 b0 : Nat → Nat → Int) (hv0 : iv a0) : ∀ n : Nat, (∀ (y1 y2 : Int) (a : Nat → Nat → Int), (((12 - y2) * 1) + 0).toNat ≤ n → iv a → jfr jW_X5_takeFirstRings a0 a → 0 ≤ y1 → y1 ≤ 4095 → 0 ≤ y2 → y2 ≤ 11 → 1 ≤ a 90 3 → 1 ≤ a0 90 3 → jt (jxX E d 94 71 [some (.inr (.inr (.inl 90))), some (.inl y1), some (.inl y2), none] [] (jxSH, a, b0)) (jQ_X5_takeFirstRings a0 b0)) ∧ (∀ (y1 y2 : Int) (a : Nat → Nat → Int), (((12 - y2) * 1) + 0).toNat ≤ n → iv a → jfr jW_X5_takeFirstRings a0 a → 0 ≤ y1 → y1 ≤ 4095 → 0 ≤ y2 → y2 ≤ 11 → 1 ≤ a 90 3 → 1 ≤ a0 90 3 → jt (jxX E d 94 36 [some (.inr (.inr (.inl 90))), some (.inl y1), some (.inl y2), none] [] (jxSH, a, b0)) (jQ_X5_takeFirstRings a0 b0)) ∧ (∀ (y1 y2 : Int) (a : Nat → Nat → Int), (((12 - y2) * 1) + 0).toNat ≤ n → iv a → jfr jW_X5_takeFirstRings a0 a → 0 ≤ y1 → y1 ≤ 4095 → 0 ≤ y2 → y2 ≤ 12 → (a0 90 3 = 0 → a 90 12 = 0) → jt (jxX E d 94 12 [some (.inr (.inr (.inl 90))), some (.inl y1), some (.inl y2), none] [] (jxSH, a, b0)) (jQ_X5_takeFirstRings a0 b0)) := by
  refine jx_ind fun n ih => ?_
  have ih71 : ∀ (y1 y2 : Int) (a : Nat → Nat → Int), (((12 - y2) * 1) + 0).toNat < n → iv a → jfr jW_X5_takeFirstRings a0 a → 0 ≤ y1 → y1 ≤ 4095 → 0 ≤ y2 → y2 ≤ 11 → 1 ≤ a 90 3 → 1 ≤ a0 90 3 → jt (jxX E d 94 71 [some (.inr (.inr (.inl 90))), some (.inl y1), some (.inl y2), none] [] (jxSH, a, b0)) (jQ_X5_takeFirstRings a0 b0) := fun y1 y2 a hlt i0 i1 i2 i3 i4 i5 i6 i7 => (ih _ hlt).1 y1 y2 a (Nat.le_refl _) i0 i1 i2 i3 i4 i5 i6 i7
  have ih36 : ∀ (y1 y2 : Int) (a : Nat → Nat → Int), (((12 - y2) * 1) + 0).toNat < n → iv a → jfr jW_X5_takeFirstRings a0 a → 0 ≤ y1 → y1 ≤ 4095 → 0 ≤ y2 → y2 ≤ 11 → 1 ≤ a 90 3 → 1 ≤ a0 90 3 → jt (jxX E d 94 36 [some (.inr (.inr (.inl 90))), some (.inl y1), some (.inl y2), none] [] (jxSH, a, b0)) (jQ_X5_takeFirstRings a0 b0) := fun y1 y2 a hlt i0 i1 i2 i3 i4 i5 i6 i7 => (ih _ hlt).2.1 y1 y2 a (Nat.le_refl _) i0 i1 i2 i3 i4 i5 i6 i7
  have ih12 : ∀ (y1 y2 : Int) (a : Nat → Nat → Int), (((12 - y2) * 1) + 0).toNat < n → iv a → jfr jW_X5_takeFirstRings a0 a → 0 ≤ y1 → y1 ≤ 4095 → 0 ≤ y2 → y2 ≤ 12 → (a0 90 3 = 0 → a 90 12 = 0) → jt (jxX E d 94 12 [some (.inr (.inr (.inl 90))), some (.inl y1), some (.inl y2), none] [] (jxSH, a, b0)) (jQ_X5_takeFirstRings a0 b0) := fun y1 y2 a hlt i0 i1 i2 i3 i4 i5 i6 => (ih _ hlt).2.2 y1 y2 a (Nat.le_refl _) i0 i1 i2 i3 i4 i5 i6
  have hc71 : ∀ (y1 y2 : Int) (a : Nat → Nat → Int), (((12 - y2) * 1) + 0).toNat ≤ n → iv a → jfr jW_X5_takeFirstRings a0 a → 0 ≤ y1 → y1 ≤ 4095 → 0 ≤ y2 → y2 ≤ 11 → 1 ≤ a 90 3 → 1 ≤ a0 90 3 → jt (jxX E d 94 71 [some (.inr (.inr (.inl 90))), some (.inl y1), some (.inl y2), none] [] (jxSH, a, b0)) (jQ_X5_takeFirstRings a0 b0) := by
    intro y1 y2 a hm hv hf hi0 hi1 hi2 hi3 hi4 hi5
    refine jt_eq (bq_X5_takeFirstRings_71 E d y1 y2 a b0) ?_
    have h246_ := iv_get hv (k := 90) (j := 3) (l := 0) (u := 12) rfl
    have h247_ : a 90 3 = a0 90 3 := hf 90 3 rfl
    have h248_ := iv_get hv0 (k := 90) (j := 3) (l := 0) (u := 12) rfl
    have h249_ : jxw (y2 + 1) = y2 + 1 := jxw_id (by omega) (by omega)
    have h250_ := iv_get hv (k := 90) (j := 12) (l := 0) (u := 6) rfl
    exact ih12 y1 (jxw (y2 + 1)) a (show (((12 - (jxw (y2 + 1))) * 1) + 0).toNat < n from by omega) hv hf (show 0 ≤ y1 from by omega) (show y1 ≤ 4095 from by omega) (show 0 ≤ jxw (y2 + 1) from by omega) (show jxw (y2 + 1) ≤ 12 from by omega) (show (a0 90 3 = 0 → a 90 12 = 0) from by omega)
  have hc36 : ∀ (y1 y2 : Int) (a : Nat → Nat → Int), (((12 - y2) * 1) + 0).toNat ≤ n → iv a → jfr jW_X5_takeFirstRings a0 a → 0 ≤ y1 → y1 ≤ 4095 → 0 ≤ y2 → y2 ≤ 11 → 1 ≤ a 90 3 → 1 ≤ a0 90 3 → jt (jxX E d 94 36 [some (.inr (.inr (.inl 90))), some (.inl y1), some (.inl y2), none] [] (jxSH, a, b0)) (jQ_X5_takeFirstRings a0 b0) := by
    intro y1 y2 a hm hv hf hi0 hi1 hi2 hi3 hi4 hi5
    refine jt_eq (bq_X5_takeFirstRings_36 E d y1 y2 a b0) ?_
    have h251_ := iv_get hv (k := 90) (j := 3) (l := 0) (u := 12) rfl
    have h252_ : a 90 3 = a0 90 3 := hf 90 3 rfl
    have h253_ := iv_get hv0 (k := 90) (j := 3) (l := 0) (u := 12) rfl
    refine jt_grd (by omega) ?_
    have h254_ := jxshl1_b y2
    refine jt_bI (sp_X5_firstRing E d (jd_le hd rfl) y2 (jxshl 1 y2) (a 93 (y2.toNat)) 1 y1 a b0 hv (show 0 ≤ y2 from by omega) (show y2 ≤ 11 from by omega) (show 0 ≤ jxshl 1 y2 from by omega) (show jxshl 1 y2 ≤ 4095 from by omega) (show 1 ≤ 1 from by omega) (show 1 ≤ 5 from by omega) (show 0 ≤ y1 from by omega) (show y1 ≤ 4095 from by omega)) (fun r255_ a255_ b255_ h255_ => ?_)
    obtain ⟨hv255_, hf255_, rfl, hq255_0, hq255_1⟩ := h255_
    refine jt_ite (fun c256_ => ?_) (fun c256_ => ?_)
    ·
      have hf257_ : jfr jW_X5_takeFirstRings a0 a255_ := jfr_tr hf hf255_ rfl
      have h258_ := jxxor_b y1 (jxshl 1 y2)
      have h259_ := iv_get hv255_ (k := 90) (j := 3) (l := 0) (u := 12) rfl
      have h260_ : a255_ 90 3 = a 90 3 := hf255_ 90 3 rfl
      exact hc71 (jxxor y1 (jxshl 1 y2)) y2 a255_ (show (((12 - y2) * 1) + 0).toNat ≤ n from by omega) hv255_ hf257_ (show 0 ≤ jxxor y1 (jxshl 1 y2) from by omega) (show jxxor y1 (jxshl 1 y2) ≤ 4095 from by omega) (show 0 ≤ y2 from by omega) (show y2 ≤ 11 from by omega) (show 1 ≤ a255_ 90 3 from by omega) (show 1 ≤ a0 90 3 from by omega)
    ·
      refine jt_bI (sp_X5_keepRing E d (jd_le hd rfl) r255_ a255_ b0 hv255_ (show 1 ≤ r255_ from by omega) (show r255_ ≤ 5 from by omega)) (fun r261_ a261_ b261_ h261_ => ?_)
      obtain ⟨hv261_, hf261_, rfl, hq261_0, hq261_1⟩ := h261_
      have hf262_ : jfr jW_X5_takeFirstRings a0 a255_ := jfr_tr hf hf255_ rfl
      have hf263_ : jfr jW_X5_takeFirstRings a0 a261_ := jfr_tr hf262_ hf261_ rfl
      have h264_ := jxxor_b y1 r261_
      have h265_ := iv_get hv261_ (k := 90) (j := 3) (l := 0) (u := 12) rfl
      have h266_ : a261_ 90 3 = a255_ 90 3 := hf261_ 90 3 rfl
      have h267_ := iv_get hv255_ (k := 90) (j := 3) (l := 0) (u := 12) rfl
      have h268_ : a255_ 90 3 = a 90 3 := hf255_ 90 3 rfl
      exact hc71 (jxxor y1 r261_) y2 a261_ (show (((12 - y2) * 1) + 0).toNat ≤ n from by omega) hv261_ hf263_ (show 0 ≤ jxxor y1 r261_ from by omega) (show jxxor y1 r261_ ≤ 4095 from by omega) (show 0 ≤ y2 from by omega) (show y2 ≤ 11 from by omega) (show 1 ≤ a261_ 90 3 from by omega) (show 1 ≤ a0 90 3 from by omega)
  have hc12 : ∀ (y1 y2 : Int) (a : Nat → Nat → Int), (((12 - y2) * 1) + 0).toNat ≤ n → iv a → jfr jW_X5_takeFirstRings a0 a → 0 ≤ y1 → y1 ≤ 4095 → 0 ≤ y2 → y2 ≤ 12 → (a0 90 3 = 0 → a 90 12 = 0) → jt (jxX E d 94 12 [some (.inr (.inr (.inl 90))), some (.inl y1), some (.inl y2), none] [] (jxSH, a, b0)) (jQ_X5_takeFirstRings a0 b0) := by
    intro y1 y2 a hm hv hf hi0 hi1 hi2 hi3 hi4
    refine jt_eq (bq_X5_takeFirstRings_12 E d y1 y2 a b0) ?_
    have h269_ := iv_get hv0 (k := 90) (j := 3) (l := 0) (u := 12) rfl
    have h270_ := iv_get hv (k := 90) (j := 12) (l := 0) (u := 6) rfl
    have h271_ := iv_get hv (k := 90) (j := 3) (l := 0) (u := 12) rfl
    have h272_ : a 90 3 = a0 90 3 := hf 90 3 rfl
    refine jt_ite (fun c273_ => ?_) (fun c273_ => ?_)
    ·
      have h274_ := jxshr_b y1 y2
      have h275_ := jxand_r (jxshr y1 y2) 1 (by decide) (by decide)
      refine jt_ite (fun c276_ => ?_) (fun c276_ => ?_)
      ·
        have hv277_ : iv (jxu a 96 0 y2) := iv_put hv (l := 0) (u := 11) rfl (by omega) (by omega)
        have hf278_ : jfr jW_X5_takeFirstRings a0 (jxu a 96 0 y2) := jfr_put hf rfl
        exact hc36 y1 y2 (jxu a 96 0 y2) (show (((12 - y2) * 1) + 0).toNat ≤ n from by omega) hv277_ hf278_ (show 0 ≤ y1 from by omega) (show y1 ≤ 4095 from by omega) (show 0 ≤ y2 from by omega) (show y2 ≤ 11 from by omega) (show 1 ≤ a 90 3 from by omega) (show 1 ≤ a0 90 3 from by omega)
      ·
        exact hc71 y1 y2 a (show (((12 - y2) * 1) + 0).toNat ≤ n from by omega) hv hf (show 0 ≤ y1 from by omega) (show y1 ≤ 4095 from by omega) (show 0 ≤ y2 from by omega) (show y2 ≤ 11 from by omega) (show 1 ≤ a 90 3 from by omega) (show 1 ≤ a0 90 3 from by omega)
    ·
      exact jt_rV ⟨hv, hf, rfl, (show (a0 90 3 = 0 → a 90 12 = 0) from by omega)⟩
  exact ⟨hc71, hc36, hc12⟩
theorem sp_X5_takeFirstRings (E : jxE) (d : Nat) (hd : Nat.ble 21 d = true) (a0 b0 : Nat → Nat → Int) (hv0 : iv a0) : jt (jxC E d 94 [.inr (.inr (.inl 90))] (jxSH, a0, b0)) (jQ_X5_takeFirstRings a0 b0) := by
  obtain ⟨d, rfl⟩ := jd_succ hd
  refine jt_eq (bq_X5_takeFirstRings E d a0 b0) ?_
  have hv279_ : iv (jxu a0 90 12 0) := iv_put hv0 (l := 0) (u := 6) rfl (by omega) (by omega)
  have hf280_ : jfr jW_X5_takeFirstRings a0 (jxu a0 90 12 0) := jfr_put (jfr_rf _ _) rfl
  have h281_ := iv_get hv0 (k := 90) (j := 8) (l := 0) (u := 4095) rfl
  have h282_ := iv_get hv0 (k := 90) (j := 3) (l := 0) (u := 12) rfl
  exact (cp_X5_takeFirstRings_12 E d hd a0 b0 hv0 _).2.2 (a0 90 8) 0 (jxu a0 90 12 0) (Nat.le_refl _) hv279_ hf280_ (show 0 ≤ a0 90 8 from by omega) (show a0 90 8 ≤ 4095 from by omega) (show 0 ≤ 0 from by omega) (show 0 ≤ 12 from by omega) (show (a0 90 3 = 0 → 0 = 0) from by omega)
def jW_X5_find : List (Nat × Nat) := [(90, 3), (90, 8), (90, 12), (91, 9999), (92, 9999), (93, 9999), (95, 9999), (96, 9999), (97, 9999), (104, 9999)]
abbrev jQ_X5_find (a0 b0 : Nat → Nat → Int) : List jxV → (Nat → Nat → Int) → (Nat → Nat → Int) → Prop := rI (fun r a b => (iv a) ∧ (jfr jW_X5_find a0 a) ∧ ((a0 83 6 = 0 → r = 0)))
theorem sp_X5_find (E : jxE) (d : Nat) (hd : Nat.ble 25 d = true) (a0 b0 : Nat → Nat → Int) (hv0 : iv a0) : jt (jxC E d 82 [.inr (.inr (.inl 90))] (jxSH, a0, b0)) (jQ_X5_find a0 b0) := by
  obtain ⟨d, rfl⟩ := jd_succ hd
  refine jt_eq (bq_X5_find E d a0 b0) ?_
  refine jt_bV (sp_X5_seatOpenOffers E d (jd_le hd rfl) a0 b0 hv0) (fun a283_ b283_ h283_ => ?_)
  obtain ⟨hv283_, hf283_, rfl, hq283_0⟩ := h283_
  have h284_ := iv_get hv0 (k := 83) (j := 6) (l := 0) (u := 20) rfl
  have h285_ := iv_get hv283_ (k := 90) (j := 3) (l := 0) (u := 12) rfl
  refine jt_bV (sp_X5_linkSeats E d (jd_le hd rfl) a283_ b0 hv283_) (fun a286_ b286_ h286_ => ?_)
  obtain ⟨hv286_, hf286_, rfl⟩ := h286_
  refine jt_bV (sp_X5_markRingSets E d (jd_le hd rfl) a286_ b0 hv286_) (fun a287_ b287_ h287_ => ?_)
  obtain ⟨hv287_, hf287_⟩ := h287_
  refine jt_bV (sp_X5_weighSets E d (jd_le hd rfl) a287_ b287_ hv287_) (fun a288_ b288_ h288_ => ?_)
  obtain ⟨hv288_, hf288_, rfl⟩ := h288_
  refine jt_bV (sp_X5_takeFirstRings E d (jd_le hd rfl) a288_ b287_ hv288_) (fun a289_ b289_ h289_ => ?_)
  obtain ⟨hv289_, hf289_, rfl, hq289_0⟩ := h289_
  have h290_ := iv_get hv288_ (k := 90) (j := 3) (l := 0) (u := 12) rfl
  have h291_ : a288_ 90 3 = a287_ 90 3 := hf288_ 90 3 rfl
  have h292_ := iv_get hv287_ (k := 90) (j := 3) (l := 0) (u := 12) rfl
  have h293_ : a287_ 90 3 = a286_ 90 3 := hf287_ 90 3 rfl
  have h294_ := iv_get hv286_ (k := 90) (j := 3) (l := 0) (u := 12) rfl
  have h295_ : a286_ 90 3 = a283_ 90 3 := hf286_ 90 3 rfl
  have h296_ := iv_get hv289_ (k := 90) (j := 12) (l := 0) (u := 6) rfl
  have hf297_ : jfr jW_X5_find a0 a283_ := jfr_tr (jfr_rf _ _) hf283_ rfl
  have hf298_ : jfr jW_X5_find a0 a286_ := jfr_tr hf297_ hf286_ rfl
  have hf299_ : jfr jW_X5_find a0 a287_ := jfr_tr hf298_ hf287_ rfl
  have hf300_ : jfr jW_X5_find a0 a288_ := jfr_tr hf299_ hf288_ rfl
  have hf301_ : jfr jW_X5_find a0 a289_ := jfr_tr hf300_ hf289_ rfl
  exact jt_rI ⟨hv289_, hf301_, (show (a0 83 6 = 0 → a289_ 90 12 = 0) from by omega)⟩
def jW_X11_rings : List (Nat × Nat) := [(90, 3), (90, 8), (90, 12), (91, 9999), (92, 9999), (93, 9999), (95, 9999), (96, 9999), (97, 9999), (104, 9999)]
abbrev jQ_X11_rings (a0 b0 : Nat → Nat → Int) : List jxV → (Nat → Nat → Int) → (Nat → Nat → Int) → Prop := rI (fun r a b => (iv a) ∧ (jfr jW_X11_rings a0 a) ∧ ((a0 83 6 = 0 → r = 0)))
theorem sp_X11_rings (E : jxE) (d : Nat) (hd : Nat.ble 26 d = true) (a0 b0 : Nat → Nat → Int) (hv0 : iv a0) : jt (jxC E d 186 [.inr (.inr (.inl 0))] (jxSH, a0, b0)) (jQ_X11_rings a0 b0) := by
  obtain ⟨d, rfl⟩ := jd_succ hd
  refine jt_eq (bq_X11_rings E d a0 b0) ?_
  refine jt_bI (sp_X5_find E d (jd_le hd rfl) a0 b0 hv0) (fun r302_ a302_ b302_ h302_ => ?_)
  obtain ⟨hv302_, hf302_, hq302_0⟩ := h302_
  have h303_ := iv_get hv0 (k := 83) (j := 6) (l := 0) (u := 20) rfl
  have hf304_ : jfr jW_X11_rings a0 a302_ := jfr_tr (jfr_rf _ _) hf302_ rfl
  exact jt_rI ⟨hv302_, hf304_, (show (a0 83 6 = 0 → r302_ = 0) from by omega)⟩
