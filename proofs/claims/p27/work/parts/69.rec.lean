def jW_X10_readOne : List (Nat × Nat) := [(2, 2), (2, 3), (11, 6), (11, 7), (54, 9999)]
abbrev jQ_X10_readOne (x1 : Int) (a0 b0 : Nat → Nat → Int) : List jxV → (Nat → Nat → Int) → (Nat → Nat → Int) → Prop := rV (fun a b => (iv a) ∧ (jfr jW_X10_readOne a0 a) ∧ (b0 = b) ∧ (POne a0 a x1) ∧ (¬ a0 2 3 = 0 → a 2 3 = a0 2 3) ∧ (a0 11 6 ≤ a 11 6))
def Sp_X10_readOne (E : jxE) (n_ : Nat) : Prop := ∀ (d : Nat) (hd : 3 * n_ + 13 ≤ d) (x1 : Int) (a0 b0 : Nat → Nat → Int) (hv0 : iv a0) (hp0 : 0 ≤ x1) (hp1 : x1 ≤ 10) (hpn : 10 - x1 ≤ (n_ : Int)) , jt (jxC E d 145 [.inr (.inr (.inl 11)), .inl x1] (jxSH, a0, b0)) (jQ_X10_readOne x1 a0 b0)
def jW_X10_readBoth : List (Nat × Nat) := [(2, 2), (2, 3), (11, 6), (11, 7), (54, 9999)]
abbrev jQ_X10_readBoth (x1 : Int) (a0 b0 : Nat → Nat → Int) : List jxV → (Nat → Nat → Int) → (Nat → Nat → Int) → Prop := rV (fun a b => (iv a) ∧ (jfr jW_X10_readBoth a0 a) ∧ (b0 = b) ∧ (PBoth a0 a x1) ∧ (¬ a0 2 3 = 0 → a 2 3 = a0 2 3) ∧ (a0 11 6 ≤ a 11 6))
def Sp_X10_readBoth (E : jxE) (n_ : Nat) : Prop := ∀ (d : Nat) (hd : 3 * n_ + 14 ≤ d) (x1 : Int) (a0 b0 : Nat → Nat → Int) (hv0 : iv a0) (hp0 : 0 ≤ x1) (hp1 : x1 ≤ 10) (hpn : 10 - x1 ≤ (n_ : Int)) , jt (jxC E d 144 [.inr (.inr (.inl 11)), .inl x1] (jxSH, a0, b0)) (jQ_X10_readBoth x1 a0 b0)
def jW_X10_readEither : List (Nat × Nat) := [(2, 2), (2, 3), (11, 6), (11, 7), (54, 9999)]
abbrev jQ_X10_readEither (x1 : Int) (a0 b0 : Nat → Nat → Int) : List jxV → (Nat → Nat → Int) → (Nat → Nat → Int) → Prop := rV (fun a b => (iv a) ∧ (jfr jW_X10_readEither a0 a) ∧ (b0 = b) ∧ (PEith a0 a x1) ∧ (¬ a0 2 3 = 0 → a 2 3 = a0 2 3) ∧ (a0 11 6 ≤ a 11 6))
def Sp_X10_readEither (E : jxE) (n_ : Nat) : Prop := ∀ (d : Nat) (hd : 3 * n_ + 15 ≤ d) (x1 : Int) (a0 b0 : Nat → Nat → Int) (hv0 : iv a0) (hp0 : 0 ≤ x1) (hp1 : x1 ≤ 10) (hpn : 10 - x1 ≤ (n_ : Int)) , jt (jxC E d 143 [.inr (.inr (.inl 11)), .inl x1] (jxSH, a0, b0)) (jQ_X10_readEither x1 a0 b0)
theorem cp_X10_readOne_128 (E : jxE) (n_ : Nat) (hR : ∀ m, m + 1 = n_ → Sp_X10_readOne E m ∧ Sp_X10_readEither E m) (d : Nat) (hd : 3 * n_ + 13 ≤ (d + 1)) (x1 : Int) (a0 b0 : Nat → Nat → Int) (hv0 : iv a0) (hp0 : 0 ≤ x1) (hp1 : x1 ≤ 10) (hpn : 10 - x1 ≤ (n_ : Int)) : ∀ (a : Nat → Nat → Int), iv a → jfr jW_X10_readOne a0 a → (POne a0 a x1) → (¬ a0 2 3 = 0 → a 2 3 = a0 2 3) → a0 11 6 ≤ a 11 6 → jt (jxX E d 145 128 [none, none, none, none, none] [] (jxSH, a, b0)) (jQ_X10_readOne x1 a0 b0) := by
  intro a hv hf hone hfk hi2
  refine jt_eq (bq_X10_readOne_128 E d a b0) ?_
  have h1_ := iv_get hv0 (k := 11) (j := 6) (l := 0) (u := 40) rfl
  have h2_ := iv_get hv (k := 11) (j := 6) (l := 0) (u := 40) rfl
  have h3 : a 3 = a0 3 := funext fun j => hf 3 j rfl
  have h21 := hf 2 1 rfl
  exact jt_rV ⟨hv, hf, rfl, hone, hfk, (show a0 11 6 ≤ a 11 6 from by omega)⟩
theorem cp_X10_readOne_113 (E : jxE) (n_ : Nat) (hR : ∀ m, m + 1 = n_ → Sp_X10_readOne E m ∧ Sp_X10_readEither E m) (d : Nat) (hd : 3 * n_ + 13 ≤ (d + 1)) (x1 : Int) (a0 b0 : Nat → Nat → Int) (hv0 : iv a0) (hp0 : 0 ≤ x1) (hp1 : x1 ≤ 10) (hpn : 10 - x1 ≤ (n_ : Int)) : ∀ (a : Nat → Nat → Int), iv a → jfr jW_X10_readOne a0 a → (PBr a0 a x1) → (¬ a0 2 3 = 0 → a 2 3 = a0 2 3) → a0 11 6 ≤ a 11 6 → jt (jxX E d 145 113 [some (.inr (.inr (.inl 11))), none, none, none, none] [] (jxSH, a, b0)) (jQ_X10_readOne x1 a0 b0) := by
  intro a hv hf hbr hfk hi2
  refine jt_eq (bq_X10_readOne_113 E d a b0) ?_
  have h3_ := iv_get hv0 (k := 11) (j := 6) (l := 0) (u := 40) rfl
  have h4_ := iv_get hv (k := 11) (j := 6) (l := 0) (u := 40) rfl
  have h3 : a 3 = a0 3 := funext fun j => hf 3 j rfl
  have h21 := hf 2 1 rfl
  refine jt_bV (sp_X8_noteCannotStand E d (Nat.ble_eq_true_of_le (by omega)) a b0 hv) (fun a5_ b5_ h5_ => ?_)
  obtain ⟨hv5_, hf5_, rfl, hq5_0, hq5_1⟩ := h5_
  have h6_ := iv_get hv (k := 2) (j := 2) (l := 0) (u := 200) rfl
  have hf7_ : jfr jW_X10_readOne a0 a5_ := jfr_tr hf hf5_ rfl
  have h8_ := iv_get hv5_ (k := 11) (j := 6) (l := 0) (u := 40) rfl
  have h9_ : a5_ 11 6 = a 11 6 := hf5_ 11 6 rfl
  exact cp_X10_readOne_128 E n_ hR d hd x1 a0 b0 hv0 hp0 hp1 hpn a5_ hv5_ hf7_ (POne_br0 hbr (by omega) hq5_0 hq5_1) (fun h => by omega) (show a0 11 6 ≤ a5_ 11 6 from by omega)
theorem cp_X10_readOne_68 (E : jxE) (n_ : Nat) (hR : ∀ m, m + 1 = n_ → Sp_X10_readOne E m ∧ Sp_X10_readEither E m) (d : Nat) (hd : 3 * n_ + 13 ≤ (d + 1)) (x1 : Int) (a0 b0 : Nat → Nat → Int) (hv0 : iv a0) (hp0 : 0 ≤ x1) (hp1 : x1 ≤ 10) (hpn : 10 - x1 ≤ (n_ : Int)) : ∀ (y1 y2 y3 y4 : Int) (a : Nat → Nat → Int), iv a → jfr jW_X10_readOne a0 a → 0 ≤ y1 → y1 ≤ 10 → 0 ≤ y2 → y2 ≤ 200 → 0 ≤ y3 → y3 ≤ 1 → 0 ≤ y4 → y4 ≤ 1 → y1 = x1 → (y3 = 0 ∨ y3 = 1) → (y4 = 0 ∨ y4 = 1) → ((y3 = 0 ∧ y4 = 0) ∨ y1 ≤ 9) → a 11 6 = a0 11 6 → a 11 7 = a0 11 7 → a 2 3 = a0 2 3 → (y2 = a0 2 2) → (∀ j, a 54 j = a0 54 j) → (y3 = 1 → TW (a0 3) (a0 2 1).toNat (a0 2 2).toNat 2 ∧ a 2 2 = (SK (a0 3) (a0 2 1).toNat ((a0 2 2).toNat + 3) : Int)) → (y3 = 0 → y4 = 1 → ((a0 2 2).toNat < (a0 2 1).toNat ∧ (a0 3) (a0 2 2).toNat = 40) ∧ a 2 2 = (SK (a0 3) (a0 2 1).toNat ((a0 2 2).toNat + 1) : Int)) → (a0 2 3 = 0 → y3 = 0 → y4 = 0 → (¬ TW (a0 3) (a0 2 1).toNat (a0 2 2).toNat 2 ∧ ¬ ((a0 2 2).toNat < (a0 2 1).toNat ∧ (a0 3) (a0 2 2).toNat = 40)) ∧ a 2 2 = a0 2 2) → (¬ a0 2 3 = 0 → (y3 = 0 ∧ y4 = 0)) → jt (jxX E d 145 68 [some (.inr (.inr (.inl 11))), some (.inl y1), some (.inl y2), some (.inl y3), some (.inl y4)] [] (jxSH, a, b0)) (jQ_X10_readOne x1 a0 b0) := by
  intro y1 y2 y3 y4 a hv hf hi0 hi1 hi2 hi3 hi4 hi5 hi6 hi7 hi8 hi9 hi10 hi11 hi12 hi13 hi14 hy2 hs54 ht1 ht2 ht3 hi20
  refine jt_eq (bq_X10_readOne_68 E d y1 y2 y3 y4 a b0) ?_
  have h10_ := iv_get hv (k := 11) (j := 6) (l := 0) (u := 40) rfl
  have h11_ := iv_get hv0 (k := 11) (j := 6) (l := 0) (u := 40) rfl
  have h12_ := iv_get hv (k := 11) (j := 7) (l := 0) (u := 12) rfl
  have h13_ := iv_get hv0 (k := 11) (j := 7) (l := 0) (u := 12) rfl
  have h3 : a 3 = a0 3 := funext fun j => hf 3 j rfl
  have h21 := hf 2 1 rfl
  refine jt_ite (fun c14_ => ?_) (fun c14_ => ?_)
  ·
    refine jt_ite (fun c15_ => ?_) (fun c15_ => ?_)
    ·
      refine jt_bV (sp_X10_readAtom E d (Nat.ble_eq_true_of_le (by omega)) y2 a b0 hv) (fun a16_ b16_ h16_ => ?_)
      obtain ⟨hv16_, hf16_, rfl, hq16_0, hq16_1, hq16_2⟩ := h16_
      have h17_ := iv_get hv16_ (k := 11) (j := 6) (l := 0) (u := 40) rfl
      have hf18_ : jfr jW_X10_readOne a0 a16_ := jfr_tr hf hf16_ rfl
      exact cp_X10_readOne_128 E n_ hR d hd x1 a0 b0 hv0 hp0 hp1 hpn a16_ hv16_ hf18_ (by by_cases hz : a0 2 3 = 0 <;> first | exact POne_atom ⟨hs54, by omega, by omega, by omega, h3, h21⟩ (ht3 hz (by omega) (by omega)).2 (fun hz => (ht3 hz (by omega) (by omega)).1) hy2 hq16_0 | exact fun h => absurd h hz) (fun h => by omega) (show a0 11 6 ≤ a16_ 11 6 from by omega)
    ·
      have h19_ : jxw (y1 + 1) = y1 + 1 := jxw_id (by omega) (by omega)
      refine jt_bV ((hR (n_ - 1) (by omega)).2 d (by omega) (jxw (y1 + 1)) a b0 hv (show 0 ≤ jxw (y1 + 1) from by omega) (show jxw (y1 + 1) ≤ 10 from by omega) (by omega)) (fun a20_ b20_ h20_ => ?_)
      obtain ⟨hv20_, hf20_, rfl, hq20_0, hq20_1, hq20_2⟩ := h20_
      have h21_ := iv_get hv20_ (k := 11) (j := 6) (l := 0) (u := 40) rfl
      refine jt_bI (sp_X8_takesSign E d (Nat.ble_eq_true_of_le (by omega)) 41 a20_ b0 hv20_) (fun r22_ a22_ b22_ h22_ => ?_)
      obtain ⟨hv22_, hf22_, rfl, hq22_0, hq22_1, hq22_2, hq22_3, hq22_4⟩ := h22_
      have h23_ := iv_get hv20_ (k := 2) (j := 1) (l := 0) (u := 200) rfl
      have h24_ : a20_ 2 1 = a 2 1 := hf20_ 2 1 rfl
      have h25_ := iv_get hv (k := 2) (j := 1) (l := 0) (u := 200) rfl
      have h26_ : a 2 1 = a0 2 1 := hf 2 1 rfl
      have h27_ := iv_get hv0 (k := 2) (j := 1) (l := 0) (u := 200) rfl
      have h28_ := iv_get hv20_ (k := 2) (j := 2) (l := 0) (u := 200) rfl
      have h29_ := iv_get hv22_ (k := 2) (j := 2) (l := 0) (u := 200) rfl
      refine jt_ite (fun c30_ => ?_) (fun c30_ => ?_)
      ·
        have hf31_ : jfr jW_X10_readOne a0 a20_ := jfr_tr hf hf20_ rfl
        have hf32_ : jfr jW_X10_readOne a0 a22_ := jfr_tr hf31_ hf22_ rfl
        have h33_ := iv_get hv22_ (k := 11) (j := 6) (l := 0) (u := 40) rfl
        have h34_ : a22_ 11 6 = a20_ 11 6 := hf22_ 11 6 rfl
        exact cp_X10_readOne_113 E n_ hR d hd x1 a0 b0 hv0 hp0 hp1 hpn a22_ hv22_ hf32_ (by have q := hq20_0; rw [show jxw (y1 + 1) = x1 + 1 from by omega] at q; exact PBr_mk ⟨hs54, by omega, by omega, by omega, h3, h21⟩ (fun _ => ht2 (by omega) (by omega)) (by omega) q ⟨fun j => hf22_ 54 j rfl, hf22_ 11 6 rfl, hf22_ 11 7 rfl, hf22_ 2 3 rfl, funext fun j => hf22_ 3 j rfl, hf22_ 2 1 rfl⟩ ((funext fun j => hf20_ 3 j rfl).trans h3) ((hf20_ 2 1 rfl).trans h21) hq22_3 (by omega) (hq22_4 (by omega))) (fun h => by omega) (show a0 11 6 ≤ a22_ 11 6 from by omega)
      ·
        have hf35_ : jfr jW_X10_readOne a0 a20_ := jfr_tr hf hf20_ rfl
        have hf36_ : jfr jW_X10_readOne a0 a22_ := jfr_tr hf35_ hf22_ rfl
        have h37_ := iv_get hv22_ (k := 11) (j := 6) (l := 0) (u := 40) rfl
        have h38_ : a22_ 11 6 = a20_ 11 6 := hf22_ 11 6 rfl
        exact cp_X10_readOne_128 E n_ hR d hd x1 a0 b0 hv0 hp0 hp1 hpn a22_ hv22_ hf36_ (by have q := hq20_0; rw [show jxw (y1 + 1) = x1 + 1 from by omega] at q; exact POne_br ⟨hs54, by omega, by omega, by omega, h3, h21⟩ (fun _ => ht2 (by omega) (by omega)) (by omega) q ⟨fun j => hf22_ 54 j rfl, hf22_ 11 6 rfl, hf22_ 11 7 rfl, hf22_ 2 3 rfl, funext fun j => hf22_ 3 j rfl, hf22_ 2 1 rfl⟩ ((funext fun j => hf20_ 3 j rfl).trans h3) ((hf20_ 2 1 rfl).trans h21) hq22_2 (by omega)) (fun h => by omega) (show a0 11 6 ≤ a22_ 11 6 from by omega)
  ·
    have h39_ : jxw (y1 + 1) = y1 + 1 := jxw_id (by omega) (by omega)
    refine jt_bV ((hR (n_ - 1) (by omega)).1 d (by omega) (jxw (y1 + 1)) a b0 hv (show 0 ≤ jxw (y1 + 1) from by omega) (show jxw (y1 + 1) ≤ 10 from by omega) (by omega)) (fun a40_ b40_ h40_ => ?_)
    obtain ⟨hv40_, hf40_, rfl, hq40_0, hq40_1, hq40_2⟩ := h40_
    have h41_ := iv_get hv40_ (k := 11) (j := 6) (l := 0) (u := 40) rfl
    refine jt_bV (sp_X10_addStep E d (Nat.ble_eq_true_of_le (by omega)) 7 0 a40_ b0 hv40_) (fun a42_ b42_ h42_ => ?_)
    obtain ⟨hv42_, hf42_, rfl, hq42_0, hq42_1, hq42_2⟩ := h42_
    have h43_ := iv_get hv42_ (k := 11) (j := 6) (l := 0) (u := 40) rfl
    have hf44_ : jfr jW_X10_readOne a0 a40_ := jfr_tr hf hf40_ rfl
    have hf45_ : jfr jW_X10_readOne a0 a42_ := jfr_tr hf44_ hf42_ rfl
    exact cp_X10_readOne_128 E n_ hR d hd x1 a0 b0 hv0 hp0 hp1 hpn a42_ hv42_ hf45_ (by have e1 := jxw_id (x := y1 + 1) (by omega) (by omega); have q := hq40_0; rw [show jxw (y1 + 1) = x1 + 1 from by omega] at q; exact POne_not ⟨hs54, by omega, by omega, by omega, h3, h21⟩ (fun _ => ht1 (by omega)) (by omega) q (by omega) (hf42_ 2 3 rfl) (fun h => ⟨by omega, by have u := hq42_2 h; exact u⟩) (hf42_ 2 2 rfl) (hf42_ 11 7 rfl)) (fun h => by omega) (show a0 11 6 ≤ a42_ 11 6 from by omega)
theorem cp_X10_readOne_50 (E : jxE) (n_ : Nat) (hR : ∀ m, m + 1 = n_ → Sp_X10_readOne E m ∧ Sp_X10_readEither E m) (d : Nat) (hd : 3 * n_ + 13 ≤ (d + 1)) (x1 : Int) (a0 b0 : Nat → Nat → Int) (hv0 : iv a0) (hp0 : 0 ≤ x1) (hp1 : x1 ≤ 10) (hpn : 10 - x1 ≤ (n_ : Int)) : ∀ (y1 y2 y3 y4 : Int) (a : Nat → Nat → Int), iv a → jfr jW_X10_readOne a0 a → 0 ≤ y1 → y1 ≤ 10 → 0 ≤ y2 → y2 ≤ 200 → 0 ≤ y3 → y3 ≤ 1 → 0 ≤ y4 → y4 ≤ 1 → y1 = x1 → (y3 = 0 ∨ y3 = 1) → (y4 = 0 ∨ y4 = 1) → a 11 6 = a0 11 6 → a 11 7 = a0 11 7 → a 2 3 = a0 2 3 → (y2 = a0 2 2) → (∀ j, a 54 j = a0 54 j) → (y3 = 1 → TW (a0 3) (a0 2 1).toNat (a0 2 2).toNat 2 ∧ a 2 2 = (SK (a0 3) (a0 2 1).toNat ((a0 2 2).toNat + 3) : Int)) → (y3 = 0 → y4 = 1 → ((a0 2 2).toNat < (a0 2 1).toNat ∧ (a0 3) (a0 2 2).toNat = 40) ∧ a 2 2 = (SK (a0 3) (a0 2 1).toNat ((a0 2 2).toNat + 1) : Int)) → (a0 2 3 = 0 → y3 = 0 → y4 = 0 → (¬ TW (a0 3) (a0 2 1).toNat (a0 2 2).toNat 2 ∧ ¬ ((a0 2 2).toNat < (a0 2 1).toNat ∧ (a0 3) (a0 2 2).toNat = 40)) ∧ a 2 2 = a0 2 2) → (¬ a0 2 3 = 0 → (y3 = 0 ∧ y4 = 0)) → (y3 = 1 ∨ y4 = 1) → jt (jxX E d 145 50 [some (.inr (.inr (.inl 11))), some (.inl y1), some (.inl y2), some (.inl y3), some (.inl y4)] [] (jxSH, a, b0)) (jQ_X10_readOne x1 a0 b0) := by
  intro y1 y2 y3 y4 a hv hf hi0 hi1 hi2 hi3 hi4 hi5 hi6 hi7 hi8 hi9 hi10 hi11 hi12 hi13 hy2 hs54 ht1 ht2 ht3 hi19 hi20
  refine jt_eq (bq_X10_readOne_50 E d y1 y2 y3 y4 a b0) ?_
  have h46_ := iv_get hv (k := 11) (j := 6) (l := 0) (u := 40) rfl
  have h47_ := iv_get hv0 (k := 11) (j := 6) (l := 0) (u := 40) rfl
  have h48_ := iv_get hv (k := 11) (j := 7) (l := 0) (u := 12) rfl
  have h49_ := iv_get hv0 (k := 11) (j := 7) (l := 0) (u := 12) rfl
  have h3 : a 3 = a0 3 := funext fun j => hf 3 j rfl
  have h21 := hf 2 1 rfl
  refine jt_ite (fun c50_ => ?_) (fun c50_ => ?_)
  ·
    exact cp_X10_readOne_68 E n_ hR d hd x1 a0 b0 hv0 hp0 hp1 hpn y1 y2 y3 y4 a hv hf (show 0 ≤ y1 from by omega) (show y1 ≤ 10 from by omega) (show 0 ≤ y2 from by omega) (show y2 ≤ 200 from by omega) (show 0 ≤ y3 from by omega) (show y3 ≤ 1 from by omega) (show 0 ≤ y4 from by omega) (show y4 ≤ 1 from by omega) (show y1 = x1 from by omega) (show (y3 = 0 ∨ y3 = 1) from by omega) (show (y4 = 0 ∨ y4 = 1) from by omega) (show ((y3 = 0 ∧ y4 = 0) ∨ y1 ≤ 9) from by omega) (show a 11 6 = a0 11 6 from by omega) (show a 11 7 = a0 11 7 from by omega) (show a 2 3 = a0 2 3 from by omega) (by first | rfl | assumption) (fun j => (rfl).trans (hs54 j)) (by first | exact ht1 | exact (fun h => absurd h (by omega))) (by first | exact (fun _ _ => hbr) | exact ht2 | exact (fun _ h => absurd h (by decide))) (by first | exact (fun hz h _ => ht3 hz h) | exact ht3 | exact (fun _ _ h => absurd h (by decide))) (show (¬ a0 2 3 = 0 → (y3 = 0 ∧ y4 = 0)) from by omega)
  ·
    refine jt_bV (sp_X8_noteFault E d (Nat.ble_eq_true_of_le (by omega)) y2 3 a b0 hv) (fun a51_ b51_ h51_ => ?_)
    obtain ⟨hv51_, hf51_, rfl, hq51_0, hq51_1⟩ := h51_
    have hf52_ : jfr jW_X10_readOne a0 a51_ := jfr_tr hf hf51_ rfl
    have h53_ := iv_get hv51_ (k := 11) (j := 6) (l := 0) (u := 40) rfl
    have h54_ : a51_ 11 6 = a 11 6 := hf51_ 11 6 rfl
    exact cp_X10_readOne_128 E n_ hR d hd x1 a0 b0 hv0 hp0 hp1 hpn a51_ hv51_ hf52_ (POne_deep (by rcases (by omega : y3 = 1 ∨ (y3 = 0 ∧ y4 = 1)) with h | h <;> first | exact Or.inl (ht1 h).1 | exact Or.inr (ht2 h.1 h.2).1) (by omega) (by omega) (fun hz => by omega)) (fun h => by omega) (show a0 11 6 ≤ a51_ 11 6 from by omega)
theorem cp_X10_readOne_39 (E : jxE) (n_ : Nat) (hR : ∀ m, m + 1 = n_ → Sp_X10_readOne E m ∧ Sp_X10_readEither E m) (d : Nat) (hd : 3 * n_ + 13 ≤ (d + 1)) (x1 : Int) (a0 b0 : Nat → Nat → Int) (hv0 : iv a0) (hp0 : 0 ≤ x1) (hp1 : x1 ≤ 10) (hpn : 10 - x1 ≤ (n_ : Int)) : ∀ (y1 y2 y3 s0 : Int) (a : Nat → Nat → Int), iv a → jfr jW_X10_readOne a0 a → 0 ≤ y1 → y1 ≤ 10 → 0 ≤ y2 → y2 ≤ 200 → 0 ≤ y3 → y3 ≤ 1 → 0 ≤ s0 → s0 ≤ 1 → y1 = x1 → (y3 = 0 ∨ y3 = 1) → (s0 = 0 ∨ s0 = 1) → a 11 6 = a0 11 6 → a 11 7 = a0 11 7 → a 2 3 = a0 2 3 → (y2 = a0 2 2) → (∀ j, a 54 j = a0 54 j) → (y3 = 1 → TW (a0 3) (a0 2 1).toNat (a0 2 2).toNat 2 ∧ a 2 2 = (SK (a0 3) (a0 2 1).toNat ((a0 2 2).toNat + 3) : Int)) → (y3 = 0 → s0 = 1 → ((a0 2 2).toNat < (a0 2 1).toNat ∧ (a0 3) (a0 2 2).toNat = 40) ∧ a 2 2 = (SK (a0 3) (a0 2 1).toNat ((a0 2 2).toNat + 1) : Int)) → (a0 2 3 = 0 → y3 = 0 → s0 = 0 → (¬ TW (a0 3) (a0 2 1).toNat (a0 2 2).toNat 2 ∧ ¬ ((a0 2 2).toNat < (a0 2 1).toNat ∧ (a0 3) (a0 2 2).toNat = 40)) ∧ a 2 2 = a0 2 2) → (¬ a0 2 3 = 0 → (y3 = 0 ∧ s0 = 0)) → jt (jxX E d 145 39 [some (.inr (.inr (.inl 11))), some (.inl y1), some (.inl y2), some (.inl y3), none] [.inl s0] (jxSH, a, b0)) (jQ_X10_readOne x1 a0 b0) := by
  intro y1 y2 y3 s0 a hv hf hi0 hi1 hi2 hi3 hi4 hi5 hi6 hi7 hi8 hi9 hi10 hi11 hi12 hi13 hy2 hs54 ht1 ht2 ht3 hi19
  refine jt_eq (bq_X10_readOne_39 E d y1 y2 y3 s0 a b0) ?_
  have h55_ := iv_get hv (k := 11) (j := 6) (l := 0) (u := 40) rfl
  have h56_ := iv_get hv0 (k := 11) (j := 6) (l := 0) (u := 40) rfl
  have h57_ := iv_get hv (k := 11) (j := 7) (l := 0) (u := 12) rfl
  have h58_ := iv_get hv0 (k := 11) (j := 7) (l := 0) (u := 12) rfl
  have h3 : a 3 = a0 3 := funext fun j => hf 3 j rfl
  have h21 := hf 2 1 rfl
  refine jt_ite (fun c59_ => ?_) (fun c59_ => ?_)
  ·
    refine jt_ite (fun c60_ => ?_) (fun c60_ => ?_)
    ·
      exact cp_X10_readOne_68 E n_ hR d hd x1 a0 b0 hv0 hp0 hp1 hpn y1 y2 y3 s0 a hv hf (show 0 ≤ y1 from by omega) (show y1 ≤ 10 from by omega) (show 0 ≤ y2 from by omega) (show y2 ≤ 200 from by omega) (show 0 ≤ y3 from by omega) (show y3 ≤ 1 from by omega) (show 0 ≤ s0 from by omega) (show s0 ≤ 1 from by omega) (show y1 = x1 from by omega) (show (y3 = 0 ∨ y3 = 1) from by omega) (show (s0 = 0 ∨ s0 = 1) from by omega) (show ((y3 = 0 ∧ s0 = 0) ∨ y1 ≤ 9) from by omega) (show a 11 6 = a0 11 6 from by omega) (show a 11 7 = a0 11 7 from by omega) (show a 2 3 = a0 2 3 from by omega) (by first | rfl | assumption) (fun j => (rfl).trans (hs54 j)) (by first | exact ht1 | exact (fun h => absurd h (by omega))) (by first | exact (fun _ _ => hbr) | exact ht2 | exact (fun _ h => absurd h (by decide))) (by first | exact (fun hz h _ => ht3 hz h) | exact ht3 | exact (fun _ _ h => absurd h (by decide))) (show (¬ a0 2 3 = 0 → (y3 = 0 ∧ s0 = 0)) from by omega)
    ·
      exact cp_X10_readOne_50 E n_ hR d hd x1 a0 b0 hv0 hp0 hp1 hpn y1 y2 y3 s0 a hv hf (show 0 ≤ y1 from by omega) (show y1 ≤ 10 from by omega) (show 0 ≤ y2 from by omega) (show y2 ≤ 200 from by omega) (show 0 ≤ y3 from by omega) (show y3 ≤ 1 from by omega) (show 0 ≤ s0 from by omega) (show s0 ≤ 1 from by omega) (show y1 = x1 from by omega) (show (y3 = 0 ∨ y3 = 1) from by omega) (show (s0 = 0 ∨ s0 = 1) from by omega) (show a 11 6 = a0 11 6 from by omega) (show a 11 7 = a0 11 7 from by omega) (show a 2 3 = a0 2 3 from by omega) (by first | rfl | assumption) (fun j => (rfl).trans (hs54 j)) (by first | exact ht1 | exact (fun h => absurd h (by omega))) (by first | exact (fun _ _ => hbr) | exact ht2 | exact (fun _ h => absurd h (by decide))) (by first | exact (fun hz h _ => ht3 hz h) | exact ht3 | exact (fun _ _ h => absurd h (by decide))) (show (¬ a0 2 3 = 0 → (y3 = 0 ∧ s0 = 0)) from by omega) (show (y3 = 1 ∨ s0 = 1) from by omega)
  ·
    exact cp_X10_readOne_50 E n_ hR d hd x1 a0 b0 hv0 hp0 hp1 hpn y1 y2 y3 s0 a hv hf (show 0 ≤ y1 from by omega) (show y1 ≤ 10 from by omega) (show 0 ≤ y2 from by omega) (show y2 ≤ 200 from by omega) (show 0 ≤ y3 from by omega) (show y3 ≤ 1 from by omega) (show 0 ≤ s0 from by omega) (show s0 ≤ 1 from by omega) (show y1 = x1 from by omega) (show (y3 = 0 ∨ y3 = 1) from by omega) (show (s0 = 0 ∨ s0 = 1) from by omega) (show a 11 6 = a0 11 6 from by omega) (show a 11 7 = a0 11 7 from by omega) (show a 2 3 = a0 2 3 from by omega) (by first | rfl | assumption) (fun j => (rfl).trans (hs54 j)) (by first | exact ht1 | exact (fun h => absurd h (by omega))) (by first | exact (fun _ _ => hbr) | exact ht2 | exact (fun _ h => absurd h (by decide))) (by first | exact (fun hz h _ => ht3 hz h) | exact ht3 | exact (fun _ _ h => absurd h (by decide))) (show (¬ a0 2 3 = 0 → (y3 = 0 ∧ s0 = 0)) from by omega) (show (y3 = 1 ∨ s0 = 1) from by omega)
theorem cp_X10_readOne_34 (E : jxE) (n_ : Nat) (hR : ∀ m, m + 1 = n_ → Sp_X10_readOne E m ∧ Sp_X10_readEither E m) (d : Nat) (hd : 3 * n_ + 13 ≤ (d + 1)) (x1 : Int) (a0 b0 : Nat → Nat → Int) (hv0 : iv a0) (hp0 : 0 ≤ x1) (hp1 : x1 ≤ 10) (hpn : 10 - x1 ≤ (n_ : Int)) : ∀ (y1 y2 y3 : Int) (a : Nat → Nat → Int), iv a → jfr jW_X10_readOne a0 a → 0 ≤ y1 → y1 ≤ 10 → 0 ≤ y2 → y2 ≤ 200 → 0 ≤ y3 → y3 ≤ 0 → y1 = x1 → (y3 = 0 ∨ y3 = 1) → a 11 6 = a0 11 6 → a 11 7 = a0 11 7 → a 2 3 = a0 2 3 → (y2 = a0 2 2) → (∀ j, a 54 j = a0 54 j) → a0 2 3 = 0 → y3 = 0 → (((a0 2 2).toNat < (a0 2 1).toNat ∧ (a0 3) (a0 2 2).toNat = 40) ∧ a 2 2 = (SK (a0 3) (a0 2 1).toNat ((a0 2 2).toNat + 1) : Int)) → jt (jxX E d 145 34 [some (.inr (.inr (.inl 11))), some (.inl y1), some (.inl y2), some (.inl y3), none] [] (jxSH, a, b0)) (jQ_X10_readOne x1 a0 b0) := by
  intro y1 y2 y3 a hv hf hi0 hi1 hi2 hi3 hi4 hi5 hi6 hi7 hi8 hi9 hi10 hy2 hs54 hi13 hi14 hbr
  refine jt_eq (bq_X10_readOne_34 E d y1 y2 y3 a b0) ?_
  have h61_ := iv_get hv (k := 11) (j := 6) (l := 0) (u := 40) rfl
  have h62_ := iv_get hv0 (k := 11) (j := 6) (l := 0) (u := 40) rfl
  have h63_ := iv_get hv (k := 11) (j := 7) (l := 0) (u := 12) rfl
  have h64_ := iv_get hv0 (k := 11) (j := 7) (l := 0) (u := 12) rfl
  have h3 : a 3 = a0 3 := funext fun j => hf 3 j rfl
  have h21 := hf 2 1 rfl
  exact cp_X10_readOne_39 E n_ hR d hd x1 a0 b0 hv0 hp0 hp1 hpn y1 y2 y3 1 a hv hf (show 0 ≤ y1 from by omega) (show y1 ≤ 10 from by omega) (show 0 ≤ y2 from by omega) (show y2 ≤ 200 from by omega) (show 0 ≤ y3 from by omega) (show y3 ≤ 1 from by omega) (show 0 ≤ 1 from by omega) (show 1 ≤ 1 from by omega) (show y1 = x1 from by omega) (show (y3 = 0 ∨ y3 = 1) from by omega) (show (1 = 0 ∨ 1 = 1) from by omega) (show a 11 6 = a0 11 6 from by omega) (show a 11 7 = a0 11 7 from by omega) (show a 2 3 = a0 2 3 from by omega) (by first | rfl | assumption) (fun j => (rfl).trans (hs54 j)) (by first | exact ht1 | exact (fun h => absurd h (by omega))) (by first | exact (fun _ _ => hbr) | exact ht2 | exact (fun _ h => absurd h (by decide))) (by first | exact (fun hz h _ => ht3 hz h) | exact ht3 | exact (fun _ _ h => absurd h (by decide))) (show (¬ a0 2 3 = 0 → (y3 = 0 ∧ 1 = 0)) from by omega)
theorem cp_X10_readOne_38 (E : jxE) (n_ : Nat) (hR : ∀ m, m + 1 = n_ → Sp_X10_readOne E m ∧ Sp_X10_readEither E m) (d : Nat) (hd : 3 * n_ + 13 ≤ (d + 1)) (x1 : Int) (a0 b0 : Nat → Nat → Int) (hv0 : iv a0) (hp0 : 0 ≤ x1) (hp1 : x1 ≤ 10) (hpn : 10 - x1 ≤ (n_ : Int)) : ∀ (y1 y2 y3 : Int) (a : Nat → Nat → Int), iv a → jfr jW_X10_readOne a0 a → 0 ≤ y1 → y1 ≤ 10 → 0 ≤ y2 → y2 ≤ 200 → 0 ≤ y3 → y3 ≤ 1 → y1 = x1 → (y3 = 0 ∨ y3 = 1) → a 11 6 = a0 11 6 → a 11 7 = a0 11 7 → a 2 3 = a0 2 3 → (y2 = a0 2 2) → (∀ j, a 54 j = a0 54 j) → (y3 = 1 → TW (a0 3) (a0 2 1).toNat (a0 2 2).toNat 2 ∧ a 2 2 = (SK (a0 3) (a0 2 1).toNat ((a0 2 2).toNat + 3) : Int)) → (a0 2 3 = 0 → y3 = 0 → (¬ TW (a0 3) (a0 2 1).toNat (a0 2 2).toNat 2 ∧ ¬ ((a0 2 2).toNat < (a0 2 1).toNat ∧ (a0 3) (a0 2 2).toNat = 40)) ∧ a 2 2 = a0 2 2) → (¬ a0 2 3 = 0 → y3 = 0) → jt (jxX E d 145 38 [some (.inr (.inr (.inl 11))), some (.inl y1), some (.inl y2), some (.inl y3), none] [] (jxSH, a, b0)) (jQ_X10_readOne x1 a0 b0) := by
  intro y1 y2 y3 a hv hf hi0 hi1 hi2 hi3 hi4 hi5 hi6 hi7 hi8 hi9 hi10 hy2 hs54 ht1 ht3 hi15
  refine jt_eq (bq_X10_readOne_38 E d y1 y2 y3 a b0) ?_
  have h65_ := iv_get hv (k := 11) (j := 6) (l := 0) (u := 40) rfl
  have h66_ := iv_get hv0 (k := 11) (j := 6) (l := 0) (u := 40) rfl
  have h67_ := iv_get hv (k := 11) (j := 7) (l := 0) (u := 12) rfl
  have h68_ := iv_get hv0 (k := 11) (j := 7) (l := 0) (u := 12) rfl
  have h3 : a 3 = a0 3 := funext fun j => hf 3 j rfl
  have h21 := hf 2 1 rfl
  exact cp_X10_readOne_39 E n_ hR d hd x1 a0 b0 hv0 hp0 hp1 hpn y1 y2 y3 0 a hv hf (show 0 ≤ y1 from by omega) (show y1 ≤ 10 from by omega) (show 0 ≤ y2 from by omega) (show y2 ≤ 200 from by omega) (show 0 ≤ y3 from by omega) (show y3 ≤ 1 from by omega) (show 0 ≤ 0 from by omega) (show 0 ≤ 1 from by omega) (show y1 = x1 from by omega) (show (y3 = 0 ∨ y3 = 1) from by omega) (show (0 = 0 ∨ 0 = 1) from by omega) (show a 11 6 = a0 11 6 from by omega) (show a 11 7 = a0 11 7 from by omega) (show a 2 3 = a0 2 3 from by omega) (by first | rfl | assumption) (fun j => (rfl).trans (hs54 j)) (by first | exact ht1 | exact (fun h => absurd h (by omega))) (by first | exact (fun _ _ => hbr) | exact ht2 | exact (fun _ h => absurd h (by decide))) (by first | exact (fun hz h _ => ht3 hz h) | exact ht3 | exact (fun _ _ h => absurd h (by decide))) (show (¬ a0 2 3 = 0 → (y3 = 0 ∧ 0 = 0)) from by omega)
theorem sr_X10_readOne (E : jxE) (n_ : Nat) (hR : ∀ m, m + 1 = n_ → Sp_X10_readOne E m ∧ Sp_X10_readEither E m) : Sp_X10_readOne E n_ := by
  intro d hd x1 a0 b0 hv0 hp0 hp1 hpn
  obtain ⟨d, rfl⟩ : ∃ d2, d = d2 + 1 := ⟨d - 1, by omega⟩
  refine jt_eq (bq_X10_readOne E d x1 a0 b0) ?_
  refine jt_eI (eq_X8_place E d (Nat.ble_eq_true_of_le (by omega)) a0 b0) ?_
  refine jt_bI (sp_X8_takesWord_r1000 E d (Nat.ble_eq_true_of_le (by omega)) a0 b0 hv0) (fun r69_ a69_ b69_ h69_ => ?_)
  obtain ⟨hv69_, hf69_, rfl, hq69_0, hq69_1, hq69_2, hq69_3, hq69_4⟩ := h69_
  have h70_ := iv_get hv0 (k := 2) (j := 1) (l := 0) (u := 200) rfl
  have h71_ := iv_get hv0 (k := 2) (j := 2) (l := 0) (u := 200) rfl
  have h72_ := iv_get hv69_ (k := 2) (j := 2) (l := 0) (u := 200) rfl
  refine jt_ite (fun c73_ => ?_) (fun c73_ => ?_)
  ·
    refine jt_bI (sp_X8_takesSign E d (Nat.ble_eq_true_of_le (by omega)) 40 a69_ b0 hv69_) (fun r74_ a74_ b74_ h74_ => ?_)
    obtain ⟨hv74_, hf74_, rfl, hq74_0, hq74_1, hq74_2, hq74_3, hq74_4⟩ := h74_
    have h75_ : a69_ 2 3 = a0 2 3 := hf69_ 2 3 rfl
    have h76_ := iv_get hv69_ (k := 2) (j := 1) (l := 0) (u := 200) rfl
    have h77_ : a69_ 2 1 = a0 2 1 := hf69_ 2 1 rfl
    have h78_ := iv_get hv74_ (k := 2) (j := 2) (l := 0) (u := 200) rfl
    refine jt_ite (fun c79_ => ?_) (fun c79_ => ?_)
    ·
      have hf80_ : jfr jW_X10_readOne a0 a69_ := jfr_tr (jfr_rf _ _) hf69_ rfl
      have hf81_ : jfr jW_X10_readOne a0 a74_ := jfr_tr hf80_ hf74_ rfl
      have h82_ := f_X8_place_eq a0 b0
      have h83_ := iv_get hv74_ (k := 11) (j := 6) (l := 0) (u := 40) rfl
      have h84_ : a74_ 11 6 = a69_ 11 6 := hf74_ 11 6 rfl
      have h85_ := iv_get hv69_ (k := 11) (j := 6) (l := 0) (u := 40) rfl
      have h86_ : a69_ 11 6 = a0 11 6 := hf69_ 11 6 rfl
      have h87_ := iv_get hv0 (k := 11) (j := 6) (l := 0) (u := 40) rfl
      have h88_ := iv_get hv74_ (k := 11) (j := 7) (l := 0) (u := 12) rfl
      have h89_ : a74_ 11 7 = a69_ 11 7 := hf74_ 11 7 rfl
      have h90_ := iv_get hv69_ (k := 11) (j := 7) (l := 0) (u := 12) rfl
      have h91_ : a69_ 11 7 = a0 11 7 := hf69_ 11 7 rfl
      have h92_ := iv_get hv0 (k := 11) (j := 7) (l := 0) (u := 12) rfl
      have h93_ : a74_ 2 3 = a69_ 2 3 := hf74_ 2 3 rfl
      exact cp_X10_readOne_38 E n_ hR d hd x1 a0 b0 hv0 hp0 hp1 hpn x1 (f_X8_place a0 b0) r69_ a74_ hv74_ hf81_ (show 0 ≤ x1 from by omega) (show x1 ≤ 10 from by omega) (show 0 ≤ f_X8_place a0 b0 from by omega) (show f_X8_place a0 b0 ≤ 200 from by omega) (show 0 ≤ r69_ from by omega) (show r69_ ≤ 1 from by omega) (show x1 = x1 from by omega) (show (r69_ = 0 ∨ r69_ = 1) from by omega) (show a74_ 11 6 = a0 11 6 from by omega) (show a74_ 11 7 = a0 11 7 from by omega) (show a74_ 2 3 = a0 2 3 from by omega) (by first | rfl | assumption) (fun j => ((hf74_ 54 j rfl).trans (hf69_ 54 j rfl))) (fun h => absurd h (by omega)) (fun hz0 _ => by have n2 := (hq69_4 (by omega)).resolve_left (fun h => h hz0); have q := hq74_3 (by omega); rw [show a69_ 3 = a0 3 from funext (fun j => hf80_ 3 j rfl), show a69_ 2 1 = a0 2 1 from hf80_ 2 1 rfl, show a69_ 2 2 = a0 2 2 from by omega] at q; exact ⟨⟨n2, fun t => by have z := hf69_ 2 3 rfl; rcases q with q | q | q <;> first | exact q (by omega) | omega | exact q t.2⟩, by omega⟩) (show (¬ a0 2 3 = 0 → r69_ = 0) from by omega)
    ·
      have hf94_ : jfr jW_X10_readOne a0 a69_ := jfr_tr (jfr_rf _ _) hf69_ rfl
      have hf95_ : jfr jW_X10_readOne a0 a74_ := jfr_tr hf94_ hf74_ rfl
      have h96_ := f_X8_place_eq a0 b0
      have h97_ := iv_get hv74_ (k := 11) (j := 6) (l := 0) (u := 40) rfl
      have h98_ : a74_ 11 6 = a69_ 11 6 := hf74_ 11 6 rfl
      have h99_ := iv_get hv69_ (k := 11) (j := 6) (l := 0) (u := 40) rfl
      have h100_ : a69_ 11 6 = a0 11 6 := hf69_ 11 6 rfl
      have h101_ := iv_get hv0 (k := 11) (j := 6) (l := 0) (u := 40) rfl
      have h102_ := iv_get hv74_ (k := 11) (j := 7) (l := 0) (u := 12) rfl
      have h103_ : a74_ 11 7 = a69_ 11 7 := hf74_ 11 7 rfl
      have h104_ := iv_get hv69_ (k := 11) (j := 7) (l := 0) (u := 12) rfl
      have h105_ : a69_ 11 7 = a0 11 7 := hf69_ 11 7 rfl
      have h106_ := iv_get hv0 (k := 11) (j := 7) (l := 0) (u := 12) rfl
      have h107_ : a74_ 2 3 = a69_ 2 3 := hf74_ 2 3 rfl
      exact cp_X10_readOne_34 E n_ hR d hd x1 a0 b0 hv0 hp0 hp1 hpn x1 (f_X8_place a0 b0) r69_ a74_ hv74_ hf95_ (show 0 ≤ x1 from by omega) (show x1 ≤ 10 from by omega) (show 0 ≤ f_X8_place a0 b0 from by omega) (show f_X8_place a0 b0 ≤ 200 from by omega) (show 0 ≤ r69_ from by omega) (show r69_ ≤ 0 from by omega) (show x1 = x1 from by omega) (show (r69_ = 0 ∨ r69_ = 1) from by omega) (show a74_ 11 6 = a0 11 6 from by omega) (show a74_ 11 7 = a0 11 7 from by omega) (show a74_ 2 3 = a0 2 3 from by omega) (by first | rfl | assumption) (fun j => ((hf74_ 54 j rfl).trans (hf69_ 54 j rfl))) (show a0 2 3 = 0 from by omega) (show r69_ = 0 from by omega) (by have q := hq74_2 (by omega); rw [show a69_ 3 = a0 3 from funext (fun j => hf94_ 3 j rfl), show a69_ 2 1 = a0 2 1 from hf94_ 2 1 rfl, show a69_ 2 2 = a0 2 2 from by omega] at q; exact ⟨⟨q.2.1, q.2.2.1⟩, q.2.2.2⟩)
  ·
    have hf108_ : jfr jW_X10_readOne a0 a69_ := jfr_tr (jfr_rf _ _) hf69_ rfl
    have h109_ := f_X8_place_eq a0 b0
    have h110_ := iv_get hv69_ (k := 11) (j := 6) (l := 0) (u := 40) rfl
    have h111_ : a69_ 11 6 = a0 11 6 := hf69_ 11 6 rfl
    have h112_ := iv_get hv0 (k := 11) (j := 6) (l := 0) (u := 40) rfl
    have h113_ := iv_get hv69_ (k := 11) (j := 7) (l := 0) (u := 12) rfl
    have h114_ : a69_ 11 7 = a0 11 7 := hf69_ 11 7 rfl
    have h115_ := iv_get hv0 (k := 11) (j := 7) (l := 0) (u := 12) rfl
    have h116_ : a69_ 2 3 = a0 2 3 := hf69_ 2 3 rfl
    exact cp_X10_readOne_38 E n_ hR d hd x1 a0 b0 hv0 hp0 hp1 hpn x1 (f_X8_place a0 b0) r69_ a69_ hv69_ hf108_ (show 0 ≤ x1 from by omega) (show x1 ≤ 10 from by omega) (show 0 ≤ f_X8_place a0 b0 from by omega) (show f_X8_place a0 b0 ≤ 200 from by omega) (show 0 ≤ r69_ from by omega) (show r69_ ≤ 1 from by omega) (show x1 = x1 from by omega) (show (r69_ = 0 ∨ r69_ = 1) from by omega) (show a69_ 11 6 = a0 11 6 from by omega) (show a69_ 11 7 = a0 11 7 from by omega) (show a69_ 2 3 = a0 2 3 from by omega) (by first | rfl | assumption) (fun j => (hf69_ 54 j rfl)) (fun _ => (hq69_3 (by omega)).2) (fun _ h => absurd h (by omega)) (show (¬ a0 2 3 = 0 → r69_ = 0) from by omega)
theorem cp_X10_readBoth_7 (E : jxE) (n_ : Nat) (hOne : Sp_X10_readOne E n_) (d : Nat) (hd : 3 * n_ + 14 ≤ (d + 1)) (x1 : Int) (a0 b0 : Nat → Nat → Int) (hv0 : iv a0) (hp0 : 0 ≤ x1) (hp1 : x1 ≤ 10) (hpn : 10 - x1 ≤ (n_ : Int)) : ∀ n : Nat, (∀ (y1 y2 : Int) (a : Nat → Nat → Int), (((100 - y2) * 1) + 0).toNat ≤ n → iv a → jfr jW_X10_readBoth a0 a → 0 ≤ y1 → y1 ≤ 10 → 0 ≤ y2 → y2 ≤ 99 → (PBl a0 a x1 (y2 + 1)) → (¬ a0 2 3 = 0 → a 2 3 = a0 2 3) → a0 11 6 ≤ a 11 6 → y1 = x1 → jt (jxX E d 144 37 [some (.inr (.inr (.inl 11))), some (.inl y1), some (.inl y2)] [] (jxSH, a, b0)) (jQ_X10_readBoth x1 a0 b0)) ∧ (∀ (y1 y2 : Int) (a : Nat → Nat → Int), (((100 - y2) * 1) + 0).toNat ≤ n → iv a → jfr jW_X10_readBoth a0 a → 0 ≤ y1 → y1 ≤ 10 → 0 ≤ y2 → y2 ≤ 100 → (PBl a0 a x1 y2) → (¬ a0 2 3 = 0 → a 2 3 = a0 2 3) → a0 11 6 ≤ a 11 6 → y1 = x1 → jt (jxX E d 144 7 [some (.inr (.inr (.inl 11))), some (.inl y1), some (.inl y2)] [] (jxSH, a, b0)) (jQ_X10_readBoth x1 a0 b0)) := by
  refine jx_ind fun n ih => ?_
  have ih37 : ∀ (y1 y2 : Int) (a : Nat → Nat → Int), (((100 - y2) * 1) + 0).toNat < n → iv a → jfr jW_X10_readBoth a0 a → 0 ≤ y1 → y1 ≤ 10 → 0 ≤ y2 → y2 ≤ 99 → (PBl a0 a x1 (y2 + 1)) → (¬ a0 2 3 = 0 → a 2 3 = a0 2 3) → a0 11 6 ≤ a 11 6 → y1 = x1 → jt (jxX E d 144 37 [some (.inr (.inr (.inl 11))), some (.inl y1), some (.inl y2)] [] (jxSH, a, b0)) (jQ_X10_readBoth x1 a0 b0) := fun y1 y2 a hlt i0 i1 i2 i3 i4 i5 i6 i7 i8 i9 => (ih _ hlt).1 y1 y2 a (Nat.le_refl _) i0 i1 i2 i3 i4 i5 i6 i7 i8 i9
  have ih7 : ∀ (y1 y2 : Int) (a : Nat → Nat → Int), (((100 - y2) * 1) + 0).toNat < n → iv a → jfr jW_X10_readBoth a0 a → 0 ≤ y1 → y1 ≤ 10 → 0 ≤ y2 → y2 ≤ 100 → (PBl a0 a x1 y2) → (¬ a0 2 3 = 0 → a 2 3 = a0 2 3) → a0 11 6 ≤ a 11 6 → y1 = x1 → jt (jxX E d 144 7 [some (.inr (.inr (.inl 11))), some (.inl y1), some (.inl y2)] [] (jxSH, a, b0)) (jQ_X10_readBoth x1 a0 b0) := fun y1 y2 a hlt i0 i1 i2 i3 i4 i5 i6 i7 i8 i9 => (ih _ hlt).2 y1 y2 a (Nat.le_refl _) i0 i1 i2 i3 i4 i5 i6 i7 i8 i9
  have hc37 : ∀ (y1 y2 : Int) (a : Nat → Nat → Int), (((100 - y2) * 1) + 0).toNat ≤ n → iv a → jfr jW_X10_readBoth a0 a → 0 ≤ y1 → y1 ≤ 10 → 0 ≤ y2 → y2 ≤ 99 → (PBl a0 a x1 (y2 + 1)) → (¬ a0 2 3 = 0 → a 2 3 = a0 2 3) → a0 11 6 ≤ a 11 6 → y1 = x1 → jt (jxX E d 144 37 [some (.inr (.inr (.inl 11))), some (.inl y1), some (.inl y2)] [] (jxSH, a, b0)) (jQ_X10_readBoth x1 a0 b0) := by
    intro y1 y2 a hm hv hf hi0 hi1 hi2 hi3 hl hfk hi6 hi7
    refine jt_eq (bq_X10_readBoth_37 E d y1 y2 a b0) ?_
    have h117_ := iv_get hv0 (k := 11) (j := 6) (l := 0) (u := 40) rfl
    have h118_ := iv_get hv (k := 11) (j := 6) (l := 0) (u := 40) rfl
    have h3 : a 3 = a0 3 := funext fun j => hf 3 j rfl
    have h21 := hf 2 1 rfl
    have h119_ : jxw (y2 + 1) = y2 + 1 := jxw_id (by omega) (by omega)
    exact ih7 y1 (jxw (y2 + 1)) a (show (((100 - (jxw (y2 + 1))) * 1) + 0).toNat < n from by omega) hv hf (show 0 ≤ y1 from by omega) (show y1 ≤ 10 from by omega) (show 0 ≤ jxw (y2 + 1) from by omega) (show jxw (y2 + 1) ≤ 100 from by omega) (by rw [show jxw (y2 + 1) = y2 + 1 from by omega]; exact hl) (fun h => by omega) (show a0 11 6 ≤ a 11 6 from by omega) (show y1 = x1 from by omega)
  have hc7 : ∀ (y1 y2 : Int) (a : Nat → Nat → Int), (((100 - y2) * 1) + 0).toNat ≤ n → iv a → jfr jW_X10_readBoth a0 a → 0 ≤ y1 → y1 ≤ 10 → 0 ≤ y2 → y2 ≤ 100 → (PBl a0 a x1 y2) → (¬ a0 2 3 = 0 → a 2 3 = a0 2 3) → a0 11 6 ≤ a 11 6 → y1 = x1 → jt (jxX E d 144 7 [some (.inr (.inr (.inl 11))), some (.inl y1), some (.inl y2)] [] (jxSH, a, b0)) (jQ_X10_readBoth x1 a0 b0) := by
    intro y1 y2 a hm hv hf hi0 hi1 hi2 hi3 hl hfk hi6 hi7
    refine jt_eq (bq_X10_readBoth_7 E d y1 y2 a b0) ?_
    have h120_ := iv_get hv0 (k := 11) (j := 6) (l := 0) (u := 40) rfl
    have h121_ := iv_get hv (k := 11) (j := 6) (l := 0) (u := 40) rfl
    have h3 : a 3 = a0 3 := funext fun j => hf 3 j rfl
    have h21 := hf 2 1 rfl
    refine jt_ite (fun c122_ => ?_) (fun c122_ => ?_)
    ·
      refine jt_bI (sp_X8_takesWord_r1008 E d (Nat.ble_eq_true_of_le (by omega)) a b0 hv) (fun r123_ a123_ b123_ h123_ => ?_)
      obtain ⟨hv123_, hf123_, rfl, hq123_0, hq123_1, hq123_2, hq123_3, hq123_4⟩ := h123_
      have h124_ := iv_get hv (k := 2) (j := 1) (l := 0) (u := 200) rfl
      have h125_ : a 2 1 = a0 2 1 := hf 2 1 rfl
      have h126_ := iv_get hv0 (k := 2) (j := 1) (l := 0) (u := 200) rfl
      have h127_ := iv_get hv (k := 2) (j := 2) (l := 0) (u := 200) rfl
      have h128_ := iv_get hv123_ (k := 2) (j := 2) (l := 0) (u := 200) rfl
      refine jt_ite (fun c129_ => ?_) (fun c129_ => ?_)
      ·
        have hf130_ : jfr jW_X10_readBoth a0 a123_ := jfr_tr hf hf123_ rfl
        have h131_ := iv_get hv123_ (k := 11) (j := 6) (l := 0) (u := 40) rfl
        have h132_ : a123_ 11 6 = a 11 6 := hf123_ 11 6 rfl
        exact jt_rV ⟨hv123_, hf130_, rfl, (PBl_end hl h3 h21 ⟨fun j => hf123_ 54 j rfl, hf123_ 11 6 rfl, hf123_ 11 7 rfl, hf123_ 2 3 rfl, funext fun j => hf123_ 3 j rfl, hf123_ 2 1 rfl⟩ (hq123_4 (by omega)) (hq123_2 (by omega))), (fun h => (hf123_ 2 3 rfl).trans (hfk h)), (show a0 11 6 ≤ a123_ 11 6 from by omega)⟩
      ·
        refine jt_bV (hOne d (by omega) y1 a123_ b0 hv123_ (show 0 ≤ y1 from by omega) (show y1 ≤ 10 from by omega) (by omega)) (fun a133_ b133_ h133_ => ?_)
        obtain ⟨hv133_, hf133_, rfl, hq133_0, hq133_1, hq133_2⟩ := h133_
        have h134_ := iv_get hv123_ (k := 11) (j := 6) (l := 0) (u := 40) rfl
        have h135_ : a123_ 11 6 = a 11 6 := hf123_ 11 6 rfl
        have h136_ := iv_get hv133_ (k := 11) (j := 6) (l := 0) (u := 40) rfl
        refine jt_bV (sp_X10_addStep E d (Nat.ble_eq_true_of_le (by omega)) 8 0 a133_ b0 hv133_) (fun a137_ b137_ h137_ => ?_)
        obtain ⟨hv137_, hf137_, rfl, hq137_0, hq137_1, hq137_2⟩ := h137_
        have h138_ := iv_get hv137_ (k := 11) (j := 6) (l := 0) (u := 40) rfl
        have hf139_ : jfr jW_X10_readBoth a0 a123_ := jfr_tr hf hf123_ rfl
        have hf140_ : jfr jW_X10_readBoth a0 a133_ := jfr_tr hf139_ hf133_ rfl
        have hf141_ : jfr jW_X10_readBoth a0 a137_ := jfr_tr hf140_ hf137_ rfl
        exact hc37 y1 y2 a137_ (show (((100 - y2) * 1) + 0).toNat ≤ n from by omega) hv137_ hf141_ (show 0 ≤ y1 from by omega) (show y1 ≤ 10 from by omega) (show 0 ≤ y2 from by omega) (show y2 ≤ 99 from by omega) (PBl_s hl h3 h21 ⟨fun j => hf123_ 54 j rfl, hf123_ 11 6 rfl, hf123_ 11 7 rfl, hf123_ 2 3 rfl, funext fun j => hf123_ 3 j rfl, hf123_ 2 1 rfl⟩ (hq123_3 (by omega)) (by have q := hq133_0; rw [show y1 = x1 from by omega] at q; exact q) (by omega) (by omega) (hf137_ 2 3 rfl) (fun h => ⟨by omega, hq137_2 h⟩) (hf137_ 2 2 rfl) (hf137_ 11 7 rfl)) (fun h => by omega) (show a0 11 6 ≤ a137_ 11 6 from by omega) (show y1 = x1 from by omega)
    ·
      exact jt_rV ⟨hv, hf, rfl, (PBl_big hl (by omega) (by omega)), hfk, (show a0 11 6 ≤ a 11 6 from by omega)⟩
  exact ⟨hc37, hc7⟩
theorem sr_X10_readBoth (E : jxE) (n_ : Nat) (hOne : Sp_X10_readOne E n_) : Sp_X10_readBoth E n_ := by
  intro d hd x1 a0 b0 hv0 hp0 hp1 hpn
  obtain ⟨d, rfl⟩ : ∃ d2, d = d2 + 1 := ⟨d - 1, by omega⟩
  refine jt_eq (bq_X10_readBoth E d x1 a0 b0) ?_
  refine jt_bV (hOne d (by omega) x1 a0 b0 hv0 (show 0 ≤ x1 from by omega) (show x1 ≤ 10 from by omega) (by omega)) (fun a142_ b142_ h142_ => ?_)
  obtain ⟨hv142_, hf142_, rfl, hq142_0, hq142_1, hq142_2⟩ := h142_
  have h143_ := iv_get hv0 (k := 11) (j := 6) (l := 0) (u := 40) rfl
  have h144_ := iv_get hv142_ (k := 11) (j := 6) (l := 0) (u := 40) rfl
  have hf145_ : jfr jW_X10_readBoth a0 a142_ := jfr_tr (jfr_rf _ _) hf142_ rfl
  exact (cp_X10_readBoth_7 E n_ hOne d hd x1 a0 b0 hv0 hp0 hp1 hpn _).2 x1 0 a142_ (Nat.le_refl _) hv142_ hf145_ (show 0 ≤ x1 from by omega) (show x1 ≤ 10 from by omega) (show 0 ≤ 0 from by omega) (show 0 ≤ 100 from by omega) (PBl_0 hq142_0 (by omega)) (fun h => by omega) (show a0 11 6 ≤ a142_ 11 6 from by omega) (show x1 = x1 from by omega)
theorem cp_X10_readEither_7 (E : jxE) (n_ : Nat) (hBoth : Sp_X10_readBoth E n_) (d : Nat) (hd : 3 * n_ + 15 ≤ (d + 1)) (x1 : Int) (a0 b0 : Nat → Nat → Int) (hv0 : iv a0) (hp0 : 0 ≤ x1) (hp1 : x1 ≤ 10) (hpn : 10 - x1 ≤ (n_ : Int)) : ∀ n : Nat, (∀ (y1 y2 : Int) (a : Nat → Nat → Int), (((100 - y2) * 1) + 0).toNat ≤ n → iv a → jfr jW_X10_readEither a0 a → 0 ≤ y1 → y1 ≤ 10 → 0 ≤ y2 → y2 ≤ 99 → (PEl a0 a x1 (y2 + 1)) → (¬ a0 2 3 = 0 → a 2 3 = a0 2 3) → a0 11 6 ≤ a 11 6 → y1 = x1 → jt (jxX E d 143 37 [some (.inr (.inr (.inl 11))), some (.inl y1), some (.inl y2)] [] (jxSH, a, b0)) (jQ_X10_readEither x1 a0 b0)) ∧ (∀ (y1 y2 : Int) (a : Nat → Nat → Int), (((100 - y2) * 1) + 0).toNat ≤ n → iv a → jfr jW_X10_readEither a0 a → 0 ≤ y1 → y1 ≤ 10 → 0 ≤ y2 → y2 ≤ 100 → (PEl a0 a x1 y2) → (¬ a0 2 3 = 0 → a 2 3 = a0 2 3) → a0 11 6 ≤ a 11 6 → y1 = x1 → jt (jxX E d 143 7 [some (.inr (.inr (.inl 11))), some (.inl y1), some (.inl y2)] [] (jxSH, a, b0)) (jQ_X10_readEither x1 a0 b0)) := by
  refine jx_ind fun n ih => ?_
  have ih37 : ∀ (y1 y2 : Int) (a : Nat → Nat → Int), (((100 - y2) * 1) + 0).toNat < n → iv a → jfr jW_X10_readEither a0 a → 0 ≤ y1 → y1 ≤ 10 → 0 ≤ y2 → y2 ≤ 99 → (PEl a0 a x1 (y2 + 1)) → (¬ a0 2 3 = 0 → a 2 3 = a0 2 3) → a0 11 6 ≤ a 11 6 → y1 = x1 → jt (jxX E d 143 37 [some (.inr (.inr (.inl 11))), some (.inl y1), some (.inl y2)] [] (jxSH, a, b0)) (jQ_X10_readEither x1 a0 b0) := fun y1 y2 a hlt i0 i1 i2 i3 i4 i5 i6 i7 i8 i9 => (ih _ hlt).1 y1 y2 a (Nat.le_refl _) i0 i1 i2 i3 i4 i5 i6 i7 i8 i9
  have ih7 : ∀ (y1 y2 : Int) (a : Nat → Nat → Int), (((100 - y2) * 1) + 0).toNat < n → iv a → jfr jW_X10_readEither a0 a → 0 ≤ y1 → y1 ≤ 10 → 0 ≤ y2 → y2 ≤ 100 → (PEl a0 a x1 y2) → (¬ a0 2 3 = 0 → a 2 3 = a0 2 3) → a0 11 6 ≤ a 11 6 → y1 = x1 → jt (jxX E d 143 7 [some (.inr (.inr (.inl 11))), some (.inl y1), some (.inl y2)] [] (jxSH, a, b0)) (jQ_X10_readEither x1 a0 b0) := fun y1 y2 a hlt i0 i1 i2 i3 i4 i5 i6 i7 i8 i9 => (ih _ hlt).2 y1 y2 a (Nat.le_refl _) i0 i1 i2 i3 i4 i5 i6 i7 i8 i9
  have hc37 : ∀ (y1 y2 : Int) (a : Nat → Nat → Int), (((100 - y2) * 1) + 0).toNat ≤ n → iv a → jfr jW_X10_readEither a0 a → 0 ≤ y1 → y1 ≤ 10 → 0 ≤ y2 → y2 ≤ 99 → (PEl a0 a x1 (y2 + 1)) → (¬ a0 2 3 = 0 → a 2 3 = a0 2 3) → a0 11 6 ≤ a 11 6 → y1 = x1 → jt (jxX E d 143 37 [some (.inr (.inr (.inl 11))), some (.inl y1), some (.inl y2)] [] (jxSH, a, b0)) (jQ_X10_readEither x1 a0 b0) := by
    intro y1 y2 a hm hv hf hi0 hi1 hi2 hi3 hl hfk hi6 hi7
    refine jt_eq (bq_X10_readEither_37 E d y1 y2 a b0) ?_
    have h146_ := iv_get hv0 (k := 11) (j := 6) (l := 0) (u := 40) rfl
    have h147_ := iv_get hv (k := 11) (j := 6) (l := 0) (u := 40) rfl
    have h3 : a 3 = a0 3 := funext fun j => hf 3 j rfl
    have h21 := hf 2 1 rfl
    have h148_ : jxw (y2 + 1) = y2 + 1 := jxw_id (by omega) (by omega)
    exact ih7 y1 (jxw (y2 + 1)) a (show (((100 - (jxw (y2 + 1))) * 1) + 0).toNat < n from by omega) hv hf (show 0 ≤ y1 from by omega) (show y1 ≤ 10 from by omega) (show 0 ≤ jxw (y2 + 1) from by omega) (show jxw (y2 + 1) ≤ 100 from by omega) (by rw [show jxw (y2 + 1) = y2 + 1 from by omega]; exact hl) (fun h => by omega) (show a0 11 6 ≤ a 11 6 from by omega) (show y1 = x1 from by omega)
  have hc7 : ∀ (y1 y2 : Int) (a : Nat → Nat → Int), (((100 - y2) * 1) + 0).toNat ≤ n → iv a → jfr jW_X10_readEither a0 a → 0 ≤ y1 → y1 ≤ 10 → 0 ≤ y2 → y2 ≤ 100 → (PEl a0 a x1 y2) → (¬ a0 2 3 = 0 → a 2 3 = a0 2 3) → a0 11 6 ≤ a 11 6 → y1 = x1 → jt (jxX E d 143 7 [some (.inr (.inr (.inl 11))), some (.inl y1), some (.inl y2)] [] (jxSH, a, b0)) (jQ_X10_readEither x1 a0 b0) := by
    intro y1 y2 a hm hv hf hi0 hi1 hi2 hi3 hl hfk hi6 hi7
    refine jt_eq (bq_X10_readEither_7 E d y1 y2 a b0) ?_
    have h149_ := iv_get hv0 (k := 11) (j := 6) (l := 0) (u := 40) rfl
    have h150_ := iv_get hv (k := 11) (j := 6) (l := 0) (u := 40) rfl
    have h3 : a 3 = a0 3 := funext fun j => hf 3 j rfl
    have h21 := hf 2 1 rfl
    refine jt_ite (fun c151_ => ?_) (fun c151_ => ?_)
    ·
      refine jt_bI (sp_X8_takesWord_r1009 E d (Nat.ble_eq_true_of_le (by omega)) a b0 hv) (fun r152_ a152_ b152_ h152_ => ?_)
      obtain ⟨hv152_, hf152_, rfl, hq152_0, hq152_1, hq152_2, hq152_3, hq152_4⟩ := h152_
      have h153_ := iv_get hv (k := 2) (j := 1) (l := 0) (u := 200) rfl
      have h154_ : a 2 1 = a0 2 1 := hf 2 1 rfl
      have h155_ := iv_get hv0 (k := 2) (j := 1) (l := 0) (u := 200) rfl
      have h156_ := iv_get hv (k := 2) (j := 2) (l := 0) (u := 200) rfl
      have h157_ := iv_get hv152_ (k := 2) (j := 2) (l := 0) (u := 200) rfl
      refine jt_ite (fun c158_ => ?_) (fun c158_ => ?_)
      ·
        have hf159_ : jfr jW_X10_readEither a0 a152_ := jfr_tr hf hf152_ rfl
        have h160_ := iv_get hv152_ (k := 11) (j := 6) (l := 0) (u := 40) rfl
        have h161_ : a152_ 11 6 = a 11 6 := hf152_ 11 6 rfl
        exact jt_rV ⟨hv152_, hf159_, rfl, (PEl_end hl h3 h21 ⟨fun j => hf152_ 54 j rfl, hf152_ 11 6 rfl, hf152_ 11 7 rfl, hf152_ 2 3 rfl, funext fun j => hf152_ 3 j rfl, hf152_ 2 1 rfl⟩ (hq152_4 (by omega)) (hq152_2 (by omega))), (fun h => (hf152_ 2 3 rfl).trans (hfk h)), (show a0 11 6 ≤ a152_ 11 6 from by omega)⟩
      ·
        refine jt_bV (hBoth d (by omega) y1 a152_ b0 hv152_ (show 0 ≤ y1 from by omega) (show y1 ≤ 10 from by omega) (by omega)) (fun a162_ b162_ h162_ => ?_)
        obtain ⟨hv162_, hf162_, rfl, hq162_0, hq162_1, hq162_2⟩ := h162_
        have h163_ := iv_get hv152_ (k := 11) (j := 6) (l := 0) (u := 40) rfl
        have h164_ : a152_ 11 6 = a 11 6 := hf152_ 11 6 rfl
        have h165_ := iv_get hv162_ (k := 11) (j := 6) (l := 0) (u := 40) rfl
        refine jt_bV (sp_X10_addStep E d (Nat.ble_eq_true_of_le (by omega)) 9 0 a162_ b0 hv162_) (fun a166_ b166_ h166_ => ?_)
        obtain ⟨hv166_, hf166_, rfl, hq166_0, hq166_1, hq166_2⟩ := h166_
        have h167_ := iv_get hv166_ (k := 11) (j := 6) (l := 0) (u := 40) rfl
        have hf168_ : jfr jW_X10_readEither a0 a152_ := jfr_tr hf hf152_ rfl
        have hf169_ : jfr jW_X10_readEither a0 a162_ := jfr_tr hf168_ hf162_ rfl
        have hf170_ : jfr jW_X10_readEither a0 a166_ := jfr_tr hf169_ hf166_ rfl
        exact hc37 y1 y2 a166_ (show (((100 - y2) * 1) + 0).toNat ≤ n from by omega) hv166_ hf170_ (show 0 ≤ y1 from by omega) (show y1 ≤ 10 from by omega) (show 0 ≤ y2 from by omega) (show y2 ≤ 99 from by omega) (PEl_s hl h3 h21 ⟨fun j => hf152_ 54 j rfl, hf152_ 11 6 rfl, hf152_ 11 7 rfl, hf152_ 2 3 rfl, funext fun j => hf152_ 3 j rfl, hf152_ 2 1 rfl⟩ (hq152_3 (by omega)) (by have q := hq162_0; rw [show y1 = x1 from by omega] at q; exact q) (by omega) (by omega) (hf166_ 2 3 rfl) (fun h => ⟨by omega, hq166_2 h⟩) (hf166_ 2 2 rfl) (hf166_ 11 7 rfl)) (fun h => by omega) (show a0 11 6 ≤ a166_ 11 6 from by omega) (show y1 = x1 from by omega)
    ·
      exact jt_rV ⟨hv, hf, rfl, (PEl_big hl (by omega) (by omega)), hfk, (show a0 11 6 ≤ a 11 6 from by omega)⟩
  exact ⟨hc37, hc7⟩
theorem sr_X10_readEither (E : jxE) (n_ : Nat) (hBoth : Sp_X10_readBoth E n_) : Sp_X10_readEither E n_ := by
  intro d hd x1 a0 b0 hv0 hp0 hp1 hpn
  obtain ⟨d, rfl⟩ : ∃ d2, d = d2 + 1 := ⟨d - 1, by omega⟩
  refine jt_eq (bq_X10_readEither E d x1 a0 b0) ?_
  refine jt_bV (hBoth d (by omega) x1 a0 b0 hv0 (show 0 ≤ x1 from by omega) (show x1 ≤ 10 from by omega) (by omega)) (fun a171_ b171_ h171_ => ?_)
  obtain ⟨hv171_, hf171_, rfl, hq171_0, hq171_1, hq171_2⟩ := h171_
  have h172_ := iv_get hv0 (k := 11) (j := 6) (l := 0) (u := 40) rfl
  have h173_ := iv_get hv171_ (k := 11) (j := 6) (l := 0) (u := 40) rfl
  have hf174_ : jfr jW_X10_readEither a0 a171_ := jfr_tr (jfr_rf _ _) hf171_ rfl
  exact (cp_X10_readEither_7 E n_ hBoth d hd x1 a0 b0 hv0 hp0 hp1 hpn _).2 x1 0 a171_ (Nat.le_refl _) hv171_ hf174_ (show 0 ≤ x1 from by omega) (show x1 ≤ 10 from by omega) (show 0 ≤ 0 from by omega) (show 0 ≤ 100 from by omega) (PEl_0 hq171_0 (by omega)) (fun h => by omega) (show a0 11 6 ≤ a171_ 11 6 from by omega) (show x1 = x1 from by omega)
theorem sr_all (E : jxE) : ∀ n : Nat, Sp_X10_readOne E n ∧ Sp_X10_readBoth E n ∧ Sp_X10_readEither E n := by
  refine jx_ind fun n ih => ?_
  have h1 : Sp_X10_readOne E n := sr_X10_readOne E n (fun m hm => ⟨(ih m (by omega)).1, (ih m (by omega)).2.2⟩)
  have h2 := sr_X10_readBoth E n h1
  exact ⟨h1, h2, sr_X10_readEither E n h2⟩
theorem sp_X10_readEither (E : jxE) (d : Nat) (hd : Nat.ble 50 d = true) (x1 : Int) (a0 b0 : Nat → Nat → Int) (hv0 : iv a0) (hp0 : 0 ≤ x1) (hp1 : x1 ≤ 10) : jt (jxC E d 143 [.inr (.inr (.inl 11)), .inl x1] (jxSH, a0, b0)) (jQ_X10_readEither x1 a0 b0) := by
  have hd2 := Nat.le_of_ble_eq_true hd
  exact (sr_all E 10).2.2 d (by omega) x1 a0 b0 hv0 hp0 hp1 (by omega)
def jW_X10_read : List (Nat × Nat) := [(2, 2), (2, 3), (11, 6), (11, 7), (12, 9999), (53, 9999), (54, 9999)]
abbrev jQ_X10_read (x1 : Int) (a0 b0 : Nat → Nat → Int) : List jxV → (Nat → Nat → Int) → (Nat → Nat → Int) → Prop := rI (fun r a b => (iv a) ∧ (jfr jW_X10_read a0 a) ∧ (b0 = b) ∧ (a0 2 1 ≤ 100 → WRR (a0 3) (a0 2 1).toNat r) ∧ (0 ≤ x1 → x1 < a0 4 6 → a0 2 1 ≤ 100 → WCALL (a0 3) (a0 2 1).toNat a0 a 12 53 40 idz x1.toNat))
theorem cp_X10_read_49 (E : jxE) (d : Nat) (hd : Nat.ble 51 (d + 1) = true) (x1 : Int) (a0 b0 : Nat → Nat → Int) (hv0 : iv a0) : ∀ (y1 : Int) (a : Nat → Nat → Int), iv a → jfr jW_X10_read a0 a → (a0 2 1 ≤ 100 → ((a0 2 1).toNat ≤ SK (a0 3) (a0 2 1).toNat 0 ∧ a 2 3 = 0 ∧ a 11 7 = 0) ∨ (SK (a0 3) (a0 2 1).toNat 0 < (a0 2 1).toNat ∧ ((a 2 3 = 0 ∧ ∃ (p : Nat) (out : List Int), RCH (a0 3) (a0 2 1).toNat (3, p, [], out, a 11 7, 0)) ∨ (¬ a 2 3 = 0 ∧ FLT a0 a)))) → y1 = x1 → (∀ j, a 12 j = a0 12 j) → (∀ j, a 53 j = a0 53 j) → (a0 2 1 ≤ 100 → a 2 3 = 0 → WOUT (a0 3) (a0 2 1).toNat (a 11 7) (OUL (a 54) (a 11 6).toNat)) → jt (jxX E d 141 49 [some (.inr (.inr (.inl 11))), some (.inl y1)] [] (jxSH, a, b0)) (jQ_X10_read x1 a0 b0) := by
  intro y1 a hv hf hok hi1 hs12 hs53 hwo
  refine jt_eq (bq_X10_read_49 E d y1 a b0) ?_
  have h3 : a 3 = a0 3 := funext fun j => hf 3 j rfl
  have h21 := hf 2 1 rfl
  refine jt_eI (eq_X8_isFaulty E d (jd_le hd rfl) a b0) ?_
  have h175_ := f_X8_isFaulty_eq a b0
  refine jt_ite (fun c176_ => ?_) (fun c176_ => ?_)
  ·
    refine jt_bV (sp_X10_keepDraft E d (jd_le hd rfl) y1 a b0 hv) (fun a177_ b177_ h177_ => ?_)
    obtain ⟨hv177_, hf177_, rfl, hq177_0⟩ := h177_
    have hf178_ : jfr jW_X10_read a0 a177_ := jfr_tr hf hf177_ rfl
    have h179_ := iv_get hv177_ (k := 11) (j := 7) (l := 0) (u := 12) rfl
    have h180_ : a177_ 11 7 = a 11 7 := hf177_ 11 7 rfl
    have h181_ := iv_get hv (k := 11) (j := 7) (l := 0) (u := 12) rfl
    exact jt_rI ⟨hv177_, hf178_, rfl, (fun hl => WRR_g (hok hl) (by omega) (hf177_ 11 7 rfl)), (fun h1 h2 hl => by have e46 := hf 4 6 rfl; have i46 := iv_get hv0 (k := 4) (j := 6) (l := 0) (u := 40) rfl; have q := hq177_0 (by omega) (by omega) (by omega); rw [show y1.toNat = x1.toNat from by omega] at q; exact WCALL_g (hwo hl (by omega)) (iv_get hv (k := 11) (j := 6) (l := 0) (u := 40) rfl).1 hs12 hs53 q.1 q.2.1 q.2.2)⟩
  ·
    refine jt_eI (eq_X8_answerOfFault E d (jd_le hd rfl) a b0) ?_
    have h182_ := f_X8_answerOfFault_eq a b0
    have h183_ := jxw_im ((-2) - (a 2 3))
    have h184_ := jxw_rg ((-2) - (a 2 3))
    exact jt_rI ⟨hv, hf, rfl, (fun hl => WRR_f (hok hl) (by omega) rfl), (fun _ _ hl => WCALL_f (hok hl) (by omega) hs12 hs53)⟩
theorem cp_X10_read_32 (E : jxE) (d : Nat) (hd : Nat.ble 51 (d + 1) = true) (x1 : Int) (a0 b0 : Nat → Nat → Int) (hv0 : iv a0) : ∀ (y1 : Int) (a : Nat → Nat → Int), iv a → jfr jW_X10_read a0 a → (a0 2 1 ≤ 100 → WRE a0 a []) → (SK (a0 3) (a0 2 1).toNat 0 < (a0 2 1).toNat) → y1 = x1 → (∀ j, a 12 j = a0 12 j) → (∀ j, a 53 j = a0 53 j) → jt (jxX E d 141 32 [some (.inr (.inr (.inl 11))), some (.inl y1)] [] (jxSH, a, b0)) (jQ_X10_read x1 a0 b0) := by
  intro y1 a hv hf hre hsl hi2 hs12 hs53
  refine jt_eq (bq_X10_read_32 E d y1 a b0) ?_
  have h3 : a 3 = a0 3 := funext fun j => hf 3 j rfl
  have h21 := hf 2 1 rfl
  refine jt_eI (eq_X8_isAtEnd E d (jd_le hd rfl) a b0) ?_
  have h185_ := f_X8_isAtEnd_eq a b0
  have h186_ := iv_get hv (k := 2) (j := 2) (l := 0) (u := 200) rfl
  have h187_ := iv_get hv (k := 2) (j := 1) (l := 0) (u := 200) rfl
  have h188_ : a 2 1 = a0 2 1 := hf 2 1 rfl
  have h189_ := iv_get hv0 (k := 2) (j := 1) (l := 0) (u := 200) rfl
  refine jt_ite (fun c190_ => ?_) (fun c190_ => ?_)
  ·
    refine jt_bV (sp_X8_noteCannotStand E d (jd_le hd rfl) a b0 hv) (fun a191_ b191_ h191_ => ?_)
    obtain ⟨hv191_, hf191_, rfl, hq191_0, hq191_1⟩ := h191_
    have hf192_ : jfr jW_X10_read a0 a191_ := jfr_tr hf hf191_ rfl
    exact cp_X10_read_49 E d hd x1 a0 b0 hv0 y1 a191_ hv191_ hf192_ (fun hl => Or.inr ⟨hsl, Or.inr (WRE_bad (hre hl) h3 h21 (by omega) (by omega) (fun h => by have e := hq191_0; omega) (fun h => by have e := hq191_1; omega))⟩) (show y1 = x1 from by omega) (fun j => ((hf191_ 12 j rfl)).trans (hs12 j)) (fun j => ((hf191_ 53 j rfl)).trans (hs53 j)) (fun hl hz => by rcases hre hl with q | q <;> first | exact absurd (by have e := hq191_0; omega : False) id | exact absurd (by have e := hq191_1; omega : False) id)
  ·
    exact cp_X10_read_49 E d hd x1 a0 b0 hv0 y1 a hv hf (fun hl => Or.inr ⟨hsl, WRE_end (hre hl) h3 h21 (by omega)⟩) (show y1 = x1 from by omega) (fun j => (rfl).trans (hs12 j)) (fun j => (rfl).trans (hs53 j)) (fun hl hz => by rcases hre hl with q | q <;> first | exact Or.inr ⟨hsl, _, RC_fin q.2.1 (by rw [← h21]; omega)⟩ | exact absurd hz q.1)
theorem sp_X10_read (E : jxE) (d : Nat) (hd : Nat.ble 51 d = true) (x1 : Int) (a0 b0 : Nat → Nat → Int) (hv0 : iv a0) : jt (jxC E d 141 [.inr (.inr (.inl 11)), .inl x1] (jxSH, a0, b0)) (jQ_X10_read x1 a0 b0) := by
  obtain ⟨d, rfl⟩ := jd_succ hd
  refine jt_eq (bq_X10_read E d x1 a0 b0) ?_
  have hv193_ : iv (jxu a0 11 6 0) := iv_put hv0 (l := 0) (u := 40) rfl (by omega) (by omega)
  have hv194_ : iv (jxu (jxu a0 11 6 0) 11 7 0) := iv_put hv193_ (l := 0) (u := 12) rfl (by omega) (by omega)
  refine jt_bV (sp_X8_startReading E d (jd_le hd rfl) (jxu (jxu a0 11 6 0) 11 7 0) b0 hv194_) (fun a195_ b195_ h195_ => ?_)
  obtain ⟨hv195_, hf195_, rfl, hq195_0, hq195_1, hq195_2⟩ := h195_
  have h196_ : a195_ 2 3 = 0 := hq195_0
  have h197_ := iv_get hv0 (k := 2) (j := 1) (l := 0) (u := 200) rfl
  have h198_ := iv_get hv195_ (k := 2) (j := 2) (l := 0) (u := 200) rfl
  have h199_ : (a0 2 1 = 0 → a195_ 2 2 = 0) := hq195_1
  refine jt_eI (eq_X8_isAtEnd E d (jd_le hd rfl) a195_ b0) ?_
  have h200_ := f_X8_isAtEnd_eq a195_ b0
  have h201_ := iv_get hv195_ (k := 2) (j := 1) (l := 0) (u := 200) rfl
  have h202_ : a195_ 2 1 = a0 2 1 := hf195_ 2 1 rfl
  refine jt_ite (fun c203_ => ?_) (fun c203_ => ?_)
  ·
    refine jt_bV (sp_X10_readEither E d (jd_le hd rfl) 0 a195_ b0 hv195_ (show 0 ≤ 0 from by omega) (show 0 ≤ 10 from by omega)) (fun a204_ b204_ h204_ => ?_)
    obtain ⟨hv204_, hf204_, rfl, hq204_0, hq204_1, hq204_2⟩ := h204_
    have h205_ := iv_get hv195_ (k := 11) (j := 6) (l := 0) (u := 40) rfl
    have h206_ : a195_ 11 6 = 0 := hf195_ 11 6 rfl
    have h207_ := iv_get hv204_ (k := 11) (j := 6) (l := 0) (u := 40) rfl
    have hf208_ : jfr jW_X10_read a0 (jxu a0 11 6 0) := jfr_put (jfr_rf _ _) rfl
    have hf209_ : jfr jW_X10_read a0 (jxu (jxu a0 11 6 0) 11 7 0) := jfr_put hf208_ rfl
    have hf210_ : jfr jW_X10_read a0 a195_ := jfr_tr hf209_ hf195_ rfl
    have hf211_ : jfr jW_X10_read a0 a204_ := jfr_tr hf210_ hf204_ rfl
    exact cp_X10_read_32 E d hd x1 a0 b0 hv0 x1 a204_ hv204_ hf211_ (fun hl => by have e3 : a195_ 3 = a0 3 := funext fun j => hf195_ 3 j rfl; have e21 : a195_ 2 1 = a0 2 1 := hf195_ 2 1 rfl; have q := hq204_0 (by omega) (by omega) [] (by unfold RC; rw [e3, e21, hq195_2, hf195_ 11 6 rfl, hf195_ 11 7 rfl, Int.toNat_natCast]; exact RCH_0 _ _) rfl (Or.inr rfl); exact (WRE_base e3 e21).1 q) (by have e : a195_ 2 2 = (SK (a0 3) (a0 2 1).toNat 0 : Int) := hq195_2; have g : a195_ 2 1 = a0 2 1 := hf195_ 2 1 rfl; omega) (show x1 = x1 from by omega) (fun j => ((hf204_ 12 j rfl).trans (hf195_ 12 j rfl))) (fun j => ((hf204_ 53 j rfl).trans (hf195_ 53 j rfl)))
  ·
    have hf212_ : jfr jW_X10_read a0 (jxu a0 11 6 0) := jfr_put (jfr_rf _ _) rfl
    have hf213_ : jfr jW_X10_read a0 (jxu (jxu a0 11 6 0) 11 7 0) := jfr_put hf212_ rfl
    have hf214_ : jfr jW_X10_read a0 a195_ := jfr_tr hf213_ hf195_ rfl
    exact cp_X10_read_49 E d hd x1 a0 b0 hv0 x1 a195_ hv195_ hf214_ (fun _ => Or.inl ⟨by have e : a195_ 2 2 = (SK (a0 3) (a0 2 1).toNat 0 : Int) := hq195_2; have g : a195_ 2 1 = a0 2 1 := hf195_ 2 1 rfl; omega, by omega, hf195_ 11 7 rfl⟩) (show x1 = x1 from by omega) (fun j => (hf195_ 12 j rfl)) (fun j => (hf195_ 53 j rfl)) (fun hl hz => Or.inl ⟨by have e : a195_ 2 2 = (SK (a0 3) (a0 2 1).toNat 0 : Int) := hq195_2; have g : a195_ 2 1 = a0 2 1 := hf195_ 2 1 rfl; omega, by rw [show (a195_ 11 6).toNat = 0 from by rw [hf195_ 11 6 rfl]; rfl]; rfl, hf195_ 11 7 rfl⟩)
def jW_X11_wish : List (Nat × Nat) := [(2, 1), (2, 2), (2, 3), (11, 6), (11, 7), (12, 9999), (53, 9999), (54, 9999)]
abbrev jQ_X11_wish (x1 : Int) (a0 b0 : Nat → Nat → Int) : List jxV → (Nat → Nat → Int) → (Nat → Nat → Int) → Prop := rI (fun r a b => (iv a) ∧ (jfr jW_X11_wish a0 a) ∧ (b0 = b) ∧ ((a0 4 6 = 0 → r = 0 - 1)) ∧ ((((0 ≤ x1 ∧ x1 < a0 4 6) ∧ a0 2 1 ≤ 100) → a 2 1 = 0)) ∧ ((((x1 < 0 ∨ a0 4 6 ≤ x1) ∨ 100 < a0 2 1) → a 2 1 = a0 2 1)) ∧ (0 ≤ x1 → x1 < a0 4 6 → a0 2 1 ≤ 100 → WRR (a0 3) (a0 2 1).toNat r) ∧ ((((x1 < 0 ∨ a0 4 6 ≤ x1) ∨ 100 < a0 2 1) → r = 0 - 1)) ∧ (WCX a0 a x1))
theorem cp_X11_wish_34 (E : jxE) (d : Nat) (hd : Nat.ble 52 (d + 1) = true) (x1 : Int) (a0 b0 : Nat → Nat → Int) (hv0 : iv a0) : ∀ (y2 : Int) (a : Nat → Nat → Int), iv a → jfr jW_X11_wish a0 a → (WRR (a0 3) (a0 2 1).toNat y2) → (WCALL (a0 3) (a0 2 1).toNat a0 a 12 53 40 idz x1.toNat) → 1 ≤ a0 4 6 → ((0 ≤ x1 ∧ x1 < a0 4 6) ∧ a0 2 1 ≤ 100) → jt (jxX E d 162 34 [some (.inr (.inr (.inl 0))), none, some (.inl y2)] [] (jxSH, a, b0)) (jQ_X11_wish x1 a0 b0) := by
  intro y2 a hv hf hwr hwc hi2 hi3
  refine jt_eq (bq_X11_wish_34 E d y2 a b0) ?_
  have h215_ := iv_get hv0 (k := 4) (j := 6) (l := 0) (u := 40) rfl
  have h216_ := iv_get hv0 (k := 2) (j := 1) (l := 0) (u := 200) rfl
  refine jt_bV (sp_X8_cut E d (jd_le hd rfl) 0 a b0 hv) (fun a217_ b217_ h217_ => ?_)
  obtain ⟨hv217_, hf217_, rfl, hq217_0⟩ := h217_
  have h218_ := iv_get hv (k := 2) (j := 1) (l := 0) (u := 200) rfl
  have h219_ := iv_get hv217_ (k := 2) (j := 1) (l := 0) (u := 200) rfl
  have hf220_ : jfr jW_X11_wish a0 a217_ := jfr_tr hf hf217_ rfl
  exact jt_rI ⟨hv217_, hf220_, rfl, (show (a0 4 6 = 0 → y2 = 0 - 1) from by omega), (show (((0 ≤ x1 ∧ x1 < a0 4 6) ∧ a0 2 1 ≤ 100) → a217_ 2 1 = 0) from by omega), (show (((x1 < 0 ∨ a0 4 6 ≤ x1) ∨ 100 < a0 2 1) → a217_ 2 1 = a0 2 1) from by omega), (fun _ _ _ => hwr), (show (((x1 < 0 ∨ a0 4 6 ≤ x1) ∨ 100 < a0 2 1) → y2 = 0 - 1) from by omega), ⟨fun _ _ _ => WCALL_r hwc (fun j => hf217_ 12 j rfl) (fun j => hf217_ 53 j rfl), fun h => by omega⟩⟩
theorem sp_X11_wish (E : jxE) (d : Nat) (hd : Nat.ble 52 d = true) (x1 : Int) (a0 b0 : Nat → Nat → Int) (hv0 : iv a0) : jt (jxC E d 162 [.inr (.inr (.inl 0)), .inl x1] (jxSH, a0, b0)) (jQ_X11_wish x1 a0 b0) := by
  obtain ⟨d, rfl⟩ := jd_succ hd
  refine jt_eq (bq_X11_wish E d x1 a0 b0) ?_
  refine jt_eI (eq_X3_has E d (jd_le hd rfl) x1 a0 b0) ?_
  have h221_ := f_X3_has_eq a0 b0 x1
  have h222_ := iv_get hv0 (k := 4) (j := 6) (l := 0) (u := 40) rfl
  refine jt_ite (fun c223_ => ?_) (fun c223_ => ?_)
  ·
    have h224_ := iv_get hv0 (k := 2) (j := 1) (l := 0) (u := 200) rfl
    exact jt_rI ⟨hv0, (jfr_rf _ _), rfl, (show (a0 4 6 = 0 → (-1) = 0 - 1) from by omega), (show (((0 ≤ x1 ∧ x1 < a0 4 6) ∧ a0 2 1 ≤ 100) → a0 2 1 = 0) from by omega), (show (((x1 < 0 ∨ a0 4 6 ≤ x1) ∨ 100 < a0 2 1) → a0 2 1 = a0 2 1) from by omega), (fun h1 h2 h3 => by omega), (show (((x1 < 0 ∨ a0 4 6 ≤ x1) ∨ 100 < a0 2 1) → (-1) = 0 - 1) from by omega), ⟨fun h1 h2 h3 => by omega, fun _ => ⟨fun _ => rfl, fun _ => rfl⟩⟩⟩
  ·
    refine jt_eI (eq_X8_length E d (jd_le hd rfl) a0 b0) ?_
    have h225_ := f_X8_length_eq a0 b0
    have h226_ := iv_get hv0 (k := 2) (j := 1) (l := 0) (u := 200) rfl
    refine jt_ite (fun c227_ => ?_) (fun c227_ => ?_)
    ·
      exact jt_rI ⟨hv0, (jfr_rf _ _), rfl, (show (a0 4 6 = 0 → (-1) = 0 - 1) from by omega), (show (((0 ≤ x1 ∧ x1 < a0 4 6) ∧ a0 2 1 ≤ 100) → a0 2 1 = 0) from by omega), (show (((x1 < 0 ∨ a0 4 6 ≤ x1) ∨ 100 < a0 2 1) → a0 2 1 = a0 2 1) from by omega), (fun h1 h2 h3 => by omega), (show (((x1 < 0 ∨ a0 4 6 ≤ x1) ∨ 100 < a0 2 1) → (-1) = 0 - 1) from by omega), ⟨fun h1 h2 h3 => by omega, fun _ => ⟨fun _ => rfl, fun _ => rfl⟩⟩⟩
    ·
      refine jt_bI (sp_X10_read E d (jd_le hd rfl) x1 a0 b0 hv0) (fun r228_ a228_ b228_ h228_ => ?_)
      obtain ⟨hv228_, hf228_, rfl, hq228_0, hq228_1⟩ := h228_
      have hf229_ : jfr jW_X11_wish a0 a228_ := jfr_tr (jfr_rf _ _) hf228_ rfl
      exact cp_X11_wish_34 E d hd x1 a0 b0 hv0 r228_ a228_ hv228_ hf229_ (hq228_0 (by omega)) (hq228_1 (by omega) (by omega) (by omega)) (show 1 ≤ a0 4 6 from by omega) (show ((0 ≤ x1 ∧ x1 < a0 4 6) ∧ a0 2 1 ≤ 100) from by omega)
