abbrev jQ_X5_weigh (x1 : Int) (a0 b0 : Nat → Nat → Int) : List jxV → (Nat → Nat → Int) → (Nat → Nat → Int) → Prop := rI (fun r a b => (a0 = a) ∧ (b0 = b) ∧ (∀ (n : Nat) (g k : Nat → Nat → Bool) (u s : Nat), WHY a0 b0 n g k u x1.toNat → LST s x1.toNat → IMX r (WAY n g k 16 (a0 95) s x1.toNat) ∧ D16 r (popn 12 x1.toNat)))
theorem cp_X5_weigh_29 (E : jxE) (d : Nat) (hd : Nat.ble 3 (d + 1) = true) (x1 : Int) (a0 b0 : Nat → Nat → Int) (hv0 : iv a0) (hp0 : 0 ≤ x1) (hp1 : x1 ≤ 4095) : ∀ n : Nat, (∀ (y2 y3 y4 y5 y6 : Int), ((y6 * 1) + 0).toNat ≤ n → 0 ≤ y2 → y2 ≤ 4095 → 0 ≤ y3 → y3 ≤ 4095 → 1 ≤ y6 → y6 ≤ 4095 → (∀ (n : Nat) (g k : Nat → Nat → Bool) (u s : Nat), WHY a0 b0 n g k u x1.toNat → LST s x1.toNat → WG a0 n g k s x1.toNat y2 y3 y4 y5 (jxand (jxw (y6 - 1)) y3)) → jt (jxX E d 91 79 [some (.inr (.inr (.inl 90))), none, some (.inl y2), some (.inl y3), some (.inl y4), some (.inl y5), some (.inl y6)] [] (jxSH, a0, b0)) (jQ_X5_weigh x1 a0 b0)) ∧ (∀ (y2 y3 y4 y5 y6 : Int), ((y6 * 1) + 0).toNat ≤ n → 0 ≤ y2 → y2 ≤ 4095 → 0 ≤ y3 → y3 ≤ 4095 → 0 ≤ y6 → y6 ≤ 4095 → (∀ (n : Nat) (g k : Nat → Nat → Bool) (u s : Nat), WHY a0 b0 n g k u x1.toNat → LST s x1.toNat → WG a0 n g k s x1.toNat y2 y3 y4 y5 y6) → jt (jxX E d 91 29 [some (.inr (.inr (.inl 90))), none, some (.inl y2), some (.inl y3), some (.inl y4), some (.inl y5), some (.inl y6)] [] (jxSH, a0, b0)) (jQ_X5_weigh x1 a0 b0)) := by
  refine jx_ind fun n ih => ?_
  have ih79 : ∀ (y2 y3 y4 y5 y6 : Int), ((y6 * 1) + 0).toNat < n → 0 ≤ y2 → y2 ≤ 4095 → 0 ≤ y3 → y3 ≤ 4095 → 1 ≤ y6 → y6 ≤ 4095 → (∀ (n : Nat) (g k : Nat → Nat → Bool) (u s : Nat), WHY a0 b0 n g k u x1.toNat → LST s x1.toNat → WG a0 n g k s x1.toNat y2 y3 y4 y5 (jxand (jxw (y6 - 1)) y3)) → jt (jxX E d 91 79 [some (.inr (.inr (.inl 90))), none, some (.inl y2), some (.inl y3), some (.inl y4), some (.inl y5), some (.inl y6)] [] (jxSH, a0, b0)) (jQ_X5_weigh x1 a0 b0) := fun y2 y3 y4 y5 y6 hlt i0 i1 i2 i3 i4 i5 i6 => (ih _ hlt).1 y2 y3 y4 y5 y6 (Nat.le_refl _) i0 i1 i2 i3 i4 i5 i6
  have ih29 : ∀ (y2 y3 y4 y5 y6 : Int), ((y6 * 1) + 0).toNat < n → 0 ≤ y2 → y2 ≤ 4095 → 0 ≤ y3 → y3 ≤ 4095 → 0 ≤ y6 → y6 ≤ 4095 → (∀ (n : Nat) (g k : Nat → Nat → Bool) (u s : Nat), WHY a0 b0 n g k u x1.toNat → LST s x1.toNat → WG a0 n g k s x1.toNat y2 y3 y4 y5 y6) → jt (jxX E d 91 29 [some (.inr (.inr (.inl 90))), none, some (.inl y2), some (.inl y3), some (.inl y4), some (.inl y5), some (.inl y6)] [] (jxSH, a0, b0)) (jQ_X5_weigh x1 a0 b0) := fun y2 y3 y4 y5 y6 hlt i0 i1 i2 i3 i4 i5 i6 => (ih _ hlt).2 y2 y3 y4 y5 y6 (Nat.le_refl _) i0 i1 i2 i3 i4 i5 i6
  have hc79 : ∀ (y2 y3 y4 y5 y6 : Int), ((y6 * 1) + 0).toNat ≤ n → 0 ≤ y2 → y2 ≤ 4095 → 0 ≤ y3 → y3 ≤ 4095 → 1 ≤ y6 → y6 ≤ 4095 → (∀ (n : Nat) (g k : Nat → Nat → Bool) (u s : Nat), WHY a0 b0 n g k u x1.toNat → LST s x1.toNat → WG a0 n g k s x1.toNat y2 y3 y4 y5 (jxand (jxw (y6 - 1)) y3)) → jt (jxX E d 91 79 [some (.inr (.inr (.inl 90))), none, some (.inl y2), some (.inl y3), some (.inl y4), some (.inl y5), some (.inl y6)] [] (jxSH, a0, b0)) (jQ_X5_weigh x1 a0 b0) := by
    intro y2 y3 y4 y5 y6 hm hi0 hi1 hi2 hi3 hi4 hi5 hw
    refine jt_eq (bq_X5_weigh_79 E d y2 y3 y4 y5 y6 a0 b0) ?_
    have h1059_ : jxw (y6 - 1) = y6 - 1 := jxw_id (by omega) (by omega)
    have h1060_ := jxand_b (jxw (y6 - 1)) y3
    exact ih29 y2 y3 y4 y5 (jxand (jxw (y6 - 1)) y3) (show (((jxand (jxw (y6 - 1)) y3) * 1) + 0).toNat < n from by omega) (show 0 ≤ y2 from by omega) (show y2 ≤ 4095 from by omega) (show 0 ≤ y3 from by omega) (show y3 ≤ 4095 from by omega) (show 0 ≤ jxand (jxw (y6 - 1)) y3 from by omega) (show jxand (jxw (y6 - 1)) y3 ≤ 4095 from by omega) hw
  have hc29 : ∀ (y2 y3 y4 y5 y6 : Int), ((y6 * 1) + 0).toNat ≤ n → 0 ≤ y2 → y2 ≤ 4095 → 0 ≤ y3 → y3 ≤ 4095 → 0 ≤ y6 → y6 ≤ 4095 → (∀ (n : Nat) (g k : Nat → Nat → Bool) (u s : Nat), WHY a0 b0 n g k u x1.toNat → LST s x1.toNat → WG a0 n g k s x1.toNat y2 y3 y4 y5 y6) → jt (jxX E d 91 29 [some (.inr (.inr (.inl 90))), none, some (.inl y2), some (.inl y3), some (.inl y4), some (.inl y5), some (.inl y6)] [] (jxSH, a0, b0)) (jQ_X5_weigh x1 a0 b0) := by
    intro y2 y3 y4 y5 y6 hm hi0 hi1 hi2 hi3 hi4 hi5 hw
    refine jt_eq (bq_X5_weigh_29 E d y2 y3 y4 y5 y6 a0 b0) ?_
    refine jt_ite (fun c1061_ => ?_) (fun c1061_ => ?_)
    ·
      refine jt_ite (fun c1062_ => ?_) (fun c1062_ => ?_)
      ·
        refine jt_eI (eq_X5_isRingSet E d (jd_le hd rfl) (jxor y2 y6) a0 b0) ?_
        have h1063_ := jxor_b y2 y6
        have h1064_ := f_X5_isRingSet_bool a0 b0 (jxor y2 y6)
        refine jt_ite (fun c1065_ => ?_) (fun c1065_ => ?_)
        ·
          exact hc79 y2 y3 y4 y5 y6 (show ((y6 * 1) + 0).toNat ≤ n from by omega) (show 0 ≤ y2 from by omega) (show y2 ≤ 4095 from by omega) (show 0 ≤ y3 from by omega) (show y3 ≤ 4095 from by omega) (show 1 ≤ y6 from by omega) (show y6 ≤ 4095 from by omega) (fun n g k u s h hs => WG_next h hs (hw n g k u s h hs) (by assumption) (Int.le_refl _) (hw n g k u s h hs).2.2.2.choose_spec.2.2.1 (fun r r1 r2 r3 => absurd r3 ((WG_mark (b := b0) h hs (hw n g k u s h hs) (by assumption)).1 (by assumption) r r1 r2)))
        ·
          have h1066_ := jxxor_b y3 y6
          refine jt_grd (by omega) ?_
          refine jt_eI (eq_J6_bitCount_0f7a4 E d (jd_le hd rfl) y6 a0 b0) ?_
          refine jt_eI (eq_X5_worth E d (jd_le hd rfl) (jxw (1 + (f_J6_bitCount_0f7a4 a0 b0 y6))) a0 b0) ?_
          refine jt_eI (eq_J9_max_7cf53 E d (jd_le hd rfl) y5 (jxw ((a0 95 ((jxxor y3 y6).toNat)) + (f_X5_worth a0 b0 (jxw (1 + (f_J6_bitCount_0f7a4 a0 b0 y6)))))) a0 b0) ?_
          have h1067_ := jxw_im (1 + (f_J6_bitCount_0f7a4 a0 b0 y6))
          have h1068_ := jxw_rg (1 + (f_J6_bitCount_0f7a4 a0 b0 y6))
          have h1069_ := f_X5_worth_eq a0 b0 (jxw (1 + (f_J6_bitCount_0f7a4 a0 b0 y6)))
          have h1070_ := jxw_im (16 * (jxw (1 + (f_J6_bitCount_0f7a4 a0 b0 y6))))
          have h1071_ := jxw_rg (16 * (jxw (1 + (f_J6_bitCount_0f7a4 a0 b0 y6))))
          have h1072_ := jxw_im ((jxw (16 * (jxw (1 + (f_J6_bitCount_0f7a4 a0 b0 y6))))) - 1)
          have h1073_ := jxw_rg ((jxw (16 * (jxw (1 + (f_J6_bitCount_0f7a4 a0 b0 y6))))) - 1)
          have h1074_ := jxw_im ((a0 95 ((jxxor y3 y6).toNat)) + (f_X5_worth a0 b0 (jxw (1 + (f_J6_bitCount_0f7a4 a0 b0 y6)))))
          have h1075_ := jxw_rg ((a0 95 ((jxxor y3 y6).toNat)) + (f_X5_worth a0 b0 (jxw (1 + (f_J6_bitCount_0f7a4 a0 b0 y6)))))
          have h1076_ := f_J9_max_7cf53_eq a0 b0 y5 (jxw ((a0 95 ((jxxor y3 y6).toNat)) + (f_X5_worth a0 b0 (jxw (1 + (f_J6_bitCount_0f7a4 a0 b0 y6))))))
          exact hc79 y2 y3 y4 (f_J9_max_7cf53 a0 b0 y5 (jxw ((a0 95 ((jxxor y3 y6).toNat)) + (f_X5_worth a0 b0 (jxw (1 + (f_J6_bitCount_0f7a4 a0 b0 y6))))))) y6 (show ((y6 * 1) + 0).toNat ≤ n from by omega) (show 0 ≤ y2 from by omega) (show y2 ≤ 4095 from by omega) (show 0 ≤ y3 from by omega) (show y3 ≤ 4095 from by omega) (show 1 ≤ y6 from by omega) (show y6 ≤ 4095 from by omega) (fun n g k u s h hs => by have w := hw n g k u s h hs; obtain ⟨m1, m2, m3⟩ := (WG_mark (b := b0) h hs w (by assumption)).2 (by assumption); have hmx : ∀ p q : Int, f_J9_max_7cf53 a0 b0 p q = if p < q then q else p := fun p q => (by rw [f_J9_max_7cf53_eq]; first | done | (split <;> split <;> omega)); rw [hmx, m1]; by_cases c : y5 < a0 95 ((jxxor y3 y6).toNat) + 16 * (1 + ((popn 12 y6.toNat : Nat) : Int)) - 1 <;> first | (rw [if_pos c]; exact WG_next h hs w (by assumption) (by omega) m2 (fun r r1 r2 r3 => by rw [m3 r r1 r2 r3]; omega)) | (rw [if_neg c]; exact WG_next h hs w (by assumption) (Int.le_refl _) w.2.2.2.choose_spec.2.2.1 (fun r r1 r2 r3 => by rw [m3 r r1 r2 r3]; omega)))
      ·
        exact jt_rI ⟨rfl, rfl, (fun n g k u s h hs => WG_end h hs (hw n g k u s h hs) (by omega))⟩
    ·
      exact jt_rI ⟨rfl, rfl, (fun n g k u s h hs => WG_end h hs (hw n g k u s h hs) (by omega))⟩
  exact ⟨hc79, hc29⟩
theorem cp_X5_weigh_26 (E : jxE) (d : Nat) (hd : Nat.ble 3 (d + 1) = true) (x1 : Int) (a0 b0 : Nat → Nat → Int) (hv0 : iv a0) (hp0 : 0 ≤ x1) (hp1 : x1 ≤ 4095) : ∀ (y2 y3 y4 y5 : Int), 0 ≤ y2 → y2 ≤ 4095 → 0 ≤ y3 → y3 ≤ 4095 → (∀ (n : Nat) (g k : Nat → Nat → Bool) (u s : Nat), WHY a0 b0 n g k u x1.toNat → LST s x1.toNat → WG a0 n g k s x1.toNat y2 y3 y4 y5 y3) → jt (jxX E d 91 26 [some (.inr (.inr (.inl 90))), none, some (.inl y2), some (.inl y3), some (.inl y4), some (.inl y5), none] [] (jxSH, a0, b0)) (jQ_X5_weigh x1 a0 b0) := by
  intro y2 y3 y4 y5 hi0 hi1 hi2 hi3 hw
  refine jt_eq (bq_X5_weigh_26 E d y2 y3 y4 y5 a0 b0) ?_
  exact (cp_X5_weigh_29 E d hd x1 a0 b0 hv0 hp0 hp1 _).2 y2 y3 y4 y5 y3 (Nat.le_refl _) (show 0 ≤ y2 from by omega) (show y2 ≤ 4095 from by omega) (show 0 ≤ y3 from by omega) (show y3 ≤ 4095 from by omega) (show 0 ≤ y3 from by omega) (show y3 ≤ 4095 from by omega) hw
theorem sp_X5_weigh (E : jxE) (d : Nat) (hd : Nat.ble 3 d = true) (x1 : Int) (a0 b0 : Nat → Nat → Int) (hv0 : iv a0) (hp0 : 0 ≤ x1) (hp1 : x1 ≤ 4095) : jt (jxC E d 91 [.inr (.inr (.inl 90)), .inl x1] (jxSH, a0, b0)) (jQ_X5_weigh x1 a0 b0) := by
  obtain ⟨d, rfl⟩ := jd_succ hd
  refine jt_eq (bq_X5_weigh E d x1 a0 b0) ?_
  refine jt_eI (eq_J6_bitCount_0f7a4 E d (jd_le hd rfl) x1 a0 b0) ?_
  refine jt_eI (eq_X5_mostWorth E d (jd_le hd rfl) (f_J6_bitCount_0f7a4 a0 b0 x1) a0 b0) ?_
  have h1077_ : jxw (-x1) = -x1 := jxw_id (by omega) (by omega)
  have h1078_ := jxand_b x1 (jxw (-x1))
  have h1079_ := jxxor_b x1 (jxand x1 (jxw (-x1)))
  refine jt_grd (by omega) ?_
  have h1080_ := f_X5_mostWorth_eq a0 b0 (f_J6_bitCount_0f7a4 a0 b0 x1)
  have h1081_ := jxw_im (16 * (f_J6_bitCount_0f7a4 a0 b0 x1))
  have h1082_ := jxw_rg (16 * (f_J6_bitCount_0f7a4 a0 b0 x1))
  have h1083_ := jxw_im ((f_J6_bitCount_0f7a4 a0 b0 x1) + 5)
  have h1084_ := jxw_rg ((f_J6_bitCount_0f7a4 a0 b0 x1) + 5)
  have h1085_ := jxw_im ((jxw ((f_J6_bitCount_0f7a4 a0 b0 x1) + 5)) - 1)
  have h1086_ := jxw_rg ((jxw ((f_J6_bitCount_0f7a4 a0 b0 x1) + 5)) - 1)
  have h1087_ := jx_td (jxw ((jxw ((f_J6_bitCount_0f7a4 a0 b0 x1) + 5)) - 1)) 5
  have h1088_ := jx_tdr (jxw ((jxw ((f_J6_bitCount_0f7a4 a0 b0 x1) + 5)) - 1)) 5 (by decide)
  have h1089_ : jxw (Int.tdiv (jxw ((jxw ((f_J6_bitCount_0f7a4 a0 b0 x1) + 5)) - 1)) 5) = Int.tdiv (jxw ((jxw ((f_J6_bitCount_0f7a4 a0 b0 x1) + 5)) - 1)) 5 := jxw_id (by omega) (by omega)
  have h1090_ := jxw_im ((jxw (16 * (f_J6_bitCount_0f7a4 a0 b0 x1))) - (jxw (Int.tdiv (jxw ((jxw ((f_J6_bitCount_0f7a4 a0 b0 x1) + 5)) - 1)) 5)))
  have h1091_ := jxw_rg ((jxw (16 * (f_J6_bitCount_0f7a4 a0 b0 x1))) - (jxw (Int.tdiv (jxw ((jxw ((f_J6_bitCount_0f7a4 a0 b0 x1) + 5)) - 1)) 5)))
  exact cp_X5_weigh_26 E d hd x1 a0 b0 hv0 hp0 hp1 (jxand x1 (jxw (-x1))) (jxxor x1 (jxand x1 (jxw (-x1)))) (f_X5_mostWorth a0 b0 (f_J6_bitCount_0f7a4 a0 b0 x1)) (a0 95 ((jxxor x1 (jxand x1 (jxw (-x1)))).toNat)) (show 0 ≤ jxand x1 (jxw (-x1)) from by omega) (show jxand x1 (jxw (-x1)) ≤ 4095 from by omega) (show 0 ≤ jxxor x1 (jxand x1 (jxw (-x1))) from by omega) (show jxxor x1 (jxand x1 (jxw (-x1))) ≤ 4095 from by omega) (fun n g k u s h hs => WG_0 (b := b0) h (by omega) hs)
def jWws : List (Nat × Nat) := [(95, 9999)]
def jW_X5_weighSets : List (Nat × Nat) := [(95, 9999)]
abbrev jQ_X5_weighSets (a0 b0 : Nat → Nat → Int) : List jxV → (Nat → Nat → Int) → (Nat → Nat → Int) → Prop := rV (fun a b => (iv a) ∧ (jfr jW_X5_weighSets a0 a) ∧ (b0 = b) ∧ (∀ (n : Nat) (g k : Nat → Nat → Bool), MKA a0 b0 (RUA n g k n) → (∀ i, k i i = true) → n ≤ 12 → (a0 90 8).toNat < 2 ^ n → ISB n g k 16 (a0 90 8).toNat (a 95) ∧ ∀ t, SUB t (a0 90 8).toNat → D16 (a 95 t) (popn 12 t)))
theorem cp_X5_weighSets_11 (E : jxE) (d : Nat) (hd : Nat.ble 4 (d + 1) = true) (a0 b0 : Nat → Nat → Int) (hv0 : iv a0) : ∀ n : Nat, (∀ (y1 y2 : Int) (a : Nat → Nat → Int), (((4096 - y2) * 1) + 0).toNat ≤ n → iv a → jfr jW_X5_weighSets a0 a → 1 ≤ y1 → y1 ≤ 4095 → 1 ≤ y2 → y2 ≤ 4095 → 0 ≤ y1 → 1 ≤ y2 → y1 ≤ a 90 8 → y2 ≤ y1 → y2 < 4096 → (SUB y1.toNat (a0 90 8).toNat) → (∀ (n : Nat) (g k : Nat → Nat → Bool), MKA a0 b0 (RUA n g k n) → (∀ i, k i i = true) → n ≤ 12 → (a0 90 8).toNat < 2 ^ n → WS n g k (a 95) (a0 90 8).toNat y1.toNat) → jt (jxX E d 90 46 [some (.inr (.inr (.inl 90))), some (.inl y1), some (.inl y2)] [] (jxSH, a, b0)) (jQ_X5_weighSets a0 b0)) ∧ (∀ (y1 y2 : Int) (a : Nat → Nat → Int), (((4096 - y2) * 1) + 0).toNat ≤ n → iv a → jfr jW_X5_weighSets a0 a → 0 ≤ y1 → y1 ≤ 4095 → 1 ≤ y2 → y2 ≤ 4096 → 0 ≤ y1 → 1 ≤ y2 → y1 ≤ a 90 8 → y2 ≤ y1 + 1 → (SUB y1.toNat (a0 90 8).toNat) → (∀ (n : Nat) (g k : Nat → Nat → Bool), MKA a0 b0 (RUA n g k n) → (∀ i, k i i = true) → n ≤ 12 → (a0 90 8).toNat < 2 ^ n → WS n g k (a 95) (a0 90 8).toNat y1.toNat) → jt (jxX E d 90 11 [some (.inr (.inr (.inl 90))), some (.inl y1), some (.inl y2)] [] (jxSH, a, b0)) (jQ_X5_weighSets a0 b0)) := by
  refine jx_ind fun n ih => ?_
  have ih46 : ∀ (y1 y2 : Int) (a : Nat → Nat → Int), (((4096 - y2) * 1) + 0).toNat < n → iv a → jfr jW_X5_weighSets a0 a → 1 ≤ y1 → y1 ≤ 4095 → 1 ≤ y2 → y2 ≤ 4095 → 0 ≤ y1 → 1 ≤ y2 → y1 ≤ a 90 8 → y2 ≤ y1 → y2 < 4096 → (SUB y1.toNat (a0 90 8).toNat) → (∀ (n : Nat) (g k : Nat → Nat → Bool), MKA a0 b0 (RUA n g k n) → (∀ i, k i i = true) → n ≤ 12 → (a0 90 8).toNat < 2 ^ n → WS n g k (a 95) (a0 90 8).toNat y1.toNat) → jt (jxX E d 90 46 [some (.inr (.inr (.inl 90))), some (.inl y1), some (.inl y2)] [] (jxSH, a, b0)) (jQ_X5_weighSets a0 b0) := fun y1 y2 a hlt i0 i1 i2 i3 i4 i5 i6 i7 i8 i9 i10 i11 i12 => (ih _ hlt).1 y1 y2 a (Nat.le_refl _) i0 i1 i2 i3 i4 i5 i6 i7 i8 i9 i10 i11 i12
  have ih11 : ∀ (y1 y2 : Int) (a : Nat → Nat → Int), (((4096 - y2) * 1) + 0).toNat < n → iv a → jfr jW_X5_weighSets a0 a → 0 ≤ y1 → y1 ≤ 4095 → 1 ≤ y2 → y2 ≤ 4096 → 0 ≤ y1 → 1 ≤ y2 → y1 ≤ a 90 8 → y2 ≤ y1 + 1 → (SUB y1.toNat (a0 90 8).toNat) → (∀ (n : Nat) (g k : Nat → Nat → Bool), MKA a0 b0 (RUA n g k n) → (∀ i, k i i = true) → n ≤ 12 → (a0 90 8).toNat < 2 ^ n → WS n g k (a 95) (a0 90 8).toNat y1.toNat) → jt (jxX E d 90 11 [some (.inr (.inr (.inl 90))), some (.inl y1), some (.inl y2)] [] (jxSH, a, b0)) (jQ_X5_weighSets a0 b0) := fun y1 y2 a hlt i0 i1 i2 i3 i4 i5 i6 i7 i8 i9 i10 i11 => (ih _ hlt).2 y1 y2 a (Nat.le_refl _) i0 i1 i2 i3 i4 i5 i6 i7 i8 i9 i10 i11
  have hc46 : ∀ (y1 y2 : Int) (a : Nat → Nat → Int), (((4096 - y2) * 1) + 0).toNat ≤ n → iv a → jfr jW_X5_weighSets a0 a → 1 ≤ y1 → y1 ≤ 4095 → 1 ≤ y2 → y2 ≤ 4095 → 0 ≤ y1 → 1 ≤ y2 → y1 ≤ a 90 8 → y2 ≤ y1 → y2 < 4096 → (SUB y1.toNat (a0 90 8).toNat) → (∀ (n : Nat) (g k : Nat → Nat → Bool), MKA a0 b0 (RUA n g k n) → (∀ i, k i i = true) → n ≤ 12 → (a0 90 8).toNat < 2 ^ n → WS n g k (a 95) (a0 90 8).toNat y1.toNat) → jt (jxX E d 90 46 [some (.inr (.inr (.inl 90))), some (.inl y1), some (.inl y2)] [] (jxSH, a, b0)) (jQ_X5_weighSets a0 b0) := by
    intro y1 y2 a hm hv hf hi0 hi1 hi2 hi3 hi4 hi5 hi6 hi7 hi8 hsu hws
    refine jt_eq (bq_X5_weighSets_46 E d y1 y2 a b0) ?_
    have h1092_ := iv_get hv (k := 90) (j := 8) (l := 0) (u := 4095) rfl
    have h1093_ : a 90 8 = a0 90 8 := hf 90 8 rfl
    have h1094_ := iv_get hv0 (k := 90) (j := 8) (l := 0) (u := 4095) rfl
    have h1095_ : jxw (y2 + 1) = y2 + 1 := jxw_id (by omega) (by omega)
    exact ih11 y1 (jxw (y2 + 1)) a (show (((4096 - (jxw (y2 + 1))) * 1) + 0).toNat < n from by omega) hv hf (show 0 ≤ y1 from by omega) (show y1 ≤ 4095 from by omega) (show 1 ≤ jxw (y2 + 1) from by omega) (show jxw (y2 + 1) ≤ 4096 from by omega) (show 0 ≤ y1 from by omega) (show 1 ≤ jxw (y2 + 1) from by omega) (show y1 ≤ a 90 8 from by omega) (show jxw (y2 + 1) ≤ y1 + 1 from by omega) hsu hws
  have hc11 : ∀ (y1 y2 : Int) (a : Nat → Nat → Int), (((4096 - y2) * 1) + 0).toNat ≤ n → iv a → jfr jW_X5_weighSets a0 a → 0 ≤ y1 → y1 ≤ 4095 → 1 ≤ y2 → y2 ≤ 4096 → 0 ≤ y1 → 1 ≤ y2 → y1 ≤ a 90 8 → y2 ≤ y1 + 1 → (SUB y1.toNat (a0 90 8).toNat) → (∀ (n : Nat) (g k : Nat → Nat → Bool), MKA a0 b0 (RUA n g k n) → (∀ i, k i i = true) → n ≤ 12 → (a0 90 8).toNat < 2 ^ n → WS n g k (a 95) (a0 90 8).toNat y1.toNat) → jt (jxX E d 90 11 [some (.inr (.inr (.inl 90))), some (.inl y1), some (.inl y2)] [] (jxSH, a, b0)) (jQ_X5_weighSets a0 b0) := by
    intro y1 y2 a hm hv hf hi0 hi1 hi2 hi3 hi4 hi5 hi6 hi7 hsu hws
    refine jt_eq (bq_X5_weighSets_11 E d y1 y2 a b0) ?_
    have h1096_ := iv_get hv (k := 90) (j := 8) (l := 0) (u := 4095) rfl
    have h1097_ : a 90 8 = a0 90 8 := hf 90 8 rfl
    have h1098_ := iv_get hv0 (k := 90) (j := 8) (l := 0) (u := 4095) rfl
    have i908 := iv_get hv (k := 90) (j := 8) (l := 0) (u := 4095) rfl
    have e908 := hf 90 8 rfl
    have hnx := fun (h : SUB y1.toNat (a0 90 8).toNat) => next_sub h (by omega)
    rw [show ((y1.toNat : Nat) : Int) = y1 from by omega, show (((a0 90 8).toNat : Nat) : Int) = a 90 8 from by omega] at hnx
    refine jt_ite (fun c1099_ => ?_) (fun c1099_ => ?_)
    ·
      have h1100_ : jxw (y1 - (a 90 8)) = y1 - (a 90 8) := jxw_id (by omega) (by omega)
      have h1101_ := jxand_b (jxw (y1 - (a 90 8))) (a 90 8)
      refine jt_ite (fun c1102_ => ?_) (fun c1102_ => ?_)
      ·
        exact jt_rV ⟨hv, hf, rfl, (fun n g k hm hk h12 hu => by have hend : y1.toNat = (a0 90 8).toNat := (by by_cases c : y1.toNat = (a0 90 8).toNat <;> first | exact c | (exfalso; obtain ⟨nx, n1, n2, n3, n4⟩ := (hnx hsu).2 c; have nl := SUB_le n2; omega)); have w := hws n g k hm hk h12 hu; exact ⟨WS_end w hend, fun t ht => (w.2.2 t ht (by rw [hend]; exact SUB_le ht)).1⟩)⟩
      ·
        refine jt_bI (sp_X5_weigh E d (jd_le hd rfl) (jxand (jxw (y1 - (a 90 8))) (a 90 8)) a b0 hv (show 0 ≤ jxand (jxw (y1 - (a 90 8))) (a 90 8) from by omega) (show jxand (jxw (y1 - (a 90 8))) (a 90 8) ≤ 4095 from by omega)) (fun r1103_ a1103_ b1103_ h1103_ => ?_)
        obtain ⟨rfl, rfl, hq1103_0⟩ := h1103_
        have hgt_ : y1 < jxand (jxw (y1 - (a 90 8))) (a 90 8) ∧ jxand (jxw (y1 - (a 90 8))) (a 90 8) ≤ a 90 8 := by obtain ⟨nx, n1, n2, n3, n4⟩ := (hnx hsu).2 (fun z => by have q := (hnx hsu).1 z; omega); have nl := SUB_le n2; rw [n1]; omega
        refine jt_grd (by omega) ?_
        have hv1104_ : iv (jxu a 95 ((jxand (jxw (y1 - (a 90 8))) (a 90 8)).toNat) r1103_) := iv_putf hv rfl
        have hf1105_ : jfr jW_X5_weighSets a0 (jxu a 95 ((jxand (jxw (y1 - (a 90 8))) (a 90 8)).toNat) r1103_) := jfr_put hf rfl
        exact hc46 (jxand (jxw (y1 - (a 90 8))) (a 90 8)) y2 (jxu a 95 ((jxand (jxw (y1 - (a 90 8))) (a 90 8)).toNat) r1103_) (show (((4096 - y2) * 1) + 0).toNat ≤ n from by omega) hv1104_ hf1105_ (show 1 ≤ jxand (jxw (y1 - (a 90 8))) (a 90 8) from by omega) (show jxand (jxw (y1 - (a 90 8))) (a 90 8) ≤ 4095 from by omega) (show 1 ≤ y2 from by omega) (show y2 ≤ 4095 from by omega) (show 0 ≤ jxand (jxw (y1 - (a 90 8))) (a 90 8) from by omega) (show 1 ≤ y2 from by omega) (show jxand (jxw (y1 - (a 90 8))) (a 90 8) ≤ a 90 8 from by omega) (show y2 ≤ jxand (jxw (y1 - (a 90 8))) (a 90 8) from by omega) (show y2 < 4096 from by omega) (by obtain ⟨nx, n1, n2, n3, n4⟩ := (hnx hsu).2 (fun z => by have q := (hnx hsu).1 z; omega); rw [n1, Int.toNat_natCast]; exact n2) (fun n g k hm hk h12 hu => by obtain ⟨nx, n1, n2, n3, n4⟩ := (hnx hsu).2 (fun z => by have q := (hnx hsu).1 z; omega); have w := hws n g k hm hk h12 hu; have hma : MKA a b0 (RUA n g k n) := MKA_cr hm e908 (fun _ => rfl); have wy := WS_WHY w hma hk h12 hu n2 n3 n4; rw [jxu_rup, n1, Int.toNat_natCast]; exact WS_s w hu n2 n3 n4 (fun s hs => by have q := hq1103_0 n g k (a0 90 8).toNat s (by rw [n1, Int.toNat_natCast]; exact wy) (by rw [n1, Int.toNat_natCast]; exact hs); rw [n1, Int.toNat_natCast] at q; exact q))
    ·
      exact jt_rV ⟨hv, hf, rfl, (fun n g k hm hk h12 hu => by have hend : y1.toNat = (a0 90 8).toNat := (by by_cases c : y1.toNat = (a0 90 8).toNat <;> first | exact c | (exfalso; obtain ⟨nx, n1, n2, n3, n4⟩ := (hnx hsu).2 c; have nl := SUB_le n2; omega)); have w := hws n g k hm hk h12 hu; exact ⟨WS_end w hend, fun t ht => (w.2.2 t ht (by rw [hend]; exact SUB_le ht)).1⟩)⟩
  exact ⟨hc46, hc11⟩
theorem sp_X5_weighSets (E : jxE) (d : Nat) (hd : Nat.ble 4 d = true) (a0 b0 : Nat → Nat → Int) (hv0 : iv a0) : jt (jxC E d 90 [.inr (.inr (.inl 90))] (jxSH, a0, b0)) (jQ_X5_weighSets a0 b0) := by
  obtain ⟨d, rfl⟩ := jd_succ hd
  refine jt_eq (bq_X5_weighSets E d a0 b0) ?_
  have hv1106_ : iv (jxu a0 95 0 0) := iv_putf hv0 rfl
  have hf1107_ : jfr jW_X5_weighSets a0 (jxu a0 95 0 0) := jfr_put (jfr_rf _ _) rfl
  have h1108_ := iv_get hv0 (k := 90) (j := 8) (l := 0) (u := 4095) rfl
  exact (cp_X5_weighSets_11 E d hd a0 b0 hv0 _).2 0 1 (jxu a0 95 0 0) (Nat.le_refl _) hv1106_ hf1107_ (show 0 ≤ 0 from by omega) (show 0 ≤ 4095 from by omega) (show 1 ≤ 1 from by omega) (show 1 ≤ 4096 from by omega) (show 0 ≤ 0 from by omega) (show 1 ≤ 1 from by omega) (show 0 ≤ a0 90 8 from by omega) (show 1 ≤ 0 + 1 from by omega) (fun i q => by rw [show (0 : Int).toNat = 0 from rfl, Nat.zero_testBit] at q; cases q) (fun n g k hm hk h12 hu => WS_0 (jxu_at _ _ _ _))
