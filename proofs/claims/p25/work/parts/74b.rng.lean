abbrev jQ_X12_leastOf (x0 : Int) (a0 b0 : Nat → Nat → Int) : List jxV → (Nat → Nat → Int) → (Nat → Nat → Int) → Prop := rI (fun r a b => (a0 = a) ∧ (b0 = b) ∧ (0 ≤ r) ∧ (r ≤ 11) ∧ (¬ jxand (jxshr x0 r) 1 = 0) ∧ (LST r.toNat x0.toNat))
theorem cp_X12_leastOf_2 (E : jxE) (d : Nat) (hd : Nat.ble 1 (d + 1) = true) (x0 : Int) (a0 b0 : Nat → Nat → Int) (hv0 : iv a0) (hp0 : 1 ≤ x0) (hp1 : x0 ≤ 4095) : ∀ n : Nat, (∀ (y0 y1 : Int), (((11 - y1) * 1) + 0).toNat ≤ n → 1 ≤ y0 → y0 ≤ 4095 → (y0 = x0) → 0 ≤ y1 → y1 ≤ 11 → (¬ jxshr x0 y1 = 0) → (∀ i : Nat, (i : Int) < y1 → jxand (jxshr x0 (i : Int)) 1 = 0) → jt (jxX E d 269 2 [some (.inl y0), some (.inl y1)] [] (jxSH, a0, b0)) (jQ_X12_leastOf x0 a0 b0)) := by
  refine jx_ind fun n ih => ?_
  have ih2 : ∀ (y0 y1 : Int), (((11 - y1) * 1) + 0).toNat < n → 1 ≤ y0 → y0 ≤ 4095 → (y0 = x0) → 0 ≤ y1 → y1 ≤ 11 → (¬ jxshr x0 y1 = 0) → (∀ i : Nat, (i : Int) < y1 → jxand (jxshr x0 (i : Int)) 1 = 0) → jt (jxX E d 269 2 [some (.inl y0), some (.inl y1)] [] (jxSH, a0, b0)) (jQ_X12_leastOf x0 a0 b0) := fun y0 y1 hlt i0 i1 i2 i3 i4 i5 i6 => (ih _ hlt) y0 y1 (Nat.le_refl _) i0 i1 i2 i3 i4 i5 i6
  have hc2 : ∀ (y0 y1 : Int), (((11 - y1) * 1) + 0).toNat ≤ n → 1 ≤ y0 → y0 ≤ 4095 → (y0 = x0) → 0 ≤ y1 → y1 ≤ 11 → (¬ jxshr x0 y1 = 0) → (∀ i : Nat, (i : Int) < y1 → jxand (jxshr x0 (i : Int)) 1 = 0) → jt (jxX E d 269 2 [some (.inl y0), some (.inl y1)] [] (jxSH, a0, b0)) (jQ_X12_leastOf x0 a0 b0) := by
    intro y0 y1 hm hi0 hi1 hy0 hi3 hi4 hi5 hlb
    refine jt_eq (bq_X12_leastOf_2 E d y0 y1 a0 b0) ?_
    have hls : jxand (jxshr y0 y1) 1 = 0 → y1 + 1 ≤ 11 ∧ ¬ jxshr x0 (y1 + 1) = 0 := fun h => by rw [hy0] at h; exact least_step (by omega) (by omega) (by omega) (by omega) (by assumption) h
    have h1348_ := jxshr_b y0 y1
    have h1349_ := jxand_r (jxshr y0 y1) 1 (by decide) (by decide)
    refine jt_ite (fun c1350_ => ?_) (fun c1350_ => ?_)
    ·
      have h1351_ : jxw (y1 + 1) = y1 + 1 := jxw_id (by omega) (by omega)
      exact ih2 y0 (jxw (y1 + 1)) (show (((11 - (jxw (y1 + 1))) * 1) + 0).toNat < n from by omega) (show 1 ≤ y0 from by omega) (show y0 ≤ 4095 from by omega) (by first | rfl | assumption) (show 0 ≤ jxw (y1 + 1) from by omega) (show jxw (y1 + 1) ≤ 11 from by omega) (by first | exact least0 hp0 hp1 | (rw [jxw_id (by omega) (by omega)]; exact (hls (by assumption)).2)) (fun i h => by by_cases e : (i : Int) = y1 <;> first | (rw [e, ← hy0]; assumption) | exact hlb i (by omega))
    ·
      exact jt_rI ⟨rfl, rfl, (show 0 ≤ y1 from by omega), (show y1 ≤ 11 from by omega), (by rw [← hy0]; assumption), (LST_of (by omega) (by omega) (by omega) (by omega) (by rw [← hy0]; assumption) hlb)⟩
  exact hc2
theorem sp_X12_leastOf (E : jxE) (d : Nat) (hd : Nat.ble 1 d = true) (x0 : Int) (a0 b0 : Nat → Nat → Int) (hv0 : iv a0) (hp0 : 1 ≤ x0) (hp1 : x0 ≤ 4095) : jt (jxC E d 269 [.inl x0] (jxSH, a0, b0)) (jQ_X12_leastOf x0 a0 b0) := by
  obtain ⟨d, rfl⟩ := jd_succ hd
  refine jt_eq (bq_X12_leastOf E d x0 a0 b0) ?_
  exact (cp_X12_leastOf_2 E d hd x0 a0 b0 hv0 hp0 hp1 _) x0 0 (Nat.le_refl _) (show 1 ≤ x0 from by omega) (show x0 ≤ 4095 from by omega) (by first | rfl | assumption) (show 0 ≤ 0 from by omega) (show 0 ≤ 11 from by omega) (by first | exact least0 hp0 hp1 | (rw [jxw_id (by omega) (by omega)]; exact (hls (by assumption)).2)) (fun i h => absurd h (by omega))
abbrev jQ_X12_sizeOf (x0 : Int) (a0 b0 : Nat → Nat → Int) : List jxV → (Nat → Nat → Int) → (Nat → Nat → Int) → Prop := rI (fun r a b => (a0 = a) ∧ (b0 = b) ∧ ((0 ≤ r ∧ r ≤ 12)) ∧ (r = pc x0))
theorem cp_X12_sizeOf_4 (E : jxE) (d : Nat) (hd : Nat.ble 1 (d + 1) = true) (x0 : Int) (a0 b0 : Nat → Nat → Int) (hv0 : iv a0) : ∀ n : Nat, (∀ (y0 y1 y2 : Int), (((12 - y2) * 1) + 0).toNat ≤ n → 0 ≤ y1 → y1 ≤ 12 → 0 ≤ y2 → y2 ≤ 12 → (y0 = x0) → 0 ≤ y1 → y1 ≤ y2 → (y1 = pcn x0 y2.toNat) → jt (jxX E d 268 4 [some (.inl y0), some (.inl y1), some (.inl y2)] [] (jxSH, a0, b0)) (jQ_X12_sizeOf x0 a0 b0)) := by
  refine jx_ind fun n ih => ?_
  have ih4 : ∀ (y0 y1 y2 : Int), (((12 - y2) * 1) + 0).toNat < n → 0 ≤ y1 → y1 ≤ 12 → 0 ≤ y2 → y2 ≤ 12 → (y0 = x0) → 0 ≤ y1 → y1 ≤ y2 → (y1 = pcn x0 y2.toNat) → jt (jxX E d 268 4 [some (.inl y0), some (.inl y1), some (.inl y2)] [] (jxSH, a0, b0)) (jQ_X12_sizeOf x0 a0 b0) := fun y0 y1 y2 hlt i0 i1 i2 i3 i4 i5 i6 i7 => (ih _ hlt) y0 y1 y2 (Nat.le_refl _) i0 i1 i2 i3 i4 i5 i6 i7
  have hc4 : ∀ (y0 y1 y2 : Int), (((12 - y2) * 1) + 0).toNat ≤ n → 0 ≤ y1 → y1 ≤ 12 → 0 ≤ y2 → y2 ≤ 12 → (y0 = x0) → 0 ≤ y1 → y1 ≤ y2 → (y1 = pcn x0 y2.toNat) → jt (jxX E d 268 4 [some (.inl y0), some (.inl y1), some (.inl y2)] [] (jxSH, a0, b0)) (jQ_X12_sizeOf x0 a0 b0) := by
    intro y0 y1 y2 hm hi0 hi1 hi2 hi3 hy0 hi5 hi6 hi7
    refine jt_eq (bq_X12_sizeOf_4 E d y0 y1 y2 a0 b0) ?_
    have hst : pcn x0 (y2.toNat + 1) = pcn x0 y2.toNat + jxand (jxshr y0 y2) 1 := by show _ + jxand (jxshr x0 ((y2.toNat : Nat) : Int)) 1 = _; rw [Int.toNat_of_nonneg (by omega), hy0]
    have h12 : y2 = 12 → pcn x0 y2.toNat = pc x0 := fun h => by rw [h]; rfl
    refine jt_ite (fun c1352_ => ?_) (fun c1352_ => ?_)
    ·
      have h1353_ := jxshr_b y0 y2
      have h1354_ := jxand_r (jxshr y0 y2) 1 (by decide) (by decide)
      have h1355_ : jxw (y1 + (jxand (jxshr y0 y2) 1)) = y1 + (jxand (jxshr y0 y2) 1) := jxw_id (by omega) (by omega)
      have h1356_ : jxw (y2 + 1) = y2 + 1 := jxw_id (by omega) (by omega)
      exact ih4 y0 (jxw (y1 + (jxand (jxshr y0 y2) 1))) (jxw (y2 + 1)) (show (((12 - (jxw (y2 + 1))) * 1) + 0).toNat < n from by omega) (show 0 ≤ jxw (y1 + (jxand (jxshr y0 y2) 1)) from by omega) (show jxw (y1 + (jxand (jxshr y0 y2) 1)) ≤ 12 from by omega) (show 0 ≤ jxw (y2 + 1) from by omega) (show jxw (y2 + 1) ≤ 12 from by omega) (by first | rfl | assumption) (show 0 ≤ jxw (y1 + (jxand (jxshr y0 y2) 1)) from by omega) (show jxw (y1 + (jxand (jxshr y0 y2) 1)) ≤ jxw (y2 + 1) from by omega) (by first | rfl | (rw [show (jxw (y2 + 1)).toNat = y2.toNat + 1 from (by omega), hst]; omega))
    ·
      have h1357_ := pc_bd x0
      exact jt_rI ⟨rfl, rfl, (show (0 ≤ y1 ∧ y1 ≤ 12) from by omega), (show y1 = pc x0 from by omega)⟩
  exact hc4
theorem sp_X12_sizeOf (E : jxE) (d : Nat) (hd : Nat.ble 1 d = true) (x0 : Int) (a0 b0 : Nat → Nat → Int) (hv0 : iv a0) : jt (jxC E d 268 [.inl x0] (jxSH, a0, b0)) (jQ_X12_sizeOf x0 a0 b0) := by
  obtain ⟨d, rfl⟩ := jd_succ hd
  refine jt_eq (bq_X12_sizeOf E d x0 a0 b0) ?_
  exact (cp_X12_sizeOf_4 E d hd x0 a0 b0 hv0 _) x0 0 0 (Nat.le_refl _) (show 0 ≤ 0 from by omega) (show 0 ≤ 12 from by omega) (show 0 ≤ 0 from by omega) (show 0 ≤ 12 from by omega) (by first | rfl | assumption) (show 0 ≤ 0 from by omega) (show 0 ≤ 0 from by omega) (by first | rfl | (rw [show (jxw (y2 + 1)).toNat = y2.toNat + 1 from (by omega), hst]; omega))
abbrev jQ_X12_withRing (x1 x2 : Int) (a0 b0 : Nat → Nat → Int) : List jxV → (Nat → Nat → Int) → (Nat → Nat → Int) → Prop := rI (fun r a b => (a0 = a) ∧ (b0 = b) ∧ (r = wR a0 x1 x2))
theorem sp_X12_withRing (E : jxE) (d : Nat) (hd : Nat.ble 2 d = true) (x1 x2 : Int) (a0 b0 : Nat → Nat → Int) (hv0 : iv a0) (hp0 : (0 ≤ x1 ∧ x1 ≤ 4095)) (hp1 : (0 ≤ x2 ∧ x2 ≤ 26999)) : jt (jxC E d 270 [.inr (.inr (.inl 146)), .inl x1, .inl x2] (jxSH, a0, b0)) (jQ_X12_withRing x1 x2 a0 b0) := by
  obtain ⟨d, rfl⟩ := jd_succ hd
  refine jt_eq (bq_X12_withRing E d x1 x2 a0 b0) ?_
  refine jt_grd (by omega) ?_
  refine jt_bI (sp_X12_sizeOf E d (jd_le hd rfl) (a0 184 (x2.toNat)) a0 b0 hv0) (fun r1358_ a1358_ b1358_ h1358_ => ?_)
  obtain ⟨rfl, rfl, hq1358_0, hq1358_1⟩ := h1358_
  have h1359_ := iv_get hv0 (k := 184) (j := x2.toNat) (l := 0) (u := 4095) rfl
  have h1360_ := pc_bd (a0 184 (x2.toNat))
  refine jt_grd (by omega) ?_
  have h1361_ := jxxor_b x1 (a0 184 (x2.toNat))
  refine jt_grd (by omega) ?_
  have h1362_ : jxw (64 * r1358_) = 64 * r1358_ := jxw_id (by omega) (by omega)
  have h1363_ : jxw ((jxw (64 * r1358_)) - 1) = (jxw (64 * r1358_)) - 1 := jxw_id (by omega) (by omega)
  have h1364_ := jxw_im ((jxw ((jxw (64 * r1358_)) - 1)) + (a0 191 ((jxxor x1 (a0 184 (x2.toNat))).toNat)))
  have h1365_ := jxw_rg ((jxw ((jxw (64 * r1358_)) - 1)) + (a0 191 ((jxxor x1 (a0 184 (x2.toNat))).toNat)))
  exact jt_rI ⟨rfl, rfl, (by unfold wR; rw [← hq1358_1, jxw_id (x := 64 * r1358_) (by omega) (by omega), jxw_id (x := 64 * r1358_ - 1) (by omega) (by omega)])⟩
def jW_X12_finds : List (Nat × Nat) := [(146, 64), (189, 9999), (190, 9999)]
abbrev jQ_X12_finds (a0 b0 : Nat → Nat → Int) : List jxV → (Nat → Nat → Int) → (Nat → Nat → Int) → Prop := rV (fun a b => (iv a) ∧ (jfr jW_X12_finds a0 a) ∧ (b0 = b) ∧ (FO a) ∧ ((a0 146 56 = 0 → a 146 64 = 0)) ∧ (∀ (n : Nat) (g k : Nat → Nat → Bool), FDH a0 n g k → FNR a (a0 183) (CFN n g k 64 (a0 191) n (2 ^ n - 1))))
theorem cp_X12_finds_14 (E : jxE) (d : Nat) (hd : Nat.ble 3 (d + 1) = true) (a0 b0 : Nat → Nat → Int) (hv0 : iv a0) (hp0 : RS a0) (hp1 : FW a0) (hp2 : FO a0) (hp3 : RF a0 (a0 146 56 + 1)) (hp4 : a0 146 56 ≤ a0 146 49) : ∀ n : Nat, (∀ (y1 y2 y3 y4 : Int) (a : Nat → Nat → Int), (((((pc y1) * 27010) + 7) + ((27000 - y4) * 1)) + 0).toNat ≤ n → iv a → jfr jW_X12_finds a0 a → 1 ≤ y1 → y1 ≤ 4095 → 0 ≤ y2 → y2 ≤ 11 → 0 - 1 ≤ y3 → y3 ≤ 26999 → 0 ≤ y4 → y4 ≤ 26999 → 0 ≤ y1 → y1 ≤ 4095 → (2 * (a 146 64)) + (pc y1) ≤ 12 → y1 < jxshl 1 (a 146 56) → 1 ≤ y1 → 0 ≤ y2 → y2 < a 146 56 → (FO a) → (¬ jxand (jxshr y1 y2) 1 = 0) → (y3 = -1 ∨ (0 ≤ y3 ∧ y3 < a 146 58 ∧ jxand (a 184 y3.toNat) y1 = a 184 y3.toNat)) → 0 ≤ y4 → y4 ≤ 26999 → 1 ≤ a0 146 56 → (∀ (n : Nat) (g k : Nat → Nat → Bool), FDH a0 n g k → FNI a0 a n g k y1) → (LST y2.toNat y1.toNat) → (∀ (n : Nat) (g k : Nat → Nat → Bool), FDH a0 n g k → FTK a0 n g k y1 y2 y3 (y4 + 1)) → jt (jxX E d 272 89 [some (.inr (.inr (.inl 146))), some (.inl y1), some (.inl y2), some (.inl y3), some (.inl y4), none] [] (jxSH, a, b0)) (jQ_X12_finds a0 b0)) ∧ (∀ (y1 y2 y3 y4 : Int) (a : Nat → Nat → Int), (((((pc y1) * 27010) + 7) + ((27000 - y4) * 1)) + 0).toNat ≤ n → iv a → jfr jW_X12_finds a0 a → 1 ≤ y1 → y1 ≤ 4095 → 0 ≤ y2 → y2 ≤ 11 → 0 - 1 ≤ y3 → y3 ≤ 0 - 1 → 0 ≤ y4 → y4 ≤ 26999 → 0 ≤ y1 → y1 ≤ 4095 → (2 * (a 146 64)) + (pc y1) ≤ 12 → y1 < jxshl 1 (a 146 56) → 1 ≤ y1 → 0 ≤ y2 → y2 < a 146 56 → (FO a) → (¬ jxand (jxshr y1 y2) 1 = 0) → (y3 = -1 ∨ (0 ≤ y3 ∧ y3 < a 146 58 ∧ jxand (a 184 y3.toNat) y1 = a 184 y3.toNat)) → 0 ≤ y4 → y4 < a 146 58 → (jxand (a 184 y4.toNat) y1 = a 184 y4.toNat) → 1 ≤ a0 146 56 → (∀ (n : Nat) (g k : Nat → Nat → Bool), FDH a0 n g k → FNI a0 a n g k y1) → (LST y2.toNat y1.toNat) → (∀ (n : Nat) (g k : Nat → Nat → Bool), FDH a0 n g k → FTK a0 n g k y1 y2 y3 y4) → (y3 = -1) → (y4 < a0 186 (y2.toNat + 1)) → jt (jxX E d 272 70 [some (.inr (.inr (.inl 146))), some (.inl y1), some (.inl y2), some (.inl y3), some (.inl y4), none] [] (jxSH, a, b0)) (jQ_X12_finds a0 b0)) ∧ (∀ (y1 y3 y4 y5 : Int) (a : Nat → Nat → Int), (((((pc y1) * 27010) + 0) + ((5 - y5) * 1)) + 0).toNat ≤ n → iv a → jfr jW_X12_finds a0 a → 1 ≤ y1 → y1 ≤ 4095 → 0 ≤ y3 → y3 ≤ 26999 → 1 ≤ y4 → y4 ≤ 12 → 0 ≤ y5 → y5 ≤ 5 → 0 ≤ y1 → y1 ≤ 4095 → (2 * (a 146 64)) + (pc y1) ≤ 12 → y1 < jxshl 1 (a 146 56) → 1 ≤ y1 → (FO a) → (0 ≤ y3 ∧ y3 < a 146 58 ∧ jxand (a 184 y3.toNat) y1 = a 184 y3.toNat) → a 146 64 ≤ 5 → 2 ≤ y4 → y4 ≤ 5 → (y4 = pc (a 184 y3.toNat)) → 0 ≤ y5 → y5 < y4 → 1 ≤ a0 146 56 → (∀ (n : Nat) (g k : Nat → Nat → Bool), FDH a0 n g k → FNQ a0 a n g k y1 y3 y4 (y5 + 1)) → jt (jxX E d 272 174 [some (.inr (.inr (.inl 146))), some (.inl y1), none, some (.inl y3), some (.inl y4), some (.inl y5)] [] (jxSH, a, b0)) (jQ_X12_finds a0 b0)) ∧ (∀ (y1 : Int) (a : Nat → Nat → Int), (((pc y1) * 27010) + 27010).toNat ≤ n → iv a → jfr jW_X12_finds a0 a → 0 ≤ y1 → y1 ≤ 4095 → 0 ≤ y1 → y1 ≤ 4095 → (2 * (a 146 64)) + (pc y1) ≤ 12 → y1 < jxshl 1 (a 146 56) → (FO a) → (a0 146 56 = 0 → (y1 = 0 ∧ a 146 64 = 0)) → (∀ (n : Nat) (g k : Nat → Nat → Bool), FDH a0 n g k → FNI a0 a n g k y1) → jt (jxX E d 272 199 [some (.inr (.inr (.inl 146))), some (.inl y1), none, none, none, none] [] (jxSH, a, b0)) (jQ_X12_finds a0 b0)) ∧ (∀ (y1 y3 y4 y5 : Int) (a : Nat → Nat → Int), (((((pc y1) * 27010) + 0) + ((5 - y5) * 1)) + 0).toNat ≤ n → iv a → jfr jW_X12_finds a0 a → 1 ≤ y1 → y1 ≤ 4095 → 0 ≤ y3 → y3 ≤ 26999 → 0 ≤ y4 → y4 ≤ 12 → 0 ≤ y5 → y5 ≤ 5 → 0 ≤ y1 → y1 ≤ 4095 → (2 * (a 146 64)) + (pc y1) ≤ 12 → y1 < jxshl 1 (a 146 56) → 1 ≤ y1 → (FO a) → (0 ≤ y3 ∧ y3 < a 146 58 ∧ jxand (a 184 y3.toNat) y1 = a 184 y3.toNat) → a 146 64 ≤ 5 → 2 ≤ y4 → y4 ≤ 5 → (y4 = pc (a 184 y3.toNat)) → 0 ≤ y5 → y5 ≤ y4 → 1 ≤ a0 146 56 → (∀ (n : Nat) (g k : Nat → Nat → Bool), FDH a0 n g k → FNQ a0 a n g k y1 y3 y4 y5) → jt (jxX E d 272 134 [some (.inr (.inr (.inl 146))), some (.inl y1), none, some (.inl y3), some (.inl y4), some (.inl y5)] [] (jxSH, a, b0)) (jQ_X12_finds a0 b0)) ∧ (∀ (y1 y3 y4 : Int) (a : Nat → Nat → Int), (((pc y1) * 27010) + 7).toNat ≤ n → iv a → jfr jW_X12_finds a0 a → 1 ≤ y1 → y1 ≤ 4095 → 0 ≤ y3 → y3 ≤ 26999 → 0 ≤ y4 → y4 ≤ 12 → 0 ≤ y1 → y1 ≤ 4095 → (2 * (a 146 64)) + (pc y1) ≤ 12 → y1 < jxshl 1 (a 146 56) → 1 ≤ y1 → (FO a) → (0 ≤ y3 ∧ y3 < a 146 58 ∧ jxand (a 184 y3.toNat) y1 = a 184 y3.toNat) → a 146 64 ≤ 5 → 2 ≤ y4 → y4 ≤ 5 → (y4 = pc (a 184 y3.toNat)) → 1 ≤ a0 146 56 → (∀ (n : Nat) (g k : Nat → Nat → Bool), FDH a0 n g k → FNQ a0 a n g k y1 y3 y4 0) → jt (jxX E d 272 131 [some (.inr (.inr (.inl 146))), some (.inl y1), none, some (.inl y3), some (.inl y4), none] [] (jxSH, a, b0)) (jQ_X12_finds a0 b0)) ∧ (∀ (y1 y2 y3 : Int) (a : Nat → Nat → Int), (((pc y1) * 27010) + 7).toNat ≤ n → iv a → jfr jW_X12_finds a0 a → 1 ≤ y1 → y1 ≤ 4095 → 0 ≤ y2 → y2 ≤ 11 → 0 - 1 ≤ y3 → y3 ≤ 26999 → 0 ≤ y1 → y1 ≤ 4095 → (2 * (a 146 64)) + (pc y1) ≤ 12 → y1 < jxshl 1 (a 146 56) → 1 ≤ y1 → 0 ≤ y2 → y2 < a 146 56 → (FO a) → (¬ jxand (jxshr y1 y2) 1 = 0) → (y3 = -1 ∨ (0 ≤ y3 ∧ y3 < a 146 58 ∧ jxand (a 184 y3.toNat) y1 = a 184 y3.toNat)) → 1 ≤ a0 146 56 → (∀ (n : Nat) (g k : Nat → Nat → Bool), FDH a0 n g k → FNI a0 a n g k y1) → (LST y2.toNat y1.toNat) → (∀ (n : Nat) (g k : Nat → Nat → Bool), FDH a0 n g k → FTE a0 n g k y1 y2 y3) → jt (jxX E d 272 95 [some (.inr (.inr (.inl 146))), some (.inl y1), some (.inl y2), some (.inl y3), none, none] [] (jxSH, a, b0)) (jQ_X12_finds a0 b0)) ∧ (∀ (y1 y2 y3 y4 : Int) (a : Nat → Nat → Int), (((((pc y1) * 27010) + 7) + ((27000 - y4) * 1)) + 0).toNat ≤ n → iv a → jfr jW_X12_finds a0 a → 1 ≤ y1 → y1 ≤ 4095 → 0 ≤ y2 → y2 ≤ 11 → 0 - 1 ≤ y3 → y3 ≤ 26999 → 0 ≤ y4 → y4 ≤ 27000 → 0 ≤ y1 → y1 ≤ 4095 → (2 * (a 146 64)) + (pc y1) ≤ 12 → y1 < jxshl 1 (a 146 56) → 1 ≤ y1 → 0 ≤ y2 → y2 < a 146 56 → (FO a) → (¬ jxand (jxshr y1 y2) 1 = 0) → (y3 = -1 ∨ (0 ≤ y3 ∧ y3 < a 146 58 ∧ jxand (a 184 y3.toNat) y1 = a 184 y3.toNat)) → 0 ≤ y4 → 1 ≤ a0 146 56 → (∀ (n : Nat) (g k : Nat → Nat → Bool), FDH a0 n g k → FNI a0 a n g k y1) → (LST y2.toNat y1.toNat) → (∀ (n : Nat) (g k : Nat → Nat → Bool), FDH a0 n g k → FTK a0 n g k y1 y2 y3 y4) → jt (jxX E d 272 33 [some (.inr (.inr (.inl 146))), some (.inl y1), some (.inl y2), some (.inl y3), some (.inl y4), none] [] (jxSH, a, b0)) (jQ_X12_finds a0 b0)) ∧ (∀ (y1 : Int) (a : Nat → Nat → Int), (((pc y1) * 27010) + 27009).toNat ≤ n → iv a → jfr jW_X12_finds a0 a → 0 ≤ y1 → y1 ≤ 4095 → 0 ≤ y1 → y1 ≤ 4095 → (2 * (a 146 64)) + (pc y1) ≤ 12 → y1 < jxshl 1 (a 146 56) → (FO a) → (a0 146 56 = 0 → (y1 = 0 ∧ a 146 64 = 0)) → (∀ (n : Nat) (g k : Nat → Nat → Bool), FDH a0 n g k → FNI a0 a n g k y1) → jt (jxX E d 272 14 [some (.inr (.inr (.inl 146))), some (.inl y1), none, none, none, none] [] (jxSH, a, b0)) (jQ_X12_finds a0 b0)) := by
  refine jx_ind fun n ih => ?_
  have ih89 : ∀ (y1 y2 y3 y4 : Int) (a : Nat → Nat → Int), (((((pc y1) * 27010) + 7) + ((27000 - y4) * 1)) + 0).toNat < n → iv a → jfr jW_X12_finds a0 a → 1 ≤ y1 → y1 ≤ 4095 → 0 ≤ y2 → y2 ≤ 11 → 0 - 1 ≤ y3 → y3 ≤ 26999 → 0 ≤ y4 → y4 ≤ 26999 → 0 ≤ y1 → y1 ≤ 4095 → (2 * (a 146 64)) + (pc y1) ≤ 12 → y1 < jxshl 1 (a 146 56) → 1 ≤ y1 → 0 ≤ y2 → y2 < a 146 56 → (FO a) → (¬ jxand (jxshr y1 y2) 1 = 0) → (y3 = -1 ∨ (0 ≤ y3 ∧ y3 < a 146 58 ∧ jxand (a 184 y3.toNat) y1 = a 184 y3.toNat)) → 0 ≤ y4 → y4 ≤ 26999 → 1 ≤ a0 146 56 → (∀ (n : Nat) (g k : Nat → Nat → Bool), FDH a0 n g k → FNI a0 a n g k y1) → (LST y2.toNat y1.toNat) → (∀ (n : Nat) (g k : Nat → Nat → Bool), FDH a0 n g k → FTK a0 n g k y1 y2 y3 (y4 + 1)) → jt (jxX E d 272 89 [some (.inr (.inr (.inl 146))), some (.inl y1), some (.inl y2), some (.inl y3), some (.inl y4), none] [] (jxSH, a, b0)) (jQ_X12_finds a0 b0) := fun y1 y2 y3 y4 a hlt i0 i1 i2 i3 i4 i5 i6 i7 i8 i9 i10 i11 i12 i13 i14 i15 i16 i17 i18 i19 i20 i21 i22 i23 i24 i25 => (ih _ hlt).1 y1 y2 y3 y4 a (Nat.le_refl _) i0 i1 i2 i3 i4 i5 i6 i7 i8 i9 i10 i11 i12 i13 i14 i15 i16 i17 i18 i19 i20 i21 i22 i23 i24 i25
  have ih70 : ∀ (y1 y2 y3 y4 : Int) (a : Nat → Nat → Int), (((((pc y1) * 27010) + 7) + ((27000 - y4) * 1)) + 0).toNat < n → iv a → jfr jW_X12_finds a0 a → 1 ≤ y1 → y1 ≤ 4095 → 0 ≤ y2 → y2 ≤ 11 → 0 - 1 ≤ y3 → y3 ≤ 0 - 1 → 0 ≤ y4 → y4 ≤ 26999 → 0 ≤ y1 → y1 ≤ 4095 → (2 * (a 146 64)) + (pc y1) ≤ 12 → y1 < jxshl 1 (a 146 56) → 1 ≤ y1 → 0 ≤ y2 → y2 < a 146 56 → (FO a) → (¬ jxand (jxshr y1 y2) 1 = 0) → (y3 = -1 ∨ (0 ≤ y3 ∧ y3 < a 146 58 ∧ jxand (a 184 y3.toNat) y1 = a 184 y3.toNat)) → 0 ≤ y4 → y4 < a 146 58 → (jxand (a 184 y4.toNat) y1 = a 184 y4.toNat) → 1 ≤ a0 146 56 → (∀ (n : Nat) (g k : Nat → Nat → Bool), FDH a0 n g k → FNI a0 a n g k y1) → (LST y2.toNat y1.toNat) → (∀ (n : Nat) (g k : Nat → Nat → Bool), FDH a0 n g k → FTK a0 n g k y1 y2 y3 y4) → (y3 = -1) → (y4 < a0 186 (y2.toNat + 1)) → jt (jxX E d 272 70 [some (.inr (.inr (.inl 146))), some (.inl y1), some (.inl y2), some (.inl y3), some (.inl y4), none] [] (jxSH, a, b0)) (jQ_X12_finds a0 b0) := fun y1 y2 y3 y4 a hlt i0 i1 i2 i3 i4 i5 i6 i7 i8 i9 i10 i11 i12 i13 i14 i15 i16 i17 i18 i19 i20 i21 i22 i23 i24 i25 i26 i27 i28 => (ih _ hlt).2.1 y1 y2 y3 y4 a (Nat.le_refl _) i0 i1 i2 i3 i4 i5 i6 i7 i8 i9 i10 i11 i12 i13 i14 i15 i16 i17 i18 i19 i20 i21 i22 i23 i24 i25 i26 i27 i28
  have ih174 : ∀ (y1 y3 y4 y5 : Int) (a : Nat → Nat → Int), (((((pc y1) * 27010) + 0) + ((5 - y5) * 1)) + 0).toNat < n → iv a → jfr jW_X12_finds a0 a → 1 ≤ y1 → y1 ≤ 4095 → 0 ≤ y3 → y3 ≤ 26999 → 1 ≤ y4 → y4 ≤ 12 → 0 ≤ y5 → y5 ≤ 5 → 0 ≤ y1 → y1 ≤ 4095 → (2 * (a 146 64)) + (pc y1) ≤ 12 → y1 < jxshl 1 (a 146 56) → 1 ≤ y1 → (FO a) → (0 ≤ y3 ∧ y3 < a 146 58 ∧ jxand (a 184 y3.toNat) y1 = a 184 y3.toNat) → a 146 64 ≤ 5 → 2 ≤ y4 → y4 ≤ 5 → (y4 = pc (a 184 y3.toNat)) → 0 ≤ y5 → y5 < y4 → 1 ≤ a0 146 56 → (∀ (n : Nat) (g k : Nat → Nat → Bool), FDH a0 n g k → FNQ a0 a n g k y1 y3 y4 (y5 + 1)) → jt (jxX E d 272 174 [some (.inr (.inr (.inl 146))), some (.inl y1), none, some (.inl y3), some (.inl y4), some (.inl y5)] [] (jxSH, a, b0)) (jQ_X12_finds a0 b0) := fun y1 y3 y4 y5 a hlt i0 i1 i2 i3 i4 i5 i6 i7 i8 i9 i10 i11 i12 i13 i14 i15 i16 i17 i18 i19 i20 i21 i22 i23 i24 => (ih _ hlt).2.2.1 y1 y3 y4 y5 a (Nat.le_refl _) i0 i1 i2 i3 i4 i5 i6 i7 i8 i9 i10 i11 i12 i13 i14 i15 i16 i17 i18 i19 i20 i21 i22 i23 i24
  have ih199 : ∀ (y1 : Int) (a : Nat → Nat → Int), (((pc y1) * 27010) + 27010).toNat < n → iv a → jfr jW_X12_finds a0 a → 0 ≤ y1 → y1 ≤ 4095 → 0 ≤ y1 → y1 ≤ 4095 → (2 * (a 146 64)) + (pc y1) ≤ 12 → y1 < jxshl 1 (a 146 56) → (FO a) → (a0 146 56 = 0 → (y1 = 0 ∧ a 146 64 = 0)) → (∀ (n : Nat) (g k : Nat → Nat → Bool), FDH a0 n g k → FNI a0 a n g k y1) → jt (jxX E d 272 199 [some (.inr (.inr (.inl 146))), some (.inl y1), none, none, none, none] [] (jxSH, a, b0)) (jQ_X12_finds a0 b0) := fun y1 a hlt i0 i1 i2 i3 i4 i5 i6 i7 i8 i9 i10 => (ih _ hlt).2.2.2.1 y1 a (Nat.le_refl _) i0 i1 i2 i3 i4 i5 i6 i7 i8 i9 i10
  have ih134 : ∀ (y1 y3 y4 y5 : Int) (a : Nat → Nat → Int), (((((pc y1) * 27010) + 0) + ((5 - y5) * 1)) + 0).toNat < n → iv a → jfr jW_X12_finds a0 a → 1 ≤ y1 → y1 ≤ 4095 → 0 ≤ y3 → y3 ≤ 26999 → 0 ≤ y4 → y4 ≤ 12 → 0 ≤ y5 → y5 ≤ 5 → 0 ≤ y1 → y1 ≤ 4095 → (2 * (a 146 64)) + (pc y1) ≤ 12 → y1 < jxshl 1 (a 146 56) → 1 ≤ y1 → (FO a) → (0 ≤ y3 ∧ y3 < a 146 58 ∧ jxand (a 184 y3.toNat) y1 = a 184 y3.toNat) → a 146 64 ≤ 5 → 2 ≤ y4 → y4 ≤ 5 → (y4 = pc (a 184 y3.toNat)) → 0 ≤ y5 → y5 ≤ y4 → 1 ≤ a0 146 56 → (∀ (n : Nat) (g k : Nat → Nat → Bool), FDH a0 n g k → FNQ a0 a n g k y1 y3 y4 y5) → jt (jxX E d 272 134 [some (.inr (.inr (.inl 146))), some (.inl y1), none, some (.inl y3), some (.inl y4), some (.inl y5)] [] (jxSH, a, b0)) (jQ_X12_finds a0 b0) := fun y1 y3 y4 y5 a hlt i0 i1 i2 i3 i4 i5 i6 i7 i8 i9 i10 i11 i12 i13 i14 i15 i16 i17 i18 i19 i20 i21 i22 i23 i24 => (ih _ hlt).2.2.2.2.1 y1 y3 y4 y5 a (Nat.le_refl _) i0 i1 i2 i3 i4 i5 i6 i7 i8 i9 i10 i11 i12 i13 i14 i15 i16 i17 i18 i19 i20 i21 i22 i23 i24
  have ih131 : ∀ (y1 y3 y4 : Int) (a : Nat → Nat → Int), (((pc y1) * 27010) + 7).toNat < n → iv a → jfr jW_X12_finds a0 a → 1 ≤ y1 → y1 ≤ 4095 → 0 ≤ y3 → y3 ≤ 26999 → 0 ≤ y4 → y4 ≤ 12 → 0 ≤ y1 → y1 ≤ 4095 → (2 * (a 146 64)) + (pc y1) ≤ 12 → y1 < jxshl 1 (a 146 56) → 1 ≤ y1 → (FO a) → (0 ≤ y3 ∧ y3 < a 146 58 ∧ jxand (a 184 y3.toNat) y1 = a 184 y3.toNat) → a 146 64 ≤ 5 → 2 ≤ y4 → y4 ≤ 5 → (y4 = pc (a 184 y3.toNat)) → 1 ≤ a0 146 56 → (∀ (n : Nat) (g k : Nat → Nat → Bool), FDH a0 n g k → FNQ a0 a n g k y1 y3 y4 0) → jt (jxX E d 272 131 [some (.inr (.inr (.inl 146))), some (.inl y1), none, some (.inl y3), some (.inl y4), none] [] (jxSH, a, b0)) (jQ_X12_finds a0 b0) := fun y1 y3 y4 a hlt i0 i1 i2 i3 i4 i5 i6 i7 i8 i9 i10 i11 i12 i13 i14 i15 i16 i17 i18 i19 i20 => (ih _ hlt).2.2.2.2.2.1 y1 y3 y4 a (Nat.le_refl _) i0 i1 i2 i3 i4 i5 i6 i7 i8 i9 i10 i11 i12 i13 i14 i15 i16 i17 i18 i19 i20
  have ih95 : ∀ (y1 y2 y3 : Int) (a : Nat → Nat → Int), (((pc y1) * 27010) + 7).toNat < n → iv a → jfr jW_X12_finds a0 a → 1 ≤ y1 → y1 ≤ 4095 → 0 ≤ y2 → y2 ≤ 11 → 0 - 1 ≤ y3 → y3 ≤ 26999 → 0 ≤ y1 → y1 ≤ 4095 → (2 * (a 146 64)) + (pc y1) ≤ 12 → y1 < jxshl 1 (a 146 56) → 1 ≤ y1 → 0 ≤ y2 → y2 < a 146 56 → (FO a) → (¬ jxand (jxshr y1 y2) 1 = 0) → (y3 = -1 ∨ (0 ≤ y3 ∧ y3 < a 146 58 ∧ jxand (a 184 y3.toNat) y1 = a 184 y3.toNat)) → 1 ≤ a0 146 56 → (∀ (n : Nat) (g k : Nat → Nat → Bool), FDH a0 n g k → FNI a0 a n g k y1) → (LST y2.toNat y1.toNat) → (∀ (n : Nat) (g k : Nat → Nat → Bool), FDH a0 n g k → FTE a0 n g k y1 y2 y3) → jt (jxX E d 272 95 [some (.inr (.inr (.inl 146))), some (.inl y1), some (.inl y2), some (.inl y3), none, none] [] (jxSH, a, b0)) (jQ_X12_finds a0 b0) := fun y1 y2 y3 a hlt i0 i1 i2 i3 i4 i5 i6 i7 i8 i9 i10 i11 i12 i13 i14 i15 i16 i17 i18 i19 i20 i21 => (ih _ hlt).2.2.2.2.2.2.1 y1 y2 y3 a (Nat.le_refl _) i0 i1 i2 i3 i4 i5 i6 i7 i8 i9 i10 i11 i12 i13 i14 i15 i16 i17 i18 i19 i20 i21
  have ih33 : ∀ (y1 y2 y3 y4 : Int) (a : Nat → Nat → Int), (((((pc y1) * 27010) + 7) + ((27000 - y4) * 1)) + 0).toNat < n → iv a → jfr jW_X12_finds a0 a → 1 ≤ y1 → y1 ≤ 4095 → 0 ≤ y2 → y2 ≤ 11 → 0 - 1 ≤ y3 → y3 ≤ 26999 → 0 ≤ y4 → y4 ≤ 27000 → 0 ≤ y1 → y1 ≤ 4095 → (2 * (a 146 64)) + (pc y1) ≤ 12 → y1 < jxshl 1 (a 146 56) → 1 ≤ y1 → 0 ≤ y2 → y2 < a 146 56 → (FO a) → (¬ jxand (jxshr y1 y2) 1 = 0) → (y3 = -1 ∨ (0 ≤ y3 ∧ y3 < a 146 58 ∧ jxand (a 184 y3.toNat) y1 = a 184 y3.toNat)) → 0 ≤ y4 → 1 ≤ a0 146 56 → (∀ (n : Nat) (g k : Nat → Nat → Bool), FDH a0 n g k → FNI a0 a n g k y1) → (LST y2.toNat y1.toNat) → (∀ (n : Nat) (g k : Nat → Nat → Bool), FDH a0 n g k → FTK a0 n g k y1 y2 y3 y4) → jt (jxX E d 272 33 [some (.inr (.inr (.inl 146))), some (.inl y1), some (.inl y2), some (.inl y3), some (.inl y4), none] [] (jxSH, a, b0)) (jQ_X12_finds a0 b0) := fun y1 y2 y3 y4 a hlt i0 i1 i2 i3 i4 i5 i6 i7 i8 i9 i10 i11 i12 i13 i14 i15 i16 i17 i18 i19 i20 i21 i22 i23 i24 => (ih _ hlt).2.2.2.2.2.2.2.1 y1 y2 y3 y4 a (Nat.le_refl _) i0 i1 i2 i3 i4 i5 i6 i7 i8 i9 i10 i11 i12 i13 i14 i15 i16 i17 i18 i19 i20 i21 i22 i23 i24
  have ih14 : ∀ (y1 : Int) (a : Nat → Nat → Int), (((pc y1) * 27010) + 27009).toNat < n → iv a → jfr jW_X12_finds a0 a → 0 ≤ y1 → y1 ≤ 4095 → 0 ≤ y1 → y1 ≤ 4095 → (2 * (a 146 64)) + (pc y1) ≤ 12 → y1 < jxshl 1 (a 146 56) → (FO a) → (a0 146 56 = 0 → (y1 = 0 ∧ a 146 64 = 0)) → (∀ (n : Nat) (g k : Nat → Nat → Bool), FDH a0 n g k → FNI a0 a n g k y1) → jt (jxX E d 272 14 [some (.inr (.inr (.inl 146))), some (.inl y1), none, none, none, none] [] (jxSH, a, b0)) (jQ_X12_finds a0 b0) := fun y1 a hlt i0 i1 i2 i3 i4 i5 i6 i7 i8 i9 i10 => (ih _ hlt).2.2.2.2.2.2.2.2 y1 a (Nat.le_refl _) i0 i1 i2 i3 i4 i5 i6 i7 i8 i9 i10
  have hc89 : ∀ (y1 y2 y3 y4 : Int) (a : Nat → Nat → Int), (((((pc y1) * 27010) + 7) + ((27000 - y4) * 1)) + 0).toNat ≤ n → iv a → jfr jW_X12_finds a0 a → 1 ≤ y1 → y1 ≤ 4095 → 0 ≤ y2 → y2 ≤ 11 → 0 - 1 ≤ y3 → y3 ≤ 26999 → 0 ≤ y4 → y4 ≤ 26999 → 0 ≤ y1 → y1 ≤ 4095 → (2 * (a 146 64)) + (pc y1) ≤ 12 → y1 < jxshl 1 (a 146 56) → 1 ≤ y1 → 0 ≤ y2 → y2 < a 146 56 → (FO a) → (¬ jxand (jxshr y1 y2) 1 = 0) → (y3 = -1 ∨ (0 ≤ y3 ∧ y3 < a 146 58 ∧ jxand (a 184 y3.toNat) y1 = a 184 y3.toNat)) → 0 ≤ y4 → y4 ≤ 26999 → 1 ≤ a0 146 56 → (∀ (n : Nat) (g k : Nat → Nat → Bool), FDH a0 n g k → FNI a0 a n g k y1) → (LST y2.toNat y1.toNat) → (∀ (n : Nat) (g k : Nat → Nat → Bool), FDH a0 n g k → FTK a0 n g k y1 y2 y3 (y4 + 1)) → jt (jxX E d 272 89 [some (.inr (.inr (.inl 146))), some (.inl y1), some (.inl y2), some (.inl y3), some (.inl y4), none] [] (jxSH, a, b0)) (jQ_X12_finds a0 b0) := by
    intro y1 y2 y3 y4 a hm hv hf hi0 hi1 hi2 hi3 hi4 hi5 hi6 hi7 hi8 hi9 hi10 hi11 hi12 hi13 hi14 hi15 hbit hring hi18 hi19 hi20 hni hls htk
    refine jt_eq (bq_X12_finds_89 E d y1 y2 y3 y4 a b0) ?_
    have h1366_ := iv_get hv (k := 146) (j := 64) (l := 0) (u := 6) rfl
    have h1367_ := pc_bd y1
    have h1368_ := iv_get hv (k := 146) (j := 56) (l := 0) (u := 12) rfl
    have h1369_ : a 146 56 = a0 146 56 := hf 146 56 rfl
    have h1370_ := iv_get hv0 (k := 146) (j := 56) (l := 0) (u := 12) rfl
    have h1371_ := jxshl1_b (a 146 56)
    have e56_ := hf 146 56 rfl
    have r183_ : ∀ j, a 183 j = a0 183 j := fun j => hf 183 j rfl
    have r184_ : ∀ j, a 184 j = a0 184 j := fun j => hf 184 j rfl
    have r185_ : ∀ j, a 185 j = a0 185 j := fun j => hf 185 j rfl
    have r186_ : ∀ j, a 186 j = a0 186 j := fun j => hf 186 j rfl
    have r191_ : ∀ j, a 191 j = a0 191 j := fun j => hf 191 j rfl
    have h1372_ : jxw (y4 + 1) = y4 + 1 := jxw_id (by omega) (by omega)
    exact ih33 y1 y2 y3 (jxw (y4 + 1)) a (show (((((pc y1) * 27010) + 7) + ((27000 - (jxw (y4 + 1))) * 1)) + 0).toNat < n from by omega) hv hf (show 1 ≤ y1 from by omega) (show y1 ≤ 4095 from by omega) (show 0 ≤ y2 from by omega) (show y2 ≤ 11 from by omega) (show 0 - 1 ≤ y3 from by omega) (show y3 ≤ 26999 from by omega) (show 0 ≤ jxw (y4 + 1) from by omega) (show jxw (y4 + 1) ≤ 27000 from by omega) (show 0 ≤ y1 from by omega) (show y1 ≤ 4095 from by omega) (show (2 * (a 146 64)) + (pc y1) ≤ 12 from by omega) (show y1 < jxshl 1 (a 146 56) from by omega) (show 1 ≤ y1 from by omega) (show 0 ≤ y2 from by omega) (show y2 < a 146 56 from by omega) hi15 (by first | assumption | exact hq0_2) (by first | exact Or.inl rfl | assumption | (exact Or.inr ⟨by omega, by omega, hsub⟩)) (show 0 ≤ jxw (y4 + 1) from by omega) (show 1 ≤ a0 146 56 from by omega) hni hls (by rw [show jxw (y4 + 1) = y4 + 1 from jxw_id (by omega) (by omega)]; exact htk)
  have hc70 : ∀ (y1 y2 y3 y4 : Int) (a : Nat → Nat → Int), (((((pc y1) * 27010) + 7) + ((27000 - y4) * 1)) + 0).toNat ≤ n → iv a → jfr jW_X12_finds a0 a → 1 ≤ y1 → y1 ≤ 4095 → 0 ≤ y2 → y2 ≤ 11 → 0 - 1 ≤ y3 → y3 ≤ 0 - 1 → 0 ≤ y4 → y4 ≤ 26999 → 0 ≤ y1 → y1 ≤ 4095 → (2 * (a 146 64)) + (pc y1) ≤ 12 → y1 < jxshl 1 (a 146 56) → 1 ≤ y1 → 0 ≤ y2 → y2 < a 146 56 → (FO a) → (¬ jxand (jxshr y1 y2) 1 = 0) → (y3 = -1 ∨ (0 ≤ y3 ∧ y3 < a 146 58 ∧ jxand (a 184 y3.toNat) y1 = a 184 y3.toNat)) → 0 ≤ y4 → y4 < a 146 58 → (jxand (a 184 y4.toNat) y1 = a 184 y4.toNat) → 1 ≤ a0 146 56 → (∀ (n : Nat) (g k : Nat → Nat → Bool), FDH a0 n g k → FNI a0 a n g k y1) → (LST y2.toNat y1.toNat) → (∀ (n : Nat) (g k : Nat → Nat → Bool), FDH a0 n g k → FTK a0 n g k y1 y2 y3 y4) → (y3 = -1) → (y4 < a0 186 (y2.toNat + 1)) → jt (jxX E d 272 70 [some (.inr (.inr (.inl 146))), some (.inl y1), some (.inl y2), some (.inl y3), some (.inl y4), none] [] (jxSH, a, b0)) (jQ_X12_finds a0 b0) := by
    intro y1 y2 y3 y4 a hm hv hf hi0 hi1 hi2 hi3 hi4 hi5 hi6 hi7 hi8 hi9 hi10 hi11 hi12 hi13 hi14 hi15 hbit hring hi18 hi19 hsub hi21 hni hls htk h3m h4m
    refine jt_eq (bq_X12_finds_70 E d y1 y2 y3 y4 a b0) ?_
    have h1373_ := iv_get hv (k := 146) (j := 64) (l := 0) (u := 6) rfl
    have h1374_ := pc_bd y1
    have h1375_ := iv_get hv (k := 146) (j := 56) (l := 0) (u := 12) rfl
    have h1376_ : a 146 56 = a0 146 56 := hf 146 56 rfl
    have h1377_ := iv_get hv0 (k := 146) (j := 56) (l := 0) (u := 12) rfl
    have h1378_ := jxshl1_b (a 146 56)
    have h1379_ := iv_get hv (k := 146) (j := 58) (l := 0) (u := 27000) rfl
    have h1380_ : a 146 58 = a0 146 58 := hf 146 58 rfl
    have h1381_ := iv_get hv0 (k := 146) (j := 58) (l := 0) (u := 27000) rfl
    have e56_ := hf 146 56 rfl
    have r183_ : ∀ j, a 183 j = a0 183 j := fun j => hf 183 j rfl
    have r184_ : ∀ j, a 184 j = a0 184 j := fun j => hf 184 j rfl
    have r185_ : ∀ j, a 185 j = a0 185 j := fun j => hf 185 j rfl
    have r186_ : ∀ j, a 186 j = a0 186 j := fun j => hf 186 j rfl
    have r191_ : ∀ j, a 191 j = a0 191 j := fun j => hf 191 j rfl
    refine jt_bI (sp_X12_withRing E d (jd_le hd rfl) y1 y4 a b0 hv (show (0 ≤ y1 ∧ y1 ≤ 4095) from by omega) (show (0 ≤ y4 ∧ y4 ≤ 26999) from by omega)) (fun r1382_ a1382_ b1382_ h1382_ => ?_)
    obtain ⟨rfl, rfl, hq1382_0⟩ := h1382_
    refine jt_grd (by omega) ?_
    have h1383_ : a 191 (y1.toNat) = a0 191 (y1.toNat) := hf 191 (y1.toNat) rfl
    refine jt_ite (fun c1384_ => ?_) (fun c1384_ => ?_)
    ·
      exact hc89 y1 y2 y4 y4 a (show (((((pc y1) * 27010) + 7) + ((27000 - y4) * 1)) + 0).toNat ≤ n from by omega) hv hf (show 1 ≤ y1 from by omega) (show y1 ≤ 4095 from by omega) (show 0 ≤ y2 from by omega) (show y2 ≤ 11 from by omega) (show 0 - 1 ≤ y4 from by omega) (show y4 ≤ 26999 from by omega) (show 0 ≤ y4 from by omega) (show y4 ≤ 26999 from by omega) (show 0 ≤ y1 from by omega) (show y1 ≤ 4095 from by omega) (show (2 * (a 146 64)) + (pc y1) ≤ 12 from by omega) (show y1 < jxshl 1 (a 146 56) from by omega) (show 1 ≤ y1 from by omega) (show 0 ≤ y2 from by omega) (show y2 < a 146 56 from by omega) hi15 (by first | assumption | exact hq1382_2) (by first | exact Or.inl rfl | assumption | (exact Or.inr ⟨by omega, by omega, hsub⟩)) (show 0 ≤ y4 from by omega) (show y4 ≤ 26999 from by omega) (show 1 ≤ a0 146 56 from by omega) hni hls (fun n g k hF => by have hn_ := hF.1; have h12_ := hF.2.1; obtain ⟨L_, k1_, k2_, k3_, k4_, k5_⟩ := hni n g k hF; have sn_ := LST_lt hls k4_; have e86_ := r186_ (y2.toNat + 1); have q := FTK_try hF k3_ k4_ sn_ (htk n g k hF) h3m (by omega) h4m (by rw [← r184_]; exact hsub); have wfr_ : ∀ x y, wR a x y = wR a0 x y := fun x y => (by unfold wR; rw [r184_, r191_]); have hw := hq1382_0; rw [wfr_] at hw; rw [← hw, ← r191_] at q; first | exact q.1 (by assumption) | exact q.2 (by assumption))
    ·
      exact hc89 y1 y2 y3 y4 a (show (((((pc y1) * 27010) + 7) + ((27000 - y4) * 1)) + 0).toNat ≤ n from by omega) hv hf (show 1 ≤ y1 from by omega) (show y1 ≤ 4095 from by omega) (show 0 ≤ y2 from by omega) (show y2 ≤ 11 from by omega) (show 0 - 1 ≤ y3 from by omega) (show y3 ≤ 26999 from by omega) (show 0 ≤ y4 from by omega) (show y4 ≤ 26999 from by omega) (show 0 ≤ y1 from by omega) (show y1 ≤ 4095 from by omega) (show (2 * (a 146 64)) + (pc y1) ≤ 12 from by omega) (show y1 < jxshl 1 (a 146 56) from by omega) (show 1 ≤ y1 from by omega) (show 0 ≤ y2 from by omega) (show y2 < a 146 56 from by omega) hi15 (by first | assumption | exact hq1382_2) (by first | exact Or.inl rfl | assumption | (exact Or.inr ⟨by omega, by omega, hsub⟩)) (show 0 ≤ y4 from by omega) (show y4 ≤ 26999 from by omega) (show 1 ≤ a0 146 56 from by omega) hni hls (fun n g k hF => by have hn_ := hF.1; have h12_ := hF.2.1; obtain ⟨L_, k1_, k2_, k3_, k4_, k5_⟩ := hni n g k hF; have sn_ := LST_lt hls k4_; have e86_ := r186_ (y2.toNat + 1); have q := FTK_try hF k3_ k4_ sn_ (htk n g k hF) h3m (by omega) h4m (by rw [← r184_]; exact hsub); have wfr_ : ∀ x y, wR a x y = wR a0 x y := fun x y => (by unfold wR; rw [r184_, r191_]); have hw := hq1382_0; rw [wfr_] at hw; rw [← hw, ← r191_] at q; first | exact q.1 (by assumption) | exact q.2 (by assumption))
  have hc174 : ∀ (y1 y3 y4 y5 : Int) (a : Nat → Nat → Int), (((((pc y1) * 27010) + 0) + ((5 - y5) * 1)) + 0).toNat ≤ n → iv a → jfr jW_X12_finds a0 a → 1 ≤ y1 → y1 ≤ 4095 → 0 ≤ y3 → y3 ≤ 26999 → 1 ≤ y4 → y4 ≤ 12 → 0 ≤ y5 → y5 ≤ 5 → 0 ≤ y1 → y1 ≤ 4095 → (2 * (a 146 64)) + (pc y1) ≤ 12 → y1 < jxshl 1 (a 146 56) → 1 ≤ y1 → (FO a) → (0 ≤ y3 ∧ y3 < a 146 58 ∧ jxand (a 184 y3.toNat) y1 = a 184 y3.toNat) → a 146 64 ≤ 5 → 2 ≤ y4 → y4 ≤ 5 → (y4 = pc (a 184 y3.toNat)) → 0 ≤ y5 → y5 < y4 → 1 ≤ a0 146 56 → (∀ (n : Nat) (g k : Nat → Nat → Bool), FDH a0 n g k → FNQ a0 a n g k y1 y3 y4 (y5 + 1)) → jt (jxX E d 272 174 [some (.inr (.inr (.inl 146))), some (.inl y1), none, some (.inl y3), some (.inl y4), some (.inl y5)] [] (jxSH, a, b0)) (jQ_X12_finds a0 b0) := by
    intro y1 y3 y4 y5 a hm hv hf hi0 hi1 hi2 hi3 hi4 hi5 hi6 hi7 hi8 hi9 hi10 hi11 hi12 hi13 hring hi15 hi16 hi17 hy4 hi19 hi20 hi21 hnq
    refine jt_eq (bq_X12_finds_174 E d y1 y3 y4 y5 a b0) ?_
    have h1385_ := iv_get hv (k := 146) (j := 64) (l := 0) (u := 6) rfl
    have h1386_ := pc_bd y1
    have h1387_ := iv_get hv (k := 146) (j := 56) (l := 0) (u := 12) rfl
    have h1388_ : a 146 56 = a0 146 56 := hf 146 56 rfl
    have h1389_ := iv_get hv0 (k := 146) (j := 56) (l := 0) (u := 12) rfl
    have h1390_ := jxshl1_b (a 146 56)
    have e56_ := hf 146 56 rfl
    have r183_ : ∀ j, a 183 j = a0 183 j := fun j => hf 183 j rfl
    have r184_ : ∀ j, a 184 j = a0 184 j := fun j => hf 184 j rfl
    have r185_ : ∀ j, a 185 j = a0 185 j := fun j => hf 185 j rfl
    have r186_ : ∀ j, a 186 j = a0 186 j := fun j => hf 186 j rfl
    have r191_ : ∀ j, a 191 j = a0 191 j := fun j => hf 191 j rfl
    have h1391_ : jxw (y5 + 1) = y5 + 1 := jxw_id (by omega) (by omega)
    exact ih134 y1 y3 y4 (jxw (y5 + 1)) a (show (((((pc y1) * 27010) + 0) + ((5 - (jxw (y5 + 1))) * 1)) + 0).toNat < n from by omega) hv hf (show 1 ≤ y1 from by omega) (show y1 ≤ 4095 from by omega) (show 0 ≤ y3 from by omega) (show y3 ≤ 26999 from by omega) (show 0 ≤ y4 from by omega) (show y4 ≤ 12 from by omega) (show 0 ≤ jxw (y5 + 1) from by omega) (show jxw (y5 + 1) ≤ 5 from by omega) (show 0 ≤ y1 from by omega) (show y1 ≤ 4095 from by omega) (show (2 * (a 146 64)) + (pc y1) ≤ 12 from by omega) (show y1 < jxshl 1 (a 146 56) from by omega) (show 1 ≤ y1 from by omega) hi13 (by first | assumption | (rcases hring with h | h <;> first | exact absurd h (by assumption) | exact h)) (show a 146 64 ≤ 5 from by omega) (show 2 ≤ y4 from by omega) (show y4 ≤ 5 from by omega) (by first | assumption | omega) (show 0 ≤ jxw (y5 + 1) from by omega) (show jxw (y5 + 1) ≤ y4 from by omega) (show 1 ≤ a0 146 56 from by omega) (by rw [show jxw (y5 + 1) = y5 + 1 from jxw_id (by omega) (by omega)]; exact hnq)
  have hc199 : ∀ (y1 : Int) (a : Nat → Nat → Int), (((pc y1) * 27010) + 27010).toNat ≤ n → iv a → jfr jW_X12_finds a0 a → 0 ≤ y1 → y1 ≤ 4095 → 0 ≤ y1 → y1 ≤ 4095 → (2 * (a 146 64)) + (pc y1) ≤ 12 → y1 < jxshl 1 (a 146 56) → (FO a) → (a0 146 56 = 0 → (y1 = 0 ∧ a 146 64 = 0)) → (∀ (n : Nat) (g k : Nat → Nat → Bool), FDH a0 n g k → FNI a0 a n g k y1) → jt (jxX E d 272 199 [some (.inr (.inr (.inl 146))), some (.inl y1), none, none, none, none] [] (jxSH, a, b0)) (jQ_X12_finds a0 b0) := by
    intro y1 a hm hv hf hi0 hi1 hi2 hi3 hi4 hi5 hi6 hi7 hni
    refine jt_eq (bq_X12_finds_199 E d y1 a b0) ?_
    have h1392_ := iv_get hv (k := 146) (j := 64) (l := 0) (u := 6) rfl
    have h1393_ := pc_bd y1
    have h1394_ := iv_get hv (k := 146) (j := 56) (l := 0) (u := 12) rfl
    have h1395_ : a 146 56 = a0 146 56 := hf 146 56 rfl
    have h1396_ := iv_get hv0 (k := 146) (j := 56) (l := 0) (u := 12) rfl
    have h1397_ := jxshl1_b (a 146 56)
    have e56_ := hf 146 56 rfl
    have r183_ : ∀ j, a 183 j = a0 183 j := fun j => hf 183 j rfl
    have r184_ : ∀ j, a 184 j = a0 184 j := fun j => hf 184 j rfl
    have r185_ : ∀ j, a 185 j = a0 185 j := fun j => hf 185 j rfl
    have r186_ : ∀ j, a 186 j = a0 186 j := fun j => hf 186 j rfl
    have r191_ : ∀ j, a 191 j = a0 191 j := fun j => hf 191 j rfl
    exact ih14 y1 a (show (((pc y1) * 27010) + 27009).toNat < n from by omega) hv hf (show 0 ≤ y1 from by omega) (show y1 ≤ 4095 from by omega) (show 0 ≤ y1 from by omega) (show y1 ≤ 4095 from by omega) (show (2 * (a 146 64)) + (pc y1) ≤ 12 from by omega) (show y1 < jxshl 1 (a 146 56) from by omega) hi6 (show (a0 146 56 = 0 → (y1 = 0 ∧ a 146 64 = 0)) from by omega) hni
  have hc134 : ∀ (y1 y3 y4 y5 : Int) (a : Nat → Nat → Int), (((((pc y1) * 27010) + 0) + ((5 - y5) * 1)) + 0).toNat ≤ n → iv a → jfr jW_X12_finds a0 a → 1 ≤ y1 → y1 ≤ 4095 → 0 ≤ y3 → y3 ≤ 26999 → 0 ≤ y4 → y4 ≤ 12 → 0 ≤ y5 → y5 ≤ 5 → 0 ≤ y1 → y1 ≤ 4095 → (2 * (a 146 64)) + (pc y1) ≤ 12 → y1 < jxshl 1 (a 146 56) → 1 ≤ y1 → (FO a) → (0 ≤ y3 ∧ y3 < a 146 58 ∧ jxand (a 184 y3.toNat) y1 = a 184 y3.toNat) → a 146 64 ≤ 5 → 2 ≤ y4 → y4 ≤ 5 → (y4 = pc (a 184 y3.toNat)) → 0 ≤ y5 → y5 ≤ y4 → 1 ≤ a0 146 56 → (∀ (n : Nat) (g k : Nat → Nat → Bool), FDH a0 n g k → FNQ a0 a n g k y1 y3 y4 y5) → jt (jxX E d 272 134 [some (.inr (.inr (.inl 146))), some (.inl y1), none, some (.inl y3), some (.inl y4), some (.inl y5)] [] (jxSH, a, b0)) (jQ_X12_finds a0 b0) := by
    intro y1 y3 y4 y5 a hm hv hf hi0 hi1 hi2 hi3 hi4 hi5 hi6 hi7 hi8 hi9 hi10 hi11 hi12 hi13 hring hi15 hi16 hi17 hy4 hi19 hi20 hi21 hnq
    refine jt_eq (bq_X12_finds_134 E d y1 y3 y4 y5 a b0) ?_
    have h1398_ := iv_get hv (k := 146) (j := 64) (l := 0) (u := 6) rfl
    have h1399_ := pc_bd y1
    have h1400_ := iv_get hv (k := 146) (j := 56) (l := 0) (u := 12) rfl
    have h1401_ : a 146 56 = a0 146 56 := hf 146 56 rfl
    have h1402_ := iv_get hv0 (k := 146) (j := 56) (l := 0) (u := 12) rfl
    have h1403_ := jxshl1_b (a 146 56)
    have hrs := (RS_fr hp0 hf rfl (fun _ => rfl) (fun _ => rfl)) y3.toNat (by omega)
    have i58 := iv_get hv (k := 146) (j := 58) (l := 0) (u := 27000) rfl
    have i184 := iv_get hv (k := 184) (j := y3.toNat) (l := 0) (u := 4095) rfl
    have hnib : y5 < y4 → jxand (jxshr (a 185 (y3.toNat)) (jxw (4 * y5))) 15 < 12 := fun h => by have h1 := hrs.2.2 y5.toNat (by omega); rw [Int.toNat_of_nonneg (by omega)] at h1; rw [jxw_id (by omega) (by omega)]; exact h1
    have hnib0 := jxand_r (jxshr (a 185 (y3.toNat)) (jxw (4 * y5))) 15 (by decide) (by decide)
    have hx1 := xor_sub (x := y1) (s := a 184 (y3.toNat)) (by omega) (by omega) (by omega) (by omega) hring.2.2
    have hx4 := xor_le (x := y1) (s := a 184 (y3.toNat)) (by omega) (by omega) (by omega) (by omega) hring.2.2
    have hfw := (FW_fr hp1 hf rfl (fun _ => rfl)) ((jxand (jxshr (a 185 (y3.toNat)) (jxw (4 * y5))) 15).toNat)
    have i56 := iv_get hv (k := 146) (j := 56) (l := 0) (u := 12) rfl
    have hs0 := jxshl1_b (a 146 56)
    have hs00 : a 146 56 = 0 → jxshl 1 (a 146 56) = 1 := fun h => by rw [h]; decide +kernel
    have e56_ := hf 146 56 rfl
    have r183_ : ∀ j, a 183 j = a0 183 j := fun j => hf 183 j rfl
    have r184_ : ∀ j, a 184 j = a0 184 j := fun j => hf 184 j rfl
    have r185_ : ∀ j, a 185 j = a0 185 j := fun j => hf 185 j rfl
    have r186_ : ∀ j, a 186 j = a0 186 j := fun j => hf 186 j rfl
    have r191_ : ∀ j, a 191 j = a0 191 j := fun j => hf 191 j rfl
    refine jt_ite (fun c1404_ => ?_) (fun c1404_ => ?_)
    ·
      refine jt_grd (by omega) ?_
      have h1405_ : a 185 (y3.toNat) = a0 185 (y3.toNat) := hf 185 (y3.toNat) rfl
      have h1406_ : jxw (4 * y5) = 4 * y5 := jxw_id (by omega) (by omega)
      have h1407_ := jxshr_b (a 185 (y3.toNat)) (jxw (4 * y5))
      have h1408_ := jxand_r (jxshr (a 185 (y3.toNat)) (jxw (4 * y5))) 15 (by decide) (by decide)
      refine jt_grd (by omega) ?_
      have h1409_ : jxw (5 * (a 146 64)) = 5 * (a 146 64) := jxw_id (by omega) (by omega)
      have h1410_ : jxw ((jxw (5 * (a 146 64))) + y5) = (jxw (5 * (a 146 64))) + y5 := jxw_id (by omega) (by omega)
      refine jt_grd (by omega) ?_
      have h1412_ := iv_get hv (k := 183) (j := (jxand (jxshr (a 185 (y3.toNat)) (jxw (4 * y5))) 15).toNat) (l := 0) (u := 19) rfl
      have h1413_ : a 183 ((jxand (jxshr (a 185 (y3.toNat)) (jxw (4 * y5))) 15).toNat) = a0 183 ((jxand (jxshr (a 185 (y3.toNat)) (jxw (4 * y5))) 15).toNat) := hf 183 ((jxand (jxshr (a 185 (y3.toNat)) (jxw (4 * y5))) 15).toNat) rfl
      have h1414_ := iv_get hv0 (k := 183) (j := (jxand (jxshr (a 185 (y3.toNat)) (jxw (4 * y5))) 15).toNat) (l := 0) (u := 19) rfl
      have hv1411_ : iv (jxu a 189 ((jxw ((jxw (5 * (a 146 64))) + y5)).toNat) (a 183 ((jxand (jxshr (a 185 (y3.toNat)) (jxw (4 * y5))) 15).toNat))) := iv_put hv (l := 0) (u := 19) rfl (by omega) (by omega)
      have hf1415_ : jfr jW_X12_finds a0 (jxu a 189 ((jxw ((jxw (5 * (a 146 64))) + y5)).toNat) (a 183 ((jxand (jxshr (a 185 (y3.toNat)) (jxw (4 * y5))) 15).toNat))) := jfr_put hf rfl
      have h1416_ := iv_get hv (k := 146) (j := 49) (l := 0) (u := 20) rfl
      have h1417_ : a 146 49 = a0 146 49 := hf 146 49 rfl
      have h1418_ := iv_get hv0 (k := 146) (j := 49) (l := 0) (u := 20) rfl
      have hg1419_ : FO (jxu a 189 ((jxw ((jxw (5 * (a 146 64))) + y5)).toNat) (a 183 ((jxand (jxshr (a 185 (y3.toNat)) (jxw (4 * y5))) 15).toNat))) := (FO_put189 hi13 (show a 183 ((jxand (jxshr (a 185 (y3.toNat)) (jxw (4 * y5))) 15).toNat) = 0 ∨ a 183 ((jxand (jxshr (a 185 (y3.toNat)) (jxw (4 * y5))) 15).toNat) < a 146 49 from by omega))
      exact hc174 y1 y3 y4 y5 (jxu a 189 ((jxw ((jxw (5 * (a 146 64))) + y5)).toNat) (a 183 ((jxand (jxshr (a 185 (y3.toNat)) (jxw (4 * y5))) 15).toNat))) (show (((((pc y1) * 27010) + 0) + ((5 - y5) * 1)) + 0).toNat ≤ n from by omega) hv1411_ hf1415_ (show 1 ≤ y1 from by omega) (show y1 ≤ 4095 from by omega) (show 0 ≤ y3 from by omega) (show y3 ≤ 26999 from by omega) (show 1 ≤ y4 from by omega) (show y4 ≤ 12 from by omega) (show 0 ≤ y5 from by omega) (show y5 ≤ 5 from by omega) (show 0 ≤ y1 from by omega) (show y1 ≤ 4095 from by omega) (show (2 * (a 146 64)) + (pc y1) ≤ 12 from by omega) (show y1 < jxshl 1 (a 146 56) from by omega) (show 1 ≤ y1 from by omega) hg1419_ (by first | assumption | (rcases hring with h | h <;> first | exact absurd h (by assumption) | exact h)) (show a 146 64 ≤ 5 from by omega) (show 2 ≤ y4 from by omega) (show y4 ≤ 5 from by omega) (by first | assumption | omega) (show 0 ≤ y5 from by omega) (show y5 < y4 from by omega) (show 1 ≤ a0 146 56 from by omega) (fun n g k hF => FNQ_put hF (hnq n g k hF) (by omega) (by assumption) (by have z := iv_get hv (k := 146) (j := 64) (l := 0) (u := 6) rfl; omega) r183_ (r185_ _))
    ·
      refine jt_grd (by omega) ?_
      have h1421_ : jxw ((a 146 64) + 1) = (a 146 64) + 1 := jxw_id (by omega) (by omega)
      have hv1420_ : iv (jxu a 146 64 (jxw ((a 146 64) + 1))) := iv_put hv (l := 0) (u := 6) rfl (by omega) (by omega)
      have hf1422_ : jfr jW_X12_finds a0 (jxu a 146 64 (jxw ((a 146 64) + 1))) := jfr_put hf rfl
      have h1423_ := iv_get hv (k := 184) (j := y3.toNat) (l := 0) (u := 4095) rfl
      have h1424_ : a 184 (y3.toNat) = a0 184 (y3.toNat) := hf 184 (y3.toNat) rfl
      have h1425_ := iv_get hv0 (k := 184) (j := y3.toNat) (l := 0) (u := 4095) rfl
      have h1426_ := jxxor_b y1 (a 184 (y3.toNat))
      have h1427_ := pc_bd (jxxor y1 (a 184 (y3.toNat)))
      have h1428_ := iv_get hv (k := 146) (j := 49) (l := 0) (u := 20) rfl
      have h1429_ : a 146 49 = a0 146 49 := hf 146 49 rfl
      have h1430_ := iv_get hv0 (k := 146) (j := 49) (l := 0) (u := 20) rfl
      have hg1431_ : FO (jxu a 146 64 (jxw ((a 146 64) + 1))) := (FO_put64 hi13 (show jxw ((a 146 64) + 1) = 0 ∨ 1 ≤ a 146 49 from by omega))
      exact hc199 (jxxor y1 (a 184 (y3.toNat))) (jxu a 146 64 (jxw ((a 146 64) + 1))) (show (((pc (jxxor y1 (a 184 (y3.toNat)))) * 27010) + 27010).toNat ≤ n from by omega) hv1420_ hf1422_ (show 0 ≤ jxxor y1 (a 184 (y3.toNat)) from by omega) (show jxxor y1 (a 184 (y3.toNat)) ≤ 4095 from by omega) (show 0 ≤ jxxor y1 (a 184 (y3.toNat)) from by omega) (show jxxor y1 (a 184 (y3.toNat)) ≤ 4095 from by omega) (show (2 * (jxw ((a 146 64) + 1))) + (pc (jxxor y1 (a 184 (y3.toNat)))) ≤ 12 from by omega) (show jxxor y1 (a 184 (y3.toNat)) < jxshl 1 (a 146 56) from by omega) hg1431_ (show (a0 146 56 = 0 → (jxxor y1 (a 184 (y3.toNat)) = 0 ∧ jxw ((a 146 64) + 1) = 0)) from by omega) (fun n g k hF => FNI_yes hF (hnq n g k hF) (by assumption) (by have z := iv_get hv (k := 146) (j := 64) (l := 0) (u := 6) rfl; omega) (r184_ _))
  have hc131 : ∀ (y1 y3 y4 : Int) (a : Nat → Nat → Int), (((pc y1) * 27010) + 7).toNat ≤ n → iv a → jfr jW_X12_finds a0 a → 1 ≤ y1 → y1 ≤ 4095 → 0 ≤ y3 → y3 ≤ 26999 → 0 ≤ y4 → y4 ≤ 12 → 0 ≤ y1 → y1 ≤ 4095 → (2 * (a 146 64)) + (pc y1) ≤ 12 → y1 < jxshl 1 (a 146 56) → 1 ≤ y1 → (FO a) → (0 ≤ y3 ∧ y3 < a 146 58 ∧ jxand (a 184 y3.toNat) y1 = a 184 y3.toNat) → a 146 64 ≤ 5 → 2 ≤ y4 → y4 ≤ 5 → (y4 = pc (a 184 y3.toNat)) → 1 ≤ a0 146 56 → (∀ (n : Nat) (g k : Nat → Nat → Bool), FDH a0 n g k → FNQ a0 a n g k y1 y3 y4 0) → jt (jxX E d 272 131 [some (.inr (.inr (.inl 146))), some (.inl y1), none, some (.inl y3), some (.inl y4), none] [] (jxSH, a, b0)) (jQ_X12_finds a0 b0) := by
    intro y1 y3 y4 a hm hv hf hi0 hi1 hi2 hi3 hi4 hi5 hi6 hi7 hi8 hi9 hi10 hi11 hring hi13 hi14 hi15 hy4 hi17 hnq
    refine jt_eq (bq_X12_finds_131 E d y1 y3 y4 a b0) ?_
    have h1432_ := iv_get hv (k := 146) (j := 64) (l := 0) (u := 6) rfl
    have h1433_ := pc_bd y1
    have h1434_ := iv_get hv (k := 146) (j := 56) (l := 0) (u := 12) rfl
    have h1435_ : a 146 56 = a0 146 56 := hf 146 56 rfl
    have h1436_ := iv_get hv0 (k := 146) (j := 56) (l := 0) (u := 12) rfl
    have h1437_ := jxshl1_b (a 146 56)
    have e56_ := hf 146 56 rfl
    have r183_ : ∀ j, a 183 j = a0 183 j := fun j => hf 183 j rfl
    have r184_ : ∀ j, a 184 j = a0 184 j := fun j => hf 184 j rfl
    have r185_ : ∀ j, a 185 j = a0 185 j := fun j => hf 185 j rfl
    have r186_ : ∀ j, a 186 j = a0 186 j := fun j => hf 186 j rfl
    have r191_ : ∀ j, a 191 j = a0 191 j := fun j => hf 191 j rfl
    exact hc134 y1 y3 y4 0 a (show (((((pc y1) * 27010) + 0) + ((5 - 0) * 1)) + 0).toNat ≤ n from by omega) hv hf (show 1 ≤ y1 from by omega) (show y1 ≤ 4095 from by omega) (show 0 ≤ y3 from by omega) (show y3 ≤ 26999 from by omega) (show 0 ≤ y4 from by omega) (show y4 ≤ 12 from by omega) (show 0 ≤ 0 from by omega) (show 0 ≤ 5 from by omega) (show 0 ≤ y1 from by omega) (show y1 ≤ 4095 from by omega) (show (2 * (a 146 64)) + (pc y1) ≤ 12 from by omega) (show y1 < jxshl 1 (a 146 56) from by omega) (show 1 ≤ y1 from by omega) hi11 (by first | assumption | (rcases hring with h | h <;> first | exact absurd h (by assumption) | exact h)) (show a 146 64 ≤ 5 from by omega) (show 2 ≤ y4 from by omega) (show y4 ≤ 5 from by omega) (by first | assumption | omega) (show 0 ≤ 0 from by omega) (show 0 ≤ y4 from by omega) (show 1 ≤ a0 146 56 from by omega) hnq
  have hc95 : ∀ (y1 y2 y3 : Int) (a : Nat → Nat → Int), (((pc y1) * 27010) + 7).toNat ≤ n → iv a → jfr jW_X12_finds a0 a → 1 ≤ y1 → y1 ≤ 4095 → 0 ≤ y2 → y2 ≤ 11 → 0 - 1 ≤ y3 → y3 ≤ 26999 → 0 ≤ y1 → y1 ≤ 4095 → (2 * (a 146 64)) + (pc y1) ≤ 12 → y1 < jxshl 1 (a 146 56) → 1 ≤ y1 → 0 ≤ y2 → y2 < a 146 56 → (FO a) → (¬ jxand (jxshr y1 y2) 1 = 0) → (y3 = -1 ∨ (0 ≤ y3 ∧ y3 < a 146 58 ∧ jxand (a 184 y3.toNat) y1 = a 184 y3.toNat)) → 1 ≤ a0 146 56 → (∀ (n : Nat) (g k : Nat → Nat → Bool), FDH a0 n g k → FNI a0 a n g k y1) → (LST y2.toNat y1.toNat) → (∀ (n : Nat) (g k : Nat → Nat → Bool), FDH a0 n g k → FTE a0 n g k y1 y2 y3) → jt (jxX E d 272 95 [some (.inr (.inr (.inl 146))), some (.inl y1), some (.inl y2), some (.inl y3), none, none] [] (jxSH, a, b0)) (jQ_X12_finds a0 b0) := by
    intro y1 y2 y3 a hm hv hf hi0 hi1 hi2 hi3 hi4 hi5 hi6 hi7 hi8 hi9 hi10 hi11 hi12 hi13 hbit hring hi16 hni hls hte
    refine jt_eq (bq_X12_finds_95 E d y1 y2 y3 a b0) ?_
    have h1438_ := iv_get hv (k := 146) (j := 64) (l := 0) (u := 6) rfl
    have h1439_ := pc_bd y1
    have h1440_ := iv_get hv (k := 146) (j := 56) (l := 0) (u := 12) rfl
    have h1441_ : a 146 56 = a0 146 56 := hf 146 56 rfl
    have h1442_ := iv_get hv0 (k := 146) (j := 56) (l := 0) (u := 12) rfl
    have h1443_ := jxshl1_b (a 146 56)
    have hx1 := xor_shl (x := y1) (k := y2) (by omega) (by omega) (by omega) (by have := iv_get hv (k := 146) (j := 56) (l := 0) (u := 12) rfl; omega) hbit
    have hx2 := and_shl (x := y1) (k := y2) (by omega) (by omega) (by omega) (by have := iv_get hv (k := 146) (j := 56) (l := 0) (u := 12) rfl; omega) hbit
    have hx3 := jxshl1_b y2
    have hx4 := xor_le (x := y1) (s := jxshl 1 y2) (by omega) (by omega) (by have := iv_get hv (k := 146) (j := 56) (l := 0) (u := 12) rfl; omega) (by have := iv_get hv (k := 146) (j := 56) (l := 0) (u := 12) rfl; omega) hx2.1
    have i58 := iv_get hv (k := 146) (j := 58) (l := 0) (u := 27000) rfl
    have i184 := iv_get hv (k := 184) (j := y3.toNat) (l := 0) (u := 4095) rfl
    have hrs : y3 = -1 ∨ _ := (Classical.em (y3 = -1)).imp id (fun h => (RS_fr hp0 hf rfl (fun _ => rfl) (fun _ => rfl)) y3.toNat (by omega))
    have hps : y3 = -1 ∨ pc (a 184 (y3.toNat)) ≤ pc y1 := hring.imp id (fun h => pc_sub (by omega) (by omega) (by omega) (by omega) h.2.2)
    have e56_ := hf 146 56 rfl
    have r183_ : ∀ j, a 183 j = a0 183 j := fun j => hf 183 j rfl
    have r184_ : ∀ j, a 184 j = a0 184 j := fun j => hf 184 j rfl
    have r185_ : ∀ j, a 185 j = a0 185 j := fun j => hf 185 j rfl
    have r186_ : ∀ j, a 186 j = a0 186 j := fun j => hf 186 j rfl
    have r191_ : ∀ j, a 191 j = a0 191 j := fun j => hf 191 j rfl
    refine jt_ite (fun c1444_ => ?_) (fun c1444_ => ?_)
    ·
      have h1445_ := jxshl1_b y2
      have h1446_ := jxxor_b y1 (jxshl 1 y2)
      have h1447_ := pc_bd (jxxor y1 (jxshl 1 y2))
      exact ih14 (jxxor y1 (jxshl 1 y2)) a (show (((pc (jxxor y1 (jxshl 1 y2))) * 27010) + 27009).toNat < n from by omega) hv hf (show 0 ≤ jxxor y1 (jxshl 1 y2) from by omega) (show jxxor y1 (jxshl 1 y2) ≤ 4095 from by omega) (show 0 ≤ jxxor y1 (jxshl 1 y2) from by omega) (show jxxor y1 (jxshl 1 y2) ≤ 4095 from by omega) (show (2 * (a 146 64)) + (pc (jxxor y1 (jxshl 1 y2))) ≤ 12 from by omega) (show jxxor y1 (jxshl 1 y2) < jxshl 1 (a 146 56) from by omega) hi13 (show (a0 146 56 = 0 → (jxxor y1 (jxshl 1 y2) = 0 ∧ a 146 64 = 0)) from by omega) (fun n g k hF => FNI_no hF (hni n g k hF) hls (by omega) (hte n g k hF) (by assumption) rfl (fun _ => rfl) (fun _ => rfl))
    ·
      refine jt_grd (by omega) ?_
      refine jt_bI (sp_X12_sizeOf E d (jd_le hd rfl) (a 184 (y3.toNat)) a b0 hv) (fun r1448_ a1448_ b1448_ h1448_ => ?_)
      obtain ⟨rfl, rfl, hq1448_0, hq1448_1⟩ := h1448_
      have h1449_ := iv_get hv (k := 184) (j := y3.toNat) (l := 0) (u := 4095) rfl
      have h1450_ : a 184 (y3.toNat) = a0 184 (y3.toNat) := hf 184 (y3.toNat) rfl
      have h1451_ := iv_get hv0 (k := 184) (j := y3.toNat) (l := 0) (u := 4095) rfl
      have h1452_ := pc_bd (a 184 (y3.toNat))
      refine jt_grd (by omega) ?_
      have hv1453_ : iv (jxu a 190 ((a 146 64).toNat) r1448_) := iv_put hv (l := 0) (u := 5) rfl (by omega) (by omega)
      have hf1454_ : jfr jW_X12_finds a0 (jxu a 190 ((a 146 64).toNat) r1448_) := jfr_put hf rfl
      have hg1455_ : FO (jxu a 190 ((a 146 64).toNat) r1448_) := (FO_fr hi13 (jfr_1 a 190 ((a 146 64).toNat) r1448_) rfl rfl (fun _ => rfl))
      exact hc131 y1 y3 r1448_ (jxu a 190 ((a 146 64).toNat) r1448_) (show (((pc y1) * 27010) + 7).toNat ≤ n from by omega) hv1453_ hf1454_ (show 1 ≤ y1 from by omega) (show y1 ≤ 4095 from by omega) (show 0 ≤ y3 from by omega) (show y3 ≤ 26999 from by omega) (show 0 ≤ r1448_ from by omega) (show r1448_ ≤ 12 from by omega) (show 0 ≤ y1 from by omega) (show y1 ≤ 4095 from by omega) (show (2 * (a 146 64)) + (pc y1) ≤ 12 from by omega) (show y1 < jxshl 1 (a 146 56) from by omega) (show 1 ≤ y1 from by omega) hg1455_ (by first | assumption | (rcases hring with h | h <;> first | exact absurd h (by assumption) | exact h)) (show a 146 64 ≤ 5 from by omega) (show 2 ≤ r1448_ from by omega) (show r1448_ ≤ 5 from by omega) (by first | assumption | omega) (show 1 ≤ a0 146 56 from by omega) (fun n g k hF => FNQ_of hF (hni n g k hF) hls (hte n g k hF) (by assumption) (by rw [← r184_]; exact hq1448_1))
  have hc33 : ∀ (y1 y2 y3 y4 : Int) (a : Nat → Nat → Int), (((((pc y1) * 27010) + 7) + ((27000 - y4) * 1)) + 0).toNat ≤ n → iv a → jfr jW_X12_finds a0 a → 1 ≤ y1 → y1 ≤ 4095 → 0 ≤ y2 → y2 ≤ 11 → 0 - 1 ≤ y3 → y3 ≤ 26999 → 0 ≤ y4 → y4 ≤ 27000 → 0 ≤ y1 → y1 ≤ 4095 → (2 * (a 146 64)) + (pc y1) ≤ 12 → y1 < jxshl 1 (a 146 56) → 1 ≤ y1 → 0 ≤ y2 → y2 < a 146 56 → (FO a) → (¬ jxand (jxshr y1 y2) 1 = 0) → (y3 = -1 ∨ (0 ≤ y3 ∧ y3 < a 146 58 ∧ jxand (a 184 y3.toNat) y1 = a 184 y3.toNat)) → 0 ≤ y4 → 1 ≤ a0 146 56 → (∀ (n : Nat) (g k : Nat → Nat → Bool), FDH a0 n g k → FNI a0 a n g k y1) → (LST y2.toNat y1.toNat) → (∀ (n : Nat) (g k : Nat → Nat → Bool), FDH a0 n g k → FTK a0 n g k y1 y2 y3 y4) → jt (jxX E d 272 33 [some (.inr (.inr (.inl 146))), some (.inl y1), some (.inl y2), some (.inl y3), some (.inl y4), none] [] (jxSH, a, b0)) (jQ_X12_finds a0 b0) := by
    intro y1 y2 y3 y4 a hm hv hf hi0 hi1 hi2 hi3 hi4 hi5 hi6 hi7 hi8 hi9 hi10 hi11 hi12 hi13 hi14 hi15 hbit hring hi18 hi19 hni hls htk
    refine jt_eq (bq_X12_finds_33 E d y1 y2 y3 y4 a b0) ?_
    have h1456_ := iv_get hv (k := 146) (j := 64) (l := 0) (u := 6) rfl
    have h1457_ := pc_bd y1
    have h1458_ := iv_get hv (k := 146) (j := 56) (l := 0) (u := 12) rfl
    have h1459_ : a 146 56 = a0 146 56 := hf 146 56 rfl
    have h1460_ := iv_get hv0 (k := 146) (j := 56) (l := 0) (u := 12) rfl
    have h1461_ := jxshl1_b (a 146 56)
    have hrf := RF_fr hp3 hf y2 (by have := hf 146 56 rfl; omega)
    have i58 := iv_get hv (k := 146) (j := 58) (l := 0) (u := 27000) rfl
    have e56_ := hf 146 56 rfl
    have r183_ : ∀ j, a 183 j = a0 183 j := fun j => hf 183 j rfl
    have r184_ : ∀ j, a 184 j = a0 184 j := fun j => hf 184 j rfl
    have r185_ : ∀ j, a 185 j = a0 185 j := fun j => hf 185 j rfl
    have r186_ : ∀ j, a 186 j = a0 186 j := fun j => hf 186 j rfl
    have r191_ : ∀ j, a 191 j = a0 191 j := fun j => hf 191 j rfl
    have h1462_ : jxw (y2 + 1) = y2 + 1 := jxw_id (by omega) (by omega)
    refine jt_grd (by omega) ?_
    have h1463_ := iv_get hv (k := 186) (j := (jxw (y2 + 1)).toNat) (l := 0) (u := 27000) rfl
    have h1464_ : a 186 ((jxw (y2 + 1)).toNat) = a0 186 ((jxw (y2 + 1)).toNat) := hf 186 ((jxw (y2 + 1)).toNat) rfl
    have h1465_ := iv_get hv0 (k := 186) (j := (jxw (y2 + 1)).toNat) (l := 0) (u := 27000) rfl
    refine jt_ite (fun c1466_ => ?_) (fun c1466_ => ?_)
    ·
      refine jt_ite (fun c1467_ => ?_) (fun c1467_ => ?_)
      ·
        refine jt_grd (by omega) ?_
        refine jt_grd (by omega) ?_
        have h1468_ := iv_get hv (k := 184) (j := y4.toNat) (l := 0) (u := 4095) rfl
        have h1469_ : a 184 (y4.toNat) = a0 184 (y4.toNat) := hf 184 (y4.toNat) rfl
        have h1470_ := iv_get hv0 (k := 184) (j := y4.toNat) (l := 0) (u := 4095) rfl
        have h1471_ := jxand_b (a 184 (y4.toNat)) y1
        refine jt_ite (fun c1472_ => ?_) (fun c1472_ => ?_)
        ·
          have h1473_ := iv_get hv (k := 146) (j := 58) (l := 0) (u := 27000) rfl
          have h1474_ : a 146 58 = a0 146 58 := hf 146 58 rfl
          have h1475_ := iv_get hv0 (k := 146) (j := 58) (l := 0) (u := 27000) rfl
          exact hc70 y1 y2 y3 y4 a (show (((((pc y1) * 27010) + 7) + ((27000 - y4) * 1)) + 0).toNat ≤ n from by omega) hv hf (show 1 ≤ y1 from by omega) (show y1 ≤ 4095 from by omega) (show 0 ≤ y2 from by omega) (show y2 ≤ 11 from by omega) (show 0 - 1 ≤ y3 from by omega) (show y3 ≤ 0 - 1 from by omega) (show 0 ≤ y4 from by omega) (show y4 ≤ 26999 from by omega) (show 0 ≤ y1 from by omega) (show y1 ≤ 4095 from by omega) (show (2 * (a 146 64)) + (pc y1) ≤ 12 from by omega) (show y1 < jxshl 1 (a 146 56) from by omega) (show 1 ≤ y1 from by omega) (show 0 ≤ y2 from by omega) (show y2 < a 146 56 from by omega) hi15 (by first | assumption | exact hq0_2) (by first | exact Or.inl rfl | assumption | (exact Or.inr ⟨by omega, by omega, hsub⟩)) (show 0 ≤ y4 from by omega) (show y4 < a 146 58 from by omega) (by assumption) (show 1 ≤ a0 146 56 from by omega) hni hls htk (by assumption) (by have e86_ := r186_ (y2.toNat + 1); rw [← e86_, ← show (jxw (y2 + 1)).toNat = y2.toNat + 1 from by omega]; assumption)
        ·
          exact hc89 y1 y2 y3 y4 a (show (((((pc y1) * 27010) + 7) + ((27000 - y4) * 1)) + 0).toNat ≤ n from by omega) hv hf (show 1 ≤ y1 from by omega) (show y1 ≤ 4095 from by omega) (show 0 ≤ y2 from by omega) (show y2 ≤ 11 from by omega) (show 0 - 1 ≤ y3 from by omega) (show y3 ≤ 26999 from by omega) (show 0 ≤ y4 from by omega) (show y4 ≤ 26999 from by omega) (show 0 ≤ y1 from by omega) (show y1 ≤ 4095 from by omega) (show (2 * (a 146 64)) + (pc y1) ≤ 12 from by omega) (show y1 < jxshl 1 (a 146 56) from by omega) (show 1 ≤ y1 from by omega) (show 0 ≤ y2 from by omega) (show y2 < a 146 56 from by omega) hi15 (by first | assumption | exact hq0_2) (by first | exact Or.inl rfl | assumption | (exact Or.inr ⟨by omega, by omega, hsub⟩)) (show 0 ≤ y4 from by omega) (show y4 ≤ 26999 from by omega) (show 1 ≤ a0 146 56 from by omega) hni hls (fun n g k hF => by have hn_ := hF.1; have h12_ := hF.2.1; obtain ⟨L_, k1_, k2_, k3_, k4_, k5_⟩ := hni n g k hF; have sn_ := LST_lt hls k4_; have e86_ := r186_ (y2.toNat + 1); have e87_ : (jxw (y2 + 1)).toNat = y2.toNat + 1 := (by omega); exact FTK_skip hF k3_ k4_ sn_ (htk n g k hF) (by assumption) (by rw [← e86_, ← e87_]; assumption) (by rw [← r184_]; assumption))
      ·
        exact hc95 y1 y2 y3 a (show (((pc y1) * 27010) + 7).toNat ≤ n from by omega) hv hf (show 1 ≤ y1 from by omega) (show y1 ≤ 4095 from by omega) (show 0 ≤ y2 from by omega) (show y2 ≤ 11 from by omega) (show 0 - 1 ≤ y3 from by omega) (show y3 ≤ 26999 from by omega) (show 0 ≤ y1 from by omega) (show y1 ≤ 4095 from by omega) (show (2 * (a 146 64)) + (pc y1) ≤ 12 from by omega) (show y1 < jxshl 1 (a 146 56) from by omega) (show 1 ≤ y1 from by omega) (show 0 ≤ y2 from by omega) (show y2 < a 146 56 from by omega) hi15 (by first | assumption | exact hq0_2) (by first | exact Or.inl rfl | assumption | (exact Or.inr ⟨by omega, by omega, hsub⟩)) (show 1 ≤ a0 146 56 from by omega) hni hls (fun n g k hF => by have hn_ := hF.1; have h12_ := hF.2.1; obtain ⟨L_, k1_, k2_, k3_, k4_, k5_⟩ := hni n g k hF; have sn_ := LST_lt hls k4_; have e86_ := r186_ (y2.toNat + 1); have e87_ : (jxw (y2 + 1)).toNat = y2.toNat + 1 := (by omega); refine FTK_end hF sn_ (htk n g k hF) ?_; first | (refine Or.inr ?_; rw [← e86_, ← e87_]; assumption) | (exact Or.inl (by assumption)))
    ·
      exact hc95 y1 y2 y3 a (show (((pc y1) * 27010) + 7).toNat ≤ n from by omega) hv hf (show 1 ≤ y1 from by omega) (show y1 ≤ 4095 from by omega) (show 0 ≤ y2 from by omega) (show y2 ≤ 11 from by omega) (show 0 - 1 ≤ y3 from by omega) (show y3 ≤ 26999 from by omega) (show 0 ≤ y1 from by omega) (show y1 ≤ 4095 from by omega) (show (2 * (a 146 64)) + (pc y1) ≤ 12 from by omega) (show y1 < jxshl 1 (a 146 56) from by omega) (show 1 ≤ y1 from by omega) (show 0 ≤ y2 from by omega) (show y2 < a 146 56 from by omega) hi15 (by first | assumption | exact hq0_2) (by first | exact Or.inl rfl | assumption | (exact Or.inr ⟨by omega, by omega, hsub⟩)) (show 1 ≤ a0 146 56 from by omega) hni hls (fun n g k hF => by have hn_ := hF.1; have h12_ := hF.2.1; obtain ⟨L_, k1_, k2_, k3_, k4_, k5_⟩ := hni n g k hF; have sn_ := LST_lt hls k4_; have e86_ := r186_ (y2.toNat + 1); have e87_ : (jxw (y2 + 1)).toNat = y2.toNat + 1 := (by omega); refine FTK_end hF sn_ (htk n g k hF) ?_; first | (refine Or.inr ?_; rw [← e86_, ← e87_]; assumption) | (exact Or.inl (by assumption)))
  have hc14 : ∀ (y1 : Int) (a : Nat → Nat → Int), (((pc y1) * 27010) + 27009).toNat ≤ n → iv a → jfr jW_X12_finds a0 a → 0 ≤ y1 → y1 ≤ 4095 → 0 ≤ y1 → y1 ≤ 4095 → (2 * (a 146 64)) + (pc y1) ≤ 12 → y1 < jxshl 1 (a 146 56) → (FO a) → (a0 146 56 = 0 → (y1 = 0 ∧ a 146 64 = 0)) → (∀ (n : Nat) (g k : Nat → Nat → Bool), FDH a0 n g k → FNI a0 a n g k y1) → jt (jxX E d 272 14 [some (.inr (.inr (.inl 146))), some (.inl y1), none, none, none, none] [] (jxSH, a, b0)) (jQ_X12_finds a0 b0) := by
    intro y1 a hm hv hf hi0 hi1 hi2 hi3 hi4 hi5 hi6 hi7 hni
    refine jt_eq (bq_X12_finds_14 E d y1 a b0) ?_
    have h1476_ := iv_get hv (k := 146) (j := 64) (l := 0) (u := 6) rfl
    have h1477_ := pc_bd y1
    have h1478_ := iv_get hv (k := 146) (j := 56) (l := 0) (u := 12) rfl
    have h1479_ : a 146 56 = a0 146 56 := hf 146 56 rfl
    have h1480_ := iv_get hv0 (k := 146) (j := 56) (l := 0) (u := 12) rfl
    have h1481_ := jxshl1_b (a 146 56)
    have hpb := pc_bd y1
    have i56 := iv_get hv (k := 146) (j := 56) (l := 0) (u := 12) rfl
    have e56_ := hf 146 56 rfl
    have r183_ : ∀ j, a 183 j = a0 183 j := fun j => hf 183 j rfl
    have r184_ : ∀ j, a 184 j = a0 184 j := fun j => hf 184 j rfl
    have r185_ : ∀ j, a 185 j = a0 185 j := fun j => hf 185 j rfl
    have r186_ : ∀ j, a 186 j = a0 186 j := fun j => hf 186 j rfl
    have r191_ : ∀ j, a 191 j = a0 191 j := fun j => hf 191 j rfl
    refine jt_ite (fun c1482_ => ?_) (fun c1482_ => ?_)
    ·
      exact jt_rV ⟨hv, hf, rfl, hi6, (show (a0 146 56 = 0 → a 146 64 = 0) from by omega), (fun n g k hF => FNI_end (hni n g k hF) (by assumption))⟩
    ·
      refine jt_bI (sp_X12_leastOf E d (jd_le hd rfl) y1 a b0 hv (show 1 ≤ y1 from by omega) (show y1 ≤ 4095 from by omega)) (fun r1483_ a1483_ b1483_ h1483_ => ?_)
      obtain ⟨rfl, rfl, hq1483_0, hq1483_1, hq1483_2, hq1483_3⟩ := h1483_
      have hb1483 := bit_le (x := y1) (k := r1483_) (by omega) (by omega) (by omega) (by omega) hq1483_2
      have hm1483 := fun h => shl_mono (j := r1483_) (k := a 146 56) (by omega) (by omega) (by have := iv_get hv (k := 146) (j := 56) (l := 0) (u := 12) rfl; omega) (by have := iv_get hv (k := 146) (j := 56) (l := 0) (u := 12) rfl; omega) h
      have hpp1483 := pc_pos (x := y1) (k := r1483_) (by omega) (by omega) hq1483_2
      refine jt_grd (by omega) ?_
      have h1484_ := iv_get hv (k := 186) (j := r1483_.toNat) (l := 0) (u := 27000) rfl
      have h1485_ : a 186 (r1483_.toNat) = a0 186 (r1483_.toNat) := hf 186 (r1483_.toNat) rfl
      have h1486_ := iv_get hv0 (k := 186) (j := r1483_.toNat) (l := 0) (u := 27000) rfl
      exact hc33 y1 r1483_ (-1) (a 186 (r1483_.toNat)) a (show (((((pc y1) * 27010) + 7) + ((27000 - (a 186 (r1483_.toNat))) * 1)) + 0).toNat ≤ n from by omega) hv hf (show 1 ≤ y1 from by omega) (show y1 ≤ 4095 from by omega) (show 0 ≤ r1483_ from by omega) (show r1483_ ≤ 11 from by omega) (show 0 - 1 ≤ (-1) from by omega) (show (-1) ≤ 26999 from by omega) (show 0 ≤ a 186 (r1483_.toNat) from by omega) (show a 186 (r1483_.toNat) ≤ 27000 from by omega) (show 0 ≤ y1 from by omega) (show y1 ≤ 4095 from by omega) (show (2 * (a 146 64)) + (pc y1) ≤ 12 from by omega) (show y1 < jxshl 1 (a 146 56) from by omega) (show 1 ≤ y1 from by omega) (show 0 ≤ r1483_ from by omega) (show r1483_ < a 146 56 from by omega) hi6 (by first | assumption | exact hq1483_2) (by first | exact Or.inl rfl | assumption | (exact Or.inr ⟨by omega, by omega, hsub⟩)) (show 0 ≤ a 186 (r1483_.toNat) from by omega) (show 1 ≤ a0 146 56 from by omega) hni hq1483_3 (fun n g k hF => FTK_0 (r186_ _))
  exact ⟨hc89, hc70, hc174, hc199, hc134, hc131, hc95, hc33, hc14⟩
theorem sp_X12_finds (E : jxE) (d : Nat) (hd : Nat.ble 3 d = true) (a0 b0 : Nat → Nat → Int) (hv0 : iv a0) (hp0 : RS a0) (hp1 : FW a0) (hp2 : FO a0) (hp3 : RF a0 (a0 146 56 + 1)) (hp4 : a0 146 56 ≤ a0 146 49) : jt (jxC E d 272 [.inr (.inr (.inl 146))] (jxSH, a0, b0)) (jQ_X12_finds a0 b0) := by
  obtain ⟨d, rfl⟩ := jd_succ hd
  refine jt_eq (bq_X12_finds E d a0 b0) ?_
  have h1487_ := iv_get hv0 (k := 146) (j := 56) (l := 0) (u := 12) rfl
  have h1488_ := iv_get hv0 (k := 146) (j := 49) (l := 0) (u := 20) rfl
  have hs1 := jxshl1_b (a0 146 56)
  have hpb := pc_bd (jxw ((jxshl 1 (a0 146 56)) - 1))
  have i56 := iv_get hv0 (k := 146) (j := 56) (l := 0) (u := 12) rfl
  have hz0 : a0 146 56 = 0 → jxshl 1 (a0 146 56) = 1 := fun h => by rw [h]; decide +kernel
  have hv1489_ : iv (jxu a0 146 64 0) := iv_put hv0 (l := 0) (u := 6) rfl (by omega) (by omega)
  have hf1490_ : jfr jW_X12_finds a0 (jxu a0 146 64 0) := jfr_put (jfr_rf _ _) rfl
  have h1491_ := jxshl1_b (a0 146 56)
  have h1492_ : jxw ((jxshl 1 (a0 146 56)) - 1) = (jxshl 1 (a0 146 56)) - 1 := jxw_id (by omega) (by omega)
  have h1493_ := pc_bd (jxw ((jxshl 1 (a0 146 56)) - 1))
  have hg1494_ : FO (jxu a0 146 64 0) := (FO_put64 hp2 (show 0 = 0 ∨ 1 ≤ a0 146 49 from by omega))
  exact (cp_X12_finds_14 E d hd a0 b0 hv0 hp0 hp1 hp2 hp3 hp4 _).2.2.2.2.2.2.2.2 (jxw ((jxshl 1 (a0 146 56)) - 1)) (jxu a0 146 64 0) (Nat.le_refl _) hv1489_ hf1490_ (show 0 ≤ jxw ((jxshl 1 (a0 146 56)) - 1) from by omega) (show jxw ((jxshl 1 (a0 146 56)) - 1) ≤ 4095 from by omega) (show 0 ≤ jxw ((jxshl 1 (a0 146 56)) - 1) from by omega) (show jxw ((jxshl 1 (a0 146 56)) - 1) ≤ 4095 from by omega) (show (2 * 0) + (pc (jxw ((jxshl 1 (a0 146 56)) - 1))) ≤ 12 from by omega) (show jxw ((jxshl 1 (a0 146 56)) - 1) < jxshl 1 (a0 146 56) from by omega) hg1494_ (show (a0 146 56 = 0 → (jxw ((jxshl 1 (a0 146 56)) - 1) = 0 ∧ 0 = 0)) from by omega) (fun n g k hF => FNI_0 hF)
def jW_X12_rings : List (Nat × Nat) := [(146, 56), (146, 58), (146, 64), (183, 9999), (184, 9999), (185, 9999), (186, 9999), (187, 9999), (189, 9999), (190, 9999), (191, 9999)]
abbrev jQ_X12_rings (a0 b0 : Nat → Nat → Int) : List jxV → (Nat → Nat → Int) → (Nat → Nat → Int) → Prop := rI (fun r a b => (iv a) ∧ (jfr jW_X12_rings a0 a) ∧ (b0 = b) ∧ (FO a) ∧ (FW a) ∧ ((a0 146 49 = 0 → r = 0)) ∧ (RGRr a0 b0 a r))
theorem cp_X12_rings_120 (E : jxE) (d : Nat) (hd : Nat.ble 4 (d + 1) = true) (a0 b0 : Nat → Nat → Int) (hv0 : iv a0) (hp0 : FO a0) (hp1 : FW a0) : ∀ n : Nat, (∀ (y1 y2 y3 y4 : Int) (a : Nat → Nat → Int), (((((4096 - y1) * 54006) + 0) + ((27000 - y4) * 1)) + 0).toNat ≤ n → iv a → jfr jW_X12_rings a0 a → 1 ≤ y1 → y1 ≤ 4095 → 0 ≤ y2 → y2 ≤ 11 → 0 ≤ y4 → y4 ≤ 26999 → (RS a) → (RF a (a 146 56 + 1)) → a 146 56 ≤ a 146 49 → 1 ≤ y1 → y1 ≤ 4095 → 0 ≤ y2 → y2 < a 146 56 → 0 ≤ y4 → y4 ≤ 26999 → (SEAT (a0 181) (a0 146 49).toNat (a 146 56).toNat (a 183)) → (RG2 a (a 146 56).toNat (gR a0 b0 (a 183)) (kR a0 b0 (a 183))) → (W64 (a 146 56).toNat (gR a0 b0 (a 183)) (kR a0 b0 (a 183)) (a 191) y1.toNat) → (LST y2.toNat y1.toNat) → (y1.toNat < 2 ^ (a 146 56).toNat) → (a 186 y2.toNat ≤ y4) → (RGI (a 146 56).toNat (gR a0 b0 (a 183)) (kR a0 b0 (a 183)) (a 191) y2.toNat y1.toNat y3 ((y4 - a 186 y2.toNat).toNat + 1)) → (FO a) → (FW a) → jt (jxX E d 271 186 [some (.inr (.inr (.inl 146))), some (.inl y1), some (.inl y2), some (.inl y3), some (.inl y4), none] [] (jxSH, a, b0)) (jQ_X12_rings a0 b0)) ∧ (∀ (y1 y2 y3 y4 : Int) (a : Nat → Nat → Int), (((((4096 - y1) * 54006) + 0) + ((27000 - y4) * 1)) + 0).toNat ≤ n → iv a → jfr jW_X12_rings a0 a → 1 ≤ y1 → y1 ≤ 4095 → 0 ≤ y2 → y2 ≤ 11 → 0 ≤ y4 → y4 ≤ 26999 → (RS a) → (RF a (a 146 56 + 1)) → a 146 56 ≤ a 146 49 → 1 ≤ y1 → y1 ≤ 4095 → 0 ≤ y2 → y2 < a 146 56 → 0 ≤ y4 → y4 ≤ 26999 → (SEAT (a0 181) (a0 146 49).toNat (a 146 56).toNat (a 183)) → (RG2 a (a 146 56).toNat (gR a0 b0 (a 183)) (kR a0 b0 (a 183))) → (W64 (a 146 56).toNat (gR a0 b0 (a 183)) (kR a0 b0 (a 183)) (a 191) y1.toNat) → (LST y2.toNat y1.toNat) → (y1.toNat < 2 ^ (a 146 56).toNat) → (a 186 y2.toNat ≤ y4) → (RGI (a 146 56).toNat (gR a0 b0 (a 183)) (kR a0 b0 (a 183)) (a 191) y2.toNat y1.toNat y3 (y4 - a 186 y2.toNat).toNat) → (y4 < a 186 (y2.toNat + 1)) → (jxand (a 184 y4.toNat) y1 = a 184 y4.toNat) → (FO a) → (FW a) → jt (jxX E d 271 189 [some (.inr (.inr (.inl 146))), some (.inl y1), some (.inl y2), some (.inl y3), some (.inl y4), none] [] (jxSH, a, b0)) (jQ_X12_rings a0 b0)) ∧ (∀ (y1 : Int) (a : Nat → Nat → Int), (((4096 - y1) * 54006) + 27003).toNat ≤ n → iv a → jfr jW_X12_rings a0 a → 2 ≤ y1 → y1 ≤ 4096 → (RS a) → (RF a (a 146 56 + 1)) → a 146 56 ≤ a 146 49 → 1 ≤ y1 → (SEAT (a0 181) (a0 146 49).toNat (a 146 56).toNat (a 183)) → (RG2 a (a 146 56).toNat (gR a0 b0 (a 183)) (kR a0 b0 (a 183))) → (W64 (a 146 56).toNat (gR a0 b0 (a 183)) (kR a0 b0 (a 183)) (a 191) y1.toNat) → (FO a) → (FW a) → jt (jxX E d 271 227 [some (.inr (.inr (.inl 146))), some (.inl y1), none, none, none, none] [] (jxSH, a, b0)) (jQ_X12_rings a0 b0)) ∧ (∀ (y1 y2 y3 y4 : Int) (a : Nat → Nat → Int), (((((4096 - y1) * 54006) + 0) + ((27000 - y4) * 1)) + 0).toNat ≤ n → iv a → jfr jW_X12_rings a0 a → 1 ≤ y1 → y1 ≤ 4095 → 0 ≤ y2 → y2 ≤ 11 → 0 ≤ y4 → y4 ≤ 27000 → (RS a) → (RF a (a 146 56 + 1)) → a 146 56 ≤ a 146 49 → 1 ≤ y1 → y1 ≤ 4095 → 0 ≤ y2 → y2 < a 146 56 → 0 ≤ y4 → (SEAT (a0 181) (a0 146 49).toNat (a 146 56).toNat (a 183)) → (RG2 a (a 146 56).toNat (gR a0 b0 (a 183)) (kR a0 b0 (a 183))) → (W64 (a 146 56).toNat (gR a0 b0 (a 183)) (kR a0 b0 (a 183)) (a 191) y1.toNat) → (LST y2.toNat y1.toNat) → (y1.toNat < 2 ^ (a 146 56).toNat) → (a 186 y2.toNat ≤ y4) → (RGI (a 146 56).toNat (gR a0 b0 (a 183)) (kR a0 b0 (a 183)) (a 191) y2.toNat y1.toNat y3 (y4 - a 186 y2.toNat).toNat) → (FO a) → (FW a) → jt (jxX E d 271 154 [some (.inr (.inr (.inl 146))), some (.inl y1), some (.inl y2), some (.inl y3), some (.inl y4), none] [] (jxSH, a, b0)) (jQ_X12_rings a0 b0)) ∧ (∀ (y1 y2 y3 : Int) (a : Nat → Nat → Int), (((4096 - y1) * 54006) + 27002).toNat ≤ n → iv a → jfr jW_X12_rings a0 a → 1 ≤ y1 → y1 ≤ 4095 → 0 ≤ y2 → y2 ≤ 11 → (RS a) → (RF a (a 146 56 + 1)) → a 146 56 ≤ a 146 49 → 1 ≤ y1 → y1 ≤ 4095 → 0 ≤ y2 → y2 < a 146 56 → (SEAT (a0 181) (a0 146 49).toNat (a 146 56).toNat (a 183)) → (RG2 a (a 146 56).toNat (gR a0 b0 (a 183)) (kR a0 b0 (a 183))) → (W64 (a 146 56).toNat (gR a0 b0 (a 183)) (kR a0 b0 (a 183)) (a 191) y1.toNat) → (LST y2.toNat y1.toNat) → (y1.toNat < 2 ^ (a 146 56).toNat) → (y3 = a 191 (y1.toNat ^^^ 2 ^ y2.toNat)) → (FO a) → (FW a) → jt (jxX E d 271 146 [some (.inr (.inr (.inl 146))), some (.inl y1), some (.inl y2), some (.inl y3), none, none] [] (jxSH, a, b0)) (jQ_X12_rings a0 b0)) ∧ (∀ (y1 : Int) (a : Nat → Nat → Int), (((4096 - y1) * 54006) + 27002).toNat ≤ n → iv a → jfr jW_X12_rings a0 a → 1 ≤ y1 → y1 ≤ 4096 → (RS a) → (RF a (a 146 56 + 1)) → a 146 56 ≤ a 146 49 → 1 ≤ y1 → (SEAT (a0 181) (a0 146 49).toNat (a 146 56).toNat (a 183)) → (RG2 a (a 146 56).toNat (gR a0 b0 (a 183)) (kR a0 b0 (a 183))) → (W64 (a 146 56).toNat (gR a0 b0 (a 183)) (kR a0 b0 (a 183)) (a 191) y1.toNat) → (FO a) → (FW a) → jt (jxX E d 271 120 [some (.inr (.inr (.inl 146))), some (.inl y1), none, none, none, none] [] (jxSH, a, b0)) (jQ_X12_rings a0 b0)) := by
  refine jx_ind fun n ih => ?_
  have ih186 : ∀ (y1 y2 y3 y4 : Int) (a : Nat → Nat → Int), (((((4096 - y1) * 54006) + 0) + ((27000 - y4) * 1)) + 0).toNat < n → iv a → jfr jW_X12_rings a0 a → 1 ≤ y1 → y1 ≤ 4095 → 0 ≤ y2 → y2 ≤ 11 → 0 ≤ y4 → y4 ≤ 26999 → (RS a) → (RF a (a 146 56 + 1)) → a 146 56 ≤ a 146 49 → 1 ≤ y1 → y1 ≤ 4095 → 0 ≤ y2 → y2 < a 146 56 → 0 ≤ y4 → y4 ≤ 26999 → (SEAT (a0 181) (a0 146 49).toNat (a 146 56).toNat (a 183)) → (RG2 a (a 146 56).toNat (gR a0 b0 (a 183)) (kR a0 b0 (a 183))) → (W64 (a 146 56).toNat (gR a0 b0 (a 183)) (kR a0 b0 (a 183)) (a 191) y1.toNat) → (LST y2.toNat y1.toNat) → (y1.toNat < 2 ^ (a 146 56).toNat) → (a 186 y2.toNat ≤ y4) → (RGI (a 146 56).toNat (gR a0 b0 (a 183)) (kR a0 b0 (a 183)) (a 191) y2.toNat y1.toNat y3 ((y4 - a 186 y2.toNat).toNat + 1)) → (FO a) → (FW a) → jt (jxX E d 271 186 [some (.inr (.inr (.inl 146))), some (.inl y1), some (.inl y2), some (.inl y3), some (.inl y4), none] [] (jxSH, a, b0)) (jQ_X12_rings a0 b0) := fun y1 y2 y3 y4 a hlt i0 i1 i2 i3 i4 i5 i6 i7 i8 i9 i10 i11 i12 i13 i14 i15 i16 i17 i18 i19 i20 i21 i22 i23 i24 i25 => (ih _ hlt).1 y1 y2 y3 y4 a (Nat.le_refl _) i0 i1 i2 i3 i4 i5 i6 i7 i8 i9 i10 i11 i12 i13 i14 i15 i16 i17 i18 i19 i20 i21 i22 i23 i24 i25
  have ih189 : ∀ (y1 y2 y3 y4 : Int) (a : Nat → Nat → Int), (((((4096 - y1) * 54006) + 0) + ((27000 - y4) * 1)) + 0).toNat < n → iv a → jfr jW_X12_rings a0 a → 1 ≤ y1 → y1 ≤ 4095 → 0 ≤ y2 → y2 ≤ 11 → 0 ≤ y4 → y4 ≤ 26999 → (RS a) → (RF a (a 146 56 + 1)) → a 146 56 ≤ a 146 49 → 1 ≤ y1 → y1 ≤ 4095 → 0 ≤ y2 → y2 < a 146 56 → 0 ≤ y4 → y4 ≤ 26999 → (SEAT (a0 181) (a0 146 49).toNat (a 146 56).toNat (a 183)) → (RG2 a (a 146 56).toNat (gR a0 b0 (a 183)) (kR a0 b0 (a 183))) → (W64 (a 146 56).toNat (gR a0 b0 (a 183)) (kR a0 b0 (a 183)) (a 191) y1.toNat) → (LST y2.toNat y1.toNat) → (y1.toNat < 2 ^ (a 146 56).toNat) → (a 186 y2.toNat ≤ y4) → (RGI (a 146 56).toNat (gR a0 b0 (a 183)) (kR a0 b0 (a 183)) (a 191) y2.toNat y1.toNat y3 (y4 - a 186 y2.toNat).toNat) → (y4 < a 186 (y2.toNat + 1)) → (jxand (a 184 y4.toNat) y1 = a 184 y4.toNat) → (FO a) → (FW a) → jt (jxX E d 271 189 [some (.inr (.inr (.inl 146))), some (.inl y1), some (.inl y2), some (.inl y3), some (.inl y4), none] [] (jxSH, a, b0)) (jQ_X12_rings a0 b0) := fun y1 y2 y3 y4 a hlt i0 i1 i2 i3 i4 i5 i6 i7 i8 i9 i10 i11 i12 i13 i14 i15 i16 i17 i18 i19 i20 i21 i22 i23 i24 i25 i26 i27 => (ih _ hlt).2.1 y1 y2 y3 y4 a (Nat.le_refl _) i0 i1 i2 i3 i4 i5 i6 i7 i8 i9 i10 i11 i12 i13 i14 i15 i16 i17 i18 i19 i20 i21 i22 i23 i24 i25 i26 i27
  have ih227 : ∀ (y1 : Int) (a : Nat → Nat → Int), (((4096 - y1) * 54006) + 27003).toNat < n → iv a → jfr jW_X12_rings a0 a → 2 ≤ y1 → y1 ≤ 4096 → (RS a) → (RF a (a 146 56 + 1)) → a 146 56 ≤ a 146 49 → 1 ≤ y1 → (SEAT (a0 181) (a0 146 49).toNat (a 146 56).toNat (a 183)) → (RG2 a (a 146 56).toNat (gR a0 b0 (a 183)) (kR a0 b0 (a 183))) → (W64 (a 146 56).toNat (gR a0 b0 (a 183)) (kR a0 b0 (a 183)) (a 191) y1.toNat) → (FO a) → (FW a) → jt (jxX E d 271 227 [some (.inr (.inr (.inl 146))), some (.inl y1), none, none, none, none] [] (jxSH, a, b0)) (jQ_X12_rings a0 b0) := fun y1 a hlt i0 i1 i2 i3 i4 i5 i6 i7 i8 i9 i10 i11 i12 => (ih _ hlt).2.2.1 y1 a (Nat.le_refl _) i0 i1 i2 i3 i4 i5 i6 i7 i8 i9 i10 i11 i12
  have ih154 : ∀ (y1 y2 y3 y4 : Int) (a : Nat → Nat → Int), (((((4096 - y1) * 54006) + 0) + ((27000 - y4) * 1)) + 0).toNat < n → iv a → jfr jW_X12_rings a0 a → 1 ≤ y1 → y1 ≤ 4095 → 0 ≤ y2 → y2 ≤ 11 → 0 ≤ y4 → y4 ≤ 27000 → (RS a) → (RF a (a 146 56 + 1)) → a 146 56 ≤ a 146 49 → 1 ≤ y1 → y1 ≤ 4095 → 0 ≤ y2 → y2 < a 146 56 → 0 ≤ y4 → (SEAT (a0 181) (a0 146 49).toNat (a 146 56).toNat (a 183)) → (RG2 a (a 146 56).toNat (gR a0 b0 (a 183)) (kR a0 b0 (a 183))) → (W64 (a 146 56).toNat (gR a0 b0 (a 183)) (kR a0 b0 (a 183)) (a 191) y1.toNat) → (LST y2.toNat y1.toNat) → (y1.toNat < 2 ^ (a 146 56).toNat) → (a 186 y2.toNat ≤ y4) → (RGI (a 146 56).toNat (gR a0 b0 (a 183)) (kR a0 b0 (a 183)) (a 191) y2.toNat y1.toNat y3 (y4 - a 186 y2.toNat).toNat) → (FO a) → (FW a) → jt (jxX E d 271 154 [some (.inr (.inr (.inl 146))), some (.inl y1), some (.inl y2), some (.inl y3), some (.inl y4), none] [] (jxSH, a, b0)) (jQ_X12_rings a0 b0) := fun y1 y2 y3 y4 a hlt i0 i1 i2 i3 i4 i5 i6 i7 i8 i9 i10 i11 i12 i13 i14 i15 i16 i17 i18 i19 i20 i21 i22 i23 i24 => (ih _ hlt).2.2.2.1 y1 y2 y3 y4 a (Nat.le_refl _) i0 i1 i2 i3 i4 i5 i6 i7 i8 i9 i10 i11 i12 i13 i14 i15 i16 i17 i18 i19 i20 i21 i22 i23 i24
  have ih146 : ∀ (y1 y2 y3 : Int) (a : Nat → Nat → Int), (((4096 - y1) * 54006) + 27002).toNat < n → iv a → jfr jW_X12_rings a0 a → 1 ≤ y1 → y1 ≤ 4095 → 0 ≤ y2 → y2 ≤ 11 → (RS a) → (RF a (a 146 56 + 1)) → a 146 56 ≤ a 146 49 → 1 ≤ y1 → y1 ≤ 4095 → 0 ≤ y2 → y2 < a 146 56 → (SEAT (a0 181) (a0 146 49).toNat (a 146 56).toNat (a 183)) → (RG2 a (a 146 56).toNat (gR a0 b0 (a 183)) (kR a0 b0 (a 183))) → (W64 (a 146 56).toNat (gR a0 b0 (a 183)) (kR a0 b0 (a 183)) (a 191) y1.toNat) → (LST y2.toNat y1.toNat) → (y1.toNat < 2 ^ (a 146 56).toNat) → (y3 = a 191 (y1.toNat ^^^ 2 ^ y2.toNat)) → (FO a) → (FW a) → jt (jxX E d 271 146 [some (.inr (.inr (.inl 146))), some (.inl y1), some (.inl y2), some (.inl y3), none, none] [] (jxSH, a, b0)) (jQ_X12_rings a0 b0) := fun y1 y2 y3 a hlt i0 i1 i2 i3 i4 i5 i6 i7 i8 i9 i10 i11 i12 i13 i14 i15 i16 i17 i18 i19 i20 => (ih _ hlt).2.2.2.2.1 y1 y2 y3 a (Nat.le_refl _) i0 i1 i2 i3 i4 i5 i6 i7 i8 i9 i10 i11 i12 i13 i14 i15 i16 i17 i18 i19 i20
  have ih120 : ∀ (y1 : Int) (a : Nat → Nat → Int), (((4096 - y1) * 54006) + 27002).toNat < n → iv a → jfr jW_X12_rings a0 a → 1 ≤ y1 → y1 ≤ 4096 → (RS a) → (RF a (a 146 56 + 1)) → a 146 56 ≤ a 146 49 → 1 ≤ y1 → (SEAT (a0 181) (a0 146 49).toNat (a 146 56).toNat (a 183)) → (RG2 a (a 146 56).toNat (gR a0 b0 (a 183)) (kR a0 b0 (a 183))) → (W64 (a 146 56).toNat (gR a0 b0 (a 183)) (kR a0 b0 (a 183)) (a 191) y1.toNat) → (FO a) → (FW a) → jt (jxX E d 271 120 [some (.inr (.inr (.inl 146))), some (.inl y1), none, none, none, none] [] (jxSH, a, b0)) (jQ_X12_rings a0 b0) := fun y1 a hlt i0 i1 i2 i3 i4 i5 i6 i7 i8 i9 i10 i11 i12 => (ih _ hlt).2.2.2.2.2 y1 a (Nat.le_refl _) i0 i1 i2 i3 i4 i5 i6 i7 i8 i9 i10 i11 i12
  have hc186 : ∀ (y1 y2 y3 y4 : Int) (a : Nat → Nat → Int), (((((4096 - y1) * 54006) + 0) + ((27000 - y4) * 1)) + 0).toNat ≤ n → iv a → jfr jW_X12_rings a0 a → 1 ≤ y1 → y1 ≤ 4095 → 0 ≤ y2 → y2 ≤ 11 → 0 ≤ y4 → y4 ≤ 26999 → (RS a) → (RF a (a 146 56 + 1)) → a 146 56 ≤ a 146 49 → 1 ≤ y1 → y1 ≤ 4095 → 0 ≤ y2 → y2 < a 146 56 → 0 ≤ y4 → y4 ≤ 26999 → (SEAT (a0 181) (a0 146 49).toNat (a 146 56).toNat (a 183)) → (RG2 a (a 146 56).toNat (gR a0 b0 (a 183)) (kR a0 b0 (a 183))) → (W64 (a 146 56).toNat (gR a0 b0 (a 183)) (kR a0 b0 (a 183)) (a 191) y1.toNat) → (LST y2.toNat y1.toNat) → (y1.toNat < 2 ^ (a 146 56).toNat) → (a 186 y2.toNat ≤ y4) → (RGI (a 146 56).toNat (gR a0 b0 (a 183)) (kR a0 b0 (a 183)) (a 191) y2.toNat y1.toNat y3 ((y4 - a 186 y2.toNat).toNat + 1)) → (FO a) → (FW a) → jt (jxX E d 271 186 [some (.inr (.inr (.inl 146))), some (.inl y1), some (.inl y2), some (.inl y3), some (.inl y4), none] [] (jxSH, a, b0)) (jQ_X12_rings a0 b0) := by
    intro y1 y2 y3 y4 a hm hv hf hi0 hi1 hi2 hi3 hi4 hi5 hi6 hrf hi8 hi9 hi10 hi11 hi12 hi13 hi14 hse hr2g hw64 hls hyb hy4 hgi hi22 hi23
    refine jt_eq (bq_X12_rings_186 E d y1 y2 y3 y4 a b0) ?_
    have h1495_ := iv_get hv (k := 146) (j := 56) (l := 0) (u := 12) rfl
    have h1496_ := iv_get hv (k := 146) (j := 49) (l := 0) (u := 20) rfl
    have h1497_ : a 146 49 = a0 146 49 := hf 146 49 rfl
    have h1498_ := iv_get hv0 (k := 146) (j := 49) (l := 0) (u := 20) rfl
    have i56r := iv_get hv (k := 146) (j := 56) (l := 0) (u := 12) rfl
    have sh_ := shl1_12 (a 146 56).toNat (by omega)
    rw [Int.toNat_of_nonneg i56r.1] at sh_
    have h1499_ : jxw (y4 + 1) = y4 + 1 := jxw_id (by omega) (by omega)
    exact ih154 y1 y2 y3 (jxw (y4 + 1)) a (show (((((4096 - y1) * 54006) + 0) + ((27000 - (jxw (y4 + 1))) * 1)) + 0).toNat < n from by omega) hv hf (show 1 ≤ y1 from by omega) (show y1 ≤ 4095 from by omega) (show 0 ≤ y2 from by omega) (show y2 ≤ 11 from by omega) (show 0 ≤ jxw (y4 + 1) from by omega) (show jxw (y4 + 1) ≤ 27000 from by omega) hi6 (by first | assumption | exact fun k hk => hrf k hk | exact RF_last (hrfe (by omega)) (by omega) rfl) (show a 146 56 ≤ a 146 49 from by omega) (show 1 ≤ y1 from by omega) (show y1 ≤ 4095 from by omega) (show 0 ≤ y2 from by omega) (show y2 < a 146 56 from by omega) (show 0 ≤ jxw (y4 + 1) from by omega) hse hr2g hw64 hls hyb (by first | exact Int.le_refl _ | omega) (by rw [show (jxw (y4 + 1) - a 186 y2.toNat).toNat = (y4 - a 186 y2.toNat).toNat + 1 from by omega]; exact hgi) hi22 hi23
  have hc189 : ∀ (y1 y2 y3 y4 : Int) (a : Nat → Nat → Int), (((((4096 - y1) * 54006) + 0) + ((27000 - y4) * 1)) + 0).toNat ≤ n → iv a → jfr jW_X12_rings a0 a → 1 ≤ y1 → y1 ≤ 4095 → 0 ≤ y2 → y2 ≤ 11 → 0 ≤ y4 → y4 ≤ 26999 → (RS a) → (RF a (a 146 56 + 1)) → a 146 56 ≤ a 146 49 → 1 ≤ y1 → y1 ≤ 4095 → 0 ≤ y2 → y2 < a 146 56 → 0 ≤ y4 → y4 ≤ 26999 → (SEAT (a0 181) (a0 146 49).toNat (a 146 56).toNat (a 183)) → (RG2 a (a 146 56).toNat (gR a0 b0 (a 183)) (kR a0 b0 (a 183))) → (W64 (a 146 56).toNat (gR a0 b0 (a 183)) (kR a0 b0 (a 183)) (a 191) y1.toNat) → (LST y2.toNat y1.toNat) → (y1.toNat < 2 ^ (a 146 56).toNat) → (a 186 y2.toNat ≤ y4) → (RGI (a 146 56).toNat (gR a0 b0 (a 183)) (kR a0 b0 (a 183)) (a 191) y2.toNat y1.toNat y3 (y4 - a 186 y2.toNat).toNat) → (y4 < a 186 (y2.toNat + 1)) → (jxand (a 184 y4.toNat) y1 = a 184 y4.toNat) → (FO a) → (FW a) → jt (jxX E d 271 189 [some (.inr (.inr (.inl 146))), some (.inl y1), some (.inl y2), some (.inl y3), some (.inl y4), none] [] (jxSH, a, b0)) (jQ_X12_rings a0 b0) := by
    intro y1 y2 y3 y4 a hm hv hf hi0 hi1 hi2 hi3 hi4 hi5 hi6 hrf hi8 hi9 hi10 hi11 hi12 hi13 hi14 hse hr2g hw64 hls hyb hy4 hgi h4m hsb hi24 hi25
    refine jt_eq (bq_X12_rings_189 E d y1 y2 y3 y4 a b0) ?_
    have h1500_ := iv_get hv (k := 146) (j := 56) (l := 0) (u := 12) rfl
    have h1501_ := iv_get hv (k := 146) (j := 49) (l := 0) (u := 20) rfl
    have h1502_ : a 146 49 = a0 146 49 := hf 146 49 rfl
    have h1503_ := iv_get hv0 (k := 146) (j := 49) (l := 0) (u := 20) rfl
    have i56r := iv_get hv (k := 146) (j := 56) (l := 0) (u := 12) rfl
    have sh_ := shl1_12 (a 146 56).toNat (by omega)
    rw [Int.toNat_of_nonneg i56r.1] at sh_
    refine jt_bI (sp_X12_withRing E d (jd_le hd rfl) y1 y4 a b0 hv (show (0 ≤ y1 ∧ y1 ≤ 4095) from by omega) (show (0 ≤ y4 ∧ y4 ≤ 26999) from by omega)) (fun r1504_ a1504_ b1504_ h1504_ => ?_)
    obtain ⟨rfl, rfl, hq1504_0⟩ := h1504_
    refine jt_ite (fun c1505_ => ?_) (fun c1505_ => ?_)
    ·
      have h1506_ : jxw (y4 + 1) = y4 + 1 := jxw_id (by omega) (by omega)
      exact ih154 y1 y2 r1504_ (jxw (y4 + 1)) a (show (((((4096 - y1) * 54006) + 0) + ((27000 - (jxw (y4 + 1))) * 1)) + 0).toNat < n from by omega) hv hf (show 1 ≤ y1 from by omega) (show y1 ≤ 4095 from by omega) (show 0 ≤ y2 from by omega) (show y2 ≤ 11 from by omega) (show 0 ≤ jxw (y4 + 1) from by omega) (show jxw (y4 + 1) ≤ 27000 from by omega) hi6 (by first | assumption | exact fun k hk => hrf k hk | exact RF_last (hrfe (by omega)) (by omega) rfl) (show a 146 56 ≤ a 146 49 from by omega) (show 1 ≤ y1 from by omega) (show y1 ≤ 4095 from by omega) (show 0 ≤ y2 from by omega) (show y2 < a 146 56 from by omega) (show 0 ≤ jxw (y4 + 1) from by omega) hse hr2g hw64 hls hyb (by first | exact Int.le_refl _ | omega) (by rw [show (jxw (y4 + 1) - a 186 y2.toNat).toNat = (y4 - a 186 y2.toNat).toNat + 1 from by omega]; refine ((RGI_go hr2g (kR_self a0 b0 (a 183)) (by omega) (by omega) hyb (by omega) hy4 h4m hgi).2 hsb hw64 _ ?_); rw [← hq1504_0]; first | (exact Or.inl ⟨rfl, by assumption⟩) | (exact Or.inr ⟨rfl, by assumption⟩)) hi24 hi25
    ·
      have h1507_ : jxw (y4 + 1) = y4 + 1 := jxw_id (by omega) (by omega)
      exact ih154 y1 y2 y3 (jxw (y4 + 1)) a (show (((((4096 - y1) * 54006) + 0) + ((27000 - (jxw (y4 + 1))) * 1)) + 0).toNat < n from by omega) hv hf (show 1 ≤ y1 from by omega) (show y1 ≤ 4095 from by omega) (show 0 ≤ y2 from by omega) (show y2 ≤ 11 from by omega) (show 0 ≤ jxw (y4 + 1) from by omega) (show jxw (y4 + 1) ≤ 27000 from by omega) hi6 (by first | assumption | exact fun k hk => hrf k hk | exact RF_last (hrfe (by omega)) (by omega) rfl) (show a 146 56 ≤ a 146 49 from by omega) (show 1 ≤ y1 from by omega) (show y1 ≤ 4095 from by omega) (show 0 ≤ y2 from by omega) (show y2 < a 146 56 from by omega) (show 0 ≤ jxw (y4 + 1) from by omega) hse hr2g hw64 hls hyb (by first | exact Int.le_refl _ | omega) (by rw [show (jxw (y4 + 1) - a 186 y2.toNat).toNat = (y4 - a 186 y2.toNat).toNat + 1 from by omega]; refine ((RGI_go hr2g (kR_self a0 b0 (a 183)) (by omega) (by omega) hyb (by omega) hy4 h4m hgi).2 hsb hw64 _ ?_); rw [← hq1504_0]; first | (exact Or.inl ⟨rfl, by assumption⟩) | (exact Or.inr ⟨rfl, by assumption⟩)) hi24 hi25
  have hc227 : ∀ (y1 : Int) (a : Nat → Nat → Int), (((4096 - y1) * 54006) + 27003).toNat ≤ n → iv a → jfr jW_X12_rings a0 a → 2 ≤ y1 → y1 ≤ 4096 → (RS a) → (RF a (a 146 56 + 1)) → a 146 56 ≤ a 146 49 → 1 ≤ y1 → (SEAT (a0 181) (a0 146 49).toNat (a 146 56).toNat (a 183)) → (RG2 a (a 146 56).toNat (gR a0 b0 (a 183)) (kR a0 b0 (a 183))) → (W64 (a 146 56).toNat (gR a0 b0 (a 183)) (kR a0 b0 (a 183)) (a 191) y1.toNat) → (FO a) → (FW a) → jt (jxX E d 271 227 [some (.inr (.inr (.inl 146))), some (.inl y1), none, none, none, none] [] (jxSH, a, b0)) (jQ_X12_rings a0 b0) := by
    intro y1 a hm hv hf hi0 hi1 hi2 hrf hi4 hi5 hse hr2g hw64 hi9 hi10
    refine jt_eq (bq_X12_rings_227 E d y1 a b0) ?_
    have h1508_ := iv_get hv (k := 146) (j := 56) (l := 0) (u := 12) rfl
    have h1509_ := iv_get hv (k := 146) (j := 49) (l := 0) (u := 20) rfl
    have h1510_ : a 146 49 = a0 146 49 := hf 146 49 rfl
    have h1511_ := iv_get hv0 (k := 146) (j := 49) (l := 0) (u := 20) rfl
    exact ih120 y1 a (show (((4096 - y1) * 54006) + 27002).toNat < n from by omega) hv hf (show 1 ≤ y1 from by omega) (show y1 ≤ 4096 from by omega) hi2 (by first | assumption | exact fun k hk => hrf k hk | exact RF_last (hrfe (by omega)) (by omega) rfl) (show a 146 56 ≤ a 146 49 from by omega) (show 1 ≤ y1 from by omega) hse hr2g hw64 hi9 hi10
  have hc154 : ∀ (y1 y2 y3 y4 : Int) (a : Nat → Nat → Int), (((((4096 - y1) * 54006) + 0) + ((27000 - y4) * 1)) + 0).toNat ≤ n → iv a → jfr jW_X12_rings a0 a → 1 ≤ y1 → y1 ≤ 4095 → 0 ≤ y2 → y2 ≤ 11 → 0 ≤ y4 → y4 ≤ 27000 → (RS a) → (RF a (a 146 56 + 1)) → a 146 56 ≤ a 146 49 → 1 ≤ y1 → y1 ≤ 4095 → 0 ≤ y2 → y2 < a 146 56 → 0 ≤ y4 → (SEAT (a0 181) (a0 146 49).toNat (a 146 56).toNat (a 183)) → (RG2 a (a 146 56).toNat (gR a0 b0 (a 183)) (kR a0 b0 (a 183))) → (W64 (a 146 56).toNat (gR a0 b0 (a 183)) (kR a0 b0 (a 183)) (a 191) y1.toNat) → (LST y2.toNat y1.toNat) → (y1.toNat < 2 ^ (a 146 56).toNat) → (a 186 y2.toNat ≤ y4) → (RGI (a 146 56).toNat (gR a0 b0 (a 183)) (kR a0 b0 (a 183)) (a 191) y2.toNat y1.toNat y3 (y4 - a 186 y2.toNat).toNat) → (FO a) → (FW a) → jt (jxX E d 271 154 [some (.inr (.inr (.inl 146))), some (.inl y1), some (.inl y2), some (.inl y3), some (.inl y4), none] [] (jxSH, a, b0)) (jQ_X12_rings a0 b0) := by
    intro y1 y2 y3 y4 a hm hv hf hi0 hi1 hi2 hi3 hi4 hi5 hi6 hrf hi8 hi9 hi10 hi11 hi12 hi13 hse hr2g hw64 hls hyb hy4 hgi hi21 hi22
    refine jt_eq (bq_X12_rings_154 E d y1 y2 y3 y4 a b0) ?_
    have h1512_ := iv_get hv (k := 146) (j := 56) (l := 0) (u := 12) rfl
    have h1513_ := iv_get hv (k := 146) (j := 49) (l := 0) (u := 20) rfl
    have h1514_ : a 146 49 = a0 146 49 := hf 146 49 rfl
    have h1515_ := iv_get hv0 (k := 146) (j := 49) (l := 0) (u := 20) rfl
    have i58 := iv_get hv (k := 146) (j := 58) (l := 0) (u := 27000) rfl
    have i56 := iv_get hv (k := 146) (j := 56) (l := 0) (u := 12) rfl
    have hyy : jxw (y2 + 1) = y2 + 1 := jxw_id (by omega) (by omega)
    have hr1 := hrf ((jxw (y2 + 1)).toNat) (by omega)
    have i56r := iv_get hv (k := 146) (j := 56) (l := 0) (u := 12) rfl
    have sh_ := shl1_12 (a 146 56).toNat (by omega)
    rw [Int.toNat_of_nonneg i56r.1] at sh_
    have h1516_ : jxw (y2 + 1) = y2 + 1 := jxw_id (by omega) (by omega)
    refine jt_grd (by omega) ?_
    have h1517_ := iv_get hv (k := 186) (j := (jxw (y2 + 1)).toNat) (l := 0) (u := 27000) rfl
    refine jt_ite (fun c1518_ => ?_) (fun c1518_ => ?_)
    ·
      refine jt_grd (by omega) ?_
      refine jt_grd (by omega) ?_
      have h1519_ := iv_get hv (k := 184) (j := y4.toNat) (l := 0) (u := 4095) rfl
      have h1520_ := jxand_b (a 184 (y4.toNat)) y1
      refine jt_ite (fun c1521_ => ?_) (fun c1521_ => ?_)
      ·
        exact hc189 y1 y2 y3 y4 a (show (((((4096 - y1) * 54006) + 0) + ((27000 - y4) * 1)) + 0).toNat ≤ n from by omega) hv hf (show 1 ≤ y1 from by omega) (show y1 ≤ 4095 from by omega) (show 0 ≤ y2 from by omega) (show y2 ≤ 11 from by omega) (show 0 ≤ y4 from by omega) (show y4 ≤ 26999 from by omega) hi6 (by first | assumption | exact fun k hk => hrf k hk | exact RF_last (hrfe (by omega)) (by omega) rfl) (show a 146 56 ≤ a 146 49 from by omega) (show 1 ≤ y1 from by omega) (show y1 ≤ 4095 from by omega) (show 0 ≤ y2 from by omega) (show y2 < a 146 56 from by omega) (show 0 ≤ y4 from by omega) (show y4 ≤ 26999 from by omega) hse hr2g hw64 hls hyb (by first | exact Int.le_refl _ | omega) hgi (by rw [← show (jxw (y2 + 1)).toNat = y2.toNat + 1 from by omega]; assumption) (by assumption) hi21 hi22
      ·
        exact hc186 y1 y2 y3 y4 a (show (((((4096 - y1) * 54006) + 0) + ((27000 - y4) * 1)) + 0).toNat ≤ n from by omega) hv hf (show 1 ≤ y1 from by omega) (show y1 ≤ 4095 from by omega) (show 0 ≤ y2 from by omega) (show y2 ≤ 11 from by omega) (show 0 ≤ y4 from by omega) (show y4 ≤ 26999 from by omega) hi6 (by first | assumption | exact fun k hk => hrf k hk | exact RF_last (hrfe (by omega)) (by omega) rfl) (show a 146 56 ≤ a 146 49 from by omega) (show 1 ≤ y1 from by omega) (show y1 ≤ 4095 from by omega) (show 0 ≤ y2 from by omega) (show y2 < a 146 56 from by omega) (show 0 ≤ y4 from by omega) (show y4 ≤ 26999 from by omega) hse hr2g hw64 hls hyb (by first | exact Int.le_refl _ | omega) ((RGI_go hr2g (kR_self a0 b0 (a 183)) (by omega) (by omega) hyb (by omega) hy4 (by rw [← show (jxw (y2 + 1)).toNat = y2.toNat + 1 from by omega]; assumption) hgi).1 (by assumption)) hi21 hi22
    ·
      refine jt_grd (by omega) ?_
      have hv1522_ : iv (jxu a 191 (y1.toNat) y3) := iv_putf hv rfl
      have hf1523_ : jfr jW_X12_rings a0 (jxu a 191 (y1.toNat) y3) := jfr_put hf rfl
      have h1524_ : jxw (y1 + 1) = y1 + 1 := jxw_id (by omega) (by omega)
      have hg1525_ : RS (jxu a 191 (y1.toNat) y3) := (RS_fr hi6 (jfr_1 a 191 (y1.toNat) y3) rfl (fun _ => rfl) (fun _ => rfl))
      have hg1526_ : FO (jxu a 191 (y1.toNat) y3) := (FO_fr hi21 (jfr_1 a 191 (y1.toNat) y3) rfl rfl (fun _ => rfl))
      have hg1527_ : FW (jxu a 191 (y1.toNat) y3) := (FW_fr hi22 (jfr_1 a 191 (y1.toNat) y3) rfl (fun _ => rfl))
      exact hc227 (jxw (y1 + 1)) (jxu a 191 (y1.toNat) y3) (show (((4096 - (jxw (y1 + 1))) * 54006) + 27003).toNat ≤ n from by omega) hv1522_ hf1523_ (show 2 ≤ jxw (y1 + 1) from by omega) (show jxw (y1 + 1) ≤ 4096 from by omega) hg1525_ (by first | assumption | exact fun k hk => hrf k hk | exact RF_last (hrfe (by omega)) (by omega) rfl) (show a 146 56 ≤ a 146 49 from by omega) (show 1 ≤ jxw (y1 + 1) from by omega) hse (by rw [jxu_off (show ¬ 183 = 191 by decide), jxu_nk (show ¬ 146 = 191 by decide)]; exact RG2_fr hr2g (fun j => jxu_nk (by decide)) (fun j => jxu_nk (by decide)) (fun j => jxu_nk (by decide))) (by have r3_ := (hr2g y2.toNat (by omega)).2.2; have q3_ : ¬ y4 < a 186 (y2.toNat + 1) := (by rw [← show (jxw (y2 + 1)).toNat = y2.toNat + 1 from by omega]; assumption); rw [jxu_off (show ¬ 183 = 191 by decide), jxu_nk (show ¬ 146 = 191 by decide), jxu_rup, show (jxw (y1 + 1)).toNat = y1.toNat + 1 from by omega]; exact W64_s hw64 (kR_self a0 b0 (a 183)) (by omega) (by omega) hyb hls (RGI_end hgi (by omega))) hg1526_ hg1527_
  have hc146 : ∀ (y1 y2 y3 : Int) (a : Nat → Nat → Int), (((4096 - y1) * 54006) + 27002).toNat ≤ n → iv a → jfr jW_X12_rings a0 a → 1 ≤ y1 → y1 ≤ 4095 → 0 ≤ y2 → y2 ≤ 11 → (RS a) → (RF a (a 146 56 + 1)) → a 146 56 ≤ a 146 49 → 1 ≤ y1 → y1 ≤ 4095 → 0 ≤ y2 → y2 < a 146 56 → (SEAT (a0 181) (a0 146 49).toNat (a 146 56).toNat (a 183)) → (RG2 a (a 146 56).toNat (gR a0 b0 (a 183)) (kR a0 b0 (a 183))) → (W64 (a 146 56).toNat (gR a0 b0 (a 183)) (kR a0 b0 (a 183)) (a 191) y1.toNat) → (LST y2.toNat y1.toNat) → (y1.toNat < 2 ^ (a 146 56).toNat) → (y3 = a 191 (y1.toNat ^^^ 2 ^ y2.toNat)) → (FO a) → (FW a) → jt (jxX E d 271 146 [some (.inr (.inr (.inl 146))), some (.inl y1), some (.inl y2), some (.inl y3), none, none] [] (jxSH, a, b0)) (jQ_X12_rings a0 b0) := by
    intro y1 y2 y3 a hm hv hf hi0 hi1 hi2 hi3 hi4 hrf hi6 hi7 hi8 hi9 hi10 hse hr2g hw64 hls hyb hy3 hi17 hi18
    refine jt_eq (bq_X12_rings_146 E d y1 y2 y3 a b0) ?_
    have h1528_ := iv_get hv (k := 146) (j := 56) (l := 0) (u := 12) rfl
    have h1529_ := iv_get hv (k := 146) (j := 49) (l := 0) (u := 20) rfl
    have h1530_ : a 146 49 = a0 146 49 := hf 146 49 rfl
    have h1531_ := iv_get hv0 (k := 146) (j := 49) (l := 0) (u := 20) rfl
    have i56r := iv_get hv (k := 146) (j := 56) (l := 0) (u := 12) rfl
    have sh_ := shl1_12 (a 146 56).toNat (by omega)
    rw [Int.toNat_of_nonneg i56r.1] at sh_
    refine jt_grd (by omega) ?_
    have h1532_ := iv_get hv (k := 186) (j := y2.toNat) (l := 0) (u := 27000) rfl
    exact hc154 y1 y2 y3 (a 186 (y2.toNat)) a (show (((((4096 - y1) * 54006) + 0) + ((27000 - (a 186 (y2.toNat))) * 1)) + 0).toNat ≤ n from by omega) hv hf (show 1 ≤ y1 from by omega) (show y1 ≤ 4095 from by omega) (show 0 ≤ y2 from by omega) (show y2 ≤ 11 from by omega) (show 0 ≤ a 186 (y2.toNat) from by omega) (show a 186 (y2.toNat) ≤ 27000 from by omega) hi4 (by first | assumption | exact fun k hk => hrf k hk | exact RF_last (hrfe (by omega)) (by omega) rfl) (show a 146 56 ≤ a 146 49 from by omega) (show 1 ≤ y1 from by omega) (show y1 ≤ 4095 from by omega) (show 0 ≤ y2 from by omega) (show y2 < a 146 56 from by omega) (show 0 ≤ a 186 (y2.toNat) from by omega) hse hr2g hw64 hls hyb (by first | exact Int.le_refl _ | omega) (by rw [show (a 186 y2.toNat - a 186 y2.toNat).toNat = 0 from by omega, hy3]; exact RGI_0) hi17 hi18
  have hc120 : ∀ (y1 : Int) (a : Nat → Nat → Int), (((4096 - y1) * 54006) + 27002).toNat ≤ n → iv a → jfr jW_X12_rings a0 a → 1 ≤ y1 → y1 ≤ 4096 → (RS a) → (RF a (a 146 56 + 1)) → a 146 56 ≤ a 146 49 → 1 ≤ y1 → (SEAT (a0 181) (a0 146 49).toNat (a 146 56).toNat (a 183)) → (RG2 a (a 146 56).toNat (gR a0 b0 (a 183)) (kR a0 b0 (a 183))) → (W64 (a 146 56).toNat (gR a0 b0 (a 183)) (kR a0 b0 (a 183)) (a 191) y1.toNat) → (FO a) → (FW a) → jt (jxX E d 271 120 [some (.inr (.inr (.inl 146))), some (.inl y1), none, none, none, none] [] (jxSH, a, b0)) (jQ_X12_rings a0 b0) := by
    intro y1 a hm hv hf hi0 hi1 hi2 hrf hi4 hi5 hse hr2g hw64 hi9 hi10
    refine jt_eq (bq_X12_rings_120 E d y1 a b0) ?_
    have h1533_ := iv_get hv (k := 146) (j := 56) (l := 0) (u := 12) rfl
    have h1534_ := iv_get hv (k := 146) (j := 49) (l := 0) (u := 20) rfl
    have h1535_ : a 146 49 = a0 146 49 := hf 146 49 rfl
    have h1536_ := iv_get hv0 (k := 146) (j := 49) (l := 0) (u := 20) rfl
    have i56 := iv_get hv (k := 146) (j := 56) (l := 0) (u := 12) rfl
    have hs1 := jxshl1_b (a 146 56)
    have i56r := iv_get hv (k := 146) (j := 56) (l := 0) (u := 12) rfl
    have sh_ := shl1_12 (a 146 56).toNat (by omega)
    rw [Int.toNat_of_nonneg i56r.1] at sh_
    have h1537_ := jxshl1_b (a 146 56)
    refine jt_ite (fun c1538_ => ?_) (fun c1538_ => ?_)
    ·
      refine jt_bI (sp_X12_leastOf E d (jd_le hd rfl) y1 a b0 hv (show 1 ≤ y1 from by omega) (show y1 ≤ 4095 from by omega)) (fun r1539_ a1539_ b1539_ h1539_ => ?_)
      obtain ⟨rfl, rfl, hq1539_0, hq1539_1, hq1539_2, hq1539_3⟩ := h1539_
      have hb1539 := bit_le (x := y1) (k := r1539_) (by omega) (by omega) (by omega) (by omega) hq1539_2
      have hm1539 := fun h => shl_mono (j := r1539_) (k := a 146 56) (by omega) (by omega) (by omega) (by omega) h
      have h1540_ := jxshl1_b r1539_
      have h1541_ := jxxor_b y1 (jxshl 1 r1539_)
      refine jt_grd (by omega) ?_
      exact hc146 y1 r1539_ (a 191 ((jxxor y1 (jxshl 1 r1539_)).toNat)) a (show (((4096 - y1) * 54006) + 27002).toNat ≤ n from by omega) hv hf (show 1 ≤ y1 from by omega) (show y1 ≤ 4095 from by omega) (show 0 ≤ r1539_ from by omega) (show r1539_ ≤ 11 from by omega) hi2 (by first | assumption | exact fun k hk => hrf k hk | exact RF_last (hrfe (by omega)) (by omega) rfl) (show a 146 56 ≤ a 146 49 from by omega) (show 1 ≤ y1 from by omega) (show y1 ≤ 4095 from by omega) (show 0 ≤ r1539_ from by omega) (show r1539_ < a 146 56 from by omega) hse hr2g hw64 hq1539_3 (by omega) (by rw [xsh (by omega) (by omega) (by omega) (by omega), Int.toNat_natCast]) hi9 hi10
    ·
      refine jt_bV (sp_X12_finds E d (jd_le hd rfl) a b0 hv hi2 hi10 hi9 (by first | assumption | exact fun k hk => hrf k hk | exact RF_last (hrfe (by omega)) (by omega) rfl) (show a 146 56 ≤ a 146 49 from by omega)) (fun a1542_ b1542_ h1542_ => ?_)
      obtain ⟨hv1542_, hf1542_, rfl, hq1542_0, hq1542_1, hq1542_2⟩ := h1542_
      have h1543_ := iv_get hv1542_ (k := 146) (j := 64) (l := 0) (u := 6) rfl
      have hf1544_ : jfr jW_X12_rings a0 a1542_ := jfr_tr hf hf1542_ rfl
      exact jt_rI ⟨hv1542_, hf1544_, rfl, hq1542_0, (FW_fr hi10 hf1542_ rfl (fun _ => rfl)), (show (a0 146 49 = 0 → a1542_ 146 64 = 0) from by omega), ⟨(a 146 56).toNat, a 183, a 191, hse, by omega, W64_ISB hw64 (by omega), hq1542_2 _ _ _ ⟨by omega, by omega, kR_self a0 b0 (a 183), hr2g, fun t ht => W64_bd hw64 (by omega) ht⟩, rfl⟩⟩
  exact ⟨hc186, hc189, hc227, hc154, hc146, hc120⟩
theorem cp_X12_rings_118 (E : jxE) (d : Nat) (hd : Nat.ble 4 (d + 1) = true) (a0 b0 : Nat → Nat → Int) (hv0 : iv a0) (hp0 : FO a0) (hp1 : FW a0) : ∀ (a : Nat → Nat → Int), iv a → jfr jW_X12_rings a0 a → (RS a) → (RF a (a 146 56 + 1)) → a 146 56 ≤ a 146 49 → (SEAT (a0 181) (a0 146 49).toNat (a 146 56).toNat (a 183)) → (RG2 a (a 146 56).toNat (gR a0 b0 (a 183)) (kR a0 b0 (a 183))) → (a 191 0 = 0) → (FO a) → (FW a) → jt (jxX E d 271 118 [some (.inr (.inr (.inl 146))), none, none, none, none, none] [] (jxSH, a, b0)) (jQ_X12_rings a0 b0) := by
  intro a hv hf hi0 hrf hi2 hse hr2g h1910 hi6 hi7
  refine jt_eq (bq_X12_rings_118 E d a b0) ?_
  have h1545_ := iv_get hv (k := 146) (j := 56) (l := 0) (u := 12) rfl
  have h1546_ := iv_get hv (k := 146) (j := 49) (l := 0) (u := 20) rfl
  have h1547_ : a 146 49 = a0 146 49 := hf 146 49 rfl
  have h1548_ := iv_get hv0 (k := 146) (j := 49) (l := 0) (u := 20) rfl
  exact (cp_X12_rings_120 E d hd a0 b0 hv0 hp0 hp1 _).2.2.2.2.2 1 a (Nat.le_refl _) hv hf (show 1 ≤ 1 from by omega) (show 1 ≤ 4096 from by omega) hi0 (by first | assumption | exact fun k hk => hrf k hk | exact RF_last (hrfe (by omega)) (by omega) rfl) (show a 146 56 ≤ a 146 49 from by omega) (show 1 ≤ 1 from by omega) hse hr2g (W64_1 h1910) hi6 hi7
theorem cp_X12_rings_69 (E : jxE) (d : Nat) (hd : Nat.ble 4 (d + 1) = true) (a0 b0 : Nat → Nat → Int) (hv0 : iv a0) (hp0 : FO a0) (hp1 : FW a0) : ∀ n : Nat, (∀ (y1 : Int) (a : Nat → Nat → Int), (((12 - y1) * 2) + 1).toNat ≤ n → iv a → jfr jW_X12_rings a0 a → 1 ≤ y1 → y1 ≤ 12 → 1 ≤ a 146 56 → (a 146 58) + (st ((a 146 56) - y1)) ≤ 22484 → y1 ≤ a 146 56 → (RS a) → (RF a y1) → a 146 56 ≤ a 146 49 → (SEAT (a0 181) (a0 146 49).toNat (a 146 56).toNat (a 183)) → (RG1 a (a 146 56).toNat (gR a0 b0 (a 183)) (kR a0 b0 (a 183)) y1.toNat) → (FO a) → (FW a) → jt (jxX E d 271 95 [some (.inr (.inr (.inl 146))), some (.inl y1), none, none, none, none] [] (jxSH, a, b0)) (jQ_X12_rings a0 b0)) ∧ (∀ (y1 : Int) (a : Nat → Nat → Int), (((12 - y1) * 2) + 0).toNat ≤ n → iv a → jfr jW_X12_rings a0 a → 0 ≤ y1 → y1 ≤ 12 → (a 146 58) + (st ((a 146 56) - y1)) ≤ 22484 → y1 ≤ a 146 56 → (RS a) → (RF a y1) → a 146 56 ≤ a 146 49 → (SEAT (a0 181) (a0 146 49).toNat (a 146 56).toNat (a 183)) → (RG1 a (a 146 56).toNat (gR a0 b0 (a 183)) (kR a0 b0 (a 183)) y1.toNat) → (FO a) → (FW a) → jt (jxX E d 271 69 [some (.inr (.inr (.inl 146))), some (.inl y1), none, none, none, none] [] (jxSH, a, b0)) (jQ_X12_rings a0 b0)) := by
  refine jx_ind fun n ih => ?_
  have ih95 : ∀ (y1 : Int) (a : Nat → Nat → Int), (((12 - y1) * 2) + 1).toNat < n → iv a → jfr jW_X12_rings a0 a → 1 ≤ y1 → y1 ≤ 12 → 1 ≤ a 146 56 → (a 146 58) + (st ((a 146 56) - y1)) ≤ 22484 → y1 ≤ a 146 56 → (RS a) → (RF a y1) → a 146 56 ≤ a 146 49 → (SEAT (a0 181) (a0 146 49).toNat (a 146 56).toNat (a 183)) → (RG1 a (a 146 56).toNat (gR a0 b0 (a 183)) (kR a0 b0 (a 183)) y1.toNat) → (FO a) → (FW a) → jt (jxX E d 271 95 [some (.inr (.inr (.inl 146))), some (.inl y1), none, none, none, none] [] (jxSH, a, b0)) (jQ_X12_rings a0 b0) := fun y1 a hlt i0 i1 i2 i3 i4 i5 i6 i7 i8 i9 i10 i11 i12 i13 => (ih _ hlt).1 y1 a (Nat.le_refl _) i0 i1 i2 i3 i4 i5 i6 i7 i8 i9 i10 i11 i12 i13
  have ih69 : ∀ (y1 : Int) (a : Nat → Nat → Int), (((12 - y1) * 2) + 0).toNat < n → iv a → jfr jW_X12_rings a0 a → 0 ≤ y1 → y1 ≤ 12 → (a 146 58) + (st ((a 146 56) - y1)) ≤ 22484 → y1 ≤ a 146 56 → (RS a) → (RF a y1) → a 146 56 ≤ a 146 49 → (SEAT (a0 181) (a0 146 49).toNat (a 146 56).toNat (a 183)) → (RG1 a (a 146 56).toNat (gR a0 b0 (a 183)) (kR a0 b0 (a 183)) y1.toNat) → (FO a) → (FW a) → jt (jxX E d 271 69 [some (.inr (.inr (.inl 146))), some (.inl y1), none, none, none, none] [] (jxSH, a, b0)) (jQ_X12_rings a0 b0) := fun y1 a hlt i0 i1 i2 i3 i4 i5 i6 i7 i8 i9 i10 i11 i12 => (ih _ hlt).2 y1 a (Nat.le_refl _) i0 i1 i2 i3 i4 i5 i6 i7 i8 i9 i10 i11 i12
  have hc95 : ∀ (y1 : Int) (a : Nat → Nat → Int), (((12 - y1) * 2) + 1).toNat ≤ n → iv a → jfr jW_X12_rings a0 a → 1 ≤ y1 → y1 ≤ 12 → 1 ≤ a 146 56 → (a 146 58) + (st ((a 146 56) - y1)) ≤ 22484 → y1 ≤ a 146 56 → (RS a) → (RF a y1) → a 146 56 ≤ a 146 49 → (SEAT (a0 181) (a0 146 49).toNat (a 146 56).toNat (a 183)) → (RG1 a (a 146 56).toNat (gR a0 b0 (a 183)) (kR a0 b0 (a 183)) y1.toNat) → (FO a) → (FW a) → jt (jxX E d 271 95 [some (.inr (.inr (.inl 146))), some (.inl y1), none, none, none, none] [] (jxSH, a, b0)) (jQ_X12_rings a0 b0) := by
    intro y1 a hm hv hf hi0 hi1 hi2 hi3 hi4 hi5 hrf hi7 hse hr1g hi10 hi11
    refine jt_eq (bq_X12_rings_95 E d y1 a b0) ?_
    have h1549_ := iv_get hv (k := 146) (j := 56) (l := 0) (u := 12) rfl
    have h1550_ := iv_get hv (k := 146) (j := 58) (l := 0) (u := 27000) rfl
    have h1551_ := iv_get hv (k := 146) (j := 49) (l := 0) (u := 20) rfl
    have h1552_ : a 146 49 = a0 146 49 := hf 146 49 rfl
    have h1553_ := iv_get hv0 (k := 146) (j := 49) (l := 0) (u := 20) rfl
    exact ih69 y1 a (show (((12 - y1) * 2) + 0).toNat < n from by omega) hv hf (show 0 ≤ y1 from by omega) (show y1 ≤ 12 from by omega) (show (a 146 58) + (st ((a 146 56) - y1)) ≤ 22484 from by omega) (show y1 ≤ a 146 56 from by omega) hi5 (by first | (intro k hk; exact absurd hk (by omega)) | assumption) (show a 146 56 ≤ a 146 49 from by omega) hse hr1g hi10 hi11
  have hc69 : ∀ (y1 : Int) (a : Nat → Nat → Int), (((12 - y1) * 2) + 0).toNat ≤ n → iv a → jfr jW_X12_rings a0 a → 0 ≤ y1 → y1 ≤ 12 → (a 146 58) + (st ((a 146 56) - y1)) ≤ 22484 → y1 ≤ a 146 56 → (RS a) → (RF a y1) → a 146 56 ≤ a 146 49 → (SEAT (a0 181) (a0 146 49).toNat (a 146 56).toNat (a 183)) → (RG1 a (a 146 56).toNat (gR a0 b0 (a 183)) (kR a0 b0 (a 183)) y1.toNat) → (FO a) → (FW a) → jt (jxX E d 271 69 [some (.inr (.inr (.inl 146))), some (.inl y1), none, none, none, none] [] (jxSH, a, b0)) (jQ_X12_rings a0 b0) := by
    intro y1 a hm hv hf hi0 hi1 hi2 hi3 hi4 hrf hi6 hse hr1g hi9 hi10
    refine jt_eq (bq_X12_rings_69 E d y1 a b0) ?_
    have h1554_ := iv_get hv (k := 146) (j := 58) (l := 0) (u := 27000) rfl
    have h1555_ := iv_get hv (k := 146) (j := 56) (l := 0) (u := 12) rfl
    have h1556_ := iv_get hv (k := 146) (j := 49) (l := 0) (u := 20) rfl
    have h1557_ : a 146 49 = a0 146 49 := hf 146 49 rfl
    have h1558_ := iv_get hv0 (k := 146) (j := 49) (l := 0) (u := 20) rfl
    have i56 := iv_get hv (k := 146) (j := 56) (l := 0) (u := 12) rfl
    have hst : y1 < a 146 56 → st (a 146 56 - y1) = st (a 146 56 - 1 - y1) + tot (a 146 56 - 1 - y1) ∧ 0 ≤ st (a 146 56 - 1 - y1) ∧ 0 ≤ tot (a 146 56 - 1 - y1) := fun h => by
      have h1 := tt_at (m := a 146 56 - 1 - y1) (by omega) (by omega)
      have h2 := st_at (j := a 146 56 - 1 - y1) (by omega) (by omega)
      have e : a 146 56 - y1 = a 146 56 - 1 - y1 + 1 := by omega
      rw [e]
      exact ⟨h1.2.2.2.2.2.2.2.1, h2.1, h1.2.2.2.2.2.2.2.2.2⟩
    have hrfe : ¬ y1 < a 146 56 → RF a (a 146 56) := fun h => by rw [show a 146 56 = y1 from by omega]; exact hrf
    have gkf_ := fun (H : Nat → Nat → Int) (h1 : ∀ j, H 150 j = a 150 j) (h2 : ∀ j, H 178 j = a 178 j) (h3 : ∀ j, H 179 j = a 179 j) (h4 : ∀ j, H 180 j = a 180 j) => gk_fr2 (a := a0) (a1 := H) (b := b0) (b1 := b0) (funext fun j => (h1 j).trans (hf 150 j rfl)) (funext fun j => (h2 j).trans (hf 178 j rfl)) (funext fun j => (h3 j).trans (hf 179 j rfl)) (funext fun j => (h4 j).trans (hf 180 j rfl))
    have i58_ := iv_get hv (k := 146) (j := 58) (l := 0) (u := 27000) rfl
    refine jt_ite (fun c1559_ => ?_) (fun c1559_ => ?_)
    ·
      refine jt_grd (by omega) ?_
      have hv1560_ : iv (jxu a 186 (y1.toNat) (a 146 58)) := iv_put hv (l := 0) (u := 27000) rfl (by omega) (by omega)
      have hg1561_ : RS (jxu a 186 (y1.toNat) (a 146 58)) := (RS_fr hi4 (jfr_1 a 186 (y1.toNat) (a 146 58)) rfl (fun _ => rfl) (fun _ => rfl))
      refine jt_bV (sp_X12_ringsOf E d (jd_le hd rfl) y1 (jxu a 186 (y1.toNat) (a 146 58)) b0 hv1560_ (show 0 ≤ y1 from by omega) (show y1 < a 146 56 from by omega) (by unfold rbase; show a 146 58 + tot (a 146 56 - 1 - y1) ≤ 27000; omega) hg1561_) (fun a1562_ b1562_ h1562_ => ?_)
      obtain ⟨hv1562_, hf1562_, rfl, hq1562_0, hq1562_1, hq1562_2, hq1562_3⟩ := h1562_
      have h1563_ := iv_get hv1562_ (k := 146) (j := 58) (l := 0) (u := 27000) rfl
      have h1564_ : a 146 58 ≤ a1562_ 146 58 := hq1562_1
      have h1565_ : a1562_ 146 58 ≤ (a 146 58) + (tot (((a 146 56) - 1) - y1)) := hq1562_2
      have he1562 : a 146 56 - (jxw (y1 + 1)) = a 146 56 - 1 - y1 := by rw [jxw_id (by omega) (by omega)]; omega
      have hse1562 : st (a1562_ 146 56 - (jxw (y1 + 1))) = st (a 146 56 - 1 - y1) := by rw [show a1562_ 146 56 - (jxw (y1 + 1)) = a 146 56 - 1 - y1 from by rw [hf1562_ 146 56 rfl]; exact he1562]
      have hf1566_ : jfr jW_X12_rings a0 (jxu a 186 (y1.toNat) (a 146 58)) := jfr_put hf rfl
      have hf1567_ : jfr jW_X12_rings a0 a1562_ := jfr_tr hf1566_ hf1562_ rfl
      have h1568_ : jxw (y1 + 1) = y1 + 1 := jxw_id (by omega) (by omega)
      have h1569_ := iv_get hv1562_ (k := 146) (j := 56) (l := 0) (u := 12) rfl
      have h1570_ : a1562_ 146 56 = a 146 56 := hf1562_ 146 56 rfl
      have h1571_ := iv_get hv1562_ (k := 146) (j := 49) (l := 0) (u := 20) rfl
      have h1572_ : a1562_ 146 49 = a 146 49 := hf1562_ 146 49 rfl
      have hg1573_ : FO (jxu a 186 (y1.toNat) (a 146 58)) := (FO_fr hi9 (jfr_1 a 186 (y1.toNat) (a 146 58)) rfl rfl (fun _ => rfl))
      have hg1574_ : FW (jxu a 186 (y1.toNat) (a 146 58)) := (FW_fr hi10 (jfr_1 a 186 (y1.toNat) (a 146 58)) rfl (fun _ => rfl))
      exact hc95 (jxw (y1 + 1)) a1562_ (show (((12 - (jxw (y1 + 1))) * 2) + 1).toNat ≤ n from by omega) hv1562_ hf1567_ (show 1 ≤ jxw (y1 + 1) from by omega) (show jxw (y1 + 1) ≤ 12 from by omega) (show 1 ≤ a1562_ 146 56 from by omega) (show (a1562_ 146 58) + (st ((a1562_ 146 56) - (jxw (y1 + 1)))) ≤ 22484 from by omega) (show jxw (y1 + 1) ≤ a1562_ 146 56 from by omega) hq1562_0 (RF_step hrf (by omega) (jxw_id (by omega) (by omega)) (fun k => hf1562_ 186 k rfl) (by omega)) (show a1562_ 146 56 ≤ a1562_ 146 49 from by omega) (by rw [show a1562_ 146 56 = a 146 56 from hf1562_ 146 56 rfl, show a1562_ 183 = a 183 from funext fun j => hf1562_ 183 j rfl]; exact hse) (by have hgk_ := gkf_ (jxu a 186 (y1.toNat) (a 146 58)) (fun j => jxu_nk (by decide)) (fun j => jxu_nk (by decide)) (fun j => jxu_nk (by decide)) (fun j => jxu_nk (by decide)); rw [show a1562_ 146 56 = a 146 56 from hf1562_ 146 56 rfl, show a1562_ 183 = a 183 from funext fun j => hf1562_ 183 j rfl, show (jxw (y1 + 1)).toNat = y1.toNat + 1 from by omega]; exact RG1_s (H := jxu a 186 (y1.toNat) (a 146 58)) (b := b0) hr1g i58_.1 (fun s hs => jxu_nj hs) (jxu_at _ _ _ _) (jxu_nk (by decide)) (fun j => jxu_nk (by decide)) (fun j => jxu_nk (by decide)) (fun s => hf1562_ 186 s rfl) (by rw [jxu_nk (by decide)]) (by rw [hgk_.1, jxu_off (by decide)]) (by rw [hgk_.2, jxu_off (by decide)]) hq1562_3) (FO_fr hg1573_ hf1562_ rfl rfl (fun _ => rfl)) (FW_fr hg1574_ hf1562_ rfl (fun _ => rfl))
    ·
      refine jt_grd (by omega) ?_
      have hv1575_ : iv (jxu a 186 ((a 146 56).toNat) (a 146 58)) := iv_put hv (l := 0) (u := 27000) rfl (by omega) (by omega)
      have hv1576_ : iv (jxu (jxu a 186 ((a 146 56).toNat) (a 146 58)) 191 0 0) := iv_putf hv1575_ rfl
      have hf1577_ : jfr jW_X12_rings a0 (jxu a 186 ((a 146 56).toNat) (a 146 58)) := jfr_put hf rfl
      have hf1578_ : jfr jW_X12_rings a0 (jxu (jxu a 186 ((a 146 56).toNat) (a 146 58)) 191 0 0) := jfr_put hf1577_ rfl
      have hg1579_ : RS (jxu a 186 ((a 146 56).toNat) (a 146 58)) := (RS_fr hi4 (jfr_1 a 186 ((a 146 56).toNat) (a 146 58)) rfl (fun _ => rfl) (fun _ => rfl))
      have hg1580_ : RS (jxu (jxu a 186 ((a 146 56).toNat) (a 146 58)) 191 0 0) := (RS_fr hg1579_ (jfr_1 (jxu a 186 ((a 146 56).toNat) (a 146 58)) 191 0 0) rfl (fun _ => rfl) (fun _ => rfl))
      have hg1581_ : FO (jxu a 186 ((a 146 56).toNat) (a 146 58)) := (FO_fr hi9 (jfr_1 a 186 ((a 146 56).toNat) (a 146 58)) rfl rfl (fun _ => rfl))
      have hg1582_ : FO (jxu (jxu a 186 ((a 146 56).toNat) (a 146 58)) 191 0 0) := (FO_fr hg1581_ (jfr_1 (jxu a 186 ((a 146 56).toNat) (a 146 58)) 191 0 0) rfl rfl (fun _ => rfl))
      have hg1583_ : FW (jxu a 186 ((a 146 56).toNat) (a 146 58)) := (FW_fr hi10 (jfr_1 a 186 ((a 146 56).toNat) (a 146 58)) rfl (fun _ => rfl))
      have hg1584_ : FW (jxu (jxu a 186 ((a 146 56).toNat) (a 146 58)) 191 0 0) := (FW_fr hg1583_ (jfr_1 (jxu a 186 ((a 146 56).toNat) (a 146 58)) 191 0 0) rfl (fun _ => rfl))
      exact cp_X12_rings_118 E d hd a0 b0 hv0 hp0 hp1 (jxu (jxu a 186 ((a 146 56).toNat) (a 146 58)) 191 0 0) hv1576_ hf1578_ hg1580_ (by first | assumption | exact fun k hk => hrf k hk | exact RF_last (hrfe (by omega)) (by omega) rfl) (show a 146 56 ≤ a 146 49 from by omega) hse (by rw [jxu_off (show ¬ 183 = 191 by decide), jxu_off (show ¬ 183 = 186 by decide), jxu_nk (show ¬ 146 = 191 by decide), jxu_nk (show ¬ 146 = 186 by decide)]; have q := hr1g; rw [show y1.toNat = (a 146 56).toNat from by omega] at q; exact RG1_end q (fun s hs => by rw [jxu_nk (show ¬ 186 = 191 by decide), jxu_nj (by omega)]) (by rw [jxu_nk (show ¬ 186 = 191 by decide), jxu_at]) (fun j => by rw [jxu_nk (show ¬ 184 = 191 by decide), jxu_nk (show ¬ 184 = 186 by decide)]) (fun j => by rw [jxu_nk (show ¬ 185 = 191 by decide), jxu_nk (show ¬ 185 = 186 by decide)])) (jxu_at _ _ _ _) hg1582_ hg1584_
  exact ⟨hc95, hc69⟩
theorem cp_X12_rings_7 (E : jxE) (d : Nat) (hd : Nat.ble 4 (d + 1) = true) (a0 b0 : Nat → Nat → Int) (hv0 : iv a0) (hp0 : FO a0) (hp1 : FW a0) : ∀ n : Nat, (∀ (y1 : Int) (a : Nat → Nat → Int), (((20 - y1) * 1) + 0).toNat ≤ n → iv a → jfr jW_X12_rings a0 a → 0 ≤ y1 → y1 ≤ 19 → 1 ≤ a 146 49 → a 146 56 ≤ y1 + 1 → y1 < a 146 49 → 0 ≤ y1 → (GATH (opq (a0 181)) (fun i => (i : Int)) (y1.toNat + 1) (a 146 56).toNat (a 183)) → (FO a) → (FW a) → jt (jxX E d 271 56 [some (.inr (.inr (.inl 146))), some (.inl y1), none, none, none, none] [] (jxSH, a, b0)) (jQ_X12_rings a0 b0)) ∧ (∀ (y1 : Int) (a : Nat → Nat → Int), (((20 - y1) * 1) + 0).toNat ≤ n → iv a → jfr jW_X12_rings a0 a → 0 ≤ y1 → y1 ≤ 19 → 1 ≤ a 146 49 → a 146 56 ≤ 11 → a 146 56 ≤ y1 → y1 < a 146 49 → a 146 56 ≤ 11 → 0 ≤ y1 → (GATH (opq (a0 181)) (fun i => (i : Int)) y1.toNat (a 146 56).toNat (a 183)) → (¬ opq (a0 181) y1.toNat = 0) → (a 183 (a 146 56).toNat = ((y1.toNat : Nat) : Int)) → (FO a) → (FW a) → jt (jxX E d 271 46 [some (.inr (.inr (.inl 146))), some (.inl y1), none, none, none, none] [] (jxSH, a, b0)) (jQ_X12_rings a0 b0)) ∧ (∀ (y1 : Int) (a : Nat → Nat → Int), (((20 - y1) * 1) + 0).toNat ≤ n → iv a → jfr jW_X12_rings a0 a → 0 ≤ y1 → y1 ≤ 20 → a 146 56 ≤ y1 → a 146 56 ≤ a 146 49 → 0 ≤ y1 → y1 ≤ a 146 49 → (GATH (opq (a0 181)) (fun i => (i : Int)) y1.toNat (a 146 56).toNat (a 183)) → (FO a) → (FW a) → jt (jxX E d 271 7 [some (.inr (.inr (.inl 146))), some (.inl y1), none, none, none, none] [] (jxSH, a, b0)) (jQ_X12_rings a0 b0)) := by
  refine jx_ind fun n ih => ?_
  have ih56 : ∀ (y1 : Int) (a : Nat → Nat → Int), (((20 - y1) * 1) + 0).toNat < n → iv a → jfr jW_X12_rings a0 a → 0 ≤ y1 → y1 ≤ 19 → 1 ≤ a 146 49 → a 146 56 ≤ y1 + 1 → y1 < a 146 49 → 0 ≤ y1 → (GATH (opq (a0 181)) (fun i => (i : Int)) (y1.toNat + 1) (a 146 56).toNat (a 183)) → (FO a) → (FW a) → jt (jxX E d 271 56 [some (.inr (.inr (.inl 146))), some (.inl y1), none, none, none, none] [] (jxSH, a, b0)) (jQ_X12_rings a0 b0) := fun y1 a hlt i0 i1 i2 i3 i4 i5 i6 i7 i8 i9 i10 => (ih _ hlt).1 y1 a (Nat.le_refl _) i0 i1 i2 i3 i4 i5 i6 i7 i8 i9 i10
  have ih46 : ∀ (y1 : Int) (a : Nat → Nat → Int), (((20 - y1) * 1) + 0).toNat < n → iv a → jfr jW_X12_rings a0 a → 0 ≤ y1 → y1 ≤ 19 → 1 ≤ a 146 49 → a 146 56 ≤ 11 → a 146 56 ≤ y1 → y1 < a 146 49 → a 146 56 ≤ 11 → 0 ≤ y1 → (GATH (opq (a0 181)) (fun i => (i : Int)) y1.toNat (a 146 56).toNat (a 183)) → (¬ opq (a0 181) y1.toNat = 0) → (a 183 (a 146 56).toNat = ((y1.toNat : Nat) : Int)) → (FO a) → (FW a) → jt (jxX E d 271 46 [some (.inr (.inr (.inl 146))), some (.inl y1), none, none, none, none] [] (jxSH, a, b0)) (jQ_X12_rings a0 b0) := fun y1 a hlt i0 i1 i2 i3 i4 i5 i6 i7 i8 i9 i10 i11 i12 i13 i14 => (ih _ hlt).2.1 y1 a (Nat.le_refl _) i0 i1 i2 i3 i4 i5 i6 i7 i8 i9 i10 i11 i12 i13 i14
  have ih7 : ∀ (y1 : Int) (a : Nat → Nat → Int), (((20 - y1) * 1) + 0).toNat < n → iv a → jfr jW_X12_rings a0 a → 0 ≤ y1 → y1 ≤ 20 → a 146 56 ≤ y1 → a 146 56 ≤ a 146 49 → 0 ≤ y1 → y1 ≤ a 146 49 → (GATH (opq (a0 181)) (fun i => (i : Int)) y1.toNat (a 146 56).toNat (a 183)) → (FO a) → (FW a) → jt (jxX E d 271 7 [some (.inr (.inr (.inl 146))), some (.inl y1), none, none, none, none] [] (jxSH, a, b0)) (jQ_X12_rings a0 b0) := fun y1 a hlt i0 i1 i2 i3 i4 i5 i6 i7 i8 i9 i10 => (ih _ hlt).2.2 y1 a (Nat.le_refl _) i0 i1 i2 i3 i4 i5 i6 i7 i8 i9 i10
  have hc56 : ∀ (y1 : Int) (a : Nat → Nat → Int), (((20 - y1) * 1) + 0).toNat ≤ n → iv a → jfr jW_X12_rings a0 a → 0 ≤ y1 → y1 ≤ 19 → 1 ≤ a 146 49 → a 146 56 ≤ y1 + 1 → y1 < a 146 49 → 0 ≤ y1 → (GATH (opq (a0 181)) (fun i => (i : Int)) (y1.toNat + 1) (a 146 56).toNat (a 183)) → (FO a) → (FW a) → jt (jxX E d 271 56 [some (.inr (.inr (.inl 146))), some (.inl y1), none, none, none, none] [] (jxSH, a, b0)) (jQ_X12_rings a0 b0) := by
    intro y1 a hm hv hf hi0 hi1 hi2 hi3 hi4 hi5 hg hi7 hi8
    refine jt_eq (bq_X12_rings_56 E d y1 a b0) ?_
    have h1585_ := iv_get hv (k := 146) (j := 49) (l := 0) (u := 20) rfl
    have h1586_ : a 146 49 = a0 146 49 := hf 146 49 rfl
    have h1587_ := iv_get hv0 (k := 146) (j := 49) (l := 0) (u := 20) rfl
    have h1588_ := iv_get hv (k := 146) (j := 56) (l := 0) (u := 12) rfl
    have e49_ := hf 146 49 rfl
    have i56g := iv_get hv (k := 146) (j := 56) (l := 0) (u := 12) rfl
    have i49g := iv_get hv (k := 146) (j := 49) (l := 0) (u := 20) rfl
    have h1589_ : jxw (y1 + 1) = y1 + 1 := jxw_id (by omega) (by omega)
    exact ih7 (jxw (y1 + 1)) a (show (((20 - (jxw (y1 + 1))) * 1) + 0).toNat < n from by omega) hv hf (show 0 ≤ jxw (y1 + 1) from by omega) (show jxw (y1 + 1) ≤ 20 from by omega) (show a 146 56 ≤ jxw (y1 + 1) from by omega) (show a 146 56 ≤ a 146 49 from by omega) (show 0 ≤ jxw (y1 + 1) from by omega) (show jxw (y1 + 1) ≤ a 146 49 from by omega) (by rw [show (jxw (y1 + 1)).toNat = y1.toNat + 1 from by omega]; exact hg) hi7 hi8
  have hc46 : ∀ (y1 : Int) (a : Nat → Nat → Int), (((20 - y1) * 1) + 0).toNat ≤ n → iv a → jfr jW_X12_rings a0 a → 0 ≤ y1 → y1 ≤ 19 → 1 ≤ a 146 49 → a 146 56 ≤ 11 → a 146 56 ≤ y1 → y1 < a 146 49 → a 146 56 ≤ 11 → 0 ≤ y1 → (GATH (opq (a0 181)) (fun i => (i : Int)) y1.toNat (a 146 56).toNat (a 183)) → (¬ opq (a0 181) y1.toNat = 0) → (a 183 (a 146 56).toNat = ((y1.toNat : Nat) : Int)) → (FO a) → (FW a) → jt (jxX E d 271 46 [some (.inr (.inr (.inl 146))), some (.inl y1), none, none, none, none] [] (jxSH, a, b0)) (jQ_X12_rings a0 b0) := by
    intro y1 a hm hv hf hi0 hi1 hi2 hi3 hi4 hi5 hi6 hi7 hg hpo h183 hi11 hi12
    refine jt_eq (bq_X12_rings_46 E d y1 a b0) ?_
    have h1590_ := iv_get hv (k := 146) (j := 49) (l := 0) (u := 20) rfl
    have h1591_ : a 146 49 = a0 146 49 := hf 146 49 rfl
    have h1592_ := iv_get hv0 (k := 146) (j := 49) (l := 0) (u := 20) rfl
    have h1593_ := iv_get hv (k := 146) (j := 56) (l := 0) (u := 12) rfl
    have e49_ := hf 146 49 rfl
    have i56g := iv_get hv (k := 146) (j := 56) (l := 0) (u := 12) rfl
    have i49g := iv_get hv (k := 146) (j := 49) (l := 0) (u := 20) rfl
    have h1595_ : jxw ((a 146 56) + 1) = (a 146 56) + 1 := jxw_id (by omega) (by omega)
    have hv1594_ : iv (jxu a 146 56 (jxw ((a 146 56) + 1))) := iv_put hv (l := 0) (u := 12) rfl (by omega) (by omega)
    have hf1596_ : jfr jW_X12_rings a0 (jxu a 146 56 (jxw ((a 146 56) + 1))) := jfr_put hf rfl
    have hg1597_ : FO (jxu a 146 56 (jxw ((a 146 56) + 1))) := (FO_fr hi11 (jfr_1s a 146 56 (jxw ((a 146 56) + 1))) rfl rfl (fun _ => rfl))
    have hg1598_ : FW (jxu a 146 56 (jxw ((a 146 56) + 1))) := (FW_fr hi12 (jfr_1s a 146 56 (jxw ((a 146 56) + 1))) rfl (fun _ => rfl))
    exact hc56 y1 (jxu a 146 56 (jxw ((a 146 56) + 1))) (show (((20 - y1) * 1) + 0).toNat ≤ n from by omega) hv1594_ hf1596_ (show 0 ≤ y1 from by omega) (show y1 ≤ 19 from by omega) (show 1 ≤ a 146 49 from by omega) (show jxw ((a 146 56) + 1) ≤ y1 + 1 from by omega) (show y1 < a 146 49 from by omega) (show 0 ≤ y1 from by omega) (by rw [jxu_at, jxu_off (show ¬ 183 = 146 by decide), show (jxw ((a 146 56) + 1)).toNat = (a 146 56).toNat + 1 from by omega]; exact GATH_yes hg hpo h183) hg1597_ hg1598_
  have hc7 : ∀ (y1 : Int) (a : Nat → Nat → Int), (((20 - y1) * 1) + 0).toNat ≤ n → iv a → jfr jW_X12_rings a0 a → 0 ≤ y1 → y1 ≤ 20 → a 146 56 ≤ y1 → a 146 56 ≤ a 146 49 → 0 ≤ y1 → y1 ≤ a 146 49 → (GATH (opq (a0 181)) (fun i => (i : Int)) y1.toNat (a 146 56).toNat (a 183)) → (FO a) → (FW a) → jt (jxX E d 271 7 [some (.inr (.inr (.inl 146))), some (.inl y1), none, none, none, none] [] (jxSH, a, b0)) (jQ_X12_rings a0 b0) := by
    intro y1 a hm hv hf hi0 hi1 hi2 hi3 hi4 hi5 hg hi7 hi8
    refine jt_eq (bq_X12_rings_7 E d y1 a b0) ?_
    have h1599_ := iv_get hv (k := 146) (j := 56) (l := 0) (u := 12) rfl
    have h1600_ := iv_get hv (k := 146) (j := 49) (l := 0) (u := 20) rfl
    have h1601_ : a 146 49 = a0 146 49 := hf 146 49 rfl
    have h1602_ := iv_get hv0 (k := 146) (j := 49) (l := 0) (u := 20) rfl
    have i56 := iv_get hv (k := 146) (j := 56) (l := 0) (u := 12) rfl
    have hst0 := st_at (j := a 146 56 - 0) (by omega) (by omega)
    have e49_ := hf 146 49 rfl
    have i56g := iv_get hv (k := 146) (j := 56) (l := 0) (u := 12) rfl
    have i49g := iv_get hv (k := 146) (j := 49) (l := 0) (u := 20) rfl
    refine jt_ite (fun c1603_ => ?_) (fun c1603_ => ?_)
    ·
      refine jt_ite (fun c1604_ => ?_) (fun c1604_ => ?_)
      ·
        refine jt_grd (by omega) ?_
        have h1605_ := iv_get hv (k := 181) (j := y1.toNat) (l := 0) (u := 2) rfl
        have h1606_ : a 181 (y1.toNat) = a0 181 (y1.toNat) := hf 181 (y1.toNat) rfl
        have h1607_ := iv_get hv0 (k := 181) (j := y1.toNat) (l := 0) (u := 2) rfl
        refine jt_ite (fun c1608_ => ?_) (fun c1608_ => ?_)
        ·
          refine jt_grd (by omega) ?_
          have hv1609_ : iv (jxu a 183 ((a 146 56).toNat) y1) := iv_put hv (l := 0) (u := 19) rfl (by omega) (by omega)
          have hf1610_ : jfr jW_X12_rings a0 (jxu a 183 ((a 146 56).toNat) y1) := jfr_put hf rfl
          have hg1611_ : FO (jxu a 183 ((a 146 56).toNat) y1) := (FO_fr hi7 (jfr_1 a 183 ((a 146 56).toNat) y1) rfl rfl (fun _ => rfl))
          have hg1612_ : FW (jxu a 183 ((a 146 56).toNat) y1) := (FW_put hi8 (show y1 = 0 ∨ y1 < a 146 49 from by omega))
          exact hc46 y1 (jxu a 183 ((a 146 56).toNat) y1) (show (((20 - y1) * 1) + 0).toNat ≤ n from by omega) hv1609_ hf1610_ (show 0 ≤ y1 from by omega) (show y1 ≤ 19 from by omega) (show 1 ≤ a 146 49 from by omega) (show a 146 56 ≤ 11 from by omega) (show a 146 56 ≤ y1 from by omega) (show y1 < a 146 49 from by omega) (show a 146 56 ≤ 11 from by omega) (show 0 ≤ y1 from by omega) (by rw [jxu_nk (show ¬ 146 = 183 by decide)]; exact GATH_row hg (fun j hj => jxu_nj (by omega))) (by unfold opq; rw [← hf 181 _ rfl, if_pos (by assumption)]; decide) (by rw [jxu_nk (show ¬ 146 = 183 by decide), jxu_at]; omega) hg1611_ hg1612_
        ·
          exact hc56 y1 a (show (((20 - y1) * 1) + 0).toNat ≤ n from by omega) hv hf (show 0 ≤ y1 from by omega) (show y1 ≤ 19 from by omega) (show 1 ≤ a 146 49 from by omega) (show a 146 56 ≤ y1 + 1 from by omega) (show y1 < a 146 49 from by omega) (show 0 ≤ y1 from by omega) (GATH_no hg (by unfold opq; rw [← hf 181 _ rfl]; exact if_neg (by assumption))) hi7 hi8
      ·
        have hv1613_ : iv (jxu a 146 58 0) := iv_put hv (l := 0) (u := 27000) rfl (by omega) (by omega)
        have hf1614_ : jfr jW_X12_rings a0 (jxu a 146 58 0) := jfr_put hf rfl
        have hg1615_ : FO (jxu a 146 58 0) := (FO_fr hi7 (jfr_1s a 146 58 0) rfl rfl (fun _ => rfl))
        have hg1616_ : FW (jxu a 146 58 0) := (FW_fr hi8 (jfr_1s a 146 58 0) rfl (fun _ => rfl))
        exact (cp_X12_rings_69 E d hd a0 b0 hv0 hp0 hp1 _).2 0 (jxu a 146 58 0) (Nat.le_refl _) hv1613_ hf1614_ (show 0 ≤ 0 from by omega) (show 0 ≤ 12 from by omega) (show 0 + (st ((a 146 56) - 0)) ≤ 22484 from by omega) (show 0 ≤ a 146 56 from by omega) (RS_zero a) (by first | (intro k hk; exact absurd hk (by omega)) | assumption) (show a 146 56 ≤ a 146 49 from by omega) ⟨y1.toNat, by omega, by show (a 146 56).toNat ≤ 12; omega, hg, by show _ ∨ (a 146 56).toNat = 12; omega⟩ (fun s hs => absurd hs (Nat.not_lt_zero s)) hg1615_ hg1616_
    ·
      have hv1617_ : iv (jxu a 146 58 0) := iv_put hv (l := 0) (u := 27000) rfl (by omega) (by omega)
      have hf1618_ : jfr jW_X12_rings a0 (jxu a 146 58 0) := jfr_put hf rfl
      have hg1619_ : FO (jxu a 146 58 0) := (FO_fr hi7 (jfr_1s a 146 58 0) rfl rfl (fun _ => rfl))
      have hg1620_ : FW (jxu a 146 58 0) := (FW_fr hi8 (jfr_1s a 146 58 0) rfl (fun _ => rfl))
      exact (cp_X12_rings_69 E d hd a0 b0 hv0 hp0 hp1 _).2 0 (jxu a 146 58 0) (Nat.le_refl _) hv1617_ hf1618_ (show 0 ≤ 0 from by omega) (show 0 ≤ 12 from by omega) (show 0 + (st ((a 146 56) - 0)) ≤ 22484 from by omega) (show 0 ≤ a 146 56 from by omega) (RS_zero a) (by first | (intro k hk; exact absurd hk (by omega)) | assumption) (show a 146 56 ≤ a 146 49 from by omega) ⟨y1.toNat, by omega, by show (a 146 56).toNat ≤ 12; omega, hg, by show _ ∨ (a 146 56).toNat = 12; omega⟩ (fun s hs => absurd hs (Nat.not_lt_zero s)) hg1619_ hg1620_
  exact ⟨hc56, hc46, hc7⟩
theorem sp_X12_rings (E : jxE) (d : Nat) (hd : Nat.ble 4 d = true) (a0 b0 : Nat → Nat → Int) (hv0 : iv a0) (hp0 : FO a0) (hp1 : FW a0) : jt (jxC E d 271 [.inr (.inr (.inl 146))] (jxSH, a0, b0)) (jQ_X12_rings a0 b0) := by
  obtain ⟨d, rfl⟩ := jd_succ hd
  refine jt_eq (bq_X12_rings E d a0 b0) ?_
  have hv1621_ : iv (jxu a0 146 56 0) := iv_put hv0 (l := 0) (u := 12) rfl (by omega) (by omega)
  have hf1622_ : jfr jW_X12_rings a0 (jxu a0 146 56 0) := jfr_put (jfr_rf _ _) rfl
  have h1623_ := iv_get hv0 (k := 146) (j := 49) (l := 0) (u := 20) rfl
  have hg1624_ : FO (jxu a0 146 56 0) := (FO_fr hp0 (jfr_1s a0 146 56 0) rfl rfl (fun _ => rfl))
  have hg1625_ : FW (jxu a0 146 56 0) := (FW_fr hp1 (jfr_1s a0 146 56 0) rfl (fun _ => rfl))
  exact (cp_X12_rings_7 E d hd a0 b0 hv0 hp0 hp1 _).2.2 0 (jxu a0 146 56 0) (Nat.le_refl _) hv1621_ hf1622_ (show 0 ≤ 0 from by omega) (show 0 ≤ 20 from by omega) (show 0 ≤ 0 from by omega) (show 0 ≤ a0 146 49 from by omega) (show 0 ≤ 0 from by omega) (show 0 ≤ a0 146 49 from by omega) (by rw [jxu_at]; exact GATH_0 _ _ _) hg1624_ hg1625_
