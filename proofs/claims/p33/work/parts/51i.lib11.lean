/-! rules -/
noncomputable def WI (f : Nat → Int) (n p : Nat) : Int := @ite Int (TW f n p 10) (Classical.propDecidable _) 0 (@ite Int (TW f n p 11) (Classical.propDecidable _) 1 (@ite Int (TW f n p 12) (Classical.propDecidable _) 2 (@ite Int (TW f n p 13) (Classical.propDecidable _) 3 (@ite Int (TW f n p 14) (Classical.propDecidable _) 4 (-1)))))
theorem WI_0 {f : Nat → Int} {n p : Nat} (h : TW f n p 10) : WI f n p = 0 := if_pos h
theorem WI_1 {f : Nat → Int} {n p : Nat} (h : TW f n p 11) : WI f n p = 1 := by
  unfold WI
  rw [if_neg (fun q => absurd (TW_one (by decide) (by decide) q h) (by decide)), if_pos h]
theorem WI_2 {f : Nat → Int} {n p : Nat} (h : TW f n p 12) : WI f n p = 2 := by
  unfold WI
  rw [if_neg (fun q => absurd (TW_one (by decide) (by decide) q h) (by decide)), if_neg (fun q => absurd (TW_one (by decide) (by decide) q h) (by decide)), if_pos h]
theorem WI_3 {f : Nat → Int} {n p : Nat} (h : TW f n p 13) : WI f n p = 3 := by
  unfold WI
  rw [if_neg (fun q => absurd (TW_one (by decide) (by decide) q h) (by decide)), if_neg (fun q => absurd (TW_one (by decide) (by decide) q h) (by decide)), if_neg (fun q => absurd (TW_one (by decide) (by decide) q h) (by decide)), if_pos h]
theorem WI_4 {f : Nat → Int} {n p : Nat} (h : TW f n p 14) : WI f n p = 4 := by
  unfold WI
  rw [if_neg (fun q => absurd (TW_one (by decide) (by decide) q h) (by decide)), if_neg (fun q => absurd (TW_one (by decide) (by decide) q h) (by decide)), if_neg (fun q => absurd (TW_one (by decide) (by decide) q h) (by decide)), if_neg (fun q => absurd (TW_one (by decide) (by decide) q h) (by decide)), if_pos h]
theorem WI_no {f : Nat → Int} {n p : Nat} (h0 : ¬ TW f n p 10) (h1 : ¬ TW f n p 11) (h2 : ¬ TW f n p 12) (h3 : ¬ TW f n p 13) (h4 : ¬ TW f n p 14) : WI f n p = -1 := by
  unfold WI
  rw [if_neg h0, if_neg h1, if_neg h2, if_neg h3, if_neg h4]
theorem WI_w {f : Nat → Int} {n p w : Nat} (hw : w < 5) (h : TW f n p (10 + w)) : WI f n p = w := by
  have : w = 0 ∨ w = 1 ∨ w = 2 ∨ w = 3 ∨ w = 4 := by omega
  rcases this with rfl | rfl | rfl | rfl | rfl
  · exact WI_0 h
  · exact WI_1 h
  · exact WI_2 h
  · exact WI_3 h
  · exact WI_4 h
theorem WI_sp (f : Nat → Int) (n p : Nat) : (WI f n p = -1 ∧ ∀ w, w < 5 → ¬ TW f n p (10 + w)) ∨ (0 ≤ WI f n p ∧ WI f n p ≤ 4 ∧ TW f n p (10 + (WI f n p).toNat)) := by
  by_cases h0 : TW f n p 10
  · rw [WI_0 h0]; exact Or.inr ⟨by decide, by decide, h0⟩
  by_cases h1 : TW f n p 11
  · rw [WI_1 h1]; exact Or.inr ⟨by decide, by decide, h1⟩
  by_cases h2 : TW f n p 12
  · rw [WI_2 h2]; exact Or.inr ⟨by decide, by decide, h2⟩
  by_cases h3 : TW f n p 13
  · rw [WI_3 h3]; exact Or.inr ⟨by decide, by decide, h3⟩
  by_cases h4 : TW f n p 14
  · rw [WI_4 h4]; exact Or.inr ⟨by decide, by decide, h4⟩
  · refine Or.inl ⟨WI_no h0 h1 h2 h3 h4, fun w hw => ?_⟩
    have : w = 0 ∨ w = 1 ∨ w = 2 ∨ w = 3 ∨ w = 4 := by omega
    rcases this with rfl | rfl | rfl | rfl | rfl <;> assumption
def RLO (w : Int) : Int := if w = 0 ∨ w = 3 then 1 else 0
def RHI (w : Int) : Int := if w = 0 ∨ w = 2 then 20 else if w = 1 then 99 else if w = 3 then 400 else 2
def RDF (w : Int) : Int := if w = 0 then 5 else if w = 1 then 10 else if w = 2 then 3 else if w = 3 then 60 else 2
noncomputable def RQ (f : Nat → Int) (n p : Nat) : Nat := SK f n (p + wdn (10 + (WI f n p).toNat))
noncomputable def RE (f : Nat → Int) (n p : Nat) : Nat := SK f n (DE f n (RQ f n p))
noncomputable def RWF (f : Nat → Int) (n p : Nat) (mask : Int) : Int := if WI f n p = -1 then 1 + 8 * (p : Int) else if jxand (jxshr mask (WI f n p)) 1 = 1 then 3 + 8 * (p : Int) else NF f n (RQ f n p) (RLO (WI f n p)) (RHI (WI f n p))
noncomputable def RP (f : Nat → Int) (n : Nat) : Nat → Nat
  | 0 => SK f n 0
  | k + 1 => SK f n (RE f n (RP f n k) + 1)
noncomputable def MSK (f : Nat → Int) (n : Nat) : Nat → Int
  | 0 => 0
  | k + 1 => jxor (MSK f n k) (jxshl 1 (WI f n (RP f n k)))
noncomputable def RFk (f : Nat → Int) (n k : Nat) : Int := RWF f n (RP f n k) (MSK f n k)
noncomputable def DRF (f : Nat → Int) (n : Nat) : Nat → Int → Int
  | 0, w => RDF w
  | k + 1, w => if w = WI f n (RP f n k) then NV f n (RQ f n (RP f n k)) else DRF f n k w
def RSq (f : Nat → Int) (n k : Nat) : Prop := RFk f n k = 0 ∧ RE f n (RP f n k) < n ∧ f (RE f n (RP f n k)) = 59
/-- what the reading of rules comes to: r, and the rules d -/
def RRS (f : Nat → Int) (n : Nat) (r : Int) : Prop := (n ≤ SK f n 0 ∧ r = 0) ∨ (SK f n 0 < n ∧ ∃ m : Nat, (∀ k, k < m → RSq f n k) ∧ ((¬ RFk f n m = 0 ∧ r = -2 - RFk f n m) ∨ (RFk f n m = 0 ∧ RE f n (RP f n m) < n ∧ ¬ f (RE f n (RP f n m)) = 59 ∧ r = -3 - 8 * (RE f n (RP f n m) : Int)) ∨ (RFk f n m = 0 ∧ n ≤ RE f n (RP f n m) ∧ r = m + 1)))
theorem RWF_pos (f : Nat → Int) (n p : Nat) (mask : Int) : 0 ≤ RWF f n p mask := by
  unfold RWF
  split
  · omega
  · split
    · omega
    · exact NF_pos _ _ _ _ _
theorem RRS_det {f : Nat → Int} {n : Nat} {r r2 : Int} (h : RRS f n r) (h2 : RRS f n r2) : r = r2 := by
  rcases h with ⟨a0, a1⟩ | ⟨a0, m, a1, a2⟩ <;> rcases h2 with ⟨b0, b1⟩ | ⟨b0, m2, b1, b2⟩
  · rw [a1, b1]
  · omega
  · omega
  · have e : m = m2 := by
      rcases Nat.lt_trichotomy m m2 with q | q | q
      · obtain ⟨c1, c2, c3⟩ := b1 m q
        rcases a2 with t | t | t
        · exact absurd c1 t.1
        · exact absurd c3 t.2.2.1
        · omega
      · exact q
      · obtain ⟨c1, c2, c3⟩ := a1 m2 q
        rcases b2 with t | t | t
        · exact absurd c1 t.1
        · exact absurd c3 t.2.2.1
        · omega
    subst e
    rcases a2 with t | t | t <;> rcases b2 with u | u | u
    · rw [t.2, u.2]
    · exact absurd u.1 t.1
    · exact absurd u.1 t.1
    · exact absurd t.1 u.1
    · rw [t.2.2.2, u.2.2.2]
    · omega
    · exact absurd t.1 u.1
    · omega
    · rw [t.2.2, u.2.2]
/-- the rules read, if it is good: of r words -/
theorem RP_le {f : Nat → Int} {n : Nat} : ∀ {m : Nat}, (∀ k, k < m → RSq f n k) → RP f n m ≤ n
  | 0, _ => (SK_sp f n 0).2.1 (Nat.zero_le _)
  | m + 1, h => (SK_sp f n _).2.1 (by have := (h m (by omega)).2.1; omega)
theorem RWF_le {f : Nat → Int} {n p : Nat} {mask : Int} (hp : p ≤ n) : RWF f n p mask ≤ 3 + 8 * (n : Int) := by
  unfold RWF
  rcases WI_sp f n p with ⟨h1, _⟩ | ⟨h1, h2, h3⟩
  · rw [if_pos h1]; omega
  · rw [if_neg (by omega)]
    split
    · omega
    · have hq : RQ f n p ≤ n := (SK_sp f n _).2.1 h3.1
      have := NF_le f n (RQ f n p) (RLO (WI f n p)) (RHI (WI f n p))
      omega
theorem MSK_bd (f : Nat → Int) (n : Nat) : ∀ m, (∀ k, k < m → RSq f n k) → 0 ≤ MSK f n m ∧ MSK f n m < 32
  | 0, _ => ⟨Int.le_refl _, by show (0 : Int) < 32; decide⟩
  | m + 1, h => by
    obtain ⟨h1, h2⟩ := MSK_bd f n m (fun k hk => h k (by omega))
    have h0 := (h m (by omega)).1
    have hs := WI_sp f n (RP f n m)
    have hw : 0 ≤ WI f n (RP f n m) ∧ WI f n (RP f n m) ≤ 4 := by
      rcases hs with q | q
      · unfold RFk RWF at h0
        rw [if_pos q.1] at h0
        omega
      · exact ⟨q.1, q.2.1⟩
    have h16 : ∀ k : Nat, k < 5 → 0 ≤ jxshl 1 (k : Int) ∧ jxshl 1 (k : Int) < 32 := by decide +kernel
    have hk := h16 (WI f n (RP f n m)).toNat (by omega)
    rw [Int.toNat_of_nonneg hw.1] at hk
    exact jxor_n 5 (by decide) h1 h2 hk.1 hk.2
/-- words told: each k below m has told its own bit -/
theorem RS_count {f : Nat → Int} {n m : Nat} (h : ∀ k, k < m → RSq f n k) (h0 : RFk f n m = 0) : m ≤ 4 := by
  have key : ∀ q, q ≤ m → q ≤ ([0, 1, 2, 3, 4].filter (fun w : Nat => decide (jxand (jxshr (MSK f n q) (w : Int)) 1 = 1))).length := by
    intro q
    induction q with
    | zero => exact fun _ => Nat.zero_le _
    | succ q ih =>
      intro hq
      have hi := ih (by omega)
      obtain ⟨g1, g2⟩ := MSK_bd f n q (fun k hk => h k (by omega))
      have hz := (h q (by omega)).1
      have hs := WI_sp f n (RP f n q)
      unfold RFk RWF at hz
      rcases hs with t | t
      · rw [if_pos t.1] at hz; omega
      · rw [if_neg (by omega)] at hz
        have ht : ¬ jxand (jxshr (MSK f n q) (WI f n (RP f n q))) 1 = 1 := by
          intro e
          rw [if_pos e] at hz
          omega
        show q + 1 ≤ ([0, 1, 2, 3, 4].filter (fun w : Nat => decide (jxand (jxshr (jxor (MSK f n q) (jxshl 1 (WI f n (RP f n q)))) (w : Int)) 1 = 1))).length
        have all : ∀ x : Nat, x < 32 → ∀ w : Nat, w < 5 → ¬ jxand (jxshr (x : Int) (w : Int)) 1 = 1 → ([0, 1, 2, 3, 4].filter (fun v : Nat => decide (jxand (jxshr (x : Int) (v : Int)) 1 = 1))).length + 1 ≤ ([0, 1, 2, 3, 4].filter (fun v : Nat => decide (jxand (jxshr (jxor (x : Int) (jxshl 1 (w : Int))) (v : Int)) 1 = 1))).length := by decide +kernel
        have a := all (MSK f n q).toNat (by omega) (WI f n (RP f n q)).toNat (by omega)
        rw [Int.toNat_of_nonneg g1, Int.toNat_of_nonneg t.1] at a
        exact Nat.le_trans (Nat.succ_le_succ hi) (a ht)
  have h5 := key m (Nat.le_refl _)
  obtain ⟨g1, g2⟩ := MSK_bd f n m h
  have hs := WI_sp f n (RP f n m)
  unfold RFk RWF at h0
  rcases hs with t | t
  · rw [if_pos t.1] at h0; omega
  · rw [if_neg (by omega)] at h0
    have ht : ¬ jxand (jxshr (MSK f n m) (WI f n (RP f n m))) 1 = 1 := by
      intro e
      rw [if_pos e] at h0
      omega
    have all : ∀ x : Nat, x < 32 → ∀ w : Nat, w < 5 → ¬ jxand (jxshr (x : Int) (w : Int)) 1 = 1 → ([0, 1, 2, 3, 4].filter (fun v : Nat => decide (jxand (jxshr (x : Int) (v : Int)) 1 = 1))).length ≤ 4 := by decide +kernel
    have a := all (MSK f n m).toNat (by omega) (WI f n (RP f n m)).toNat (by omega)
    rw [Int.toNat_of_nonneg g1, Int.toNat_of_nonneg t.1] at a
    exact Nat.le_trans h5 (a ht)
theorem RRS_bd {f : Nat → Int} {n : Nat} {r : Int} (h : RRS f n r) (hn : n ≤ 200) : -2000 ≤ r ∧ r ≤ 5 := by
  rcases h with ⟨a0, a1⟩ | ⟨a0, m, h1, h2⟩
  · omega
  · have hp := RP_le h1
    have h0 : 0 ≤ RFk f n m := RWF_pos _ _ _ _
    have hle : RFk f n m ≤ 3 + 8 * (n : Int) := RWF_le hp
    rcases h2 with ⟨q1, q2⟩ | ⟨q1, q2, q3, q4⟩ | ⟨q1, q2, q3⟩
    · omega
    · omega
    · have := RS_count h1 q1
      omega
theorem RLO_g {w : Int} (h0 : 0 ≤ w) (h1 : w ≤ 4) : ([1, 0, 0, 1, 0] : List Int).getD w.toNat 0 = RLO w := by
  have h : ∀ k : Nat, k < 5 → ([1, 0, 0, 1, 0] : List Int).getD k 0 = RLO (k : Int) := by decide +kernel
  have := h w.toNat (by omega)
  rwa [Int.toNat_of_nonneg h0] at this
theorem RHI_g {w : Int} (h0 : 0 ≤ w) (h1 : w ≤ 4) : ([20, 99, 20, 400, 2] : List Int).getD w.toNat 0 = RHI w := by
  have h : ∀ k : Nat, k < 5 → ([20, 99, 20, 400, 2] : List Int).getD k 0 = RHI (k : Int) := by decide +kernel
  have := h w.toNat (by omega)
  rwa [Int.toNat_of_nonneg h0] at this
theorem RDF_g {w : Int} (h0 : 0 ≤ w) (h1 : w ≤ 4) : ([5, 10, 3, 60, 2] : List Int).getD w.toNat 0 = RDF w := by
  have h : ∀ k : Nat, k < 5 → ([5, 10, 3, 60, 2] : List Int).getD k 0 = RDF (k : Int) := by decide +kernel
  have := h w.toNat (by omega)
  rwa [Int.toNat_of_nonneg h0] at this
theorem RWF_no {f : Nat → Int} {n p : Nat} {mask : Int} (h : WI f n p = -1) : RWF f n p mask = 1 + 8 * (p : Int) := if_pos h
theorem RWF_two {f : Nat → Int} {n p : Nat} {mask : Int} (h : ¬ WI f n p = -1) (h2 : jxand (jxshr mask (WI f n p)) 1 = 1) : RWF f n p mask = 3 + 8 * (p : Int) := by
  unfold RWF
  rw [if_neg h, if_pos h2]
theorem RWF_go {f : Nat → Int} {n p : Nat} {mask : Int} (h : ¬ WI f n p = -1) (h2 : ¬ jxand (jxshr mask (WI f n p)) 1 = 1) : RWF f n p mask = NF f n (RQ f n p) (RLO (WI f n p)) (RHI (WI f n p)) := by
  unfold RWF
  rw [if_neg h, if_neg h2]
/-! the reading of rules, the class's side -/
def RUL (a0 a : Nat → Nat → Int) (m : Nat) : Prop := a 2 3 = 0 ∧ a 2 2 = (RP (a0 3) (a0 2 1).toNat m : Int) ∧ a 55 2 = MSK (a0 3) (a0 2 1).toNat m ∧ (∀ k, k < m → RSq (a0 3) (a0 2 1).toNat k) ∧ ∀ w : Nat, w < 5 → a 57 w = DRF (a0 3) (a0 2 1).toNat m w
def RUE (a0 a : Nat → Nat → Int) (y : Int) : Prop := ∃ m : Nat, (∀ k, k < m → RSq (a0 3) (a0 2 1).toNat k) ∧ y = m + 1 ∧ ((a 2 3 = RFk (a0 3) (a0 2 1).toNat m ∧ ¬ RFk (a0 3) (a0 2 1).toNat m = 0) ∨
  (a 2 3 = 0 ∧ RFk (a0 3) (a0 2 1).toNat m = 0 ∧ a 2 2 = (RE (a0 3) (a0 2 1).toNat (RP (a0 3) (a0 2 1).toNat m) : Int) ∧ (RE (a0 3) (a0 2 1).toNat (RP (a0 3) (a0 2 1).toNat m) < (a0 2 1).toNat → ¬ a0 3 (RE (a0 3) (a0 2 1).toNat (RP (a0 3) (a0 2 1).toNat m)) = 59) ∧ ∀ w : Nat, w < 5 → a 57 w = DRF (a0 3) (a0 2 1).toNat (m + 1) w))
def RUR (a0 a : Nat → Nat → Int) (r : Int) : Prop := (a 2 3 = 0 → RRS (a0 3) (a0 2 1).toNat r ∧ 0 ≤ r ∧ ∀ w : Nat, w < 5 → a 57 w = DRF (a0 3) (a0 2 1).toNat r.toNat w) ∧ (¬ a 2 3 = 0 → RRS (a0 3) (a0 2 1).toNat (-2 - a 2 3) ∧ 1 ≤ a 2 3)
theorem RU_step {a0 a a1 a2 : Nat → Nat → Int} {i r : Int} (hi : 0 ≤ i) (h : RUL a0 a i.toNat) (e3 : a 3 = a0 3) (e21 : a 2 1 = a0 2 1)
    (R1 : a1 2 3 = RWF (a 3) (a 2 1).toNat (a 2 2).toNat (a 55 2))
    (R2 : RWF (a 3) (a 2 1).toNat (a 2 2).toNat (a 55 2) = 0 → a1 2 2 = (RE (a 3) (a 2 1).toNat (a 2 2).toNat : Int) ∧ a1 55 2 = jxor (a 55 2) (jxshl 1 (WI (a 3) (a 2 1).toNat (a 2 2).toNat)) ∧ UP (a 57) (a1 57) (WI (a 3) (a 2 1).toNat (a 2 2).toNat).toNat (NV (a 3) (a 2 1).toNat (RQ (a 3) (a 2 1).toNat (a 2 2).toNat)))
    (f3 : a1 3 = a 3) (f21 : a1 2 1 = a 2 1)
    (S1 : r = 1 → a1 2 3 = 0 ∧ (a1 2 2).toNat < (a1 2 1).toNat ∧ a1 3 (a1 2 2).toNat = 59 ∧ a2 2 2 = (SK (a1 3) (a1 2 1).toNat ((a1 2 2).toNat + 1) : Int))
    (S0 : r = 0 → ¬ a1 2 3 = 0 ∨ (a1 2 1).toNat ≤ (a1 2 2).toNat ∨ ¬ a1 3 (a1 2 2).toNat = 59) (S2 : r = 0 → a2 2 2 = a1 2 2)
    (g23 : a2 2 3 = a1 2 3) (g55 : a2 55 2 = a1 55 2) (g57 : ∀ j, a2 57 j = a1 57 j) (hr : r = 0 ∨ r = 1) : (¬ r = 0 → RUL a0 a2 (i.toNat + 1)) ∧ (r = 0 → RUE a0 a2 (i + 1)) := by
  obtain ⟨h1, h2, h3, h4, h5⟩ := h
  have hp : (a 2 2).toNat = RP (a0 3) (a0 2 1).toNat i.toNat := by rw [h2]; exact Int.toNat_natCast _
  have hF : RWF (a 3) (a 2 1).toNat (a 2 2).toNat (a 55 2) = RFk (a0 3) (a0 2 1).toNat i.toNat := by
    rw [e3, e21, hp, h3]; rfl
  rw [hF] at R1 R2
  have good : RFk (a0 3) (a0 2 1).toNat i.toNat = 0 → (a1 2 2).toNat = RE (a0 3) (a0 2 1).toNat (RP (a0 3) (a0 2 1).toNat i.toNat) ∧ a1 55 2 = MSK (a0 3) (a0 2 1).toNat (i.toNat + 1) ∧ ∀ w : Nat, w < 5 → a1 57 w = DRF (a0 3) (a0 2 1).toNat (i.toNat + 1) w := by
    intro h0
    obtain ⟨q1, q2, q3⟩ := R2 h0
    rw [e3, e21, hp] at q1 q2 q3
    refine ⟨by rw [q1]; exact Int.toNat_natCast _, by rw [q2, h3]; rfl, fun w hw => ?_⟩
    have hs := WI_sp (a0 3) (a0 2 1).toNat (RP (a0 3) (a0 2 1).toNat i.toNat)
    have hw0 : 0 ≤ WI (a0 3) (a0 2 1).toNat (RP (a0 3) (a0 2 1).toNat i.toNat) := by
      rcases hs with t | t
      · have h00 := h0
        unfold RFk at h00
        rw [RWF_no t.1] at h00
        omega
      · exact t.1
    show a1 57 w = (if (w : Int) = WI (a0 3) (a0 2 1).toNat (RP (a0 3) (a0 2 1).toNat i.toNat) then _ else DRF (a0 3) (a0 2 1).toNat i.toNat w)
    rw [q3 w]
    by_cases e : (w : Int) = WI (a0 3) (a0 2 1).toNat (RP (a0 3) (a0 2 1).toNat i.toNat)
    · rw [if_pos e, if_pos (by omega)]
    · rw [if_neg e, if_neg (by omega)]
      exact h5 w hw
  refine ⟨fun h0 => ?_, fun h0 => ?_⟩
  · obtain ⟨s1, s2, s3, s4⟩ := S1 (by omega)
    have h00 : RFk (a0 3) (a0 2 1).toNat i.toNat = 0 := by rw [← R1]; exact s1
    obtain ⟨g1, g2, g3⟩ := good h00
    rw [f21, e21, g1] at s2
    rw [f3, e3, g1] at s3
    rw [f3, e3, f21, e21, g1] at s4
    refine ⟨by rw [g23]; exact s1, by rw [s4]; rfl, by rw [g55]; exact g2, fun k hk => ?_, fun w hw => by rw [g57]; exact g3 w hw⟩
    by_cases e : k = i.toNat
    · subst e; exact ⟨h00, s2, s3⟩
    · exact h4 k (by omega)
  · refine ⟨i.toNat, h4, by omega, ?_⟩
    by_cases h00 : RFk (a0 3) (a0 2 1).toNat i.toNat = 0
    · right
      obtain ⟨g1, g2, g3⟩ := good h00
      have hat := (R2 h00).1
      rw [e3, e21, hp] at hat
      refine ⟨by rw [g23, R1]; exact h00, h00, by rw [S2 h0]; exact hat, ?_, fun w hw => by rw [g57]; exact g3 w hw⟩
      intro hlt h59
      rcases S0 h0 with q | q | q
      · exact q (by rw [R1]; exact h00)
      · rw [f21, e21, g1] at q; omega
      · rw [f3, e3, g1] at q; exact q h59
    · left
      exact ⟨by rw [g23]; exact R1, h00⟩
theorem RUL_big {a0 a : Nat → Nat → Int} {m : Nat} (h : RUL a0 a m) : m ≤ 5 := by
  rcases Nat.lt_or_ge 5 m with q | q
  · have := RS_count (f := a0 3) (n := (a0 2 1).toNat) (m := 5) (fun k hk => h.2.2.2.1 k (by omega)) (h.2.2.2.1 5 q).1
    omega
  · exact q
theorem RU_end1 {a0 a : Nat → Nat → Int} {y : Int} (h : RUE a0 a y) (hs : SK (a0 3) (a0 2 1).toNat 0 < (a0 2 1).toNat) (e21 : a 2 1 = a0 2 1) (he : a 2 1 ≤ a 2 2) : RUR a0 a y := by
  obtain ⟨m, h1, hy, h2⟩ := h
  have hp : 0 ≤ RFk (a0 3) (a0 2 1).toNat m := RWF_pos _ _ _ _
  rcases h2 with ⟨q1, q2⟩ | ⟨q1, q2, q3, q4, q5⟩
  · exact ⟨fun h0 => absurd (q1 ▸ h0) q2, fun _ => ⟨Or.inr ⟨hs, m, h1, Or.inl ⟨q2, by rw [q1]⟩⟩, by omega⟩⟩
  · refine ⟨fun _ => ⟨Or.inr ⟨hs, m, h1, Or.inr (Or.inr ⟨q2, by omega, hy⟩)⟩, by omega, ?_⟩, fun h0 => absurd q1 h0⟩
    rw [hy, show ((m : Int) + 1).toNat = m + 1 by omega]
    exact q5
theorem RU_end2 {a0 a a1 : Nat → Nat → Int} {y : Int} (h : RUE a0 a y) (hs : SK (a0 3) (a0 2 1).toNat 0 < (a0 2 1).toNat) (e21 : a 2 1 = a0 2 1) (he : ¬ a 2 1 ≤ a 2 2) (h0 : 0 ≤ a 2 1) (n1 : a 2 3 = 0 → a1 2 3 = 1 + 8 * a 2 2) (n2 : ¬ a 2 3 = 0 → a1 2 3 = a 2 3) : RUR a0 a1 y := by
  obtain ⟨m, h1, hy, h2⟩ := h
  have hp : 0 ≤ RFk (a0 3) (a0 2 1).toNat m := RWF_pos _ _ _ _
  rcases h2 with ⟨q1, q2⟩ | ⟨q1, q2, q3, q4, q5⟩
  · have e := n2 (by rw [q1]; exact q2)
    exact ⟨fun h0 => absurd (by rw [← q1, ← e]; exact h0) q2, fun _ => ⟨Or.inr ⟨hs, m, h1, Or.inl ⟨q2, by rw [e, q1]⟩⟩, by omega⟩⟩
  · have e := n1 q1
    exact ⟨fun h0 => by omega, fun _ => ⟨Or.inr ⟨hs, m, h1, Or.inr (Or.inl ⟨q2, by omega, q4 (by omega), by rw [e, q3]; omega⟩)⟩, by omega⟩⟩
/-! the reading of rules, the reference's side -/
def TRL (a0 a : Nat → Nat → Int) (m : Nat) (mask : Int) : Prop := a 146 24 = 0 ∧ SK (UB (a0 164)) (a0 146 22).toNat (a 146 23).toNat = RP (UB (a0 164)) (a0 146 22).toNat m ∧ mask = MSK (UB (a0 164)) (a0 146 22).toNat m ∧ (∀ k, k < m → RSq (UB (a0 164)) (a0 146 22).toNat k) ∧ (∀ w : Nat, w < 5 → a 172 w = DRF (UB (a0 164)) (a0 146 22).toNat m w) ∧ SK (UB (a0 164)) (a0 146 22).toNat 0 < (a0 146 22).toNat
def TRX (a0 a : Nat → Nat → Int) : Prop := 1 ≤ a 146 24 ∧ RRS (UB (a0 164)) (a0 146 22).toNat (-2 - a 146 24)
def TRY (a0 a : Nat → Nat → Int) (y : Int) : Prop := RRS (UB (a0 164)) (a0 146 22).toNat y ∧ 0 ≤ y ∧ ∀ w : Nat, w < 5 → a 172 w = DRF (UB (a0 164)) (a0 146 22).toNat y.toNat w
def TRM (a0 a : Nat → Nat → Int) (m : Nat) (mask : Int) : Prop := a 146 24 = 0 ∧ SK (UB (a0 164)) (a0 146 22).toNat (a 146 23).toNat = RE (UB (a0 164)) (a0 146 22).toNat (RP (UB (a0 164)) (a0 146 22).toNat m) ∧ mask = MSK (UB (a0 164)) (a0 146 22).toNat (m + 1) ∧ RFk (UB (a0 164)) (a0 146 22).toNat m = 0 ∧ (∀ k, k < m → RSq (UB (a0 164)) (a0 146 22).toNat k) ∧ (∀ w : Nat, w < 5 → a 172 w = DRF (UB (a0 164)) (a0 146 22).toNat (m + 1) w) ∧ SK (UB (a0 164)) (a0 146 22).toNat 0 < (a0 146 22).toNat
/-- the word y stands at clause m, not told yet; its number is next -/
def TRW (a0 a : Nat → Nat → Int) (m : Nat) (mask y : Int) : Prop := a 146 24 = 0 ∧ SK (UB (a0 164)) (a0 146 22).toNat (a 146 23).toNat = RQ (UB (a0 164)) (a0 146 22).toNat (RP (UB (a0 164)) (a0 146 22).toNat m) ∧ mask = MSK (UB (a0 164)) (a0 146 22).toNat (m + 1) ∧ WI (UB (a0 164)) (a0 146 22).toNat (RP (UB (a0 164)) (a0 146 22).toNat m) = y ∧ ¬ jxand (jxshr (MSK (UB (a0 164)) (a0 146 22).toNat m) y) 1 = 1 ∧ 0 ≤ y ∧ y ≤ 4 ∧ (∀ k, k < m → RSq (UB (a0 164)) (a0 146 22).toNat k) ∧ (∀ w : Nat, w < 5 → a 172 w = DRF (UB (a0 164)) (a0 146 22).toNat m w) ∧ SK (UB (a0 164)) (a0 146 22).toNat 0 < (a0 146 22).toNat
theorem TRL_fr {a0 a a1 : Nat → Nat → Int} {m : Nat} {k : Int} (h : TRL a0 a m k) (e24 : a1 146 24 = a 146 24) (e23 : SK (UB (a0 164)) (a0 146 22).toNat (a1 146 23).toNat = SK (UB (a0 164)) (a0 146 22).toNat (a 146 23).toNat) (e5 : ∀ j, a1 172 j = a 172 j) : TRL a0 a1 m k :=
  ⟨by rw [e24]; exact h.1, by rw [e23]; exact h.2.1, h.2.2.1, h.2.2.2.1, fun w hw => by rw [e5]; exact h.2.2.2.2.1 w hw, h.2.2.2.2.2⟩
theorem TRX_mk {a0 a a1 : Nat → Nat → Int} {m : Nat} {k v : Int} (h : TRL a0 a m k) (hf : RFk (UB (a0 164)) (a0 146 22).toNat m = v) (hv : 1 ≤ v) (e : a1 146 24 = v) : TRX a0 a1 :=
  ⟨by omega, Or.inr ⟨h.2.2.2.2.2, m, h.2.2.2.1, Or.inl ⟨by omega, by rw [hf, e]⟩⟩⟩
theorem TRL_f0 {a0 a : Nat → Nat → Int} {m : Nat} {k : Int} (_ : TRL a0 a m k) (hw : WI (UB (a0 164)) (a0 146 22).toNat (RP (UB (a0 164)) (a0 146 22).toNat m) = -1) : RFk (UB (a0 164)) (a0 146 22).toNat m = 1 + 8 * (RP (UB (a0 164)) (a0 146 22).toNat m : Int) := RWF_no hw
theorem TRL_f2 {a0 a : Nat → Nat → Int} {m : Nat} {k y : Int} (h : TRL a0 a m k) (hw : WI (UB (a0 164)) (a0 146 22).toNat (RP (UB (a0 164)) (a0 146 22).toNat m) = y) (hy : 0 ≤ y) (ht : jxand (jxshr k y) 1 = 1) : RFk (UB (a0 164)) (a0 146 22).toNat m = 3 + 8 * (RP (UB (a0 164)) (a0 146 22).toNat m : Int) :=
  RWF_two (by rw [hw]; omega) (by rw [hw, ← h.2.2.1]; exact ht)
theorem TRW_mk {a0 a a1 : Nat → Nat → Int} {m : Nat} {k y : Int} (h : TRL a0 a m k) (hn : a 146 23 = (RP (UB (a0 164)) (a0 146 22).toNat m : Int)) (hw : WI (UB (a0 164)) (a0 146 22).toNat (RP (UB (a0 164)) (a0 146 22).toNat m) = y) (hy : 0 ≤ y) (hy4 : y ≤ 4) (hs : a 146 25 = (wdn (10 + y.toNat) : Int)) (ht : ¬ jxand (jxshr k y) 1 = 1)
    (e24 : a1 146 24 = a 146 24) (e23 : a1 146 23 = a 146 23 + a 146 25) (e5 : ∀ j, a1 172 j = a 172 j) : TRW a0 a1 m (jxor k (jxshl 1 y)) y := by
  refine ⟨by rw [e24]; exact h.1, ?_, ?_, hw, by rw [← h.2.2.1]; exact ht, hy, hy4, h.2.2.2.1, fun w hw => by rw [e5]; exact h.2.2.2.2.1 w hw, h.2.2.2.2.2⟩
  · rw [e23, hn, hs]
    unfold RQ
    rw [hw]
    congr 1
  · rw [h.2.2.1, ← hw]
    rfl
theorem TRW_bad {a0 a a1 : Nat → Nat → Int} {m : Nat} {k y v : Int} (h : TRW a0 a m k y) (hv : NF (UB (a0 164)) (a0 146 22).toNat (RQ (UB (a0 164)) (a0 146 22).toNat (RP (UB (a0 164)) (a0 146 22).toNat m)) (RLO y) (RHI y) = v) (h0 : ¬ v = 0) (e : a1 146 24 = v) : TRX a0 a1 := by
  obtain ⟨h1, h2, h3, h4, h5, h6, h7, h8, h9, h10⟩ := h
  have hf : RFk (UB (a0 164)) (a0 146 22).toNat m = v := by
    rw [← hv, ← h4]
    exact RWF_go (by rw [h4]; omega) (by rw [h4]; exact h5)
  have hp := NF_pos (UB (a0 164)) (a0 146 22).toNat (RQ (UB (a0 164)) (a0 146 22).toNat (RP (UB (a0 164)) (a0 146 22).toNat m)) (RLO y) (RHI y)
  exact ⟨by omega, Or.inr ⟨h10, m, h8, Or.inl ⟨by omega, by rw [hf, e]⟩⟩⟩
theorem TRW_good {a0 a a1 : Nat → Nat → Int} {m : Nat} {k y : Int} (h : TRW a0 a m k y) (hv : NF (UB (a0 164)) (a0 146 22).toNat (RQ (UB (a0 164)) (a0 146 22).toNat (RP (UB (a0 164)) (a0 146 22).toNat m)) (RLO y) (RHI y) = 0)
    (e24 : a1 146 24 = 0) (e23 : SK (UB (a0 164)) (a0 146 22).toNat (a1 146 23).toNat = RE (UB (a0 164)) (a0 146 22).toNat (RP (UB (a0 164)) (a0 146 22).toNat m)) (hu : UP (a 172) (a1 172) y.toNat (NV (UB (a0 164)) (a0 146 22).toNat (RQ (UB (a0 164)) (a0 146 22).toNat (RP (UB (a0 164)) (a0 146 22).toNat m)))) : TRM a0 a1 m k := by
  obtain ⟨h1, h2, h3, h4, h5, h6, h7, h8, h9, h10⟩ := h
  have hf : RFk (UB (a0 164)) (a0 146 22).toNat m = 0 := by
    rw [← hv, ← h4]
    exact RWF_go (by rw [h4]; omega) (by rw [h4]; exact h5)
  refine ⟨e24, e23, h3, hf, h8, fun w hw => ?_, h10⟩
  show a1 172 w = (if (w : Int) = WI (UB (a0 164)) (a0 146 22).toNat (RP (UB (a0 164)) (a0 146 22).toNat m) then _ else DRF (UB (a0 164)) (a0 146 22).toNat m w)
  rw [hu w, h4]
  by_cases e : (w : Int) = y
  · rw [if_pos e, if_pos (by omega)]
  · rw [if_neg e, if_neg (by omega)]
    exact h9 w hw
theorem TRM_fr {a0 a a1 : Nat → Nat → Int} {m : Nat} {k : Int} (h : TRM a0 a m k) (e24 : a1 146 24 = a 146 24) (e23 : SK (UB (a0 164)) (a0 146 22).toNat (a1 146 23).toNat = SK (UB (a0 164)) (a0 146 22).toNat (a 146 23).toNat) (e5 : ∀ j, a1 172 j = a 172 j) : TRM a0 a1 m k :=
  ⟨by rw [e24]; exact h.1, by rw [e23]; exact h.2.1, h.2.2.1, h.2.2.2.1, h.2.2.2.2.1, fun w hw => by rw [e5]; exact h.2.2.2.2.2.1 w hw, h.2.2.2.2.2.2⟩
theorem TRM_end {a0 a : Nat → Nat → Int} {m : Nat} {k : Int} (h : TRM a0 a m k) (he : (a0 146 22).toNat ≤ SK (UB (a0 164)) (a0 146 22).toNat (a 146 23).toNat) : TRY a0 a (m + 1) := by
  refine ⟨Or.inr ⟨h.2.2.2.2.2.2, m, h.2.2.2.2.1, Or.inr (Or.inr ⟨h.2.2.2.1, by rw [← h.2.1]; exact he, rfl⟩)⟩, by omega, ?_⟩
  rw [show ((m : Int) + 1).toNat = m + 1 by omega]
  exact h.2.2.2.2.2.1
theorem TRM_sep {a0 a a1 : Nat → Nat → Int} {m q : Nat} {k v : Int} (h : TRM a0 a m k) (hq : SK (UB (a0 164)) (a0 146 22).toNat (a 146 23).toNat = q) (hlt : q < (a0 146 22).toNat) (hne : ¬ UB (a0 164) q = 59) (hv : v = 1 + 8 * (q : Int)) (e : a1 146 24 = v) : TRX a0 a1 :=
  ⟨by omega, Or.inr ⟨h.2.2.2.2.2.2, m, h.2.2.2.2.1, Or.inr (Or.inl ⟨h.2.2.2.1, by rw [← h.2.1, hq]; exact hlt, by rw [← h.2.1, hq]; exact hne, by rw [← h.2.1, hq, e, hv]; omega⟩)⟩⟩
theorem TRM_next {a0 a a1 : Nat → Nat → Int} {m q : Nat} {k : Int} (h : TRM a0 a m k) (hq : SK (UB (a0 164)) (a0 146 22).toNat (a 146 23).toNat = q) (hlt : q < (a0 146 22).toNat) (h59 : UB (a0 164) q = 59) (e23 : (a1 146 23).toNat = q + 1) (e24 : a1 146 24 = a 146 24) (e5 : ∀ j, a1 172 j = a 172 j) : TRL a0 a1 (m + 1) k := by
  refine ⟨by rw [e24]; exact h.1, by rw [e23, ← hq, h.2.1]; rfl, h.2.2.1, fun j hj => ?_, fun w hw => by rw [e5]; exact h.2.2.2.2.2.1 w hw, h.2.2.2.2.2.2⟩
  by_cases e : j = m
  · subst e
    exact ⟨h.2.2.2.1, by rw [← h.2.1, hq]; exact hlt, by rw [← h.2.1, hq]; exact h59⟩
  · exact h.2.2.2.2.1 j (by omega)
theorem WI_end {f : Nat → Int} {n p : Nat} (h : n ≤ p) : WI f n p = -1 := by
  have no : ∀ w, 10 ≤ w → w < 16 → ¬ TW f n p w := fun w h1 h2 t => by
    have := t.1
    have := wdn_bd w h2
    omega
  exact WI_no (no 10 (by decide) (by decide)) (no 11 (by decide) (by decide)) (no 12 (by decide) (by decide)) (no 13 (by decide) (by decide)) (no 14 (by decide) (by decide))
theorem WI_none {f : Nat → Int} {n p : Nat} {r : Int} (h : ∀ w : Nat, w < 16 → (TW f n p w ↔ r = (w : Int))) (hr : r < 10 ∨ 14 < r) : WI f n p = -1 :=
  WI_no (fun t => by have := (h 10 (by decide)).1 t; omega) (fun t => by have := (h 11 (by decide)).1 t; omega) (fun t => by have := (h 12 (by decide)).1 t; omega) (fun t => by have := (h 13 (by decide)).1 t; omega) (fun t => by have := (h 14 (by decide)).1 t; omega)
theorem WI_some {f : Nat → Int} {n p : Nat} {r : Int} (h : ∀ w : Nat, w < 16 → (TW f n p w ↔ r = (w : Int))) (h1 : 10 ≤ r) (h2 : r ≤ 14) : WI f n p = r - 10 := by
  have t := (h (10 + (r - 10).toNat) (by omega)).2 (by omega)
  rw [WI_w (by omega) t]
  omega
theorem RR_law {a a1 : Nat → Nat → Int} {r r2 : Int} (h : TAPE a) (hn : a 2 1 = a 146 22) (e1 : ∀ j, a1 164 j = a 164 j) (en : a1 146 22 = a 146 22) (h1 : RRS (a 3) (a 2 1).toNat r) (h2 : RRS (UB (a1 164)) (a1 146 22).toNat r2) : r = r2 := by
  rw [en, ← hn, show UB (a1 164) = a 3 from funext fun j => by rw [UB_same e1 j, h j]] at h2
  exact RRS_det h1 h2
