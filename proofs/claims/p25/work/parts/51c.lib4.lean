def tt3 (m : Int) : Int := ([1, 1, 1, 1, 2, 3, 4, 5, 6, 7, 8, 9] : List Int).getD m.toNat 1
def tt2 (m : Int) : Int := ([1, 1, 1, 2, 5, 10, 17, 26, 37, 50, 65, 82] : List Int).getD m.toNat 1
def tt1 (m : Int) : Int := ([1, 1, 2, 5, 16, 41, 86, 157, 260, 401, 586, 821] : List Int).getD m.toNat 1
def tot (m : Int) : Int := ([0, 1, 4, 15, 64, 205, 516, 1099, 2080, 3609, 5860, 9031] : List Int).getD m.toNat 1
def st (m : Int) : Int := ([0, 0, 1, 5, 20, 84, 289, 805, 1904, 3984, 7593, 13453, 22484] : List Int).getD m.toNat 1
def tn (m n : Int) : Int := if n = 1 then tt1 m else if n = 2 then tt2 m else if n = 3 then tt3 m else 1
def jbi (p : Prop) [Decidable p] : Int := if p then 1 else 0
def potI (F x r1 r2 r3 r4 n : Int) : Int := (if 1 ≤ n then (F - 1 - r1) * tt1 (F - 1 - x) else 0) + (if 2 ≤ n then (F - 1 - r2 - jbi (r2 < r1)) * tt2 (F - 1 - x) else 0) + (if 3 ≤ n then (F - 1 - r3 - jbi (r3 < r1) - jbi (r3 < r2)) * tt3 (F - 1 - x) else 0) + (if 4 ≤ n then F - 1 - r4 - jbi (r4 < r1) - jbi (r4 < r2) - jbi (r4 < r3) else 0)
def muI (r1 r2 r3 r4 n : Int) : Int := (if 1 ≤ n then (13 - r1) * 2744 else 0) + (if 2 ≤ n then (13 - r2) * 196 else 0) + (if 3 ≤ n then (13 - r3) * 14 else 0) + (if 4 ≤ n then 13 - r4 else 0)
def jpot (a : Nat → Nat → Int) (x n : Int) : Int := potI (a 146 56) x (a 187 1) (a 187 2) (a 187 3) (a 187 4) n
def jmu (a : Nat → Nat → Int) (n : Int) : Int := muI (a 187 1) (a 187 2) (a 187 3) (a 187 4) n
def rok (F x r1 r2 r3 : Int) (n : Int) : Prop := (1 ≤ n → x < r1 ∧ r1 < F) ∧ (2 ≤ n → x < r2 ∧ r2 < F ∧ ¬ r2 = r1) ∧ (3 ≤ n → x < r3 ∧ r3 < F ∧ ¬ r3 = r1 ∧ ¬ r3 = r2)
theorem tt_all : ∀ m : Nat, m < 12 → 1 ≤ tt1 m ∧ 1 ≤ tt2 m ∧ 1 ≤ tt3 m ∧ ((1 : Int) ≤ (m : Int) → tt1 m = (m - 1) * tt2 m + 1) ∧ ((2 : Int) ≤ (m : Int) → tt2 m = (m - 2) * tt3 m + 1) ∧ ((3 : Int) ≤ (m : Int) → tt3 m = m - 3 + 1) ∧ tot m = m * tt1 m ∧ st (m + 1) = st m + tot m ∧ st m ≤ 22484 ∧ 0 ≤ tot m := by decide +kernel
theorem tt_at {m : Int} (h0 : 0 ≤ m) (h1 : m ≤ 11) : 1 ≤ tt1 m ∧ 1 ≤ tt2 m ∧ 1 ≤ tt3 m ∧ (1 ≤ m → tt1 m = (m - 1) * tt2 m + 1) ∧ (2 ≤ m → tt2 m = (m - 2) * tt3 m + 1) ∧ (3 ≤ m → tt3 m = m - 3 + 1) ∧ tot m = m * tt1 m ∧ st (m + 1) = st m + tot m ∧ st m ≤ 22484 ∧ 0 ≤ tot m := by
  obtain ⟨k, rfl⟩ := Int.eq_ofNat_of_zero_le h0
  exact tt_all k (by omega)
theorem st12 : ∀ j : Nat, j < 13 → 0 ≤ st j ∧ st j ≤ 22484 := by decide +kernel
theorem st_at {j : Int} (h0 : 0 ≤ j) (h1 : j ≤ 12) : 0 ≤ st j ∧ st j ≤ 22484 := by
  obtain ⟨k, rfl⟩ := Int.eq_ofNat_of_zero_le h0
  exact st12 k (by omega)
theorem jbi_pos {p : Prop} [Decidable p] (h : p) : jbi p = 1 := if_pos h
theorem jbi_neg {p : Prop} [Decidable p] (h : ¬ p) : jbi p = 0 := if_neg h
theorem jbi_bd (p : Prop) [Decidable p] : (jbi p = 1 ∧ p) ∨ (jbi p = 0 ∧ ¬ p) := by
  by_cases h : p
  · exact Or.inl ⟨if_pos h, h⟩
  · exact Or.inr ⟨if_neg h, h⟩
theorem sub1_mul (c T : Int) : (c - 1) * T = c * T - T := by rw [Int.sub_mul, Int.one_mul]
/-- the next number at place n: what is left, and T_n more if it is a new one -/
theorem pot_inc1 {F x r1 r2 r3 r4 v : Int} (hv : v = r1 + 1) : potI F x v r2 r3 r4 1 + tt1 (F - 1 - x) = potI F x r1 r2 r3 r4 1 := by
  subst hv
  simp only [potI]
  rw [show F - 1 - (r1 + 1) = (F - 1 - r1) - 1 from by omega, sub1_mul]
  simp
theorem pot_inc2 {F x r1 r2 r3 r4 v : Int} (hv : v = r2 + 1) : potI F x r1 v r3 r4 2 + (if v = r1 then 0 else tt2 (F - 1 - x)) = potI F x r1 r2 r3 r4 2 := by
  subst hv
  simp only [potI]
  have e : F - 1 - (r2 + 1) - jbi (r2 + 1 < r1) = (if r2 + 1 = r1 then (F - 1 - r2 - jbi (r2 < r1)) else (F - 1 - r2 - jbi (r2 < r1)) - 1) := by
    have h1 := jbi_bd (r2 + 1 < r1)
    have h2 := jbi_bd (r2 < r1)
    split <;> omega
  rw [e]
  by_cases h : r2 + 1 = r1
  · rw [if_pos h, if_pos h]; simp
  · rw [if_neg h, if_neg h, sub1_mul]; simp; omega
theorem pot_inc3 {F x r1 r2 r3 r4 v : Int} (h12 : ¬ r2 = r1) (hv : v = r3 + 1) : potI F x r1 r2 v r4 3 + (if v = r1 ∨ v = r2 then 0 else tt3 (F - 1 - x)) = potI F x r1 r2 r3 r4 3 := by
  subst hv
  simp only [potI]
  have e : F - 1 - (r3 + 1) - jbi (r3 + 1 < r1) - jbi (r3 + 1 < r2) = (if r3 + 1 = r1 ∨ r3 + 1 = r2 then (F - 1 - r3 - jbi (r3 < r1) - jbi (r3 < r2)) else (F - 1 - r3 - jbi (r3 < r1) - jbi (r3 < r2)) - 1) := by
    have h1 := jbi_bd (r3 + 1 < r1)
    have h2 := jbi_bd (r3 < r1)
    have h3 := jbi_bd (r3 + 1 < r2)
    have h4 := jbi_bd (r3 < r2)
    split <;> omega
  rw [e]
  by_cases h : r3 + 1 = r1 ∨ r3 + 1 = r2
  · rw [if_pos h, if_pos h]; simp
  · rw [if_neg h, if_neg h, sub1_mul]; simp; omega
theorem pot_inc4 {F x r1 r2 r3 r4 v : Int} (h12 : ¬ r2 = r1) (h13 : ¬ r3 = r1) (h23 : ¬ r3 = r2) (hv : v = r4 + 1) : potI F x r1 r2 r3 v 4 + (if v = r1 ∨ v = r2 ∨ v = r3 then 0 else 1) = potI F x r1 r2 r3 r4 4 := by
  subst hv
  simp only [potI]
  have e : F - 1 - (r4 + 1) - jbi (r4 + 1 < r1) - jbi (r4 + 1 < r2) - jbi (r4 + 1 < r3) = (if r4 + 1 = r1 ∨ r4 + 1 = r2 ∨ r4 + 1 = r3 then (F - 1 - r4 - jbi (r4 < r1) - jbi (r4 < r2) - jbi (r4 < r3)) else (F - 1 - r4 - jbi (r4 < r1) - jbi (r4 < r2) - jbi (r4 < r3)) - 1) := by
    have h1 := jbi_bd (r4 + 1 < r1)
    have h2 := jbi_bd (r4 < r1)
    have h3 := jbi_bd (r4 + 1 < r2)
    have h4 := jbi_bd (r4 < r2)
    have h5 := jbi_bd (r4 + 1 < r3)
    have h6 := jbi_bd (r4 < r3)
    split <;> omega
  rw [e]
  by_cases h : r4 + 1 = r1 ∨ r4 + 1 = r2 ∨ r4 + 1 = r3
  · rw [if_pos h, if_pos h]; simp
  · rw [if_neg h, if_neg h]; simp; omega
/-- what is left is not below nothing -/
theorem pot_nn {F x r1 r2 r3 r4 n : Int} (hx : 0 ≤ x) (hF : F ≤ 12) (hxF : x < F) (hn : 1 ≤ n ∧ n ≤ 4) (h1 : r1 < F) (h2 : 2 ≤ n → r2 < F ∧ ¬ r2 = r1) (h3 : 3 ≤ n → r3 < F ∧ ¬ r3 = r1 ∧ ¬ r3 = r2) (h4 : 4 ≤ n → r4 < F ∧ ¬ r4 = r1 ∧ ¬ r4 = r2 ∧ ¬ r4 = r3) : 0 ≤ potI F x r1 r2 r3 r4 n := by
  have ht := tt_at (m := F - 1 - x) (by omega) (by omega)
  have p1 : 0 ≤ (F - 1 - r1) * tt1 (F - 1 - x) := Int.mul_nonneg (by omega) (by omega)
  have p2 : 2 ≤ n → 0 ≤ (F - 1 - r2 - jbi (r2 < r1)) * tt2 (F - 1 - x) := fun h => Int.mul_nonneg (by have := jbi_bd (r2 < r1); have := h2 h; omega) (by omega)
  have p3 : 3 ≤ n → 0 ≤ (F - 1 - r3 - jbi (r3 < r1) - jbi (r3 < r2)) * tt3 (F - 1 - x) := fun h => Int.mul_nonneg (by have := jbi_bd (r3 < r1); have := jbi_bd (r3 < r2); have := h2 (by omega); have := h3 h; omega) (by omega)
  have p4 : 4 ≤ n → 0 ≤ F - 1 - r4 - jbi (r4 < r1) - jbi (r4 < r2) - jbi (r4 < r3) := fun h => by
    have := jbi_bd (r4 < r1); have := jbi_bd (r4 < r2); have := jbi_bd (r4 < r3); have := h2 (by omega); have := h3 (by omega); have := h4 h
    omega
  simp only [potI]
  rw [if_pos hn.1]
  have q2 : 0 ≤ (if 2 ≤ n then (F - 1 - r2 - jbi (r2 < r1)) * tt2 (F - 1 - x) else 0) := by
    split
    · exact p2 (by assumption)
    · exact Int.le_refl _
  have q3 : 0 ≤ (if 3 ≤ n then (F - 1 - r3 - jbi (r3 < r1) - jbi (r3 < r2)) * tt3 (F - 1 - x) else 0) := by
    split
    · exact p3 (by assumption)
    · exact Int.le_refl _
  have q4 : 0 ≤ (if 4 ≤ n then F - 1 - r4 - jbi (r4 < r1) - jbi (r4 < r2) - jbi (r4 < r3) else 0) := by
    split
    · exact p4 (by assumption)
    · exact Int.le_refl _
  omega
/-- one place more -/
theorem pot_push1 {F x r1 r2 r3 r4 : Int} (hx : 0 ≤ x) (hF : F ≤ 12) (h1 : x < r1 ∧ r1 < F) : potI F x r1 x r3 r4 2 = potI F x r1 r2 r3 r4 1 + tt1 (F - 1 - x) - 1 := by
  have ht := tt_at (m := F - 1 - x) (by omega) (by omega)
  simp only [potI]
  rw [jbi_pos h1.1]
  simp
  have := ht.2.2.2.1 (by omega)
  omega
theorem pot_push2 {F x r1 r2 r3 r4 : Int} (hx : 0 ≤ x) (hF : F ≤ 12) (h1 : x < r1 ∧ r1 < F) (h2 : x < r2 ∧ r2 < F ∧ ¬ r2 = r1) : potI F x r1 r2 x r4 3 = potI F x r1 r2 r3 r4 2 + tt2 (F - 1 - x) - 1 := by
  have ht := tt_at (m := F - 1 - x) (by omega) (by omega)
  simp only [potI]
  rw [jbi_pos h1.1, jbi_pos h2.1]
  simp
  have := ht.2.2.2.2.1 (by omega)
  rw [show F - 1 - x - 1 - 1 = F - 1 - x - 2 from by omega]
  omega
theorem pot_push3 {F x r1 r2 r3 r4 : Int} (hx : 0 ≤ x) (hF : F ≤ 12) (h1 : x < r1 ∧ r1 < F) (h2 : x < r2 ∧ r2 < F ∧ ¬ r2 = r1) (h3 : x < r3 ∧ r3 < F ∧ ¬ r3 = r1 ∧ ¬ r3 = r2) : potI F x r1 r2 r3 x 4 = potI F x r1 r2 r3 r4 3 + tt3 (F - 1 - x) - 1 := by
  have ht := tt_at (m := F - 1 - x) (by omega) (by omega)
  simp only [potI]
  rw [jbi_pos h1.1, jbi_pos h2.1, jbi_pos h3.1]
  simp
  have := ht.2.2.2.2.2.1 (by omega)
  omega
def wt (n : Int) : Int := if n = 1 then 2744 else if n = 2 then 196 else if n = 3 then 14 else 1
/-- the rows ahead of place n are unlike, and in their bounds -/
def rowd (a : Nat → Nat → Int) (x n : Int) : Prop := (2 ≤ n → x < a 187 1 ∧ a 187 1 < a 146 56) ∧ (3 ≤ n → x < a 187 2 ∧ a 187 2 < a 146 56 ∧ ¬ a 187 2 = a 187 1) ∧ (4 ≤ n → x < a 187 3 ∧ a 187 3 < a 146 56 ∧ ¬ a 187 3 = a 187 1 ∧ ¬ a 187 3 = a 187 2)
theorem u187 (a : Nat → Nat → Int) (i j : Nat) (v : Int) : jxu a 187 i v 187 j = if j = i then v else a 187 j := by simp [jxu]
theorem u187n (a : Nat → Nat → Int) (i k j : Nat) (v : Int) (h : ¬ k = 187) : jxu a 187 i v k j = a k j := by simp [jxu, h]
theorem jmu_inc {a : Nat → Nat → Int} {n v : Int} (hn : 1 ≤ n ∧ n ≤ 4) (hv : v = a 187 n.toNat + 1) : jmu (jxu a 187 n.toNat v) n + wt n = jmu a n := by
  subst hv
  have h : n = 1 ∨ n = 2 ∨ n = 3 ∨ n = 4 := by omega
  rcases h with rfl | rfl | rfl | rfl <;> simp only [jmu, muI, wt, u187] <;> simp <;> omega
theorem jmu_pop {a : Nat → Nat → Int} {n : Int} (hn : 1 ≤ n ∧ n ≤ 4) (h1 : a 187 1 ≤ 12) (h2 : a 187 2 ≤ 12) (h3 : a 187 3 ≤ 12) (h4 : a 187 4 ≤ 12) : jmu a (n - 1) ≤ jmu a n := by
  have h : n = 1 ∨ n = 2 ∨ n = 3 ∨ n = 4 := by omega
  rcases h with rfl | rfl | rfl | rfl <;> simp only [jmu, muI] <;> simp <;> omega
theorem jmu_push {a : Nat → Nat → Int} {n m x : Int} (hn : 1 ≤ n ∧ n ≤ 3) (hm : m = n + 1) (hx : 0 ≤ x) : jmu (jxu a 187 m.toNat x) m < jmu a n + wt n := by
  subst hm
  have h : n = 1 ∨ n = 2 ∨ n = 3 := by omega
  rcases h with rfl | rfl | rfl <;> simp only [jmu, muI, wt, u187] <;> simp <;> omega
theorem jmu_nn {a : Nat → Nat → Int} {n : Int} (h1 : a 187 1 ≤ 12) (h2 : a 187 2 ≤ 12) (h3 : a 187 3 ≤ 12) (h4 : a 187 4 ≤ 12) : 0 ≤ jmu a n := by
  simp only [jmu, muI]
  split <;> split <;> split <;> split <;> omega
theorem wt_pos (n : Int) : 1 ≤ wt n := by
  unfold wt
  split
  · omega
  · split
    · omega
    · split <;> omega
theorem jpot_inc {a : Nat → Nat → Int} {x n v : Int} (hn : 1 ≤ n ∧ n ≤ 4) (hr : rowd a x n) (hv : v = a 187 n.toNat + 1) (hx : 0 ≤ x) (hxF : x < a 146 56) (hF : a 146 56 ≤ 12) : jpot (jxu a 187 n.toNat v) x n ≤ jpot a x n ∧ ((∀ i : Nat, 1 ≤ i → (i : Int) < n → ¬ v = a 187 i) → jpot (jxu a 187 n.toNat v) x n + tn (a 146 56 - 1 - x) n = jpot a x n) := by
  have ht := tt_at (m := a 146 56 - 1 - x) (by omega) (by omega)
  have h : n = 1 ∨ n = 2 ∨ n = 3 ∨ n = 4 := by omega
  obtain ⟨hr2, hr3, hr4⟩ := hr
  rcases h with rfl | rfl | rfl | rfl
  · have e := pot_inc1 (F := a 146 56) (x := x) (r1 := a 187 1) (r2 := a 187 2) (r3 := a 187 3) (r4 := a 187 4) (v := v) hv
    have e2 : jpot (jxu a 187 (1 : Int).toNat v) x 1 = potI (a 146 56) x v (a 187 2) (a 187 3) (a 187 4) 1 := by simp [jpot, jxu]
    have e3 : tn (a 146 56 - 1 - x) 1 = tt1 (a 146 56 - 1 - x) := by simp [tn]
    rw [e2, e3]
    show _ ≤ potI _ _ _ _ _ _ _ ∧ (_ → _ = potI _ _ _ _ _ _ _)
    exact ⟨by omega, fun _ => e⟩
  · have e := pot_inc2 (F := a 146 56) (x := x) (r1 := a 187 1) (r2 := a 187 2) (r3 := a 187 3) (r4 := a 187 4) (v := v) hv
    have e2 : jpot (jxu a 187 (2 : Int).toNat v) x 2 = potI (a 146 56) x (a 187 1) v (a 187 3) (a 187 4) 2 := by simp [jpot, jxu]
    have e3 : tn (a 146 56 - 1 - x) 2 = tt2 (a 146 56 - 1 - x) := by simp [tn]
    rw [e2, e3]
    show _ ≤ potI _ _ _ _ _ _ _ ∧ (_ → _ = potI _ _ _ _ _ _ _)
    refine ⟨?_, fun hf => ?_⟩
    · split at e <;> omega
    · rw [if_neg (hf 1 (by decide) (by decide))] at e; exact e
  · have e := pot_inc3 (F := a 146 56) (x := x) (r1 := a 187 1) (r2 := a 187 2) (r3 := a 187 3) (r4 := a 187 4) (v := v) (by have := hr3 (by decide); omega) hv
    have e2 : jpot (jxu a 187 (3 : Int).toNat v) x 3 = potI (a 146 56) x (a 187 1) (a 187 2) v (a 187 4) 3 := by simp [jpot, jxu]
    have e3 : tn (a 146 56 - 1 - x) 3 = tt3 (a 146 56 - 1 - x) := by simp [tn]
    rw [e2, e3]
    show _ ≤ potI _ _ _ _ _ _ _ ∧ (_ → _ = potI _ _ _ _ _ _ _)
    refine ⟨?_, fun hf => ?_⟩
    · split at e <;> omega
    · rw [if_neg (by rintro (h | h); · exact hf 1 (by decide) (by decide) h
                     · exact hf 2 (by decide) (by decide) h)] at e; exact e
  · have e := pot_inc4 (F := a 146 56) (x := x) (r1 := a 187 1) (r2 := a 187 2) (r3 := a 187 3) (r4 := a 187 4) (v := v) (by have := hr3 (by decide); omega) (by have := hr4 (by decide); omega) (by have := hr4 (by decide); omega) hv
    have e2 : jpot (jxu a 187 (4 : Int).toNat v) x 4 = potI (a 146 56) x (a 187 1) (a 187 2) (a 187 3) v 4 := by simp [jpot, jxu]
    have e3 : tn (a 146 56 - 1 - x) 4 = 1 := by simp [tn]
    rw [e2, e3]
    show _ ≤ potI _ _ _ _ _ _ _ ∧ (_ → _ = potI _ _ _ _ _ _ _)
    refine ⟨?_, fun hf => ?_⟩
    · split at e <;> omega
    · rw [if_neg (by rintro (h | h | h); · exact hf 1 (by decide) (by decide) h
                     · exact hf 2 (by decide) (by decide) h
                     · exact hf 3 (by decide) (by decide) h)] at e; exact e
/-- place n is at its end: it is left -/
theorem jpot_pop {a : Nat → Nat → Int} {x n v : Int} (hn : 1 ≤ n ∧ n ≤ 4) (hr : rowd a x n) (hl : a 187 n.toNat = a 146 56 - 1) : jpot (jxu a 187 n.toNat v) x (n - 1) = jpot a x n := by
  have h : n = 1 ∨ n = 2 ∨ n = 3 ∨ n = 4 := by omega
  obtain ⟨hr2, hr3, hr4⟩ := hr
  rcases h with rfl | rfl | rfl | rfl
  · have hl : a 187 1 = a 146 56 - 1 := hl
    simp [jpot, potI, jxu, hl]
  · have hl : a 187 2 = a 146 56 - 1 := hl
    have h1 := hr2 (by decide)
    have e : jbi (a 146 56 - 1 < a 187 1) = 0 := jbi_neg (by omega)
    simp [jpot, potI, jxu, hl, e]
  · have hl : a 187 3 = a 146 56 - 1 := hl
    have h1 := hr2 (by decide)
    have h2 := hr3 (by decide)
    have e : jbi (a 146 56 - 1 < a 187 1) = 0 := jbi_neg (by omega)
    have e2 : jbi (a 146 56 - 1 < a 187 2) = 0 := jbi_neg (by omega)
    simp [jpot, potI, jxu, hl, e, e2]
  · have hl : a 187 4 = a 146 56 - 1 := hl
    have h1 := hr2 (by decide)
    have h2 := hr3 (by decide)
    have h3 := hr4 (by decide)
    have e : jbi (a 146 56 - 1 < a 187 1) = 0 := jbi_neg (by omega)
    have e2 : jbi (a 146 56 - 1 < a 187 2) = 0 := jbi_neg (by omega)
    have e3 : jbi (a 146 56 - 1 < a 187 3) = 0 := jbi_neg (by omega)
    simp [jpot, potI, jxu, hl, e, e2, e3]
theorem jpot_push {a : Nat → Nat → Int} {x n m : Int} (hn : 1 ≤ n ∧ n ≤ 3) (hm : m = n + 1) (hr : rowd a x m) (hx : 0 ≤ x) (hF : a 146 56 ≤ 12) : jpot (jxu a 187 m.toNat x) x m = jpot a x n + tn (a 146 56 - 1 - x) n - 1 := by
  subst hm
  have h : n = 1 ∨ n = 2 ∨ n = 3 := by omega
  obtain ⟨hr2, hr3, hr4⟩ := hr
  rcases h with rfl | rfl | rfl
  · have e := pot_push1 (F := a 146 56) (x := x) (r1 := a 187 1) (r2 := a 187 2) (r3 := a 187 3) (r4 := a 187 4) hx hF (hr2 (by decide))
    simp [jpot, jxu, tn]
    exact e
  · have e := pot_push2 (F := a 146 56) (x := x) (r1 := a 187 1) (r2 := a 187 2) (r3 := a 187 3) (r4 := a 187 4) hx hF (hr2 (by decide)) (hr3 (by decide))
    simp [jpot, jxu, tn]
    exact e
  · have e := pot_push3 (F := a 146 56) (x := x) (r1 := a 187 1) (r2 := a 187 2) (r3 := a 187 3) (r4 := a 187 4) hx hF (hr2 (by decide)) (hr3 (by decide)) (hr4 (by decide))
    simp [jpot, jxu, tn]
    exact e
theorem jpot_nn {a : Nat → Nat → Int} {x n : Int} (hx : 0 ≤ x) (hF : a 146 56 ≤ 12) (hxF : x < a 146 56) (hn : 1 ≤ n ∧ n ≤ 4) (hr : rowd a x n) (hl : a 187 n.toNat < a 146 56) (hd : ∀ i : Nat, 1 ≤ i → (i : Int) < n → ¬ a 187 n.toNat = a 187 i) : 0 ≤ jpot a x n := by
  obtain ⟨hr2, hr3, hr4⟩ := hr
  have h : n = 1 ∨ n = 2 ∨ n = 3 ∨ n = 4 := by omega
  rcases h with rfl | rfl | rfl | rfl
  · exact pot_nn hx hF hxF (by decide) hl (fun h => by omega) (fun h => by omega) (fun h => by omega)
  · have d1 := hd 1 (by decide) (by decide)
    exact pot_nn hx hF hxF (by decide) (hr2 (by decide)).2 (fun _ => ⟨hl, d1⟩) (fun h => by omega) (fun h => by omega)
  · have d1 := hd 1 (by decide) (by decide)
    have d2 := hd 2 (by decide) (by decide)
    exact pot_nn hx hF hxF (by decide) (hr2 (by decide)).2 (fun _ => (hr3 (by decide)).2) (fun _ => ⟨hl, d1, d2⟩) (fun h => by omega)
  · have d1 := hd 1 (by decide) (by decide)
    have d2 := hd 2 (by decide) (by decide)
    have d3 := hd 3 (by decide) (by decide)
    exact pot_nn hx hF hxF (by decide) (hr2 (by decide)).2 (fun _ => (hr3 (by decide)).2) (fun _ => (hr4 (by decide)).2) (fun _ => ⟨hl, d1, d2, d3⟩)
theorem tn_pos {m n : Int} (h0 : 0 ≤ m) (h1 : m ≤ 11) : 1 ≤ tn m n := by
  have := tt_at h0 h1
  unfold tn
  split
  · exact this.1
  · split
    · exact this.2.1
    · split
      · exact this.2.2.1
      · exact Int.le_refl _
/-! the rows of a ring; the rings noted -/
def ROWS (a : Nat → Nat → Int) (n : Int) : Prop := ∀ i : Nat, (i : Int) < n → 0 ≤ a 187 i ∧ a 187 i < 12 ∧ ∀ j : Nat, j < i → ¬ a 187 i = a 187 j
def RS (a : Nat → Nat → Int) : Prop := ∀ r : Nat, (r : Int) < a 146 58 → 2 ≤ pc (a 184 r) ∧ pc (a 184 r) ≤ 5 ∧ ∀ i : Nat, i < 5 → jxand (jxshr (a 185 r) (4 * (i : Int))) 15 < 12
theorem RS_fr {W : List (Nat × Nat)} {a a1 : Nat → Nat → Int} (h : RS a) (hf : jfr W a a1) (h1 : jfin W 146 58 = false) (h2 : ∀ j, jfin W 184 j = false) (h3 : ∀ j, jfin W 185 j = false) : RS a1 := by
  intro r hr
  rw [hf 146 58 h1] at hr
  rw [hf 184 r (h2 r), hf 185 r (h3 r)]
  exact h r hr
def RS1 (a a1 : Nat → Nat → Int) : Prop := (∀ r : Nat, ¬ r = (a 146 58).toNat → a1 184 r = a 184 r ∧ a1 185 r = a 185 r) ∧ 2 ≤ pc (a1 184 (a 146 58).toNat) ∧ pc (a1 184 (a 146 58).toNat) ≤ 5 ∧ ∀ i : Nat, i < 5 → jxand (jxshr (a1 185 (a 146 58).toNat) (4 * (i : Int))) 15 < 12
theorem RS_done {a a1 : Nat → Nat → Int} {v : Int} (h : RS a) (h1 : RS1 a a1) (h0 : 0 ≤ a 146 58) (hv : v = a 146 58 + 1) : RS (jxu a1 146 58 v) := by
  intro r hr
  have e : ∀ k, ¬ k = 146 → jxu a1 146 58 v k r = a1 k r := fun k hk => by simp [jxu, hk]
  have e58 : jxu a1 146 58 v 146 58 = v := by simp [jxu]
  rw [e58] at hr
  rw [e 184 (by decide), e 185 (by decide)]
  by_cases hrr : r = (a 146 58).toNat
  · subst hrr; exact h1.2
  · rw [(h1.1 r hrr).1, (h1.1 r hrr).2]
    exact h r (by omega)
theorem RS1_mk {a a1 : Nat → Nat → Int} {y2 y3 : Int} {rm : Nat} (h4 : ∀ r, a1 184 r = a 184 r) (h5 : ∀ r, a1 185 r = a 185 r) (hrm : rm = (a 146 58).toNat) (hp : 2 ≤ pc y2 ∧ pc y2 ≤ 5) (hn : ∀ i : Nat, i < 5 → jxand (jxshr y3 (4 * (i : Int))) 15 < 12) : RS1 a (jxu (jxu a1 184 rm y2) 185 rm y3) := by
  subst hrm
  have e4 : ∀ r, jxu (jxu a1 184 (a 146 58).toNat y2) 185 (a 146 58).toNat y3 184 r = if r = (a 146 58).toNat then y2 else a1 184 r := fun r => by simp [jxu]
  have e5 : ∀ r, jxu (jxu a1 184 (a 146 58).toNat y2) 185 (a 146 58).toNat y3 185 r = if r = (a 146 58).toNat then y3 else a1 185 r := fun r => by simp [jxu]
  refine ⟨fun r hr => ?_, ?_, ?_, ?_⟩
  · rw [e4, e5, if_neg hr, if_neg hr, h4, h5]; exact ⟨rfl, rfl⟩
  · rw [e4, if_pos rfl]; exact hp.1
  · rw [e4, if_pos rfl]; exact hp.2
  · rw [e5, if_pos rfl]; exact hn
theorem notes_hb {a : Nat → Nat → Int} {y2 y4 n : Int} (hr : ROWS a n) (h0 : 0 ≤ y4) (hn : y4 < n) (hb : ∀ j : Nat, j < 12 → ¬ jxand (jxshr y2 j) 1 = 0 → ∃ i : Nat, (i : Int) < y4 ∧ a 187 i = j) : jxand (jxshr y2 (a 187 y4.toNat)) 1 = 0 := by
  have h1 := hr y4.toNat (by omega)
  by_cases h : jxand (jxshr y2 (a 187 y4.toNat)) 1 = 0
  · exact h
  · obtain ⟨m, hm⟩ := Int.eq_ofNat_of_zero_le h1.1
    rw [hm] at h
    obtain ⟨i, hi, hi2⟩ := hb m (by omega) h
    exact absurd (by omega) (h1.2.2 i (by omega))
theorem notes_set {a : Nat → Nat → Int} {y2 y4 n : Int} (hr : ROWS a n) (h0 : 0 ≤ y4) (hn : y4 < n) (hy0 : 0 ≤ y2) (hy1 : y2 ≤ 4095) (hb : ∀ j : Nat, j < 12 → ¬ jxand (jxshr y2 j) 1 = 0 → ∃ i : Nat, (i : Int) < y4 ∧ a 187 i = j) : pc (jxor y2 (jxshl 1 (a 187 y4.toNat))) = pc y2 + 1 ∧ ∀ j : Nat, j < 12 → ¬ jxand (jxshr (jxor y2 (jxshl 1 (a 187 y4.toNat))) j) 1 = 0 → ∃ i : Nat, (i : Int) ≤ y4 ∧ a 187 i = j := by
  have h1 := hr y4.toNat (by omega)
  have h2 := or_shl hy0 hy1 h1.1 (by omega) (notes_hb hr h0 hn hb)
  refine ⟨h2.1, fun j hj h => ?_⟩
  rcases h2.2 j hj h with h3 | h3
  · obtain ⟨i, hi, hi2⟩ := hb j hj h3
    exact ⟨i, by omega, hi2⟩
  · exact ⟨y4.toNat, by omega, h3.symm⟩
theorem notes_all {a : Nat → Nat → Int} {y3 y4 n : Int} (hr : ROWS a n) (h0 : 0 ≤ y4) (hn : y4 < n) (h5 : n ≤ 5) (h3 : y3 = nbv (a 187) y4.toNat) : jxor y3 (jxshl (a 187 y4.toNat) (4 * y4)) = nbv (a 187) (y4.toNat + 1) := by
  have h1 := hr y4.toNat (by omega)
  have hb := nbv_lt (f := a 187) y4.toNat (fun i hi => by have := hr i (by omega); omega)
  have h2 := nbv_or (x := y3) (r := a 187 y4.toNat) (n := y4.toNat) (by omega) (by omega) (by rw [h3]; exact hb.2) h1.1 h1.2.1
  rw [Int.toNat_of_nonneg h0] at h2
  rw [h2, h3]
  rfl
theorem bit0 : ∀ j : Nat, j < 12 → jxand (jxshr 0 (j : Int)) 1 = 0 := by decide +kernel
