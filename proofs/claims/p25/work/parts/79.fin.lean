/-! the law's steps, each in a small context of its own -/
theorem RATE_fin {a a1 a2 : Nat → Nat → Int} {r r2 x : Int} (hT : TAPE a) (hn : a 2 1 = a 146 22) (hs : a 105 5 = a 146 68)
    (p1 : ((0 ≤ x ∧ x ≤ 1999) ∧ a 105 5 ≤ 9) → a1 2 1 = 0) (p2 : ((x < 0 ∨ 1999 < x) ∨ 9 < a 105 5) → (r = 0 - 1 ∧ a1 2 1 = a 2 1) ∧ a1 105 5 = a 105 5)
    (p3 : 0 ≤ x ∧ x ≤ 1999 ∧ a 105 5 ≤ 9 → RTR (a 3) (a 2 1).toNat r ∧ ((1 ≤ r ∧ a1 105 5 = a 105 5 + 1) ∨ (r < 0 ∧ a1 105 5 = a 105 5)))
    (q1 : 0 ≤ x ∧ x ≤ 1999 ∧ a1 146 68 ≤ 9 → RTR (UB (a1 164)) (a1 146 22).toNat r2 ∧ ((1 ≤ r2 ∧ a2 146 68 = a1 146 68 + 1) ∨ (r2 < 0 ∧ a2 146 68 = a1 146 68)))
    (q4 : ((x < 0 ∨ 1999 < x) ∨ 9 < a1 146 68) → (r2 = 0 - 1 ∧ a2 146 68 = a1 146 68) ∧ a2 146 22 = a1 146 22) (q5 : ((0 ≤ x ∧ x ≤ 1999) ∧ a1 146 68 ≤ 9) → a2 146 22 = 0)
    (e164 : ∀ j, a1 164 j = a 164 j) (e22 : a1 146 22 = a 146 22) (e68 : a1 146 68 = a 146 68) (g21 : a2 2 1 = a1 2 1) (g5 : a2 105 5 = a1 105 5) : r = r2 ∧ a2 105 5 = a2 146 68 ∧ a2 2 1 = a2 146 22 := by
  by_cases hv : 0 ≤ x ∧ x ≤ 1999 ∧ a 105 5 ≤ 9
  · have h1 := p3 hv
    have h2 := q1 ⟨hv.1, hv.2.1, by rw [e68, ← hs]; exact hv.2.2⟩
    have h3 := p1 ⟨⟨hv.1, hv.2.1⟩, hv.2.2⟩
    have h4 := q5 ⟨⟨hv.1, hv.2.1⟩, by rw [e68, ← hs]; exact hv.2.2⟩
    have e := RT_law hT hn e164 e22 h1.1 h2.1
    have h5 := h1.2
    have h6 := h2.2
    clear p1 p2 p3 q1 q4 q5 h1 h2
    refine ⟨e, ?_, by rw [g21, h3, h4]⟩
    rw [g5]
    omega
  · have hc : (x < 0 ∨ 1999 < x) ∨ 9 < a 105 5 := by
      clear p1 p2 p3 q1 q4 q5
      omega
    have h1 := p2 hc
    have h2 := q4 (by rw [e68, ← hs]; exact hc)
    clear p1 p2 p3 q1 q4 q5
    refine ⟨by omega, by omega, by omega⟩
theorem RATR_fin {a a1 a2 : Nat → Nat → Int} {r r2 x : Int} (hv0 : iv a) (hR : RATR a) (hT : TAPE a) (hn : a 2 1 = a 146 22) (hs : a 105 5 = a 146 68) (hr : r = r2)
    (p2 : ((x < 0 ∨ 1999 < x) ∨ 9 < a 105 5) → (r = 0 - 1 ∧ a1 2 1 = a 2 1) ∧ a1 105 5 = a 105 5)
    (p3 : 0 ≤ x ∧ x ≤ 1999 ∧ a 105 5 ≤ 9 → RTR (a 3) (a 2 1).toNat r ∧ ((1 ≤ r ∧ a1 105 5 = a 105 5 + 1) ∨ (r < 0 ∧ a1 105 5 = a 105 5)))
    (p4 : KPR a a1 (a 105 5).toNat ∧ (1 ≤ r → RWS a1 (a 3) (a 2 1).toNat (a 105 5).toNat r.toNat ∧ a1 107 (a 105 5).toNat = r ∧ UP (a 106) (a1 106) (a 105 5).toNat x) ∧ (r < 0 → ∀ j, a1 106 j = a 106 j))
    (q2 : 1 ≤ r2 → R194 a2 (UB (a1 164)) (a1 146 22).toNat (a1 146 68).toNat r2.toNat ∧ UP (a1 192) (a2 192) (a1 146 68).toNat x ∧ UP (a1 193) (a2 193) (a1 146 68).toNat r2 ∧ ∀ j, j < 36 * (a1 146 68).toNat → a2 194 j = a1 194 j)
    (q3 : r2 < 0 → ∀ j, a2 192 j = a1 192 j ∧ a2 193 j = a1 193 j ∧ a2 194 j = a1 194 j)
    (e164 : ∀ j, a1 164 j = a 164 j) (e22 : a1 146 22 = a 146 22) (e68 : a1 146 68 = a 146 68) (e1 : ∀ j, a1 192 j = a 192 j ∧ a1 193 j = a 193 j ∧ a1 194 j = a 194 j)
    (e2 : ∀ j, a2 106 j = a1 106 j ∧ a2 107 j = a1 107 j ∧ a2 108 j = a1 108 j ∧ a2 119 j = a1 119 j ∧ a2 130 j = a1 130 j) (g5 : a2 105 5 = a1 105 5) : RATR a2 := by
  have i5 := iv_get hv0 (k := 105) (j := 5) (l := 0) (u := 10) rfl
  have f164 : UB (a1 164) = a 3 := funext fun j => by rw [UB_same e164 j, hT j]
  have en : (a1 146 22).toNat = (a 2 1).toNat := by rw [e22, ← hn]
  rw [f164, en] at q2
  have hst : (1 ≤ r ∧ a2 105 5 = a 105 5 + 1) ∨ (r < 0 ∧ a2 105 5 = a 105 5) := by
    rw [g5]
    by_cases hv : 0 ≤ x ∧ x ≤ 1999 ∧ a 105 5 ≤ 9
    · exact (p3 hv).2
    · have hc : (x < 0 ∨ 1999 < x) ∨ 9 < a 105 5 := by
        clear p2 p3 p4 q2 q3
        omega
      have h1 := p2 hc
      exact Or.inr ⟨by rw [h1.1.1]; decide, h1.2⟩
  exact RATR_s hR hs i5.1 (fun j => iv_get hv0 (k := 107) (j := j) (l := 0) (u := 12) rfl) (a 3) (a 2 1).toNat p4.1 p4.2.1 p4.2.2 e1 e68 q2 q3 e2 hr hst
