/-! the drawer, the reference; what is paid -/
theorem DRH_of {a : Nat → Nat → Int} (hv : iv a) (h : SV a) : DRH (a 196) (a 197) := fun i hi => by
  have i6 := iv_get hv (k := 196) (j := i) (l := (-1)) (u := 500) rfl
  have i7 := iv_get hv (k := 197) (j := i) (l := 0) (u := 50) rfl
  have s := h i hi
  omega
def FWT (c : Nat → Nat) (v : Nat → Int) (T : Nat → Int) (k : Nat) : Prop := ∀ s : Nat, s < 1400 → FEW c v k s (T (1400 * k + s))
theorem FEW_end {c : Nat → Nat} {v : Nat → Int} {k j : Nat} {s f : Int} (hk : k < 8) (hcv : ∀ i, i < 8 → c i = 0 ∨ 1 ≤ v i) (h : FEWJ c v k j s f) (hj : c k < j ∨ s < (j : Int) * v k) : FEW c v k s f := FEW_of h (fun n hn => by
  have ok : ∀ i, i < 8 → n i = 0 ∨ 1 ≤ v i := fun i hi => by
    have := hn.1 i hi
    rcases hcv i hi with z | z
    · left; omega
    · exact Or.inr z
  have nk := hn.1 k hk
  have s0 := SVAL_nn 8 ok
  rw [hn.2.2] at s0
  rcases hj with z | z
  · omega
  · refine Classical.byContradiction (fun g => ?_)
    have r0 := SVAL_nn (v := v) (n := nset n k 0) 8 (fun i hi => by
      by_cases e : i = k
      · rw [e, nset_at]; exact Or.inl rfl
      · rw [nset_ne e]; exact ok i hi)
    rw [SVAL_set hk, hn.2.2, show ((0 : Nat) : Int) = 0 from rfl, Int.zero_mul] at r0
    rcases ok k hk with q | q
    · rw [q] at g
      have j0 : j = 0 := by omega
      rw [j0, show ((0 : Nat) : Int) = 0 from rfl, Int.zero_mul] at z
      omega
    · have m : (j : Int) * v k ≤ (n k : Int) * v k := Int.mul_le_mul_of_nonneg_right (by omega) (by omega)
      omega)
theorem FEW_neg {c : Nat → Nat} {v : Nat → Int} {k : Nat} {s f : Int} (hcv : ∀ i, i < 8 → c i = 0 ∨ 1 ≤ v i) (hs : s < 0) (h : FEW c v k s f) : f = FARV := by
  rcases h with z | ⟨_, ⟨n, n1, _⟩, _⟩
  · exact z.1
  · exfalso
    have s0 := SVAL_nn (v := v) (n := n) 8 (fun i hi => by
      have := n1.1 i hi
      rcases hcv i hi with z | z
      · left; omega
      · exact Or.inr z)
    rw [n1.2.2] at s0
    omega
theorem FEW_far {c : Nat → Nat} {v : Nat → Int} {k : Nat} {s f : Int} (h : FEW c v k s f) (hf : ¬ f < FARV) : ∀ n, ¬ WAYS c v k s n := by
  rcases h with z | z
  · exact z.2
  · exact absurd z.1 hf
theorem SMAY_no1 {c : Nat → Nat} {v : Nat → Int} {k x : Nat} {left f : Int} (hcv : ∀ i, i < 8 → c i = 0 ∨ 1 ≤ v i) (hf : f < FARV) (hl : left < (x : Int) * v k) : ¬ SMAY c v k left f x := fun ⟨_, f1, h1, h2⟩ => by
  have := FEW_neg hcv (by omega) h1
  omega
theorem SMAY_no2 {c : Nat → Nat} {v : Nat → Int} {k x : Nat} {left f f1 : Int} (h : FEW c v (k + 1) (left - (x : Int) * v k) f1) (hne : ¬ (x : Int) + f1 = f) : ¬ SMAY c v k left f x := fun ⟨_, f2, h1, h2⟩ => hne (by rw [FEW_one h h1]; exact h2)
/-! a price is one of those told -/
theorem COf_or {z g k : Nat → Int} {n : Nat} {v w : Int} : ∀ q c : Nat, COf z g k n v w q c = -1 ∨ ∃ j, j < n ∧ COf z g k n v w q c = k j
  | 0, _ => Or.inl rfl
  | q + 1, c => by
    show (if c < n then (if z c = v ∧ w ≤ g c then k c else COf z g k n v w q (c + 1)) else -1) = -1 ∨ ∃ j, j < n ∧ (if c < n then (if z c = v ∧ w ≤ g c then k c else COf z g k n v w q (c + 1)) else -1) = k j
    by_cases hc : c < n
    · rw [if_pos hc]
      by_cases hz : z c = v ∧ w ≤ g c
      · rw [if_pos hz]; exact Or.inr ⟨c, hc, rfl⟩
      · rw [if_neg hz]; exact COf_or q (c + 1)
    · rw [if_neg hc]; exact Or.inl rfl
theorem PRC_or {f : Nat → Int} {n : Nat} {z g k : Nat → Nat → Int} {cnt : Nat → Int} {v w d : Int} : PRC f n z g k cnt v w d = -2 ∨ ∃ r c : Nat, r < n ∧ (c : Int) < cnt r ∧ PRC f n z g k cnt v w d = k r c := by
  have hb := HO_bd f d n
  unfold PRC
  by_cases h0 : HO f d n < 0
  · rw [if_pos h0]; exact Or.inl rfl
  · rw [if_neg h0]
    by_cases h1 : CO (z (HO f d n).toNat) (g (HO f d n).toNat) (k (HO f d n).toNat) (cnt (HO f d n).toNat).toNat v w 0 = -1
    · rw [if_pos h1]; exact Or.inl rfl
    · rw [if_neg h1]
      rcases COf_or (z := z (HO f d n).toNat) (g := g (HO f d n).toNat) (k := k (HO f d n).toNat) (n := (cnt (HO f d n).toNat).toNat) (v := v) (w := w) ((cnt (HO f d n).toNat).toNat - 0) 0 with q | ⟨j, j1, j2⟩
      · exact absurd q h1
      · exact Or.inr ⟨(HO f d n).toNat, j, by omega, by omega, j2⟩
theorem PR2_neg {a : Nat → Nat → Int} {v w d : Int} (hv : iv a) (h : PR2 a v w d < 0) : PR2 a v w d = -2 := by
  rcases PRC_or (f := a 192) (n := (a 146 68).toNat) (z := fun r c => a 194 (36 * r + 3 * c)) (g := fun r c => a 194 (36 * r + (3 * c + 1))) (k := fun r c => a 194 (36 * r + (3 * c + 2))) (cnt := a 193) (v := v) (w := w) (d := d) with q | ⟨r, c, _, _, q⟩
  · exact q
  · have e : PR2 a v w d = a 194 (36 * r + (3 * c + 2)) := q
    have i := iv_get hv (k := 194) (j := 36 * r + (3 * c + 2)) (l := 0) (u := 900) rfl
    omega
/-- every price told is 1 or more -/
def POSP (a : Nat → Nat → Int) : Prop := ∀ r c : Nat, (r : Int) < a 146 68 → (c : Int) < a 193 r → 1 ≤ a 194 (36 * r + (3 * c + 2))
theorem POSP_fr {W : List (Nat × Nat)} {a a1 : Nat → Nat → Int} (h : POSP a) (hf : jfr W a a1) (h1 : jfin W 146 68 = false) (h2 : ∀ j, jfin W 193 j = false) (h3 : ∀ j, jfin W 194 j = false) : POSP a1 := fun r c hr hc => by
  rw [hf 146 68 h1] at hr
  rw [hf 193 _ (h2 _)] at hc
  rw [hf 194 _ (h3 _)]
  exact h r c hr hc
theorem POSP_p {a : Nat → Nat → Int} {v w d : Int} (hv : iv a) (h : POSP a) : PR2 a v w d = -2 ∨ (1 ≤ PR2 a v w d ∧ PR2 a v w d ≤ 900) := by
  rcases PRC_or (f := a 192) (n := (a 146 68).toNat) (z := fun r c => a 194 (36 * r + 3 * c)) (g := fun r c => a 194 (36 * r + (3 * c + 1))) (k := fun r c => a 194 (36 * r + (3 * c + 2))) (cnt := a 193) (v := v) (w := w) (d := d) with q | ⟨r, c, hr, hc, q⟩
  · exact Or.inl q
  · have e : PR2 a v w d = a 194 (36 * r + (3 * c + 2)) := q
    have i := iv_get hv (k := 194) (j := 36 * r + (3 * c + 2)) (l := 0) (u := 900) rfl
    have p := h r c (by omega) hc
    right
    omega
theorem PR1_of {a : Nat → Nat → Int} {z w d r : Int} (hv : iv a) (e : r = (if HO (a 106) d (a 105 5).toNat < 0 then -1 else CO (fun c => a 108 ((HO (a 106) d (a 105 5).toNat).toNat * 12 + c)) (fun c => a 119 ((HO (a 106) d (a 105 5).toNat).toNat * 12 + c)) (fun c => a 130 ((HO (a 106) d (a 105 5).toNat).toNat * 12 + c)) (a 107 (HO (a 106) d (a 105 5).toNat).toNat).toNat z w 0)) : (r = -1 ∧ PR1 a z w d = -2) ∨ (0 ≤ r ∧ PR1 a z w d = r) := by
  unfold PR1 PRC
  by_cases h0 : HO (a 106) d (a 105 5).toNat < 0
  · rw [if_pos h0] at e ⊢
    exact Or.inl ⟨e, rfl⟩
  · rw [if_neg h0] at e ⊢
    rw [← e]
    by_cases h1 : r = -1
    · rw [if_pos h1]; exact Or.inl ⟨h1, rfl⟩
    · rw [if_neg h1]
      rcases COf_or (z := fun c => a 108 ((HO (a 106) d (a 105 5).toNat).toNat * 12 + c)) (g := fun c => a 119 ((HO (a 106) d (a 105 5).toNat).toNat * 12 + c)) (k := fun c => a 130 ((HO (a 106) d (a 105 5).toNat).toNat * 12 + c)) (n := (a 107 (HO (a 106) d (a 105 5).toNat).toNat).toNat) (v := z) (w := w) ((a 107 (HO (a 106) d (a 105 5).toNat).toNat).toNat - 0) 0 with q | ⟨j, j1, j2⟩
      · exact absurd (e.trans q) h1
      · have i := iv_get hv (k := 130) (j := (HO (a 106) d (a 105 5).toNat).toNat * 12 + j) (l := 0) (u := 999) rfl
        have e2 : r = a 130 ((HO (a 106) d (a 105 5).toNat).toNat * 12 + j) := e.trans j2
        exact Or.inr ⟨by omega, rfl⟩
/-- what the class's pay does at a price, and the reference's -/
def PAO (a0 a : Nat → Nat → Int) (p r : Int) : Prop := (p = -2 ∧ r = -2 ∧ a = a0) ∨ (¬ p = -2 ∧ (DRH (a0 142) (a0 143) → 1 ≤ p → p ≤ 900 → (r = -3 ∧ PAYX (cN (a0 143)) (a0 142) p ∧ a = a0) ∨ (0 ≤ r ∧ ∃ q : Nat → Nat, PAYC (cN (a0 143)) (a0 142) p r q ∧ ∀ k : Nat, k < 8 → a 144 k = (q k : Int) ∧ a 143 k = a0 143 k - (q k : Int))))
def PAS (a0 a : Nat → Nat → Int) : Prop := a 197 = a0 197 ∧ a 198 = a0 198 ∧ a 146 75 = a0 146 75
def PAR (a0 a : Nat → Nat → Int) (p r : Int) : Prop := (p = -2 ∧ r = -2 ∧ PAS a0 a) ∨ (¬ p = -2 ∧ ((r = -3 ∧ PAYX (cN (a0 197)) (a0 196) p ∧ PAS a0 a) ∨ (0 ≤ r ∧ a 146 75 = 1 ∧ PAYR (cN (a0 197)) (a0 196) p r (fun i => (a 198 i).toNat) ∧ ∀ k : Nat, k < 8 → 0 ≤ a 198 k ∧ a 197 k = a0 197 k - a 198 k)))
/-! how many are there -/
def THN (f : Nat → Int) : Nat → Int
  | 0 => 0
  | n + 1 => THN f n + (if f n = 0 then 0 else 1)
theorem THN_bd (f : Nat → Int) : ∀ n : Nat, 0 ≤ THN f n ∧ THN f n ≤ n
  | 0 => ⟨Int.le_refl _, Int.le_refl _⟩
  | n + 1 => by
    have := THN_bd f n
    show 0 ≤ THN f n + (if f n = 0 then 0 else 1) ∧ THN f n + (if f n = 0 then 0 else 1) ≤ ((n + 1 : Nat) : Int)
    split <;> omega
