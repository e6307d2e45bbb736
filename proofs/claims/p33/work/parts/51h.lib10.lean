/-! prices -/
/-- the rates that hold on a day among the first m (of those with the latest day the last told); -1: none -/
def HO (f : Nat → Int) (d : Int) : Nat → Int
  | 0 => -1
  | m + 1 => if f m ≤ d ∧ (HO f d m < 0 ∨ f (HO f d m).toNat ≤ f m) then (m : Int) else HO f d m
theorem HO_bd (f : Nat → Int) (d : Int) : ∀ m, -1 ≤ HO f d m ∧ HO f d m < (m : Int)
  | 0 => ⟨Int.le_refl _, by show (-1 : Int) < 0; decide⟩
  | m + 1 => by
    have h := HO_bd f d m
    show -1 ≤ (if f m ≤ d ∧ (HO f d m < 0 ∨ f (HO f d m).toNat ≤ f m) then (m : Int) else HO f d m) ∧ (if f m ≤ d ∧ (HO f d m < 0 ∨ f (HO f d m).toNat ≤ f m) then (m : Int) else HO f d m) < ((m + 1 : Nat) : Int)
    split <;> omega
theorem HO_s1 {f : Nat → Int} {d : Int} {m : Nat} (h : f m ≤ d) (h2 : HO f d m < 0 ∨ f (HO f d m).toNat ≤ f m) : HO f d (m + 1) = m := if_pos ⟨h, h2⟩
theorem HO_s2 {f : Nat → Int} {d : Int} {m : Nat} (h : d < f m ∨ (¬ HO f d m < 0 ∧ f m < f (HO f d m).toNat)) : HO f d (m + 1) = HO f d m := if_neg (fun q => by obtain ⟨q1, q2⟩ := q; omega)
theorem HO_eq {f g : Nat → Int} {d : Int} : ∀ {m : Nat}, (∀ k, k < m → f k = g k) → HO f d m = HO g d m
  | 0, _ => rfl
  | m + 1, h => by
    have e := HO_eq (f := f) (g := g) (d := d) (m := m) (fun k hk => h k (by omega))
    have hb := HO_bd g d m
    show (if f m ≤ d ∧ (HO f d m < 0 ∨ f (HO f d m).toNat ≤ f m) then (m : Int) else HO f d m) = (if g m ≤ d ∧ (HO g d m < 0 ∨ g (HO g d m).toNat ≤ g m) then (m : Int) else HO g d m)
    rw [e, h m (by omega)]
    by_cases hc : HO g d m < 0
    · simp [hc]
    · rw [h (HO g d m).toNat (by omega)]
/-- of n clauses (zone z, grams g, coins k) from number c on the first of that zone with as many grams: its coins; -1: none -/
def COf (z g k : Nat → Int) (n : Nat) (v w : Int) : Nat → Nat → Int
  | 0, _ => -1
  | q + 1, c => if c < n then (if z c = v ∧ w ≤ g c then k c else COf z g k n v w q (c + 1)) else -1
def CO (z g k : Nat → Int) (n : Nat) (v w : Int) (c : Nat) : Int := COf z g k n v w (n - c) c
theorem CO_end {z g k : Nat → Int} {n : Nat} {v w : Int} {c : Nat} (h : n ≤ c) : CO z g k n v w c = -1 := by
  unfold CO
  rw [show n - c = 0 by omega]
  rfl
theorem CO_hit {z g k : Nat → Int} {n : Nat} {v w : Int} {c : Nat} (h : c < n) (h1 : z c = v) (h2 : w ≤ g c) : CO z g k n v w c = k c := by
  unfold CO
  rw [show n - c = (n - (c + 1)) + 1 by omega]
  show (if c < n then (if z c = v ∧ w ≤ g c then k c else _) else -1) = _
  rw [if_pos h, if_pos ⟨h1, h2⟩]
theorem CO_on {z g k : Nat → Int} {n : Nat} {v w : Int} {c : Nat} (h : c < n) (h1 : ¬ z c = v ∨ g c < w) : CO z g k n v w c = CO z g k n v w (c + 1) := by
  unfold CO
  rw [show n - c = (n - (c + 1)) + 1 by omega]
  show (if c < n then (if z c = v ∧ w ≤ g c then k c else _) else -1) = _
  rw [if_pos h, if_neg (fun q => by obtain ⟨q1, q2⟩ := q; rcases h1 with h1 | h1 <;> omega)]
theorem CO_eq {z g k z2 g2 k2 : Nat → Int} {n : Nat} {v w : Int} (h : ∀ c, c < n → z c = z2 c ∧ g c = g2 c ∧ k c = k2 c) : ∀ q c, COf z g k n v w q c = COf z2 g2 k2 n v w q c
  | 0, _ => rfl
  | q + 1, c => by
    show (if c < n then (if z c = v ∧ w ≤ g c then k c else COf z g k n v w q (c + 1)) else -1) = (if c < n then (if z2 c = v ∧ w ≤ g2 c then k2 c else COf z2 g2 k2 n v w q (c + 1)) else -1)
    by_cases hc : c < n
    · rw [if_pos hc, if_pos hc, (h c hc).1, (h c hc).2.1, (h c hc).2.2, CO_eq h q (c + 1)]
    · rw [if_neg hc, if_neg hc]
def ZN (x y d : Int) : Int := if x = y then 0 else if d < 20 then 1 else if d < 50 then 2 else 3
/-- rates, both sides alike -/
def RATR (a : Nat → Nat → Int) : Prop := ∀ r : Nat, (r : Int) < a 105 5 → a 106 r = a 192 r ∧ a 107 r = a 193 r ∧ ∀ c : Nat, (c : Int) < a 107 r → a 108 (r * 12 + c) = a 194 (36 * r + 3 * c) ∧ a 119 (r * 12 + c) = a 194 (36 * r + (3 * c + 1)) ∧ a 130 (r * 12 + c) = a 194 (36 * r + (3 * c + 2))
theorem RATR_fr {W : List (Nat × Nat)} {a a1 : Nat → Nat → Int} (h : RATR a) (hf : jfr W a a1) (h5 : jfin W 105 5 = false) (h6 : ∀ j, jfin W 106 j = false) (h7 : ∀ j, jfin W 107 j = false) (h8 : ∀ j, jfin W 108 j = false) (h9 : ∀ j, jfin W 119 j = false) (h10 : ∀ j, jfin W 130 j = false)
    (g2 : ∀ j, jfin W 192 j = false) (g3 : ∀ j, jfin W 193 j = false) (g4 : ∀ j, jfin W 194 j = false) : RATR a1 := by
  intro r hr
  rw [hf 105 5 h5] at hr
  obtain ⟨q1, q2, q3⟩ := h r hr
  rw [hf 106 _ (h6 _), hf 192 _ (g2 _), hf 107 _ (h7 _), hf 193 _ (g3 _)]
  refine ⟨q1, q2, fun c hc => ?_⟩
  rw [hf 108 _ (h8 _), hf 119 _ (h9 _), hf 130 _ (h10 _), hf 194 _ (g4 _), hf 194 _ (g4 _), hf 194 _ (g4 _)]
  exact q3 c hc
theorem RATR_s {a a1 a2 : Nat → Nat → Int} {r r2 x : Int} (h : RATR a) (hn : a 105 5 = a 146 68) (h0 : 0 ≤ a 105 5) (hi : ∀ j, 0 ≤ a 107 j ∧ a 107 j ≤ 12) (f : Nat → Int) (n : Nat)
    (c0 : KPR a a1 (a 105 5).toNat) (c1 : 1 ≤ r → RWS a1 f n (a 105 5).toNat r.toNat ∧ a1 107 (a 105 5).toNat = r ∧ UP (a 106) (a1 106) (a 105 5).toNat x) (c2 : r < 0 → ∀ j, a1 106 j = a 106 j)
    (e1 : ∀ j, a1 192 j = a 192 j ∧ a1 193 j = a 193 j ∧ a1 194 j = a 194 j) (en : a1 146 68 = a 146 68)
    (d1 : 1 ≤ r2 → R194 a2 f n (a1 146 68).toNat r2.toNat ∧ UP (a1 192) (a2 192) (a1 146 68).toNat x ∧ UP (a1 193) (a2 193) (a1 146 68).toNat r2 ∧ ∀ j, j < 36 * (a1 146 68).toNat → a2 194 j = a1 194 j)
    (d2 : r2 < 0 → ∀ j, a2 192 j = a1 192 j ∧ a2 193 j = a1 193 j ∧ a2 194 j = a1 194 j) (e2 : ∀ j, a2 106 j = a1 106 j ∧ a2 107 j = a1 107 j ∧ a2 108 j = a1 108 j ∧ a2 119 j = a1 119 j ∧ a2 130 j = a1 130 j)
    (hr : r = r2) (hs : (1 ≤ r ∧ a2 105 5 = a 105 5 + 1) ∨ (r < 0 ∧ a2 105 5 = a 105 5)) : RATR a2 := by
  subst hr
  have es : (a1 146 68).toNat = (a 105 5).toNat := by rw [en, ← hn]
  rw [es] at d1
  intro q hq
  rw [(e2 q).1, (e2 q).2.1]
  have old : q < (a 105 5).toNat → (r < 0 → ∀ j, a2 194 j = a1 194 j) → (∀ j, j < 36 * (a 105 5).toNat → a2 194 j = a 194 j) → a1 107 q = a 193 q ∧ ∀ c : Nat, (c : Int) < a1 107 q → a2 108 (q * 12 + c) = a2 194 (36 * q + 3 * c) ∧ a2 119 (q * 12 + c) = a2 194 (36 * q + (3 * c + 1)) ∧ a2 130 (q * 12 + c) = a2 194 (36 * q + (3 * c + 2)) := by
    intro hq2 _ hk
    obtain ⟨p1, p2, p3⟩ := h q (by omega)
    have h12 := hi q
    rw [c0.1 q hq2]
    refine ⟨p2, fun c hc => ?_⟩
    obtain ⟨w1, w2, w3⟩ := p3 c hc
    rw [(e2 _).2.2.1, (e2 _).2.2.2.1, (e2 _).2.2.2.2, (c0.2 _ (by omega)).1, (c0.2 _ (by omega)).2.1, (c0.2 _ (by omega)).2.2, hk _ (by omega), hk _ (by omega), hk _ (by omega)]
    exact ⟨w1, w2, w3⟩
  rcases hs with ⟨s1, s2⟩ | ⟨s1, s2⟩
  · obtain ⟨u1, u2, u3⟩ := c1 s1
    obtain ⟨v1, v2, v3, v4⟩ := d1 s1
    by_cases hlt : q < (a 105 5).toNat
    · obtain ⟨o1, o2⟩ := old hlt (fun k => by omega) (fun j hj => (v4 j hj).trans (e1 j).2.2)
      rw [u3 q, if_neg (by omega), v2 q, if_neg (by omega), v3 q, if_neg (by omega), (e1 q).1, (e1 q).2.1]
      exact ⟨(h q (by omega)).1, o1, o2⟩
    · have e : q = (a 105 5).toNat := by omega
      subst e
      rw [u3 _, if_pos rfl, v2 _, if_pos rfl, v3 _, if_pos rfl, u2]
      refine ⟨rfl, rfl, fun c hc => ?_⟩
      obtain ⟨w1, w2, w3⟩ := u1 c (by omega)
      obtain ⟨t1, t2, t3⟩ := v1 c (by omega)
      rw [(e2 _).2.2.1, (e2 _).2.2.2.1, (e2 _).2.2.2.2, w1, w2, w3, t1, t2, t3]
      exact ⟨rfl, rfl, rfl⟩
  · have d := d2 s1
    obtain ⟨o1, o2⟩ := old (by omega) (fun _ j => (d j).2.2) (fun j _ => ((d j).2.2).trans (e1 j).2.2)
    rw [c2 s1 q, (d q).1, (d q).2.1, (e1 q).1, (e1 q).2.1]
    exact ⟨(h q (by omega)).1, o1, o2⟩
/-- the price: rates n by their days f, clauses (z r c, g r c, k r c), cnt r of them -/
def PRC (f : Nat → Int) (n : Nat) (z g k : Nat → Nat → Int) (cnt : Nat → Int) (v w d : Int) : Int :=
  if HO f d n < 0 then -2 else if CO (z (HO f d n).toNat) (g (HO f d n).toNat) (k (HO f d n).toNat) (cnt (HO f d n).toNat).toNat v w 0 = -1 then -2 else CO (z (HO f d n).toNat) (g (HO f d n).toNat) (k (HO f d n).toNat) (cnt (HO f d n).toNat).toNat v w 0
theorem PRC_eq {f f2 : Nat → Int} {n : Nat} {z g k z2 g2 k2 : Nat → Nat → Int} {cnt cnt2 : Nat → Int} {v w d : Int} (h : ∀ r, r < n → f r = f2 r ∧ cnt r = cnt2 r ∧ ∀ c : Nat, (c : Int) < cnt r → z r c = z2 r c ∧ g r c = g2 r c ∧ k r c = k2 r c) : PRC f n z g k cnt v w d = PRC f2 n z2 g2 k2 cnt2 v w d := by
  have e := HO_eq (d := d) (m := n) (fun r hr => (h r hr).1)
  have hb := HO_bd f2 d n
  unfold PRC
  rw [e]
  by_cases hc : HO f2 d n < 0
  · rw [if_pos hc, if_pos hc]
  · rw [if_neg hc, if_neg hc]
    obtain ⟨q1, q2, q3⟩ := h (HO f2 d n).toNat (by omega)
    have e2 : CO (z (HO f2 d n).toNat) (g (HO f2 d n).toNat) (k (HO f2 d n).toNat) (cnt (HO f2 d n).toNat).toNat v w 0 = CO (z2 (HO f2 d n).toNat) (g2 (HO f2 d n).toNat) (k2 (HO f2 d n).toNat) (cnt2 (HO f2 d n).toNat).toNat v w 0 := by
      rw [← q2]
      unfold CO
      exact CO_eq (fun c hc => q3 c (by omega)) _ _
    rw [e2]
def PR1 (a : Nat → Nat → Int) (v w d : Int) : Int := PRC (a 106) (a 105 5).toNat (fun r c => a 108 (r * 12 + c)) (fun r c => a 119 (r * 12 + c)) (fun r c => a 130 (r * 12 + c)) (a 107) v w d
def PR2 (a : Nat → Nat → Int) (v w d : Int) : Int := PRC (a 192) (a 146 68).toNat (fun r c => a 194 (36 * r + 3 * c)) (fun r c => a 194 (36 * r + (3 * c + 1))) (fun r c => a 194 (36 * r + (3 * c + 2))) (a 193) v w d
theorem PR_law {a a1 : Nat → Nat → Int} {v w d : Int} (h : RATR a) (hn : a 105 5 = a 146 68) (e : ∀ k j, k = 192 ∨ k = 193 ∨ k = 194 → a1 k j = a k j) (en : a1 146 68 = a 146 68) : PR1 a v w d = PR2 a1 v w d := by
  unfold PR1 PR2
  rw [en, ← hn]
  refine PRC_eq (fun r hr => ?_)
  obtain ⟨q1, q2, q3⟩ := h r (by omega)
  refine ⟨by rw [e 192 _ (by omega)]; exact q1, by rw [e 193 _ (by omega)]; exact q2, fun c hc => ?_⟩
  obtain ⟨w1, w2, w3⟩ := q3 c hc
  show a 108 (r * 12 + c) = a1 194 (36 * r + 3 * c) ∧ a 119 (r * 12 + c) = a1 194 (36 * r + (3 * c + 1)) ∧ a 130 (r * 12 + c) = a1 194 (36 * r + (3 * c + 2))
  rw [e 194 _ (by omega), e 194 _ (by omega), e 194 _ (by omega)]
  exact ⟨w1, w2, w3⟩
