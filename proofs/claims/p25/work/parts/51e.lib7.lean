/-! rows of one heap and the next -/
def UP (f g : Nat → Int) (i : Nat) (v : Int) : Prop := ∀ j, g j = if j = i then v else f j
theorem UP_put {a : Nat → Nat → Int} {f : Nat → Int} {k i : Nat} {v : Int} (h : ∀ j, a k j = f j) : UP f (jxu a k i v k) i v := by
  intro j
  show (if k = k then (if j = i then v else a k j) else a k j) = _
  rw [if_pos rfl, h]
theorem UP_cl {f f2 g : Nat → Int} {i : Nat} {v : Int} (h : UP f g i v) (e : ∀ j, f j = f2 j) : UP f2 g i v := fun j => by rw [h j, e j]
theorem UP_cr {f g g2 : Nat → Int} {i : Nat} {v : Int} (h : UP f g i v) (e : ∀ j, g2 j = g j) : UP f g2 i v := fun j => by rw [e j, h j]
theorem UP_both {f g f2 g2 : Nat → Int} {i i2 : Nat} {v v2 : Int} (h : UP f g i v) (h2 : UP f2 g2 i2 v2) (e : ∀ j, f j = f2 j) (hi : i = i2) (hv : v = v2) (j : Nat) : g j = g2 j := by
  rw [h j, h2 j, e j, hi, hv]
/-! a member comes -/
def MAD (a a1 : Nat → Nat → Int) (k1 k2 k3 k4 k5 : Nat) (n : Nat) (l t f d : Int) : Prop := UP (a k1) (a1 k1) n l ∧ UP (a k2) (a1 k2) n t ∧ UP (a k3) (a1 k3) n f ∧ UP (a k4) (a1 k4) n d ∧ UP (a k5) (a1 k5) n 1
def MSA (a a1 : Nat → Nat → Int) (k1 k2 k3 k4 k5 : Nat) : Prop := ∀ j, a1 k1 j = a k1 j ∧ a1 k2 j = a k2 j ∧ a1 k3 j = a k3 j ∧ a1 k4 j = a k4 j ∧ a1 k5 j = a k5 j
theorem MSA_rf (a : Nat → Nat → Int) (k1 k2 k3 k4 k5 : Nat) : MSA a a k1 k2 k3 k4 k5 := fun _ => ⟨rfl, rfl, rfl, rfl, rfl⟩
theorem MSA_e {a a1 : Nat → Nat → Int} {k1 k2 k3 k4 k5 : Nat} (e : jfr [] a a1) : MSA a a1 k1 k2 k3 k4 k5 := fun j => ⟨e _ _ rfl, e _ _ rfl, e _ _ rfl, e _ _ rfl, e _ _ rfl⟩
theorem MAD_e {a a1 a2 : Nat → Nat → Int} {k1 k2 k3 k4 k5 n : Nat} {l t f d : Int} (e : jfr [] a a1) (h : MAD a1 a2 k1 k2 k3 k4 k5 n l t f d) : MAD a a2 k1 k2 k3 k4 k5 n l t f d :=
  ⟨UP_cl h.1 (fun j => e _ j rfl), UP_cl h.2.1 (fun j => e _ j rfl), UP_cl h.2.2.1 (fun j => e _ j rfl), UP_cl h.2.2.2.1 (fun j => e _ j rfl), UP_cl h.2.2.2.2 (fun j => e _ j rfl)⟩
theorem MSA_e2 {a a1 a2 : Nat → Nat → Int} {k1 k2 k3 k4 k5 : Nat} (e : jfr [] a a1) (h : MSA a1 a2 k1 k2 k3 k4 k5) : MSA a a2 k1 k2 k3 k4 k5 := fun j =>
  ⟨(h j).1.trans (e _ _ rfl), (h j).2.1.trans (e _ _ rfl), (h j).2.2.1.trans (e _ _ rfl), (h j).2.2.2.1.trans (e _ _ rfl), (h j).2.2.2.2.trans (e _ _ rfl)⟩
/-- members, both sides alike -/
def MEMR (a : Nat → Nat → Int) : Prop := ∀ j, a 5 j = a 148 j ∧ a 6 j = a 149 j ∧ a 7 j = a 150 j ∧ a 8 j = a 151 j ∧ a 10 j = a 152 j
theorem MEMR_fr {W : List (Nat × Nat)} {a a1 : Nat → Nat → Int} (h : MEMR a) (hf : jfr W a a1) (h5 : ∀ j, jfin W 5 j = false) (h6 : ∀ j, jfin W 6 j = false) (h7 : ∀ j, jfin W 7 j = false) (h8 : ∀ j, jfin W 8 j = false) (h10 : ∀ j, jfin W 10 j = false)
    (g5 : ∀ j, jfin W 148 j = false) (g6 : ∀ j, jfin W 149 j = false) (g7 : ∀ j, jfin W 150 j = false) (g8 : ∀ j, jfin W 151 j = false) (g10 : ∀ j, jfin W 152 j = false) : MEMR a1 := by
  intro j
  rw [hf 5 j (h5 j), hf 6 j (h6 j), hf 7 j (h7 j), hf 8 j (h8 j), hf 10 j (h10 j), hf 148 j (g5 j), hf 149 j (g6 j), hf 150 j (g7 j), hf 151 j (g8 j), hf 152 j (g10 j)]
  exact h j
/-- one side's rows stay -/
theorem MEMR_add {a a1 a2 : Nat → Nat → Int} {r r2 l t f d d2 : Int} (h : MEMR a) (c1 : 0 ≤ r → MAD a a1 5 6 7 8 10 r.toNat l t f d) (c2 : r < 0 → MSA a a1 5 6 7 8 10) (e1 : MSA a a1 148 149 150 151 152)
    (d1 : 0 ≤ r2 → MAD a1 a2 148 149 150 151 152 r2.toNat l t f d2) (d3 : r2 < 0 → MSA a1 a2 148 149 150 151 152) (e2 : MSA a1 a2 5 6 7 8 10) (hr : r = r2) (hd : d = d2) : MEMR a2 := by
  intro j
  subst hr
  subst hd
  obtain ⟨x1, x2, x3, x4, x5⟩ := h j
  obtain ⟨p1, p2, p3, p4, p5⟩ := e1 j
  obtain ⟨q1, q2, q3, q4, q5⟩ := e2 j
  rw [q1, q2, q3, q4, q5]
  rcases Int.lt_or_le r 0 with hr | hr
  · obtain ⟨u1, u2, u3, u4, u5⟩ := c2 hr j
    obtain ⟨w1, w2, w3, w4, w5⟩ := d3 hr j
    rw [u1, u2, u3, u4, u5, w1, w2, w3, w4, w5, p1, p2, p3, p4, p5]
    exact h j
  · obtain ⟨u1, u2, u3, u4, u5⟩ := c1 hr
    obtain ⟨w1, w2, w3, w4, w5⟩ := d1 hr
    rw [u1 j, u2 j, u3 j, u4 j, u5 j, w1 j, w2 j, w3 j, w4 j, w5 j, p1, p2, p3, p4, p5, x1, x2, x3, x4, x5]
    exact ⟨rfl, rfl, rfl, rfl, rfl⟩
theorem MEMR_lv {a a1 a2 : Nat → Nat → Int} {x : Int} (h : MEMR a) (hn : a 4 6 = a 146 2) (c1 : 0 ≤ x ∧ x < a 4 6 ∧ ¬ a 10 x.toNat = 0 → UP (a 10) (a1 10) x.toNat 0) (c2 : x < 0 ∨ a 4 6 ≤ x ∨ a 10 x.toNat = 0 → ∀ j, a1 10 j = a 10 j)
    (f1 : MSA a a1 5 6 7 8 5) (e1 : MSA a a1 148 149 150 151 152) (en : a1 146 2 = a 146 2)
    (d1 : 0 ≤ x ∧ x < a1 146 2 ∧ ¬ a1 152 x.toNat = 0 → UP (a1 152) (a2 152) x.toNat 0) (d2 : x < 0 ∨ a1 146 2 ≤ x ∨ a1 152 x.toNat = 0 → ∀ j, a2 152 j = a1 152 j) (e2 : MSA a1 a2 5 6 7 8 10) (f2 : MSA a1 a2 148 149 150 151 148) : MEMR a2 := by
  intro j
  obtain ⟨x1, x2, x3, x4, x5⟩ := h j
  obtain ⟨p1, p2, p3, p4, p5⟩ := e1 j
  obtain ⟨q1, q2, q3, q4, q5⟩ := e2 j
  obtain ⟨s1, s2, s3, s4, _⟩ := f1 j
  obtain ⟨t1, t2, t3, t4, _⟩ := f2 j
  have hx := (h x.toNat).2.2.2.2
  have hy := (e1 x.toNat).2.2.2.2
  rw [q1, q2, q3, q4, q5, s1, s2, s3, s4, t1, t2, t3, t4, p1, p2, p3, p4]
  refine ⟨x1, x2, x3, x4, ?_⟩
  by_cases hc : 0 ≤ x ∧ x < a 4 6 ∧ ¬ a 10 x.toNat = 0
  · rw [c1 hc j, d1 (by rw [en, hy, ← hx, ← hn]; exact hc) j, p5, x5]
  · rw [c2 (by omega) j, d2 (by rw [en, hy, ← hx, ← hn]; omega) j, p5, x5]
