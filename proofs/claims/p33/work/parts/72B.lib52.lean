/-! rings, the class: what a set comes to -/
theorem LST_mod {x s : Nat} (h : LST s x) : x % 2 ^ (s + 1) = 2 ^ s := Nat.eq_of_testBit_eq (fun i => by
  rw [Nat.testBit_mod_two_pow, Nat.testBit_two_pow]
  by_cases c : i = s
  · subst c
    rw [h.1]
    simp
  · by_cases d : i < s
    · rw [h.2 i d, decide_eq_false (show ¬ s = i from fun z => c z.symm), Bool.and_false]
    · rw [decide_eq_false (show ¬ i < s + 1 by omega), decide_eq_false (show ¬ s = i from fun z => c z.symm), Bool.false_and])
theorem low_and {x s : Nat} (h : LST s x) (hx : x < 4096) : x &&& (4294967296 - x) = 2 ^ s := by
  have m := LST_mod h
  have p := pow_pos2 s
  have pe : 2 ^ (s + 1) = 2 * 2 ^ s := by rw [Nat.pow_succ, Nat.mul_comm]
  have dm := Nat.div_add_mod x (2 ^ (s + 1))
  have x0 : 0 < x := by omega
  have ex : x = 2 ^ (s + 1) * (x / 2 ^ (s + 1)) + 2 ^ s := by omega
  have ex1 : x - 1 = 2 ^ (s + 1) * (x / 2 ^ (s + 1)) + (2 ^ s - 1) := by omega
  refine Nat.eq_of_testBit_eq (fun i => ?_)
  have t := Nat.testBit_two_pow_sub_succ (n := 32) (x := x - 1) (by omega) i
  rw [show (2 : Nat) ^ 32 = 4294967296 from rfl, show x - 1 + 1 = x by omega] at t
  rw [Nat.testBit_and, t, Nat.testBit_two_pow]
  by_cases c : i = s
  · have z : (x - 1).testBit i = false := by
      rw [ex1, c, Nat.testBit_two_pow_mul_add _ (by omega), if_pos (by omega), Nat.testBit_two_pow_sub_one]
      exact decide_eq_false (Nat.lt_irrefl s)
    have z2 : s < 32 := by
      rcases Nat.lt_or_ge s 32 with q | q
      · exact q
      · have := Nat.pow_le_pow_right (n := 2) (by decide) q
        omega
    rw [z, c, h.1]
    simp
    exact z2
  · rw [decide_eq_false (show ¬ s = i from fun z => c z.symm)]
    by_cases d : i < s
    · rw [h.2 i d, Bool.false_and]
    · have e1 : x.testBit i = (x / 2 ^ (s + 1)).testBit (i - (s + 1)) := by
        rw [ex, Nat.testBit_two_pow_mul_add _ (by omega), if_neg (by omega), ← ex]
      have e2 : (x - 1).testBit i = (x / 2 ^ (s + 1)).testBit (i - (s + 1)) := by
        rw [ex1, Nat.testBit_two_pow_mul_add _ (by omega), if_neg (by omega)]
      rw [e1, e2]
      cases (x / 2 ^ (s + 1)).testBit (i - (s + 1)) <;> simp
theorem lowb {x s : Nat} (h : LST s x) (hx : x < 4096) : jxand (x : Int) (jxw (-(x : Int))) = ((2 ^ s : Nat) : Int) := by
  have x0 : 0 < x := by
    rcases Nat.eq_zero_or_pos x with z | z
    · rw [z] at h
      have := h.1
      rw [Nat.zero_testBit] at this
      cases this
    · exact z
  have e : BitVec.ofInt 32 (jxw (-(x : Int))) = BitVec.ofInt 32 (-(x : Int)) := by
    refine BitVec.eq_of_toInt_eq ?_
    rw [BitVec.toInt_ofInt, BitVec.toInt_ofInt]
    unfold jxw
    rw [show (4294967296 : Nat) = 2 ^ 32 from rfl, Int.bmod_bmod]
  have t : (BitVec.ofInt 32 (x : Int) &&& BitVec.ofInt 32 (-(x : Int))).toNat = 2 ^ s := by
    rw [BitVec.toNat_and, bv_of (by omega) (by omega), BitVec.toNat_ofInt, Int.toNat_natCast, ← low_and h hx]
    congr 1
    have z : ((2 ^ 32 : Nat) : Int) = 4294967296 := by decide
    rw [z]
    omega
  have l : 2 ^ s ≤ x := by
    have := LST_mod h
    have := Nat.mod_le x (2 ^ (s + 1))
    omega
  rw [jxand_eq, e, bv_nn (by omega), t]
def D16 (v : Int) (c : Nat) : Prop := ∃ o r : Int, v = 16 * o - r ∧ 0 ≤ r ∧ 2 * r ≤ o ∧ o ≤ 5 * r ∧ o ≤ c
theorem D16_0 : D16 0 0 := ⟨0, 0, by decide, by decide, by decide, by decide, by decide⟩
theorem D16_le {v : Int} {c : Nat} (h : D16 v c) (hc : c ≤ 12) : 0 ≤ v ∧ v ≤ 16 * (c : Int) - ((c : Int) + 4) / 5 := by
  obtain ⟨o, r, a1, a2, a3, a4, a5⟩ := h
  omega
theorem D16_ring {v : Int} {c l : Nat} (h : D16 v c) (h2 : 2 ≤ l) (h5 : l ≤ 5) : D16 (16 * (l : Int) - 1 + v) (c + l) := by
  obtain ⟨o, r, a1, a2, a3, a4, a5⟩ := h
  exact ⟨o + l, r + 1, by omega, by omega, by omega, by omega, by omega⟩
theorem D16_mono {v : Int} {c d : Nat} (h : D16 v c) (hc : c ≤ d) : D16 v d := by
  obtain ⟨o, r, a1, a2, a3, a4, a5⟩ := h
  exact ⟨o, r, a1, a2, a3, a4, by omega⟩
theorem ring_len {n : Nat} {g k : Nat → Nat → Bool} (hk : ∀ i, k i i = true) (h12 : n ≤ 12) {s : Nat} (hs : s < n) {r : List Nat} (h : r ∈ RGL n g k 4 [s]) : popn 12 (PM r) = r.length ∧ 2 ≤ r.length ∧ r.length ≤ 5 ∧ r.headD 0 = s ∧ VP n k r := by
  obtain ⟨v, _, l2, l5, hd⟩ := RGL_mem hk (VP_one hs) h
  exact ⟨popn_PM v.2.2.1 (fun x hx => by have := v.2.1 x hx; omega), l2, by simpa using l5, hd, v⟩
theorem ring_seat {n : Nat} {g k : Nat → Nat → Bool} (hk : ∀ i, k i i = true) {s : Nat} {r : List Nat} (h : r ∈ RUA n g k n) (hs : LST s (PM r)) : r ∈ RGL n g k 4 [s] ∧ s < n := by
  obtain ⟨s0, h0, hr⟩ := RUA_mem.1 h
  obtain ⟨v, hin, l2, l5, hd⟩ := RGL_mem hk (VP_one h0) hr
  have a := (PM_bit r s).1 hs.1
  have b := v.2.2.2 s a
  have c : s0 ∈ r := hin s0 (List.mem_singleton.2 rfl)
  have d := (PM_bit r s0).2 c
  have hd0 : r.headD 0 = s0 := hd
  have e : s = s0 := by
    rcases Nat.lt_trichotomy s s0 with q | q | q
    · omega
    · exact q
    · have := hs.2 s0 q
      rw [this] at d; cases d
  rw [e]
  exact ⟨hr, h0⟩
def WHY (a b : Nat → Nat → Int) (n : Nat) (g k : Nat → Nat → Bool) (u x : Nat) : Prop := MKA a b (RUA n g k n) ∧ (∀ i, k i i = true) ∧ n ≤ 12 ∧ u < 2 ^ n ∧ SUB x u ∧ 0 < x ∧ ∀ left, SUB left u → left < x → D16 (a 95 left) (popn 12 left)
def WGI (n : Nat) (g k : Nat → Nat → Bool) (B : Nat → Int) (s x : Nat) (y5 : Int) (d : Nat) : Prop := WAY n g k 16 B s x y5 ∧ B (x ^^^ 2 ^ s) ≤ y5 ∧ ∀ r, r ∈ RGL n g k 4 [s] → SUB (PM r) x → d < PM r ^^^ 2 ^ s → 16 * (r.length : Int) - 1 + B (x ^^^ PM r) ≤ y5
def WG (a : Nat → Nat → Int) (n : Nat) (g k : Nat → Nat → Bool) (s x : Nat) (y2 y3 y4 y5 y6 : Int) : Prop := y2 = ((2 ^ s : Nat) : Int) ∧ y3 = ((x ^^^ 2 ^ s : Nat) : Int) ∧ y4 = 16 * ((popn 12 x : Nat) : Int) - (((popn 12 x : Nat) : Int) + 4) / 5 ∧ ∃ d : Nat, y6 = (d : Int) ∧ SUB d (x ^^^ 2 ^ s) ∧ WGI n g k (a 95) s x y5 d
/-- what each way comes to is of the kind D16 -/
theorem WAY_D16 {a b : Nat → Nat → Int} {n : Nat} {g k : Nat → Nat → Bool} {u x s : Nat} (h : WHY a b n g k u x) (hs : LST s x) {v : Int} (w : WAY n g k 16 (a 95) s x v) : D16 v (popn 12 x) := by
  obtain ⟨h1, hk, h12, hu, hx, h0, hD⟩ := h
  have ux := SUB_le hx
  have sn : s < n := by
    rcases Nat.lt_or_ge s n with q | q
    · exact q
    · have := Nat.testBit_lt_two_pow (Nat.lt_of_lt_of_le (show x < 2 ^ n by omega) (Nat.pow_le_pow_right (n := 2) (by decide) q))
      rw [hs.1] at this; cases this
  rcases w with e | ⟨r, r1, r2, r3⟩
  · have sb := bit_SUB hs.1
    have l := (xor_lt sb (pow_pos2 s) (show x < 2 ^ n by omega)).1
    rw [e]
    refine D16_mono (hD _ (SUB_tr (xor_SUB sb) hx) l) ?_
    have := popn_less sb 12
    omega
  · obtain ⟨l1, l2, l3, l4, l5⟩ := ring_len hk h12 sn r1
    have pp := PM_pos l5.1
    have l := (xor_lt r2 pp (show x < 2 ^ n by omega)).1
    have q := D16_ring (hD _ (SUB_tr (xor_SUB r2) hx) l) l2 l3
    rw [r3]
    have := popn_less r2 12
    exact D16_mono q (by omega)
theorem LST_lt {x s n : Nat} (hs : LST s x) (hx : x < 2 ^ n) : s < n := by
  rcases Nat.lt_or_ge s n with q | q
  · exact q
  · have := Nat.testBit_lt_two_pow (Nat.lt_of_lt_of_le hx (Nat.pow_le_pow_right (n := 2) (by decide) q))
    rw [hs.1] at this; cases this
theorem xbit {A s : Nat} (h : A.testBit s = true) (i : Nat) : (A ^^^ 2 ^ s).testBit i = (A.testBit i && !decide (s = i)) := by
  rw [Nat.testBit_xor, Nat.testBit_two_pow]
  by_cases c : s = i
  · subst c; rw [h]; simp
  · rw [decide_eq_false c]; simp
/-- a ring's seats behind its least one -/
theorem ring_rest {n : Nat} {g k : Nat → Nat → Bool} (hk : ∀ i, k i i = true) (h12 : n ≤ 12) {s x : Nat} (hs : s < n) (hx : x.testBit s = true) {r : List Nat} (h : r ∈ RGL n g k 4 [s]) (hr : SUB (PM r) x) : SUB (PM r ^^^ 2 ^ s) (x ^^^ 2 ^ s) ∧ 0 < PM r ^^^ 2 ^ s ∧ PM r = 2 ^ s ||| (PM r ^^^ 2 ^ s) ∧ x ^^^ PM r = (x ^^^ 2 ^ s) ^^^ (PM r ^^^ 2 ^ s) ∧ (PM r).testBit s = true := by
  have hb : (PM r).testBit s = true := (PM_bit r s).2 (ring_head hk hs h)
  obtain ⟨l1, l2, l3, l4, l5⟩ := ring_len hk h12 hs h
  refine ⟨fun i q => ?_, ?_, ?_, ?_, hb⟩
  · rw [xbit hb, Bool.and_eq_true] at q
    rw [xbit hx, Bool.and_eq_true]
    exact ⟨hr i q.1, q.2⟩
  · rcases Nat.eq_zero_or_pos (PM r ^^^ 2 ^ s) with z | z
    · exfalso
      have e : PM r = 2 ^ s := Nat.eq_of_testBit_eq (fun i => by
        have q := xbit hb i
        rw [z, Nat.zero_testBit] at q
        rw [Nat.testBit_two_pow]
        by_cases c : s = i
        · rw [← c, hb]; simp
        · rw [decide_eq_false c] at q ⊢
          simpa using q.symm)
      rw [e, popn_bit] at l1
      rw [if_pos (by omega)] at l1
      omega
    · exact z
  · refine Nat.eq_of_testBit_eq (fun i => ?_)
    rw [Nat.testBit_or, xbit hb, Nat.testBit_two_pow]
    by_cases c : s = i
    · rw [← c, hb]; simp
    · rw [decide_eq_false c]; simp
  · refine Nat.eq_of_testBit_eq (fun i => ?_)
    rw [Nat.testBit_xor, Nat.testBit_xor, xbit hx, xbit hb]
    by_cases c : s = i
    · rw [← c, hb, hx]; simp
    · rw [decide_eq_false c]; simp
theorem WG_0 {a b : Nat → Nat → Int} {n : Nat} {g k : Nat → Nat → Bool} {u s : Nat} {x : Int} (h : WHY a b n g k u x.toNat) (x1 : x ≤ 4095) (hs : LST s x.toNat) : WG a n g k s x.toNat (jxand x (jxw (-x))) (jxxor x (jxand x (jxw (-x)))) (f_X5_mostWorth a b (f_J6_bitCount_0f7a4 a b x)) (a 95 ((jxxor x (jxand x (jxw (-x)))).toNat)) (jxxor x (jxand x (jxw (-x)))) := by
  have x0 : 1 ≤ x := by have := h.2.2.2.2.2.1; omega
  have xn : x.toNat < 2 ^ n := by have := SUB_le h.2.2.2.2.1; have := h.2.2.2.1; omega
  have e := lowb hs (by omega)
  rw [Int.toNat_of_nonneg (show 0 ≤ x by omega)] at e
  have sn := LST_lt (n := 12) hs (show x.toNat < 4096 by omega)
  have p2 : 2 ^ s ≤ 2048 := Nat.pow_le_pow_right (n := 2) (by decide) (show s ≤ 11 by omega)
  have ex := jxxor_nat x.toNat (2 ^ s) (by omega) (by omega)
  rw [Int.toNat_of_nonneg (show 0 ≤ x by omega)] at ex
  rw [e, ex, Int.toNat_natCast]
  have bc := bitCount_at (a := a) (b := b) (show 0 ≤ x by omega) x1
  have pl := popn_le x.toNat 12
  refine ⟨rfl, rfl, ?_, x.toNat ^^^ 2 ^ s, rfl, SUB_rf _, Or.inl rfl, Int.le_refl _, fun r r1 r2 r3 => ?_⟩
  · unfold f_X5_mostWorth
    rw [bc]
    have t : ∀ p : Int, 0 ≤ p → p ≤ 12 → jxw ((jxw (16 * p)) - (jxw (Int.tdiv (jxw ((jxw (p + 5)) - 1)) 5))) = 16 * p - (p + 4) / 5 := fun p p0 p1 => by
      rw [jxw_id (x := 16 * p) (by omega) (by omega), jxw_id (x := p + 5) (by omega) (by omega), jxw_id (x := p + 5 - 1) (by omega) (by omega)]
      have d : Int.tdiv (p + 5 - 1) 5 = (p + 5 - 1) / 5 := Int.tdiv_eq_ediv_of_nonneg (by omega)
      rw [d, jxw_id (x := (p + 5 - 1) / 5) (by omega) (by omega), jxw_id (by omega) (by omega)]
      omega
    exact t _ (by omega) (by omega)
  · exfalso
    have q := ring_rest h.2.1 h.2.2.1 (LST_lt hs xn) hs.1 r1 r2
    have := SUB_le q.1
    omega
/-- the next set of seats behind the first -/
theorem WG_next {a b : Nat → Nat → Int} {n : Nat} {g k : Nat → Nat → Bool} {u s x : Nat} {y2 y3 y4 y5 y6 z5 : Int} (h : WHY a b n g k u x) (hs : LST s x) (w : WG a n g k s x y2 y3 y4 y5 y6) (h6 : 0 < y6) (hz : y5 ≤ z5) (hw : WAY n g k 16 (a 95) s x z5) (hr : ∀ r, r ∈ RGL n g k 4 [s] → SUB (PM r) x → PM r ^^^ 2 ^ s = y6.toNat → 16 * (r.length : Int) - 1 + a 95 (x ^^^ PM r) ≤ z5) : WG a n g k s x y2 y3 y4 z5 (jxand (jxw (y6 - 1)) y3) := by
  obtain ⟨w1, w2, w3, d, w4, w5, w6, w7, w8⟩ := w
  have hx : x < 2 ^ n := by have := SUB_le h.2.2.2.2.1; have := h.2.2.2.1; omega
  have t12 := two12 h.2.2.1
  have hl := (xor_lt (bit_SUB hs.1) (pow_pos2 s) hx)
  obtain ⟨p1, p2, p3⟩ := sub_prev w5 (by omega)
  have e : jxand (jxw (y6 - 1)) y3 = (((d - 1) &&& (x ^^^ 2 ^ s) : Nat) : Int) := by
    have dl := SUB_le w5
    rw [w2, w4, jxw_id (by omega) (by omega), show (d : Int) - 1 = ((d - 1 : Nat) : Int) by omega]
    exact jxand_nat _ _ (by omega) (by omega)
  rw [e]
  refine ⟨w1, w2, w3, (d - 1) &&& (x ^^^ 2 ^ s), rfl, p1, hw, by omega, fun r r1 r2 r3 => ?_⟩
  have q := ring_rest h.2.1 h.2.2.1 (LST_lt hs hx) hs.1 r1 r2
  rcases Nat.lt_trichotomy (PM r ^^^ 2 ^ s) d with c | c | c
  · have := p3 _ q.1 c
    omega
  · exact hr r r1 r2 (by omega)
  · have := w8 r r1 r2 c
    omega
/-- a set of seats behind the first that is no ring's, or is -/
theorem WG_mark {a b : Nat → Nat → Int} {n : Nat} {g k : Nat → Nat → Bool} {u s x : Nat} {y2 y3 y4 y5 y6 : Int} (h : WHY a b n g k u x) (hs : LST s x) (w : WG a n g k s x y2 y3 y4 y5 y6) (h6 : 0 < y6) : (f_X5_isRingSet a b (jxor y2 y6) = 0 → ∀ r, r ∈ RGL n g k 4 [s] → SUB (PM r) x → ¬ PM r ^^^ 2 ^ s = y6.toNat) ∧
    (¬ f_X5_isRingSet a b (jxor y2 y6) = 0 → jxw ((a 95 ((jxxor y3 y6).toNat)) + (f_X5_worth a b (jxw (1 + (f_J6_bitCount_0f7a4 a b y6))))) = a 95 ((jxxor y3 y6).toNat) + 16 * (1 + ((popn 12 y6.toNat : Nat) : Int)) - 1 ∧ WAY n g k 16 (a 95) s x (a 95 ((jxxor y3 y6).toNat) + 16 * (1 + ((popn 12 y6.toNat : Nat) : Int)) - 1) ∧ ∀ r, r ∈ RGL n g k 4 [s] → SUB (PM r) x → PM r ^^^ 2 ^ s = y6.toNat → 16 * (r.length : Int) - 1 + a 95 (x ^^^ PM r) = a 95 ((jxxor y3 y6).toNat) + 16 * (1 + ((popn 12 y6.toNat : Nat) : Int)) - 1) := by
  have hW := h
  obtain ⟨hm, hk, h12, hu, hxu, h0, hD⟩ := h
  obtain ⟨w1, w2, w3, d, w4, w5, w6, w7, w8⟩ := w
  have hx : x < 2 ^ n := by have := SUB_le hxu; omega
  have t12 := two12 h12
  have sn := LST_lt hs hx
  have hl := (xor_lt (bit_SUB hs.1) (pow_pos2 s) hx)
  have dl := SUB_le w5
  have p2 : 2 ^ s ≤ 2048 := Nat.pow_le_pow_right (n := 2) (by decide) (show s ≤ 11 by omega)
  have ds : d.testBit s = false := by
    cases z : d.testBit s
    · rfl
    · have := w5 s z
      rw [xbit hs.1] at this
      simp at this
  have e1 : jxor y2 y6 = ((2 ^ s ||| d : Nat) : Int) := by
    rw [w1, w4]; exact jxor_nat _ _ (by omega) (by omega)
  have e2 : jxxor y3 y6 = (((x ^^^ 2 ^ s) ^^^ d : Nat) : Int) := by
    rw [w2, w4]; exact jxxor_nat _ _ (by omega) (by omega)
  have lo : 2 ^ s ||| d < 2 ^ 12 := Nat.or_lt_two_pow (by omega) (by omega)
  have ob : (2 ^ s ||| d).testBit s = true := by rw [Nat.testBit_or, Nat.testBit_two_pow]; simp
  have ox : (2 ^ s ||| d) ^^^ 2 ^ s = d := Nat.eq_of_testBit_eq (fun i => by
    rw [xbit ob, Nat.testBit_or, Nat.testBit_two_pow]
    by_cases c : s = i
    · rw [← c, ds]; simp
    · rw [decide_eq_false c]; simp)
  have osub : SUB (2 ^ s ||| d) x := fun i q => by
    rw [Nat.testBit_or, Nat.testBit_two_pow, Bool.or_eq_true, decide_eq_true_eq] at q
    rcases q with q | q
    · rw [← q]; exact hs.1
    · have := w5 i q
      rw [xbit hs.1, Bool.and_eq_true] at this
      exact this.1
  have olst : LST s (2 ^ s ||| d) := ⟨ob, fun i hi => by
    cases z : (2 ^ s ||| d).testBit i
    · rfl
    · have := osub i z
      rw [hs.2 i hi] at this; cases this⟩
  have q := isRing_at (a := a) (b := b) (x := jxor y2 y6) (by omega) (by omega)
  rw [e1, Int.toNat_natCast] at q
  rw [e1, e2, Int.toNat_natCast, w4, Int.toNat_natCast]
  have mk := hm.1 (2 ^ s ||| d) lo
  have same : ∀ r, r ∈ RGL n g k 4 [s] → SUB (PM r) x → PM r ^^^ 2 ^ s = d → PM r = 2 ^ s ||| d := fun r r1 r2 r3 => by
    have z := (ring_rest hk h12 sn hs.1 r1 r2).2.2.1
    rw [r3] at z; exact z
  have val : ∀ r, r ∈ RGL n g k 4 [s] → PM r = 2 ^ s ||| d → (r.length : Int) = 1 + ((popn 12 d : Nat) : Int) ∧ x ^^^ PM r = (x ^^^ 2 ^ s) ^^^ d := fun r r1 r3 => by
    have l := (ring_len hk h12 sn r1).1
    have z := ring_rest hk h12 sn hs.1 r1 (by rw [r3]; exact osub)
    have pl := popn_less (bit_SUB ob) 12
    rw [ox, popn_bit, if_pos (by omega)] at pl
    rw [r3] at l
    refine ⟨by omega, ?_⟩
    rw [z.2.2.2.1, r3, ox]
  constructor
  · intro hz r r1 r2 r3
    have nm : ¬ MK b (2 ^ s ||| d) := fun z => by have := q.1.2 z; rw [hz] at this; exact absurd this (by decide)
    exact nm (mk.2 ⟨r, RUA_mem.2 ⟨s, sn, r1⟩, same r r1 r2 r3⟩)
  · intro hz
    have y := q.1.1 (q.2.resolve_left hz)
    obtain ⟨r0, ra, rb⟩ := mk.1 y
    have rs := (ring_seat hk ra (by rw [rb]; exact olst)).1
    obtain ⟨v1, v2⟩ := val r0 rs rb
    have bw : D16 (a 95 ((x ^^^ 2 ^ s) ^^^ d)) (popn 12 ((x ^^^ 2 ^ s) ^^^ d)) := by
      rw [← v2]
      refine hD _ (SUB_tr (xor_SUB (by rw [rb]; exact osub)) hxu) (xor_lt (by rw [rb]; exact osub) (by rw [rb]; have := pow_pos2 s; have := Nat.left_le_or (n := 2 ^ s) (m := d); omega) hx).1
    have bd := D16_le bw (popn_le _ 12)
    have pd := popn_le d 12
    have pe := popn_le ((x ^^^ 2 ^ s) ^^^ d) 12
    have bc := bitCount_at (a := a) (b := b) (x := (d : Int)) (by omega) (by omega)
    rw [Int.toNat_natCast] at bc
    refine ⟨?_, Or.inr ⟨r0, rs, by rw [rb]; exact osub, ?_⟩, fun r r1 r2 r3 => ?_⟩
    · unfold f_X5_worth
      rw [bc, jxw_id (x := 1 + ((popn 12 d : Nat) : Int)) (by omega) (by omega), jxw_id (x := 16 * (1 + ((popn 12 d : Nat) : Int))) (by omega) (by omega), jxw_id (x := 16 * (1 + ((popn 12 d : Nat) : Int)) - 1) (by omega) (by omega), jxw_id (by omega) (by omega)]
      omega
    · rw [v1, v2]; omega
    · obtain ⟨u1, u2⟩ := val r r1 (same r r1 r2 r3)
      rw [u1, u2]; omega
/-- all have been looked at, or nothing can be better -/
theorem WG_end {a b : Nat → Nat → Int} {n : Nat} {g k : Nat → Nat → Bool} {u s x : Nat} {y2 y3 y4 y5 y6 : Int} (h : WHY a b n g k u x) (hs : LST s x) (w : WG a n g k s x y2 y3 y4 y5 y6) (he : y6 ≤ 0 ∨ y4 ≤ y5) : IMX y5 (WAY n g k 16 (a 95) s x) ∧ D16 y5 (popn 12 x) := by
  have hW := h
  obtain ⟨w1, w2, w3, d, w4, w5, w6, w7, w8⟩ := w
  have hx : x < 2 ^ n := by have := SUB_le h.2.2.2.2.1; have := h.2.2.2.1; omega
  refine ⟨⟨w6, fun v hv => ?_⟩, WAY_D16 hW hs w6⟩
  rcases he with c | c
  · rcases hv with z | ⟨r, r1, r2, r3⟩
    · rw [z]; exact w7
    · have q := ring_rest h.2.1 h.2.2.1 (LST_lt hs hx) hs.1 r1 r2
      rw [r3]
      exact w8 r r1 r2 (by omega)
  · have q := D16_le (WAY_D16 hW hs hv) (popn_le x 12)
    omega
/-! the next set of useful seats -/
theorem SUB_sub {y u : Nat} (h : SUB y u) : u ^^^ y = u - y := by
  have := xor_less h
  omega
theorem next_sub {y u : Nat} (h : SUB y u) (hu : u < 4096) : (y = u → jxand (jxw ((y : Int) - (u : Int))) (u : Int) = 0) ∧ (¬ y = u → ∃ nx : Nat, jxand (jxw ((y : Int) - (u : Int))) (u : Int) = (nx : Int) ∧ SUB nx u ∧ y < nx ∧ ∀ t, SUB t u → t < nx → t ≤ y) := by
  have yl := SUB_le h
  constructor
  · intro e
    rw [e, show ((u : Int) - (u : Int)) = 0 from by omega, jxw_id (by decide) (by decide)]
    have q := jxand_nat 0 u (by decide) (by omega)
    rw [show ((0 : Nat) : Int) = 0 from rfl, Nat.zero_and] at q
    rw [q]
    rfl
  · intro e
    have hd : SUB (u ^^^ y) u := xor_SUB h
    have ed := SUB_sub h
    obtain ⟨p1, p2, p3⟩ := sub_prev hd (by omega)
    have ep := SUB_sub p1
    have pl := SUB_le p1
    refine ⟨u ^^^ ((u ^^^ y) - 1 &&& u), ?_, xor_SUB p1, by omega, fun t ht htl => ?_⟩
    · have b1 : BitVec.ofInt 32 (jxw ((y : Int) - (u : Int))) = BitVec.ofInt 32 ((y : Int) - (u : Int)) := by
        refine BitVec.eq_of_toInt_eq ?_
        rw [BitVec.toInt_ofInt, BitVec.toInt_ofInt]
        unfold jxw
        rw [show (4294967296 : Nat) = 2 ^ 32 from rfl, Int.bmod_bmod]
      have t1 : (BitVec.ofInt 32 ((y : Int) - (u : Int))).toNat = 4294967296 - (u ^^^ y) := by
        rw [BitVec.toNat_ofInt, ed]
        have z : ((2 ^ 32 : Nat) : Int) = 4294967296 := by decide
        rw [z]
        omega
      have t2 : (4294967296 - (u ^^^ y)) &&& u = u ^^^ ((u ^^^ y) - 1 &&& u) := Nat.eq_of_testBit_eq (fun i => by
        have q := Nat.testBit_two_pow_sub_succ (n := 32) (x := (u ^^^ y) - 1) (by omega) i
        rw [show (2 : Nat) ^ 32 = 4294967296 from rfl, show (u ^^^ y) - 1 + 1 = u ^^^ y by omega] at q
        rw [Nat.testBit_and, q, Nat.testBit_xor, Nat.testBit_and]
        by_cases c : i < 32
        · rw [decide_eq_true c]
          cases u.testBit i <;> cases ((u ^^^ y) - 1).testBit i <;> rfl
        · have : u.testBit i = false := Nat.testBit_lt_two_pow (Nat.lt_of_lt_of_le (show u < 2 ^ 12 from hu) (Nat.pow_le_pow_right (by decide) (by omega)))
          rw [this]
          simp)
      have t3 : (BitVec.ofInt 32 ((y : Int) - (u : Int)) &&& BitVec.ofInt 32 (u : Int)).toNat = u ^^^ ((u ^^^ y) - 1 &&& u) := by
        rw [BitVec.toNat_and, t1, bv_of (by omega) (by omega), Int.toNat_natCast, t2]
      rw [jxand_eq, b1, bv_nn (by omega), t3]
    · have et := SUB_sub ht
      have tl := SUB_le ht
      rcases Nat.lt_or_ge y t with q | q
      · have := p3 _ (xor_SUB ht) (by omega)
        omega
      · omega
theorem RGL_ne {n : Nat} {g k : Nat → Nat → Bool} : ∀ {d : Nat} {P : List Nat}, [] ∈ RGL n g k d P → False
  | 0, P, h => by
    obtain ⟨e, c⟩ := rone_mem h
    rw [← e] at c
    exact absurd c (by unfold rcls; simp)
  | d + 1, P, h => by
    rcases RGL_mem_iff.1 h with q | ⟨x, _, q⟩
    · obtain ⟨e, c⟩ := rone_mem q
      rw [← e] at c
      exact absurd c (by unfold rcls; simp)
    · exact RGL_ne q
theorem WAY_congr {n : Nat} {g k : Nat → Nat → Bool} {wt : Int} {B C : Nat → Int} {s left : Nat} (hs : LST s left) (hl : left < 2 ^ n) (e : ∀ t, t < left → B t = C t) (x : Int) : WAY n g k wt B s left x ↔ WAY n g k wt C s left x := by
  have a1 := (xor_lt (bit_SUB hs.1) (pow_pos2 s) hl).1
  have sp : ∀ r, r ∈ RGL n g k 4 [s] → SUB (PM r) left → B (left ^^^ PM r) = C (left ^^^ PM r) := fun r r1 r2 => by
    rcases Nat.eq_zero_or_pos (PM r) with z | z
    · exfalso
      have hne : ¬ r = [] := fun q => by
        rw [q] at r1
        exact RGL_ne r1
      have := PM_pos hne
      omega
    · exact e _ (xor_lt r2 z hl).1
  unfold WAY
  rw [e _ a1]
  constructor
  · rintro (q | ⟨r, r1, r2, r3⟩)
    · exact Or.inl q
    · exact Or.inr ⟨r, r1, r2, by rw [← sp r r1 r2]; exact r3⟩
  · rintro (q | ⟨r, r1, r2, r3⟩)
    · exact Or.inl q
    · exact Or.inr ⟨r, r1, r2, by rw [sp r r1 r2]; exact r3⟩
def WS (n : Nat) (g k : Nat → Nat → Bool) (B : Nat → Int) (u y : Nat) : Prop := SUB y u ∧ B 0 = 0 ∧ ∀ left, SUB left u → left ≤ y → D16 (B left) (popn 12 left) ∧ ∀ s, LST s left → IMX (B left) (WAY n g k 16 B s left)
theorem LST_no0 {s : Nat} (h : LST s 0) : False := by
  have := h.1
  rw [Nat.zero_testBit] at this
  cases this
theorem WS_0 {n : Nat} {g k : Nat → Nat → Bool} {B : Nat → Int} {u : Nat} (h : B 0 = 0) : WS n g k B u 0 := by
  refine ⟨fun i q => ?_, h, fun left hl h0 => ?_⟩
  · rw [Nat.zero_testBit] at q; cases q
  · have e : left = 0 := by omega
    rw [e, h]
    refine ⟨?_, fun s hs => (LST_no0 hs).elim⟩
    have : popn 12 0 = 0 := by decide
    rw [this]
    exact D16_0
theorem WS_s {n : Nat} {g k : Nat → Nat → Bool} {B : Nat → Int} {u y nx : Nat} {r : Int} (h : WS n g k B u y) (hu : u < 2 ^ n) (h1 : SUB nx u) (h2 : y < nx) (h3 : ∀ t, SUB t u → t < nx → t ≤ y) (hr : ∀ s, LST s nx → IMX r (WAY n g k 16 B s nx) ∧ D16 r (popn 12 nx)) : WS n g k (rup B nx r) u nx := by
  obtain ⟨w1, w2, w3⟩ := h
  have nl := SUB_le h1
  refine ⟨h1, by rw [rup_ne (by omega)]; exact w2, fun left hl hle => ?_⟩
  have ll := SUB_le hl
  by_cases c : left = nx
  · obtain ⟨s0, _, hs0⟩ := LST_ex (n := n) (left := nx) (by omega) (by omega)
    rw [c, rup_at]
    refine ⟨(hr s0 hs0).2, fun s hs => ?_⟩
    have m := (hr s hs).1
    have wc := fun x => WAY_congr (g := g) (k := k) (wt := 16) (B := rup B nx r) (C := B) hs (show nx < 2 ^ n by omega) (fun t ht => rup_ne (by omega)) x
    exact ⟨(wc _).2 m.1, fun x hx => m.2 x ((wc x).1 hx)⟩
  · have q := w3 left hl (h3 left hl (by omega))
    rw [rup_ne c]
    refine ⟨q.1, fun s hs => ?_⟩
    have m := q.2 s hs
    have wc := fun x => WAY_congr (g := g) (k := k) (wt := 16) (B := rup B nx r) (C := B) hs (show left < 2 ^ n by omega) (fun t ht => rup_ne (by omega)) x
    exact ⟨(wc _).2 m.1, fun x hx => m.2 x ((wc x).1 hx)⟩
theorem WS_end {n : Nat} {g k : Nat → Nat → Bool} {B : Nat → Int} {u y : Nat} (h : WS n g k B u y) (e : y = u) : ISB n g k 16 u B := ⟨h.2.1, fun left s hl _ hs => (h.2.2 left hl (by rw [e]; exact SUB_le hl)).2 s hs⟩
theorem WS_WHY {a b : Nat → Nat → Int} {n : Nat} {g k : Nat → Nat → Bool} {u y nx : Nat} (h : WS n g k (a 95) u y) (hm : MKA a b (RUA n g k n)) (hk : ∀ i, k i i = true) (h12 : n ≤ 12) (hu : u < 2 ^ n) (h1 : SUB nx u) (h2 : y < nx) (h3 : ∀ t, SUB t u → t < nx → t ≤ y) : WHY a b n g k u nx := ⟨hm, hk, h12, hu, h1, by omega, fun left hl hlt => (h.2.2 left hl (h3 left hl hlt)).1⟩
theorem MKA_cr {a b a1 b1 : Nat → Nat → Int} {L : List (List Nat)} (h : MKA a b L) (e8 : a1 90 8 = a 90 8) (e94 : ∀ j, b1 94 j = b 94 j) : MKA a1 b1 L := by
  have m : ∀ s, MK b1 s ↔ MK b s := fun s => by unfold MK; rw [e94]
  exact ⟨fun s hs => (m s).trans (h.1 s hs), fun j => by rw [e8]; exact h.2 j⟩
