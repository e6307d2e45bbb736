theorem find_congr {p q : List Nat → Bool} : ∀ {l : List (List Nat)}, (∀ r, r ∈ l → p r = q r) → l.find? p = l.find? q
  | [], _ => rfl
  | x :: l, h => by
    rw [List.find?_cons, List.find?_cons, h x List.mem_cons_self, find_congr (fun r hr => h r (List.mem_cons_of_mem _ hr))]
theorem find_none {p : List Nat → Bool} {l : List (List Nat)} (h : ∀ r, r ∈ l → False) : l.find? p = none := by
  cases l with
  | nil => rfl
  | cons x l => exact absurd (h x List.mem_cons_self) id
theorem xor_and {a b u : Nat} (h : SUB a u) : (b ^^^ a) &&& u = (b &&& u) ^^^ a := by
  refine Nat.eq_of_testBit_eq (fun i => ?_)
  rw [Nat.testBit_and, xor_bit, xor_bit, Nat.testBit_and]
  cases c : a.testBit i
  · cases b.testBit i <;> cases u.testBit i <;> rfl
  · rw [h i c]
    cases b.testBit i <;> rfl
theorem xor_and0 {a b u : Nat} (h : ∀ i, a.testBit i = true → u.testBit i = false) : (b ^^^ a) &&& u = b &&& u := by
  refine Nat.eq_of_testBit_eq (fun i => ?_)
  rw [Nat.testBit_and, xor_bit, Nat.testBit_and]
  cases c : a.testBit i
  · cases b.testBit i <;> cases u.testBit i <;> rfl
  · rw [h i c]
    cases b.testBit i <;> rfl
theorem and_SUB (a u : Nat) : SUB (a &&& u) u ∧ SUB (a &&& u) a := ⟨fun i q => by
  rw [Nat.testBit_and, Bool.and_eq_true] at q
  exact q.2, fun i q => by
  rw [Nat.testBit_and, Bool.and_eq_true] at q
  exact q.1⟩
theorem SUB_both {a b u : Nat} (h : SUB a u) : SUB a b ↔ SUB a (b &&& u) := ⟨fun q i c => by
  rw [Nat.testBit_and, q i c, h i c]; rfl, fun q => SUB_tr q (and_SUB b u).2⟩
/-- rings are of useful seats alone -/
def USE (n : Nat) (g k : Nat → Nat → Bool) (u : Nat) : Prop := ∀ s, s < n → ∀ r, r ∈ RGL n g k 4 [s] → SUB (PM r) u
theorem ring_head {n : Nat} {g k : Nat → Nat → Bool} (hk : ∀ i, k i i = true) {s : Nat} (hs : s < n) {r : List Nat} (h : r ∈ RGL n g k 4 [s]) : s ∈ r := (RGL_mem hk (VP_one hs) h).2.1 s (List.mem_singleton.2 rfl)
theorem B_use {n : Nat} {g k : Nat → Nat → Bool} {u w : Nat} {B : Nat → Int} {wt : Int} (hk : ∀ i, k i i = true) (h : ISB n g k wt w B) (hu : USE n g k u) : ∀ left, SUB left w → left < 2 ^ n → B left = B (left &&& u) := by
  intro left
  induction left using Nat.strongRecOn with
  | _ left ih =>
    intro hw hl
    by_cases c : left = 0
    · rw [c, Nat.zero_and]
    · obtain ⟨s, s1, s2⟩ := LST_ex hl (by omega)
      have m1 := h.2 left s hw hl s2
      have b2 := bit_SUB s2.1
      have x2 := xor_lt b2 (pow_pos2 s) hl
      by_cases d : u.testBit s = true
      · have l2 : LST s (left &&& u) := ⟨by rw [Nat.testBit_and, s2.1, d]; rfl, fun i hi => by rw [Nat.testBit_and, s2.2 i hi]; rfl⟩
        have hl2 : left &&& u < 2 ^ n := Nat.lt_of_le_of_lt Nat.and_le_left hl
        have m2 := h.2 (left &&& u) s (SUB_tr (and_SUB left u).2 hw) hl2 l2
        have bu : SUB (2 ^ s) u := bit_SUB d
        refine IMX_one m1 ⟨?_, fun x hx => ?_⟩
        · rcases m2.1 with q | ⟨r, r1, r2, r3⟩
          · left
            rw [q, ih _ x2.1 (SUB_tr (xor_SUB b2) hw) x2.2, xor_and bu]
          · right
            have ru := hu s s1 r r1
            have rl := (SUB_both ru).2 r2
            have xr := xor_lt rl (PM_pos (RGL_mem hk (VP_one s1) r1).1.1) hl
            exact ⟨r, r1, rl, by rw [r3, ih _ xr.1 (SUB_tr (xor_SUB rl) hw) xr.2, xor_and ru]⟩
        · rcases hx with q | ⟨r, r1, r2, r3⟩
          · rw [q, ih _ x2.1 (SUB_tr (xor_SUB b2) hw) x2.2, xor_and bu]
            exact m2.2 _ (Or.inl rfl)
          · have ru := hu s s1 r r1
            have xr := xor_lt r2 (PM_pos (RGL_mem hk (VP_one s1) r1).1.1) hl
            rw [r3, ih _ xr.1 (SUB_tr (xor_SUB r2) hw) xr.2, xor_and ru]
            exact m2.2 _ (Or.inr ⟨r, r1, (SUB_both ru).1 r2, rfl⟩)
      · rw [Bool.not_eq_true] at d
        rcases m1.1 with q | ⟨r, r1, r2, r3⟩
        · rw [q, ih _ x2.1 (SUB_tr (xor_SUB b2) hw) x2.2, xor_and0 (fun i e => by
            rw [Nat.testBit_two_pow, decide_eq_true_eq] at e
            rw [← e]; exact d)]
        · have := hu s s1 r r1 s ((PM_bit r s).2 (ring_head hk s1 r1))
          rw [d] at this
          exact absurd this (by decide)
theorem full_SUB {left n : Nat} (h : left < 2 ^ n) : SUB left (2 ^ n - 1) := fun i q => by
  rw [Nat.testBit_two_pow_sub_one, decide_eq_true_eq]
  rcases Nat.lt_or_ge i n with c | c
  · exact c
  · have : left.testBit i = false := Nat.testBit_lt_two_pow (Nat.lt_of_lt_of_le h (Nat.pow_le_pow_right (by decide) c))
    rw [this] at q
    exact absurd q (by decide)
theorem okr_eq {n : Nat} {g k : Nat → Nat → Bool} {u : Nat} {B C : Nat → Int} (hk : ∀ i, k i i = true) (hn : n ≤ 12) (h : ISB n g k 64 (2 ^ n - 1) B) (h2 : ISB n g k 16 u C) (hu : USE n g k u) (hun : u < 2 ^ n) {s left : Nat} (hs : s < n) (hl : left < 2 ^ n) {r : List Nat} (hr : r ∈ RGL n g k 4 [s]) : okr 64 B left r = okr 16 C (left &&& u) r := by
  have ru := hu s hs r hr
  obtain ⟨v1, v2, v3, v4, v5⟩ := RGL_mem hk (VP_one hs) hr
  have l5 : r.length ≤ 5 := v4
  unfold okr
  by_cases c : SUB (PM r) left
  · have c2 := (SUB_both ru).1 c
    rw [decide_eq_true (SUB_and.1 c), decide_eq_true (SUB_and.1 c2)]
    have xr := xor_lt c (PM_pos v1.1) hl
    have hl2 : left &&& u < 2 ^ n := Nat.lt_of_le_of_lt Nat.and_le_left hl
    have xr2 := xor_lt c2 (PM_pos v1.1) hl2
    have e1 := B_use hk h hu left (full_SUB hl) hl
    have e2 := B_use hk h hu (left ^^^ PM r) (full_SUB xr.2) xr.2
    rw [xor_and ru] at e2
    have f1 := scale_eq hk hn (full_SUB hun) h h2 (left &&& u) (and_SUB left u).1 hl2
    have f2 := scale_eq hk hn (full_SUB hun) h h2 ((left &&& u) ^^^ PM r) (SUB_tr (xor_SUB c2) (and_SUB left u).1) xr2.2
    have dv := ISB_DVL hk hn h
    have d1 := dv (left &&& u) (full_SUB hl2) hl2
    have d2 := dv ((left &&& u) ^^^ PM r) (full_SUB xr2.2) xr2.2
    have p := popn_less c2 n
    rw [popn_PM v1.2.2.1 v1.2.1] at p
    have pl := popn_le (left &&& u) n
    have rg := DVL_ring d2 v3 l5
    rw [e1, e2, f1, f2, ← rg.2 (by omega)]
    have inj := (phi_le rg.1 d1 (by omega) (by omega)).2
    by_cases z : 64 * (r.length : Int) - 1 + B ((left &&& u) ^^^ PM r) = B (left &&& u)
    · rw [decide_eq_true z, decide_eq_true (inj.1 z)]
    · rw [decide_eq_false z, decide_eq_false (fun q => z (inj.2 q))]
  · rw [decide_eq_false (fun q => c (SUB_and.2 q)), decide_eq_false (fun q => c ((SUB_both ru).2 (SUB_and.2 q)))]
    rfl
/-- the rings found are the same on both scales -/
theorem CFN_eq {n : Nat} {g k : Nat → Nat → Bool} {u : Nat} {B C : Nat → Int} (hk : ∀ i, k i i = true) (hn : n ≤ 12) (h : ISB n g k 64 (2 ^ n - 1) B) (h2 : ISB n g k 16 u C) (hu : USE n g k u) (hun : u < 2 ^ n) : ∀ j left, j ≤ n → left < 2 ^ n → CFN n g k 64 B j left = CFN n g k 16 C j (left &&& u)
  | 0, left, _, _ => rfl
  | j + 1, left, hj, hl => by
    have hs : n - (j + 1) < n := by omega
    have ih := fun l q => CFN_eq hk hn h h2 hu hun j l (by omega) q
    have ba : (left &&& u).testBit (n - (j + 1)) = (left.testBit (n - (j + 1)) && u.testBit (n - (j + 1))) := Nat.testBit_and _ _ _
    unfold CFN
    by_cases c : left.testBit (n - (j + 1)) = true
    · rw [if_pos c]
      have b2 := bit_SUB c
      have x2 := xor_lt b2 (pow_pos2 _) hl
      by_cases d : u.testBit (n - (j + 1)) = true
      · rw [c, d] at ba
        rw [if_pos (show (left &&& u).testBit (n - (j + 1)) = true from ba), find_congr (fun r hr => okr_eq hk hn h h2 hu hun hs hl hr)]
        cases e : (RGL n g k 4 [n - (j + 1)]).find? (okr 16 C (left &&& u)) with
        | none =>
          show CFN n g k 64 B j (left ^^^ 2 ^ (n - (j + 1))) = CFN n g k 16 C j ((left &&& u) ^^^ 2 ^ (n - (j + 1)))
          rw [ih _ x2.2, xor_and (bit_SUB d)]
        | some r =>
          have mr := List.mem_of_find?_eq_some e
          have okk := List.find?_some e
          unfold okr at okk
          rw [Bool.and_eq_true, decide_eq_true_eq] at okk
          have rl := (SUB_both (hu _ hs r mr)).2 (SUB_and.2 okk.1)
          have xr := xor_lt rl (PM_pos (RGL_mem hk (VP_one hs) mr).1.1) hl
          show r :: CFN n g k 64 B j (left ^^^ PM r) = r :: CFN n g k 16 C j ((left &&& u) ^^^ PM r)
          rw [ih _ xr.2, xor_and (hu _ hs r mr)]
      · rw [Bool.not_eq_true] at d
        rw [c, d, Bool.and_false] at ba
        rw [ba, if_neg Bool.false_ne_true, find_none (fun r hr => by
          have := hu _ hs r hr _ ((PM_bit r _).2 (ring_head hk hs hr))
          rw [d] at this
          exact absurd this (by decide))]
        show CFN n g k 64 B j (left ^^^ 2 ^ (n - (j + 1))) = _
        rw [ih _ x2.2, xor_and0 (fun i e => by
          rw [Nat.testBit_two_pow, decide_eq_true_eq] at e
          rw [← e]; exact d)]
    · rw [Bool.not_eq_true] at c
      rw [c, Bool.false_and] at ba
      rw [c, ba, if_neg Bool.false_ne_true, if_neg Bool.false_ne_true]
      exact ih left hl
