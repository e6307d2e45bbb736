/-! stamps: n k of each kind, at most c k, of value v k -/
def SVAL (v : Nat → Int) (n : Nat → Nat) (m : Nat) : Int := SUMN (fun i => (n i : Int) * v i) m
def SCNT (n : Nat → Nat) (m : Nat) : Int := SUMN (fun i => (n i : Int)) m
def WAYS (c : Nat → Nat) (v : Nat → Int) (k : Nat) (s : Int) (n : Nat → Nat) : Prop := (∀ i, i < 8 → n i ≤ c i) ∧ (∀ i, i < k → n i = 0) ∧ SVAL v n 8 = s
theorem SVAL_set {v : Nat → Int} {n : Nat → Nat} {i m x : Nat} (hi : i < m) : SVAL v (nset n i x) m = SVAL v n m - (n i : Int) * v i + (x : Int) * v i := by
  unfold SVAL
  rw [SUMN_take (f := fun j => (nset n i x j : Int) * v j) hi, SUMN_take (f := fun j => (n j : Int) * v j) hi, SUMN_congr (f := fun j => if j = i then 0 else (nset n i x j : Int) * v j) (g := fun j => if j = i then 0 else (n j : Int) * v j) (fun k hk => ?_)]
  · show _ + (nset n i x i : Int) * v i = _
    rw [nset_at]; omega
  · by_cases e : k = i
    · rw [if_pos e, if_pos e]
    · rw [if_neg e, if_neg e, nset_ne e]
theorem SCNT_set {n : Nat → Nat} {i m x : Nat} (hi : i < m) : SCNT (nset n i x) m = SCNT n m - (n i : Int) + (x : Int) := by
  unfold SCNT
  rw [SUMN_take (f := fun j => (nset n i x j : Int)) hi, SUMN_take (f := fun j => (n j : Int)) hi, SUMN_congr (f := fun j => if j = i then 0 else (nset n i x j : Int)) (g := fun j => if j = i then 0 else (n j : Int)) (fun k hk => ?_)]
  · show _ + (nset n i x i : Int) = _
    rw [nset_at]; omega
  · by_cases e : k = i
    · rw [if_pos e, if_pos e]
    · rw [if_neg e, if_neg e, nset_ne e]
theorem SCNT_nn (n : Nat → Nat) : ∀ m, 0 ≤ SCNT n m
  | 0 => Int.le_refl _
  | m + 1 => by
    have := SCNT_nn n m
    show 0 ≤ SCNT n m + (n m : Int)
    omega
def FARV : Int := 1000000
def FEW (c : Nat → Nat) (v : Nat → Int) (k : Nat) (s f : Int) : Prop := (f = FARV ∧ ∀ n, ¬ WAYS c v k s n) ∨ (f < FARV ∧ (∃ n, WAYS c v k s n ∧ f = SCNT n 8) ∧ ∀ n, WAYS c v k s n → f ≤ SCNT n 8)
/-- no kind left -/
theorem FEW_8 (c : Nat → Nat) (v : Nat → Int) (s : Int) : FEW c v 8 s (if s = 0 then 0 else FARV) := by
  have z : ∀ n : Nat → Nat, (∀ i, i < 8 → n i = 0) → SVAL v n 8 = 0 ∧ SCNT n 8 = 0 := fun n h => by
    constructor
    · unfold SVAL
      rw [SUMN_congr (g := fun _ => 0) (fun k hk => by rw [h k hk]; exact Int.zero_mul _)]
      exact SUMN0 8
    · unfold SCNT
      rw [SUMN_congr (g := fun _ => 0) (fun k hk => by rw [h k hk]; rfl)]
      exact SUMN0 8
  by_cases e : s = 0
  · rw [if_pos e]
    right
    refine ⟨by decide, ⟨fun _ => 0, ⟨fun i _ => Nat.zero_le _, fun _ _ => rfl, by rw [(z _ (fun _ _ => rfl)).1, e]⟩, by rw [(z _ (fun _ _ => rfl)).2]⟩, fun n h => by rw [(z n h.2.1).2]; exact Int.le_refl _⟩
  · rw [if_neg e]
    left
    exact ⟨rfl, fun n h => e (by rw [← h.2.2, (z n h.2.1).1])⟩
theorem WAYS_down {c : Nat → Nat} {v : Nat → Int} {k : Nat} {s : Int} {n : Nat → Nat} (hk : k < 8) (h : WAYS c v k s n) : WAYS c v (k + 1) (s - (n k : Int) * v k) (nset n k 0) ∧ SCNT n 8 = (n k : Int) + SCNT (nset n k 0) 8 := by
  refine ⟨⟨fun i hi => ?_, fun i hi => ?_, ?_⟩, ?_⟩
  · by_cases e : i = k
    · rw [e, nset_at]; exact Nat.zero_le _
    · rw [nset_ne e]; exact h.1 i hi
  · by_cases e : i = k
    · rw [e, nset_at]
    · rw [nset_ne e]; exact h.2.1 i (by omega)
  · rw [SVAL_set hk, h.2.2]
    show s - (n k : Int) * v k + ((0 : Nat) : Int) * v k = _
    rw [show ((0 : Nat) : Int) = 0 from rfl, Int.zero_mul]; omega
  · rw [SCNT_set hk]
    omega
theorem WAYS_up {c : Nat → Nat} {v : Nat → Int} {k x : Nat} {s : Int} {n : Nat → Nat} (hk : k < 8) (hx : x ≤ c k) (h : WAYS c v (k + 1) (s - (x : Int) * v k) n) : WAYS c v k s (nset n k x) ∧ SCNT (nset n k x) 8 = (x : Int) + SCNT n 8 := by
  have e0 : n k = 0 := h.2.1 k (Nat.lt_succ_self k)
  refine ⟨⟨fun i hi => ?_, fun i hi => ?_, ?_⟩, ?_⟩
  · by_cases e : i = k
    · rw [e, nset_at]; exact hx
    · rw [nset_ne e]; exact h.1 i hi
  · rw [nset_ne (by omega)]; exact h.2.1 i (by omega)
  · rw [SVAL_set hk, h.2.2, e0]
    show s - (x : Int) * v k - ((0 : Nat) : Int) * v k + _ = _
    rw [show ((0 : Nat) : Int) = 0 from rfl, Int.zero_mul]; omega
  · rw [SCNT_set hk, e0]
    omega
/-- a kind more: the least over how many of it; x told so far are those below j -/
def FEWJ (c : Nat → Nat) (v : Nat → Int) (k j : Nat) (s f : Int) : Prop := (f = FARV ∧ ∀ n, WAYS c v k s n → ¬ n k < j) ∨ (f < FARV ∧ (∃ n, WAYS c v k s n ∧ n k < j ∧ f = SCNT n 8) ∧ ∀ n, WAYS c v k s n → n k < j → f ≤ SCNT n 8)
theorem FEWJ_0 (c : Nat → Nat) (v : Nat → Int) (k : Nat) (s : Int) : FEWJ c v k 0 s FARV := Or.inl ⟨rfl, fun n _ h => absurd h (Nat.not_lt_zero _)⟩
theorem FEWJ_s {c : Nat → Nat} {v : Nat → Int} {k j : Nat} {s f f1 : Int} (hk : k < 8) (hj : j ≤ c k) (h : FEWJ c v k j s f) (h1 : FEW c v (k + 1) (s - (j : Int) * v k) f1) (hsm : f1 < FARV → (j : Int) + f1 < FARV) : FEWJ c v k (j + 1) s (if (j : Int) + f1 < f then (j : Int) + f1 else f) := by
  have dn : ∀ n, WAYS c v k s n → n k = j → f1 ≤ SCNT n 8 - j ∧ ¬ f1 = FARV := fun n hn e => by
    have d := WAYS_down hk hn
    rw [e] at d
    rcases h1 with ⟨a1, a2⟩ | ⟨a1, a2, a3⟩
    · exact absurd d.1 (a2 _)
    · have := a3 _ d.1
      exact ⟨by omega, by omega⟩
  by_cases lt : (j : Int) + f1 < f
  · rw [if_pos lt]
    have fF : f ≤ FARV := by
      rcases h with h | h
      · omega
      · omega
    rcases h1 with ⟨a1, a2⟩ | ⟨a1, ⟨n, n1, n2⟩, a3⟩
    · omega
    · have up := WAYS_up hk hj n1
      refine Or.inr ⟨by omega, ⟨_, up.1, by rw [nset_at]; omega, by omega⟩, fun m hm hl => ?_⟩
      by_cases e : m k = j
      · have := (dn m hm e).1
        omega
      · rcases h with ⟨b1, b2⟩ | ⟨b1, b2, b3⟩
        · exact absurd (by omega) (b2 m hm)
        · have := b3 m hm (by omega)
          omega
  · rw [if_neg lt]
    rcases h with ⟨b1, b2⟩ | ⟨b1, ⟨n, n1, n2, n3⟩, b3⟩
    · refine Or.inl ⟨b1, fun m hm hl => ?_⟩
      by_cases e : m k = j
      · have q := dn m hm e
        rcases h1 with ⟨a1, a2⟩ | ⟨a1, a2, a3⟩
        · exact q.2 a1
        · have := hsm a1
          omega
      · exact b2 m hm (by omega)
    · refine Or.inr ⟨b1, ⟨n, n1, by omega, n3⟩, fun m hm hl => ?_⟩
      by_cases e : m k = j
      · have := (dn m hm e).1
        omega
      · exact b3 m hm (by omega)

/-- how many stamps there can be -/
theorem SCNT_le {c : Nat → Nat} {n : Nat → Nat} (hc : ∀ i, i < 8 → c i ≤ 50) (h : ∀ i, i < 8 → n i ≤ c i) : SCNT n 8 ≤ 400 := by
  have := SUMN_bd2 (f := fun i => (n i : Int)) (l := 0) (u := 50) (n := 8) (fun k hk => by
    have := h k hk
    have := hc k hk
    show 0 ≤ (n k : Int) ∧ (n k : Int) ≤ 50
    omega)
  unfold SCNT
  omega
theorem FEW_bd {c : Nat → Nat} {v : Nat → Int} {k : Nat} {s f : Int} (hc : ∀ i, i < 8 → c i ≤ 50) (h : FEW c v k s f) : f = FARV ∨ (0 ≤ f ∧ f ≤ 400) := by
  rcases h with h | ⟨h1, ⟨n, n1, n2⟩, h3⟩
  · exact Or.inl h.1
  · right
    have a := SCNT_le hc n1.1
    have b := SCNT_nn n 8
    omega
theorem FEW_of {c : Nat → Nat} {v : Nat → Int} {k j : Nat} {s f : Int} (h : FEWJ c v k j s f) (hj : ∀ n, WAYS c v k s n → n k < j) : FEW c v k s f := by
  rcases h with ⟨a1, a2⟩ | ⟨a1, ⟨n, n1, n2, n3⟩, a3⟩
  · exact Or.inl ⟨a1, fun n hn => a2 n hn (hj n hn)⟩
  · exact Or.inr ⟨a1, ⟨n, n1, n3⟩, fun n hn => a3 n hn (hj n hn)⟩
theorem FEW_one {c : Nat → Nat} {v : Nat → Int} {k : Nat} {s f f2 : Int} (h : FEW c v k s f) (h2 : FEW c v k s f2) : f = f2 := by
  rcases h with ⟨a1, a2⟩ | ⟨a1, ⟨n, n1, n2⟩, a3⟩ <;> rcases h2 with ⟨b1, b2⟩ | ⟨b1, ⟨m, m1, m2⟩, b3⟩
  · rw [a1, b1]
  · exact absurd m1 (a2 m)
  · exact absurd n1 (b2 n)
  · have x := a3 m m1
    have y := b3 n n1
    omega
/-! the reference takes kind after kind the most that keeps the least -/
def SGR (c : Nat → Nat) (v : Nat → Int) (s f0 : Int) (q : Nat → Nat) (k : Nat) (left f : Int) : Prop :=
  (∀ i, i < k → q i ≤ c i) ∧ left = s - SVAL v q k ∧ FEW c v k left f ∧ f < FARV ∧ SCNT q k + f = f0 ∧
  ∀ n, WAYS c v 0 s n → SCNT n 8 = f0 → (∀ i, i < k → n i = q i) ∨ ∃ j, j < k ∧ (∀ i, i < j → n i = q i) ∧ n j < q j
theorem SGR_0 {c : Nat → Nat} {v : Nat → Int} {s f0 : Int} {q : Nat → Nat} (h : FEW c v 0 s f0) (hf : f0 < FARV) : SGR c v s f0 q 0 s f0 :=
  ⟨fun i hi => absurd hi (Nat.not_lt_zero i), by show s = s - 0; omega, h, hf, by show 0 + f0 = f0; omega, fun n _ _ => Or.inl (fun i hi => absurd hi (Nat.not_lt_zero i))⟩
/-- how many of kind k may go -/
def SMAY (c : Nat → Nat) (v : Nat → Int) (k : Nat) (left f : Int) (x : Nat) : Prop := x ≤ c k ∧ ∃ f1, FEW c v (k + 1) (left - (x : Int) * v k) f1 ∧ (x : Int) + f1 = f
theorem tail_way {c : Nat → Nat} {v : Nat → Int} {k : Nat} {s : Int} {n q : Nat → Nat} (hk : k ≤ 8) (h : WAYS c v 0 s n) (e : ∀ i, i < k → n i = q i) : WAYS c v k (s - SVAL v q k) (fun i => if i < k then 0 else n i) ∧ SCNT n 8 = SCNT q k + SCNT (fun i => if i < k then 0 else n i) 8 := by
  have sp : ∀ (F : Nat → Nat → Int) (m : Nat), (∀ i, F i 0 = 0) → k ≤ m → SUMN (fun i => F i (n i)) m = SUMN (fun i => F i (q i)) k + SUMN (fun i => F i (if i < k then 0 else n i)) m := fun F m F0 => by
    induction m with
    | zero =>
      intro hm
      rw [show k = 0 by omega]; rfl
    | succ m ih =>
      intro hm
      by_cases c1 : k = m + 1
      · rw [← c1, SUMN_congr (f := fun i => F i (n i)) (g := fun i => F i (q i)) (fun i hi => by rw [e i hi]), SUMN_congr (f := fun i => F i (if i < k then 0 else n i)) (g := fun _ => 0) (fun i hi => by rw [if_pos hi]; exact F0 i), SUMN0]
        omega
      · show SUMN (fun i => F i (n i)) m + F m (n m) = _ + (SUMN (fun i => F i (if i < k then 0 else n i)) m + F m (if m < k then 0 else n m))
        rw [ih (by omega), if_neg (by omega)]
        omega
  have s1 := sp (fun i x => (x : Int) * v i) 8 (fun i => Int.zero_mul _) hk
  have s2 := sp (fun i x => (x : Int)) 8 (fun i => rfl) hk
  refine ⟨⟨fun i hi => ?_, fun i hi => if_pos hi, ?_⟩, s2⟩
  · show (if i < k then 0 else n i) ≤ c i
    split
    · exact Nat.zero_le _
    · exact h.1 i hi
  · have h3 := h.2.2
    unfold SVAL at *
    show SUMN (fun i => (((if i < k then 0 else n i : Nat)) : Int) * v i) 8 = _
    omega
theorem SGR_s {c : Nat → Nat} {v : Nat → Int} {s f0 left f : Int} {q : Nat → Nat} {k x : Nat} {f1 : Int} (hk : k < 8) (h : SGR c v s f0 q k left f) (hx : x ≤ c k) (hf : FEW c v (k + 1) (left - (x : Int) * v k) f1) (he : (x : Int) + f1 = f) (hmx : ∀ y, x < y → ¬ SMAY c v k left f y) : SGR c v s f0 (nset q k x) (k + 1) (left - (x : Int) * v k) f1 := by
  obtain ⟨h1, h2, h3, h4, h5, h6⟩ := h
  have cg : ∀ F : Nat → Nat → Int, SUMN (fun i => F i (nset q k x i)) k = SUMN (fun i => F i (q i)) k := fun F => SUMN_congr (fun i hi => by rw [nset_ne (by omega)])
  refine ⟨fun i hi => ?_, ?_, hf, by omega, ?_, fun n hn hc => ?_⟩
  · by_cases e : i = k
    · rw [e, nset_at]; exact hx
    · rw [nset_ne e]; exact h1 i (by omega)
  · have e := cg (fun i y => (y : Int) * v i)
    show _ = s - (SUMN (fun i => (nset q k x i : Int) * v i) k + (nset q k x k : Int) * v k)
    rw [e, nset_at, h2]
    unfold SVAL
    omega
  · have e := cg (fun i y => (y : Int))
    show SUMN (fun i => (nset q k x i : Int)) k + (nset q k x k : Int) + f1 = f0
    rw [e, nset_at]
    unfold SCNT at h5
    omega
  · rcases h6 n hn hc with g | ⟨j, j1, j2, j3⟩
    · have t := tail_way (by omega) hn g
      rw [← h2] at t
      have d := WAYS_down hk t.1
      have nk : (if k < k then 0 else n k) = n k := if_neg (by omega)
      have d1 : WAYS c v (k + 1) (left - (n k : Int) * v k) (nset (fun i => if i < k then 0 else n i) k 0) := by
        have := d.1
        rw [nk] at this
        exact this
      have d2 : SCNT (fun i => if i < k then 0 else n i) 8 = (n k : Int) + SCNT (nset (fun i => if i < k then 0 else n i) k 0) 8 := by
        have := d.2
        rw [nk] at this
        exact this
      have cand : SMAY c v k left f (n k) := by
        refine ⟨hn.1 k hk, SCNT (nset (fun i => if i < k then 0 else n i) k 0) 8, Or.inr ⟨by omega, ⟨_, d1, rfl⟩, fun m hm => ?_⟩, by omega⟩
        have up := WAYS_up hk (hn.1 k hk) hm
        rcases h3 with ⟨a1, _⟩ | ⟨_, _, a3⟩
        · omega
        · have := a3 _ up.1
          omega
      by_cases e : n k = x
      · left
        intro i hi
        by_cases ei : i = k
        · rw [ei, nset_at]; exact e
        · rw [nset_ne ei]; exact g i (by omega)
      · right
        refine ⟨k, Nat.lt_succ_self k, fun i hi => by rw [g i hi, nset_ne (by omega)], ?_⟩
        rw [nset_at]
        rcases Nat.lt_or_ge x (n k) with z | z
        · exact absurd cand (hmx _ z)
        · omega
    · right
      exact ⟨j, by omega, fun i hi => by rw [j2 i hi, nset_ne (by omega)], by rw [nset_ne (by omega)]; exact j3⟩
/-- if none of a kind may go but more than none, none may -/
theorem SMAY_0 {c : Nat → Nat} {v : Nat → Int} {k : Nat} {left f : Int} (hk : k < 8) (h : FEW c v k left f) (hf : f < FARV) (hn : ∀ y, 0 < y → ¬ SMAY c v k left f y) : SMAY c v k left f 0 := by
  rcases h with ⟨a1, _⟩ | ⟨_, ⟨n, n1, n2⟩, a3⟩
  · omega
  · have d := WAYS_down hk n1
    have cand : SMAY c v k left f (n k) := by
      refine ⟨n1.1 k hk, SCNT (nset n k 0) 8, Or.inr ⟨by omega, ⟨_, d.1, rfl⟩, fun m hm => ?_⟩, by omega⟩
      have up := WAYS_up hk (n1.1 k hk) hm
      have := a3 _ up.1
      omega
    by_cases e : n k = 0
    · rw [e] at cand; exact cand
    · exact absurd cand (hn _ (by omega))
/-! the class: one number for a way -/
def SCOD (n : Nat → Nat) : Int := 281474976710656 * SCNT n 8 - ORD 8 n
theorem ORD_bd {n : Nat → Nat} (h : ∀ i, n i ≤ 63) : 0 ≤ ORD 8 n ∧ ORD 8 n < 281474976710656 := by
  have a := ORD_le h (j := 0) (m := 8) (by decide) (by decide)
  have b := ORD_ge (q := n) (j := 0) (m := 8) (by decide)
  have c : SUMN (fun i => (n i : Int) * PW i) (0 + 1) = 0 + (n 0 : Int) * PW 0 := rfl
  have p0 : PW 0 = 4398046511104 := by decide
  have p7 : PW (8 - 1) = 1 := by decide
  have z : SUMN (fun i => (n i : Int) * PW i) 0 = 0 := rfl
  have := h 0
  rw [c, p0, p7] at a
  unfold ORD
  omega
/-- the class's best way is the reference's -/
theorem PAY_eq {c : Nat → Nat} {v : Nat → Int} {s f0 left f : Int} {n q : Nat → Nat} (hc : ∀ i, i < 8 → c i ≤ 50) (hn : WAYS c v 0 s n) (hn63 : ∀ i, n i ≤ 63) (hq63 : ∀ i, q i ≤ 63) (hmin : ∀ m, WAYS c v 0 s m → (∀ i, m i ≤ 63) → SCOD n ≤ SCOD m) (h0 : FEW c v 0 s f0) (hf0 : f0 < FARV) (hg : SGR c v s f0 q 8 left f) : ∀ i, i < 8 → n i = q i := by
  obtain ⟨h1, h2, h3, h4, h5, h6⟩ := hg
  have e8 := FEW_one h3 (FEW_8 c v left)
  have l0 : left = 0 := by
    refine Classical.byContradiction (fun z => ?_)
    rw [if_neg z] at e8
    omega
  rw [if_pos l0] at e8
  have wq : WAYS c v 0 s q := ⟨h1, fun i hi => absurd hi (Nat.not_lt_zero i), by omega⟩
  have m1 := hmin q wq hq63
  have bn := ORD_bd hn63
  have bq := ORD_bd hq63
  have cn : f0 ≤ SCNT n 8 := by
    rcases h0 with ⟨a, _⟩ | ⟨_, _, a⟩
    · omega
    · exact a n hn
  unfold SCOD at m1
  have ec : SCNT n 8 = f0 := by omega
  rcases h6 n hn ec with g | ⟨j, j1, j2, j3⟩
  · exact g
  · exfalso
    have lt := ORD_lt (m := 8) (q := n) (r := q) (by decide) hn63 j1 (fun i hi => (j2 i hi).symm) j3
    omega
