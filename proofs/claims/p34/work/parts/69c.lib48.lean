/-! rings, the class: sets of seats marked in long words -/
def LB (x : Int) (j : Nat) : Bool := (BitVec.ofInt 64 x).getLsbD j
theorem LB_get {x : Int} {j : Nat} (hj : j < 64) : jxandl (jxshrl x (j : Int)) 1 = if LB x j = true then 1 else 0 := by
  have e1 : jxshrl x (j : Int) = ((BitVec.ofInt 64 x).sshiftRight j).toInt := by
    show ((BitVec.ofInt 64 x).sshiftRight' (((Int32.ofInt (j : Int)).toInt64 &&& 63).toBitVec.smod 64)).toInt = _
    rw [BitVec.sshiftRight_eq', shlq hj]
  have e2 : ∀ B : BitVec 64, jxandl B.toInt 1 = (B &&& 1#64).toInt := fun B => by
    show (BitVec.ofInt 64 B.toInt &&& BitVec.ofInt 64 1).toInt = _
    rw [BitVec.ofInt_toInt]
    rfl
  have e3 : (BitVec.ofInt 64 x).sshiftRight j &&& 1#64 = if LB x j = true then 1#64 else 0#64 := by
    refine BitVec.eq_of_getLsbD_eq (fun i hi => ?_)
    rw [BitVec.getLsbD_and, BitVec.getLsbD_sshiftRight, BitVec.getLsbD_one]
    by_cases c : i = 0
    · subst c
      unfold LB
      cases q : (BitVec.ofInt 64 x).getLsbD j <;> simp [q, hj]
    · have z : decide (i = 0) = false := decide_eq_false c
      cases q : LB x j <;> simp [c]
  rw [e1, e2, e3]
  cases q : LB x j <;> rfl
theorem LB_or {x y : Int} {j : Nat} : LB (jxorl x y) j = (LB x j || LB y j) := by
  unfold LB
  have e : BitVec.ofInt 64 (jxorl x y) = BitVec.ofInt 64 x ||| BitVec.ofInt 64 y := by
    show BitVec.ofInt 64 (BitVec.ofInt 64 x ||| BitVec.ofInt 64 y).toInt = _
    rw [BitVec.ofInt_toInt]
  rw [e, BitVec.getLsbD_or]
theorem LB_one {k j : Nat} (hk : k < 64) (hj : j < 64) : LB (jxshll 1 (k : Int)) j = decide (j = k) := by
  unfold LB
  have e : BitVec.ofInt 64 (jxshll 1 (k : Int)) = 1#64 <<< k := by
    show BitVec.ofInt 64 ((BitVec.ofInt 64 1) <<< (((Int32.ofInt (k : Int)).toInt64 &&& 63).toBitVec.smod 64)).toInt = _
    rw [BitVec.ofInt_toInt, BitVec.shiftLeft_eq', shlq hk]
    rfl
  rw [e, BitVec.getLsbD_shiftLeft, BitVec.getLsbD_one]
  by_cases c : j = k
  · subst c; simp [hj]
  · by_cases d : j < k
    · simp [c, d]
    · have : ¬ j - k = 0 := by omega
      simp [c, this]
theorem LB_0 (j : Nat) : LB 0 j = false := by
  unfold LB
  show (0#64).getLsbD j = false
  exact BitVec.getLsbD_zero
/-- a set is marked -/
def MK (b : Nat → Nat → Int) (s : Nat) : Prop := LB (b 94 (s / 64)) (s % 64) = true
theorem wordOf_at {a b : Nat → Nat → Int} {x : Int} (h0 : 0 ≤ x) (h1 : x ≤ 4095) : f_X5_wordOf a b x = ((x.toNat / 64 : Nat) : Int) ∧ jxw (Int.tmod x 64) = ((x.toNat % 64 : Nat) : Int) := by
  have e : jxand x 4095 = x := by
    have q := jxand_nat x.toNat 4095 (by omega) (by decide)
    rw [Int.toNat_of_nonneg h0, show ((4095 : Nat) : Int) = 4095 from rfl, show (4095 : Nat) = 2 ^ 12 - 1 from rfl, Nat.and_two_pow_sub_one_eq_mod, Nat.mod_eq_of_lt (by omega)] at q
    rw [q]; omega
  unfold f_X5_wordOf
  rw [e]
  constructor
  · have t : Int.tdiv x 64 = x / 64 := Int.tdiv_eq_ediv_of_nonneg h0
    rw [t, jxw_id (by omega) (by omega)]
    omega
  · have t : Int.tmod x 64 = x % 64 := Int.tmod_eq_emod_of_nonneg h0
    rw [t, jxw_id (by omega) (by omega)]
    omega
theorem isRing_at {a b : Nat → Nat → Int} {x : Int} (h0 : 0 ≤ x) (h1 : x ≤ 4095) : (f_X5_isRingSet a b x = 1 ↔ MK b x.toNat) ∧ (f_X5_isRingSet a b x = 0 ∨ f_X5_isRingSet a b x = 1) := by
  obtain ⟨w1, w2⟩ := wordOf_at (a := a) (b := b) h0 h1
  unfold f_X5_isRingSet f_X5_isRingSet_at21 f_X5_isRingSet_at25 jxlcmp
  rw [w1, w2, Int.toNat_natCast, LB_get (Nat.mod_lt _ (by decide))]
  unfold MK
  cases q : LB (b 94 (x.toNat / 64)) (x.toNat % 64)
  · exact ⟨⟨fun h => absurd h (by decide), fun h => absurd h (by decide)⟩, Or.inl (by decide)⟩
  · exact ⟨⟨fun _ => rfl, fun _ => by decide⟩, Or.inr (by decide)⟩
/-- a set gets its mark -/
theorem MK_put {a b : Nat → Nat → Int} {x : Int} (h0 : 0 ≤ x) (h1 : x ≤ 4095) (s : Nat) : MK (jxu b 94 ((f_X5_wordOf a b x).toNat) (jxorl (b 94 ((f_X5_wordOf a b x).toNat)) (jxshll 1 (jxw (Int.tmod x 64))))) s ↔ (MK b s ∨ s = x.toNat) := by
  obtain ⟨w1, w2⟩ := wordOf_at (a := a) (b := b) h0 h1
  rw [w1, w2, Int.toNat_natCast]
  unfold MK
  by_cases c : s / 64 = x.toNat / 64
  · rw [c, jxu_at, LB_or, LB_one (Nat.mod_lt _ (by decide)) (Nat.mod_lt _ (by decide)), Bool.or_eq_true, decide_eq_true_eq]
    constructor
    · rintro (q | q)
      · exact Or.inl q
      · exact Or.inr (by omega)
    · rintro (q | q)
      · exact Or.inl q
      · exact Or.inr (by rw [q])
  · rw [jxu_nj c]
    exact ⟨fun q => Or.inl q, fun q => q.elim id (fun z => absurd (by rw [z]) c)⟩
/-! the graph of the seats, as the rows hold it -/
def GRF (a : Nat → Nat → Int) (n : Nat) (g k : Nat → Nat → Bool) : Prop := a 90 3 = (n : Int) ∧ n ≤ 12 ∧ (∀ i, k i i = true) ∧ (∀ i, i < n → 0 ≤ a 92 i ∧ a 92 i ≤ 4095 ∧ 0 ≤ a 93 i ∧ a 93 i ≤ 4095) ∧ ∀ i j, i < n → j < n → g i j = (a 92 i).toNat.testBit j ∧ k i j = (a 93 i).toNat.testBit j
theorem GRF_fr {a a1 : Nat → Nat → Int} {n : Nat} {g k : Nat → Nat → Bool} (h : GRF a n g k) (e3 : a1 90 3 = a 90 3) (e92 : ∀ j, a1 92 j = a 92 j) (e93 : ∀ j, a1 93 j = a 93 j) : GRF a1 n g k := by
  obtain ⟨h1, h2, h3, h4, h5⟩ := h
  exact ⟨e3.trans h1, h2, h3, fun i hi => by rw [e92, e93]; exact h4 i hi, fun i j hi hj => by rw [e92, e93]; exact h5 i j hi hj⟩
theorem bit_at {x : Int} {j : Nat} (h0 : 0 ≤ x) (h1 : x < 2147483648) (hj : j < 32) : jxand (jxshr x (j : Int)) 1 = if x.toNat.testBit j then 1 else 0 := by
  have q := jxbit_nat x.toNat j (by omega) hj
  rw [Int.toNat_of_nonneg h0] at q
  exact q
theorem MF_at {a b : Nat → Nat → Int} {n : Nat} {g k : Nat → Nat → Bool} (h : GRF a n g k) {x y : Int} (x0 : 0 ≤ x) (x1 : x < n) (y0 : 0 ≤ y) (y1 : y < n) : f_X5_mayFollow a b x y = if g x.toNat y.toNat = true then 1 else 0 := by
  obtain ⟨h1, h2, h3, h4, h5⟩ := h
  have r := h4 x.toNat (by omega)
  have e := bit_at (j := y.toNat) r.1 (by omega) (by omega)
  rw [Int.toNat_of_nonneg y0] at e
  unfold f_X5_mayFollow
  rw [e, (h5 x.toNat y.toNat (by omega) (by omega)).1]
  cases q : (a 92 x.toNat).toNat.testBit y.toNat
  · rfl
  · rfl
/-- a path: from first to last, its set, those that can't be with it, its length -/
def MPR (n : Nat) (k : Nat → Nat → Bool) (P : List Nat) (x1 x2 x3 x4 x5 : Int) : Prop := VP n k P ∧ (P.length : Int) = x5 ∧ ((P.headD 0 : Nat) : Int) = x1 ∧ ((P.getLastD 0 : Nat) : Int) = x2 ∧ x3 = ((PM P : Nat) : Int) ∧ (0 ≤ x4 ∧ x4 ≤ 4095) ∧ ∀ j, j < n → x4.toNat.testBit j = P.any (fun p => k p j)
theorem PM_lt {n : Nat} {P : List Nat} (h : ∀ x, x ∈ P → x < n) : PM P < 2 ^ n := by
  refine Nat.lt_of_le_of_lt (SUB_le (a := PM P) (b := 2 ^ n - 1) (fun i q => ?_)) (by have := pow_pos2 n; omega)
  rw [PM_bit] at q
  rw [Nat.testBit_two_pow_sub_one]
  exact decide_eq_true (h i q)
theorem two12 {n : Nat} (h : n ≤ 12) : 2 ^ n ≤ 4096 := Nat.pow_le_pow_right (n := 2) (by decide) h
theorem MPR_one {a : Nat → Nat → Int} {n : Nat} {g k : Nat → Nat → Bool} (h : GRF a n g k) {x : Int} (x0 : 0 ≤ x) (x1 : x < n) : MPR n k [x.toNat] x x (jxshl 1 x) (a 93 x.toNat) 1 := by
  obtain ⟨h1, h2, h3, h4, h5⟩ := h
  have r := h4 x.toNat (by omega)
  refine ⟨VP_one (by omega), rfl, by show ((x.toNat : Nat) : Int) = x; omega, by show ((x.toNat : Nat) : Int) = x; omega, ?_, ⟨r.2.2.1, r.2.2.2⟩, fun j hj => ?_⟩
  · have e := jxshl1_n x.toNat (by omega)
    rw [Int.toNat_of_nonneg x0] at e
    rw [e]
    show _ = ((2 ^ x.toNat ||| 0 : Nat) : Int)
    rw [Nat.or_zero]
  · rw [← (h5 x.toNat j (by omega) hj).2]
    show _ = ([x.toNat].any (fun p => k p j))
    simp
theorem MPR_app {a : Nat → Nat → Int} {n : Nat} {g k : Nat → Nat → Bool} (h : GRF a n g k) {P : List Nat} {x1 x2 x3 x4 x5 y : Int} (m : MPR n k P x1 x2 x3 x4 x5) (y0 : 0 ≤ y) (e : rext n g k P y.toNat = true) : MPR n k (P ++ [y.toNat]) x1 y (jxor x3 (jxshl 1 y)) (jxor x4 (a 93 y.toNat)) (x5 + 1) := by
  obtain ⟨m1, m2, m3, m4, m5, m6, m7⟩ := m
  have hG := h
  obtain ⟨h1, h2, h3, h4, h5⟩ := h
  obtain ⟨e1, e2, e3, e4⟩ := rext_iff.1 e
  have t12 := two12 h2
  have pl := PM_lt m1.2.1
  have r := h4 y.toNat e2
  have s1 := jxshl1_n y.toNat (by omega)
  rw [Int.toNat_of_nonneg y0] at s1
  have p2 : 2 ^ y.toNat ≤ 2048 := Nat.pow_le_pow_right (n := 2) (by decide) (show y.toNat ≤ 11 by omega)
  refine ⟨VP_app h3 m1 e, by rw [List.length_append]; show ((P.length + 1 : Nat) : Int) = _; omega, by rw [headD_app m1.1]; exact m3, by rw [lastD_app]; omega, ?_, ?_, fun j hj => ?_⟩
  · rw [s1, m5, jxor_nat _ _ (by omega) (by omega), PM_app]
  · have q := jxor_nat x4.toNat (a 93 y.toNat).toNat (by omega) (by omega)
    rw [Int.toNat_of_nonneg m6.1, Int.toNat_of_nonneg r.2.2.1] at q
    rw [q]
    have l : x4.toNat ||| (a 93 y.toNat).toNat < 2 ^ 12 := Nat.or_lt_two_pow (by omega) (by omega)
    omega
  · have q := jxor_nat x4.toNat (a 93 y.toNat).toNat (by omega) (by omega)
    rw [Int.toNat_of_nonneg m6.1, Int.toNat_of_nonneg r.2.2.1] at q
    rw [q, Int.toNat_natCast, Nat.testBit_or, m7 j hj, ← (h5 y.toNat j e2 hj).2, List.any_append]
    simp
theorem lastD_mem {l : List Nat} (h : ¬ l = []) : l.getLastD 0 ∈ l := by
  have e : l.getLastD 0 = l.getLast h := by
    cases l with
    | nil => exact absurd rfl h
    | cons x r => rfl
  rw [e]
  exact List.getLast_mem h
/-- what may come behind a path, in the class's words -/
theorem rext_at {a b : Nat → Nat → Int} {n : Nat} {g k : Nat → Nat → Bool} (h : GRF a n g k) {P : List Nat} {x1 x2 x3 x4 x5 y : Int} (m : MPR n k P x1 x2 x3 x4 x5) (y1 : x1 < y) (y2 : y < n) : rext n g k P y.toNat = true ↔ (¬ f_X5_mayFollow a b x2 y = 0 ∧ jxand (jxshr x4 y) 1 = 0) := by
  obtain ⟨m1, m2, m3, m4, m5, m6, m7⟩ := m
  have l : P.getLastD 0 < n := by
    have this : P.getLastD 0 ∈ P := lastD_mem m1.1
    exact m1.2.1 _ this
  have h12 := h.2.1
  have f := MF_at (b := b) h (x := x2) (y := y) (by omega) (by omega) (by omega) (by omega)
  have bt := bit_at (x := x4) (j := y.toNat) m6.1 (by omega) (by omega)
  rw [show ((y.toNat : Nat) : Int) = y from by omega] at bt
  rw [rext_iff, f, bt, m7 y.toNat (by omega), show x2.toNat = P.getLastD 0 from by omega]
  constructor
  · rintro ⟨q1, q2, q3, q4⟩
    have z : P.any (fun p => k p y.toNat) = false := by
      rw [List.any_eq_false]
      intro p hp
      rw [q4 p hp]; decide
    rw [if_pos q3, z]
    exact ⟨by decide, rfl⟩
  · rintro ⟨q1, q2⟩
    refine ⟨by omega, by omega, ?_, fun p hp => ?_⟩
    · by_cases c : g (P.getLastD 0) y.toNat = true
      · exact c
      · rw [if_neg c] at q1; exact absurd rfl q1
    · by_cases c : P.any (fun p => k p y.toNat) = true
      · rw [if_pos c] at q2; exact absurd q2 (by decide)
      · rw [Bool.not_eq_true, List.any_eq_false] at c
        have := c p hp
        simpa using this
/-- the rings that go on from a path by seats below y -/
def RUP (n : Nat) (g k : Nat → Nat → Bool) (P : List Nat) (F : List Nat → List (List Nat)) : Nat → List (List Nat)
  | 0 => []
  | y + 1 => RUP n g k P F y ++ (if rext n g k P y = true then F (P ++ [y]) else [])
theorem RUP_mem {n : Nat} {g k : Nat → Nat → Bool} {P : List Nat} {F : List Nat → List (List Nat)} {r : List Nat} : ∀ {y : Nat}, r ∈ RUP n g k P F y ↔ ∃ x, x < y ∧ rext n g k P x = true ∧ r ∈ F (P ++ [x])
  | 0 => ⟨fun h => absurd h List.not_mem_nil, fun ⟨x, h, _⟩ => absurd h (Nat.not_lt_zero x)⟩
  | y + 1 => by
    show r ∈ RUP n g k P F y ++ (if rext n g k P y = true then F (P ++ [y]) else []) ↔ _
    rw [List.mem_append, RUP_mem]
    constructor
    · rintro (⟨x, q1, q2, q3⟩ | q)
      · exact ⟨x, by omega, q2, q3⟩
      · by_cases c : rext n g k P y = true
        · rw [if_pos c] at q; exact ⟨y, Nat.lt_succ_self y, c, q⟩
        · rw [if_neg c] at q; exact absurd q List.not_mem_nil
    · rintro ⟨x, q1, q2, q3⟩
      by_cases c : x = y
      · rw [c] at q2 q3
        right; rw [if_pos q2]; exact q3
      · exact Or.inl ⟨x, by omega, q2, q3⟩
theorem rfrom_all {n : Nat} {g k : Nat → Nat → Bool} {P : List Nat} {F : List Nat → List (List Nat)} {r : List Nat} : ∀ {j : Nat}, j ≤ n → (r ∈ rfrom n g k P F j ↔ ∃ x, n - j ≤ x ∧ rext n g k P x = true ∧ r ∈ F (P ++ [x]))
  | 0, _ => ⟨fun h => absurd h List.not_mem_nil, fun ⟨x, h, e, _⟩ => by have := (rext_iff.1 e).2.1; omega⟩
  | j + 1, hj => by
    show r ∈ (if rext n g k P (n - (j + 1)) = true then F (P ++ [n - (j + 1)]) else []) ++ rfrom n g k P F j ↔ _
    rw [List.mem_append, rfrom_all (by omega)]
    constructor
    · rintro (q | ⟨x, q1, q2, q3⟩)
      · by_cases c : rext n g k P (n - (j + 1)) = true
        · rw [if_pos c] at q; exact ⟨n - (j + 1), Nat.le_refl _, c, q⟩
        · rw [if_neg c] at q; exact absurd q List.not_mem_nil
      · exact ⟨x, by omega, q2, q3⟩
    · rintro ⟨x, q1, q2, q3⟩
      by_cases c : x = n - (j + 1)
      · left; rw [if_pos (by rw [← c]; exact q2), ← c]; exact q3
      · exact Or.inr ⟨x, by omega, q2, q3⟩
theorem RGL_mem_iff {n : Nat} {g k : Nat → Nat → Bool} {d : Nat} {P r : List Nat} : r ∈ RGL n g k (d + 1) P ↔ (r ∈ rone g P ∨ ∃ x, rext n g k P x = true ∧ r ∈ RGL n g k d (P ++ [x])) := by
  show r ∈ rone g P ++ rfrom n g k P (RGL n g k d) n ↔ _
  rw [List.mem_append, rfrom_all (Nat.le_refl n)]
  constructor
  · rintro (q | ⟨x, _, q2, q3⟩)
    · exact Or.inl q
    · exact Or.inr ⟨x, q2, q3⟩
  · rintro (q | ⟨x, q2, q3⟩)
    · exact Or.inl q
    · exact Or.inr ⟨x, by omega, q2, q3⟩
/-- marks and useful seats: those of a list of rings more -/
def MKR (a0 b0 a b : Nat → Nat → Int) (L : List (List Nat)) : Prop := (∀ s, s < 4096 → (MK b s ↔ (MK b0 s ∨ ∃ r, r ∈ L ∧ PM r = s))) ∧ (∀ j, (a 90 8).toNat.testBit j = true ↔ ((a0 90 8).toNat.testBit j = true ∨ ∃ r, r ∈ L ∧ j ∈ r))
theorem MKR_rf (a b : Nat → Nat → Int) : MKR a b a b [] := ⟨fun s _ => ⟨fun h => Or.inl h, fun h => h.elim id (fun ⟨r, q, _⟩ => absurd q List.not_mem_nil)⟩, fun j => ⟨fun h => Or.inl h, fun h => h.elim id (fun ⟨r, q, _⟩ => absurd q List.not_mem_nil)⟩⟩
theorem MKR_congr {a0 b0 a b : Nat → Nat → Int} {L L2 : List (List Nat)} (h : MKR a0 b0 a b L) (e : ∀ r, r ∈ L ↔ r ∈ L2) : MKR a0 b0 a b L2 := by
  refine ⟨fun s hs => (h.1 s hs).trans ?_, fun j => (h.2 j).trans ?_⟩
  · constructor
    · rintro (q | ⟨r, q1, q2⟩)
      · exact Or.inl q
      · exact Or.inr ⟨r, (e r).1 q1, q2⟩
    · rintro (q | ⟨r, q1, q2⟩)
      · exact Or.inl q
      · exact Or.inr ⟨r, (e r).2 q1, q2⟩
  · constructor
    · rintro (q | ⟨r, q1, q2⟩)
      · exact Or.inl q
      · exact Or.inr ⟨r, (e r).1 q1, q2⟩
    · rintro (q | ⟨r, q1, q2⟩)
      · exact Or.inl q
      · exact Or.inr ⟨r, (e r).2 q1, q2⟩
theorem MKR_tr {a0 b0 a b a1 b1 : Nat → Nat → Int} {L L2 : List (List Nat)} (h : MKR a0 b0 a b L) (h2 : MKR a b a1 b1 L2) : MKR a0 b0 a1 b1 (L ++ L2) := by
  refine ⟨fun s hs => ?_, fun j => ?_⟩
  · rw [h2.1 s hs, h.1 s hs]
    constructor
    · rintro ((q | ⟨r, q1, q2⟩) | ⟨r, q1, q2⟩)
      · exact Or.inl q
      · exact Or.inr ⟨r, List.mem_append.2 (Or.inl q1), q2⟩
      · exact Or.inr ⟨r, List.mem_append.2 (Or.inr q1), q2⟩
    · rintro (q | ⟨r, q1, q2⟩)
      · exact Or.inl (Or.inl q)
      · rcases List.mem_append.1 q1 with z | z
        · exact Or.inl (Or.inr ⟨r, z, q2⟩)
        · exact Or.inr ⟨r, z, q2⟩
  · rw [h2.2 j, h.2 j]
    constructor
    · rintro ((q | ⟨r, q1, q2⟩) | ⟨r, q1, q2⟩)
      · exact Or.inl q
      · exact Or.inr ⟨r, List.mem_append.2 (Or.inl q1), q2⟩
      · exact Or.inr ⟨r, List.mem_append.2 (Or.inr q1), q2⟩
    · rintro (q | ⟨r, q1, q2⟩)
      · exact Or.inl (Or.inl q)
      · rcases List.mem_append.1 q1 with z | z
        · exact Or.inl (Or.inr ⟨r, z, q2⟩)
        · exact Or.inr ⟨r, z, q2⟩
/-- one ring marked -/
theorem MKR_one {a b : Nat → Nat → Int} {P : List Nat} {x3 : Int} (e : x3 = ((PM P : Nat) : Int)) (l : x3 ≤ 4095) (u : 0 ≤ a 90 8 ∧ a 90 8 ≤ 4095) : MKR a b (jxu a 90 8 (jxor (a 90 8) x3)) (jxu b 94 ((f_X5_wordOf a b x3).toNat) (jxorl (b 94 ((f_X5_wordOf a b x3).toNat)) (jxshll 1 (jxw (Int.tmod x3 64))))) [P] := by
  have x0 : 0 ≤ x3 := by omega
  refine ⟨fun s hs => ?_, fun j => ?_⟩
  · rw [MK_put x0 l]
    constructor
    · rintro (q | q)
      · exact Or.inl q
      · exact Or.inr ⟨P, List.mem_singleton.2 rfl, by omega⟩
    · rintro (q | ⟨r, q1, q2⟩)
      · exact Or.inl q
      · rw [List.mem_singleton.1 q1] at q2; exact Or.inr (by omega)
  · have q := jxor_nat (a 90 8).toNat (PM P) (by omega) (by omega)
    rw [Int.toNat_of_nonneg u.1, ← e] at q
    rw [jxu_at, q, Int.toNat_natCast, Nat.testBit_or, Bool.or_eq_true, PM_bit]
    constructor
    · rintro (z | z)
      · exact Or.inl z
      · exact Or.inr ⟨P, List.mem_singleton.2 rfl, z⟩
    · rintro (z | ⟨r, q1, q2⟩)
      · exact Or.inl z
      · rw [List.mem_singleton.1 q1] at q2; exact Or.inr q2
theorem rone_yes {g : Nat → Nat → Bool} {P : List Nat} (h : rcls g P = true) : rone g P = [P] := if_pos h
theorem rone_no {g : Nat → Nat → Bool} {P : List Nat} (h : ¬ rcls g P = true) : rone g P = [] := if_neg h
theorem rcls_at {a b : Nat → Nat → Int} {n : Nat} {g k : Nat → Nat → Bool} (h : GRF a n g k) {P : List Nat} {x1 x2 x3 x4 x5 : Int} (m : MPR n k P x1 x2 x3 x4 x5) : rcls g P = true ↔ (2 ≤ x5 ∧ ¬ f_X5_mayFollow a b x2 x1 = 0) := by
  obtain ⟨m1, m2, m3, m4, m5, m6, m7⟩ := m
  have l := m1.2.1 _ (lastD_mem m1.1)
  have hd : P.headD 0 < n := by
    cases P with
    | nil => exact absurd rfl m1.1
    | cons x r => exact m1.2.1 x (List.mem_cons_self)
  have f := MF_at (b := b) h (x := x2) (y := x1) (by omega) (by omega) (by omega) (by omega)
  unfold rcls
  rw [Bool.and_eq_true, decide_eq_true_eq, f, show x2.toNat = P.getLastD 0 from by omega, show x1.toNat = P.headD 0 from by omega]
  constructor
  · rintro ⟨q1, q2⟩
    rw [if_pos q2]
    exact ⟨by omega, by decide⟩
  · rintro ⟨q1, q2⟩
    refine ⟨by omega, ?_⟩
    by_cases c : g (P.getLastD 0) (P.headD 0) = true
    · exact c
    · rw [if_neg c] at q2; exact absurd rfl q2
theorem RUP_first {n : Nat} {g k : Nat → Nat → Bool} {P : List Nat} {F : List Nat → List (List Nat)} {y : Nat} (h : y ≤ P.headD 0 + 1) (r : List Nat) : ¬ r ∈ RUP n g k P F y := fun q => by
  obtain ⟨x, q1, q2, _⟩ := RUP_mem.1 q
  have := (rext_iff.1 q2).1
  omega
theorem RGL_RUP {n : Nat} {g k : Nat → Nat → Bool} {d y : Nat} {P r : List Nat} (h : n ≤ y) : (r ∈ rone g P ++ RUP n g k P (RGL n g k d) y) ↔ r ∈ RGL n g k (d + 1) P := by
  rw [RGL_mem_iff, List.mem_append, RUP_mem]
  constructor
  · rintro (q | ⟨x, _, q2, q3⟩)
    · exact Or.inl q
    · exact Or.inr ⟨x, q2, q3⟩
  · rintro (q | ⟨x, q2, q3⟩)
    · exact Or.inl q
    · exact Or.inr ⟨x, by have := (rext_iff.1 q2).2.1; omega, q2, q3⟩
/-- all rings that begin with a seat below y -/
def RUA (n : Nat) (g k : Nat → Nat → Bool) : Nat → List (List Nat)
  | 0 => []
  | y + 1 => RUA n g k y ++ RGL n g k 4 [y]
theorem RUA_mem {n : Nat} {g k : Nat → Nat → Bool} {r : List Nat} : ∀ {y : Nat}, r ∈ RUA n g k y ↔ ∃ s, s < y ∧ r ∈ RGL n g k 4 [s]
  | 0 => ⟨fun h => absurd h List.not_mem_nil, fun ⟨x, h, _⟩ => absurd h (Nat.not_lt_zero x)⟩
  | y + 1 => by
    show r ∈ RUA n g k y ++ RGL n g k 4 [y] ↔ _
    rw [List.mem_append, RUA_mem]
    constructor
    · rintro (⟨x, q1, q2⟩ | q)
      · exact ⟨x, by omega, q2⟩
      · exact ⟨y, Nat.lt_succ_self y, q⟩
    · rintro ⟨x, q1, q2⟩
      by_cases c : x = y
      · rw [c] at q2; exact Or.inr q2
      · exact Or.inl ⟨x, by omega, q2⟩
/-- the marks are those of a list of rings, the useful seats theirs -/
def MKA (a b : Nat → Nat → Int) (L : List (List Nat)) : Prop := (∀ s, s < 4096 → (MK b s ↔ ∃ r, r ∈ L ∧ PM r = s)) ∧ (∀ j, (a 90 8).toNat.testBit j = true ↔ ∃ r, r ∈ L ∧ j ∈ r)
theorem MKA_s {a b a1 b1 : Nat → Nat → Int} {L L2 : List (List Nat)} (h : MKA a b L) (h2 : MKR a b a1 b1 L2) : MKA a1 b1 (L ++ L2) := by
  refine ⟨fun s hs => ?_, fun j => ?_⟩
  · rw [h2.1 s hs, h.1 s hs]
    constructor
    · rintro (⟨r, q1, q2⟩ | ⟨r, q1, q2⟩)
      · exact ⟨r, List.mem_append.2 (Or.inl q1), q2⟩
      · exact ⟨r, List.mem_append.2 (Or.inr q1), q2⟩
    · rintro ⟨r, q1, q2⟩
      rcases List.mem_append.1 q1 with z | z
      · exact Or.inl ⟨r, z, q2⟩
      · exact Or.inr ⟨r, z, q2⟩
  · rw [h2.2 j, h.2 j]
    constructor
    · rintro (⟨r, q1, q2⟩ | ⟨r, q1, q2⟩)
      · exact ⟨r, List.mem_append.2 (Or.inl q1), q2⟩
      · exact ⟨r, List.mem_append.2 (Or.inr q1), q2⟩
    · rintro ⟨r, q1, q2⟩
      rcases List.mem_append.1 q1 with z | z
      · exact Or.inl ⟨r, z, q2⟩
      · exact Or.inr ⟨r, z, q2⟩
