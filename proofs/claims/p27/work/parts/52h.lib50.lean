/-! rings: paths of seats, and the rings that begin with a path, in order -/
def rext (n : Nat) (g k : Nat → Nat → Bool) (path : List Nat) (x : Nat) : Bool := decide (path.headD 0 < x) && (decide (x < n) && (g (path.getLastD 0) x && path.all (fun p => !(k p x))))
def rcls (g : Nat → Nat → Bool) (path : List Nat) : Bool := decide (2 ≤ path.length) && g (path.getLastD 0) (path.headD 0)
def rone (g : Nat → Nat → Bool) (path : List Nat) : List (List Nat) := if rcls g path = true then [path] else []
/-- from x on, behind a path, with the rest given -/
def rfrom (n : Nat) (g k : Nat → Nat → Bool) (path : List Nat) (F : List Nat → List (List Nat)) : Nat → List (List Nat)
  | 0 => []
  | j + 1 => (if rext n g k path (n - (j + 1)) = true then F (path ++ [n - (j + 1)]) else []) ++ rfrom n g k path F j
def RGL (n : Nat) (g k : Nat → Nat → Bool) : Nat → List Nat → List (List Nat)
  | 0, path => rone g path
  | d + 1, path => rone g path ++ rfrom n g k path (RGL n g k d) n
def PM : List Nat → Nat
  | [] => 0
  | x :: r => 2 ^ x ||| PM r
theorem PM_bit : ∀ (l : List Nat) (i : Nat), (PM l).testBit i = true ↔ i ∈ l
  | [], i => by
    show (0 : Nat).testBit i = true ↔ _
    rw [Nat.zero_testBit]
    exact ⟨fun h => absurd h (by decide), fun h => absurd h (List.not_mem_nil)⟩
  | x :: r, i => by
    show (2 ^ x ||| PM r).testBit i = true ↔ _
    rw [Nat.testBit_or, Nat.testBit_two_pow, Bool.or_eq_true, decide_eq_true_eq, PM_bit r i, List.mem_cons]
    constructor
    · rintro (h | h)
      · exact Or.inl h.symm
      · exact Or.inr h
    · rintro (h | h)
      · exact Or.inl h.symm
      · exact Or.inr h
theorem PM_app (l : List Nat) (x : Nat) : PM (l ++ [x]) = PM l ||| 2 ^ x := by
  induction l with
  | nil =>
    show 2 ^ x ||| 0 = 0 ||| 2 ^ x
    rw [Nat.or_zero, Nat.zero_or]
  | cons y r ih =>
    show 2 ^ y ||| PM (r ++ [x]) = (2 ^ y ||| PM r) ||| 2 ^ x
    rw [ih, Nat.or_assoc]
/-- a set of seats within another -/
def SUB (a b : Nat) : Prop := ∀ i, a.testBit i = true → b.testBit i = true
theorem SUB_rf (a : Nat) : SUB a a := fun _ h => h
theorem SUB_tr {a b c : Nat} (h : SUB a b) (h2 : SUB b c) : SUB a c := fun i q => h2 i (h i q)
theorem SUB_and {a b : Nat} : SUB a b ↔ a &&& b = a := by
  constructor
  · intro h
    refine Nat.eq_of_testBit_eq (fun i => ?_)
    rw [Nat.testBit_and]
    cases c : a.testBit i
    · rfl
    · rw [h i c]; rfl
  · intro h i q
    rw [← h, Nat.testBit_and, Bool.and_eq_true] at q
    exact q.2
theorem SUB_half {a b : Nat} (h : SUB a b) : SUB (a / 2) (b / 2) ∧ a % 2 ≤ b % 2 := by
  constructor
  · intro i q
    rw [Nat.testBit_div_two] at q ⊢
    exact h _ q
  · have := h 0
    rw [Nat.testBit_zero, Nat.testBit_zero, decide_eq_true_eq, decide_eq_true_eq] at this
    omega
theorem SUB_le : ∀ {a b : Nat}, SUB a b → a ≤ b := fun {a} => by
  induction a using Nat.strongRecOn with
  | _ a ih =>
    intro b h
    by_cases c : a = 0
    · omega
    · have q := SUB_half h
      have := ih (a / 2) (by omega) q.1
      omega
theorem xor_half (a b : Nat) : (a ^^^ b) / 2 = a / 2 ^^^ b / 2 := by
  refine Nat.eq_of_testBit_eq (fun i => ?_)
  rw [Nat.testBit_div_two, Nat.testBit_xor, Nat.testBit_xor, Nat.testBit_div_two, Nat.testBit_div_two]
theorem xor_mod (a b : Nat) : (a ^^^ b) % 2 = (a % 2 + b % 2) % 2 := by
  have h : (a ^^^ b).testBit 0 = (a.testBit 0 ^^ b.testBit 0) := Nat.testBit_xor a b 0
  rw [Nat.testBit_zero, Nat.testBit_zero, Nat.testBit_zero] at h
  have ha : a % 2 = 0 ∨ a % 2 = 1 := by omega
  have hb : b % 2 = 0 ∨ b % 2 = 1 := by omega
  have hc : (a ^^^ b) % 2 = 0 ∨ (a ^^^ b) % 2 = 1 := by omega
  rcases ha with ha | ha <;> rcases hb with hb | hb <;> rcases hc with hc | hc <;> rw [ha, hb, hc] at h <;> first | exact absurd h (by decide) | (rw [ha, hb, hc])
/-- what is left of a set -/
theorem xor_less : ∀ {a b : Nat}, SUB a b → (b ^^^ a) + a = b := fun {a b} => by
  induction b using Nat.strongRecOn generalizing a with
  | _ b ih =>
    intro h
    by_cases c : b = 0
    · have := SUB_le h
      have e : a = 0 := by omega
      rw [c, e]; rfl
    · have q := SUB_half h
      have i := ih (b / 2) (by omega) q.1
      have x1 := xor_half b a
      have x2 := xor_mod b a
      omega
theorem xor_bit (a b i : Nat) : (a ^^^ b).testBit i = (a.testBit i ^^ b.testBit i) := Nat.testBit_xor a b i
theorem xor_SUB {a b : Nat} (h : SUB a b) : SUB (b ^^^ a) b := fun i q => by
  rw [xor_bit] at q
  cases c : b.testBit i
  · cases d : a.testBit i
    · rw [c, d] at q; exact absurd q (by decide)
    · rw [h i d] at c; exact absurd c (by decide)
  · rfl
/-- the submask ahead of one -/
theorem sub_prev : ∀ {d u : Nat}, SUB d u → 0 < d → SUB ((d - 1) &&& u) u ∧ (d - 1) &&& u < d ∧ ∀ t, SUB t u → t < d → t ≤ (d - 1) &&& u := fun {d u} => by
  induction d using Nat.strongRecOn generalizing u with
  | _ d ih =>
    intro h h0
    have s1 : SUB ((d - 1) &&& u) u := fun i q => by
      rw [Nat.testBit_and, Bool.and_eq_true] at q
      exact q.2
    have l1 : (d - 1) &&& u ≤ d - 1 := Nat.and_le_left
    refine ⟨s1, by omega, fun t ht hl => ?_⟩
    have q := SUB_half h
    have qt := SUB_half ht
    have x1 : ((d - 1) &&& u) / 2 = (d - 1) / 2 &&& u / 2 := Nat.and_div_two
    have x2 : ((d - 1) &&& u) % 2 = 1 ↔ ((d - 1) % 2 = 1 ∧ u % 2 = 1) := Nat.and_mod_two_eq_one
    by_cases c : d % 2 = 1
    · -- the lowest bit goes
      have e : (d - 1) / 2 = d / 2 := by omega
      have s := SUB_and.1 q.1
      rw [e, s] at x1
      omega
    · have e : (d - 1) / 2 = d / 2 - 1 := by omega
      rw [e] at x1
      have i := (ih (d / 2) (by omega) (u := u / 2) q.1 (by omega)).2.2 (t / 2) qt.1 (by omega)
      omega
/-! how many -/
def popn : Nat → Nat → Nat
  | 0, _ => 0
  | j + 1, s => popn j s + (if s.testBit j = true then 1 else 0)
theorem popn_le (s : Nat) : ∀ j, popn j s ≤ j
  | 0 => Nat.le_refl _
  | j + 1 => by
    have := popn_le s j
    show popn j s + (if s.testBit j = true then 1 else 0) ≤ j + 1
    split <;> omega
theorem popn_disj {a b : Nat} (h : ∀ i, a.testBit i = true → b.testBit i = true → False) : ∀ j, popn j (a ^^^ b) = popn j a + popn j b
  | 0 => rfl
  | j + 1 => by
    have e := popn_disj h j
    show popn j (a ^^^ b) + (if (a ^^^ b).testBit j = true then 1 else 0) = (popn j a + (if a.testBit j = true then 1 else 0)) + (popn j b + (if b.testBit j = true then 1 else 0))
    rw [e, xor_bit]
    cases c : a.testBit j <;> cases d : b.testBit j
    · simp
    · simp; omega
    · simp; omega
    · exact absurd (h j c d) id
theorem popn_less {a b : Nat} (h : SUB a b) (j : Nat) : popn j (b ^^^ a) + popn j a = popn j b := by
  have e := popn_disj (a := b ^^^ a) (b := a) (fun i q1 q2 => by
    rw [xor_bit, q2, h i q2] at q1
    exact absurd q1 (by decide)) j
  have x : (b ^^^ a) ^^^ a = b := by
    refine Nat.eq_of_testBit_eq (fun i => ?_)
    rw [xor_bit, xor_bit]
    cases b.testBit i <;> cases a.testBit i <;> rfl
  rw [x] at e
  omega
theorem popn_bit {x : Nat} : ∀ {j : Nat}, popn j (2 ^ x) = if x < j then 1 else 0
  | 0 => by
    show 0 = _
    rw [if_neg (Nat.not_lt_zero x)]
  | j + 1 => by
    show popn j (2 ^ x) + (if (2 ^ x).testBit j = true then 1 else 0) = _
    rw [popn_bit, Nat.testBit_two_pow]
    by_cases c : x = j
    · rw [c]; simp
    · rw [show decide (x = j) = false from decide_eq_false c]
      by_cases d : x < j
      · rw [if_pos d, if_pos (show x < j + 1 by omega)]; rfl
      · rw [if_neg d, if_neg (show ¬ x < j + 1 by omega)]; rfl
theorem popn_PM {m : Nat} : ∀ {l : List Nat}, l.Nodup → (∀ x, x ∈ l → x < m) → popn m (PM l) = l.length
  | [], _, _ => by
    have z : ∀ j, popn j 0 = 0 := fun j => by
      induction j with
      | zero => rfl
      | succ j ih =>
        show popn j 0 + (if (0 : Nat).testBit j = true then 1 else 0) = 0
        rw [ih, Nat.zero_testBit]; rfl
    exact z m
  | x :: r, h, hm => by
    rw [List.nodup_cons] at h
    have e := popn_PM h.2 (fun y hy => hm y (List.mem_cons_of_mem _ hy))
    have x1 : 2 ^ x ||| PM r = 2 ^ x ^^^ PM r := by
      refine Nat.eq_of_testBit_eq (fun i => ?_)
      rw [Nat.testBit_or, xor_bit, Nat.testBit_two_pow]
      by_cases c : x = i
      · have nb : (PM r).testBit i = false := by
          cases q : (PM r).testBit i
          · rfl
          · rw [PM_bit] at q
            exact absurd (c ▸ q) h.1
        rw [nb, decide_eq_true c]; rfl
      · rw [decide_eq_false c]
        cases (PM r).testBit i <;> rfl
    show popn m (2 ^ x ||| PM r) = r.length + 1
    rw [x1, popn_disj (fun i q1 q2 => by
      rw [Nat.testBit_two_pow, decide_eq_true_eq] at q1
      rw [PM_bit] at q2
      exact h.1 (q1 ▸ q2)), popn_bit, if_pos (hm x List.mem_cons_self), e]
    omega
/-! paths -/
def VP (n : Nat) (k : Nat → Nat → Bool) (path : List Nat) : Prop := ¬ path = [] ∧ (∀ x, x ∈ path → x < n) ∧ path.Nodup ∧ (∀ x, x ∈ path → path.headD 0 ≤ x)
theorem VP_one {n : Nat} {k : Nat → Nat → Bool} {s : Nat} (h : s < n) : VP n k [s] := ⟨by simp, fun x hx => by rw [List.mem_singleton] at hx; omega, by simp, fun x hx => by
  rw [List.mem_singleton] at hx
  rw [hx]; exact Nat.le_refl _⟩
theorem rext_iff {n : Nat} {g k : Nat → Nat → Bool} {path : List Nat} {x : Nat} : rext n g k path x = true ↔ (path.headD 0 < x ∧ x < n ∧ g (path.getLastD 0) x = true ∧ ∀ p, p ∈ path → k p x = false) := by
  unfold rext
  rw [Bool.and_eq_true, Bool.and_eq_true, Bool.and_eq_true, decide_eq_true_eq, decide_eq_true_eq, List.all_eq_true]
  constructor
  · intro h
    exact ⟨h.1, h.2.1, h.2.2.1, fun p hp => by
      have := h.2.2.2 p hp
      rw [Bool.not_eq_true'] at this
      exact this⟩
  · intro h
    exact ⟨h.1, h.2.1, h.2.2.1, fun p hp => by rw [h.2.2.2 p hp]; rfl⟩
theorem headD_app {l : List Nat} {x : Nat} (h : ¬ l = []) : (l ++ [x]).headD 0 = l.headD 0 := by
  cases l with
  | nil => exact absurd rfl h
  | cons y r => rfl
theorem lastD_app (l : List Nat) (x : Nat) : (l ++ [x]).getLastD 0 = x := by
  cases l with
  | nil => rfl
  | cons y r =>
    show ((y :: r) ++ [x]).getLastD 0 = x
    rw [List.getLastD_eq_getLast?, List.getLast?_append]
    simp
theorem VP_app {n : Nat} {g k : Nat → Nat → Bool} {path : List Nat} {x : Nat} (hk : ∀ i, k i i = true) (h : VP n k path) (e : rext n g k path x = true) : VP n k (path ++ [x]) := by
  obtain ⟨h1, h2, h3, h4⟩ := h
  obtain ⟨e1, e2, e3, e4⟩ := rext_iff.1 e
  have nx : ¬ x ∈ path := fun q => by
    have := e4 x q
    rw [hk x] at this
    exact absurd this (by decide)
  refine ⟨by simp, fun y hy => ?_, ?_, fun y hy => ?_⟩
  · rw [List.mem_append, List.mem_singleton] at hy
    rcases hy with q | q
    · exact h2 y q
    · omega
  · rw [List.nodup_append]
    refine ⟨h3, by simp, fun y hy z hz => ?_⟩
    rw [List.mem_singleton] at hz
    intro q
    exact nx (by rw [← hz, ← q]; exact hy)
  · rw [headD_app h1]
    rw [List.mem_append, List.mem_singleton] at hy
    rcases hy with q | q
    · exact h4 y q
    · omega
/-- a ring of the list begins with the path -/
theorem rfrom_mem {n : Nat} {g k : Nat → Nat → Bool} {path : List Nat} {F : List Nat → List (List Nat)} {r : List Nat} : ∀ {j : Nat}, r ∈ rfrom n g k path F j → ∃ x, rext n g k path x = true ∧ n - j ≤ x ∧ r ∈ F (path ++ [x])
  | 0, h => absurd h (List.not_mem_nil)
  | j + 1, h => by
    have h' : r ∈ (if rext n g k path (n - (j + 1)) = true then F (path ++ [n - (j + 1)]) else []) ++ rfrom n g k path F j := h
    rw [List.mem_append] at h'
    rcases h' with q | q
    · by_cases c : rext n g k path (n - (j + 1)) = true
      · rw [if_pos c] at q
        exact ⟨_, c, Nat.le_refl _, q⟩
      · rw [if_neg c] at q
        exact absurd q (List.not_mem_nil)
    · obtain ⟨x, x1, x2, x3⟩ := rfrom_mem q
      exact ⟨x, x1, by omega, x3⟩
theorem rone_mem {g : Nat → Nat → Bool} {path r : List Nat} (h : r ∈ rone g path) : r = path ∧ rcls g path = true := by
  unfold rone at h
  by_cases c : rcls g path = true
  · rw [if_pos c, List.mem_singleton] at h
    exact ⟨h, c⟩
  · rw [if_neg c] at h
    exact absurd h (List.not_mem_nil)
theorem RGL_mem {n : Nat} {g k : Nat → Nat → Bool} (hk : ∀ i, k i i = true) {r : List Nat} : ∀ {d : Nat} {path : List Nat}, VP n k path → r ∈ RGL n g k d path → VP n k r ∧ (∀ x, x ∈ path → x ∈ r) ∧ 2 ≤ r.length ∧ r.length ≤ path.length + d ∧ r.headD 0 = path.headD 0
  | 0, path, hv, h => by
    obtain ⟨e, c⟩ := rone_mem h
    subst e
    unfold rcls at c
    rw [Bool.and_eq_true, decide_eq_true_eq] at c
    exact ⟨hv, fun _ q => q, c.1, Nat.le_refl _, rfl⟩
  | d + 1, path, hv, h => by
    have h' : r ∈ rone g path ++ rfrom n g k path (RGL n g k d) n := h
    rw [List.mem_append] at h'
    rcases h' with q | q
    · obtain ⟨e, c⟩ := rone_mem q
      subst e
      unfold rcls at c
      rw [Bool.and_eq_true, decide_eq_true_eq] at c
      exact ⟨hv, fun _ q => q, c.1, by omega, rfl⟩
    · obtain ⟨x, x1, x2, x3⟩ := rfrom_mem q
      obtain ⟨i1, i2, i3, i4, i5⟩ := RGL_mem hk (VP_app hk hv x1) x3
      refine ⟨i1, fun y hy => i2 y (List.mem_append_left _ hy), i3, ?_, ?_⟩
      · rw [List.length_append] at i4
        have : [x].length = 1 := rfl
        omega
      · rw [i5, headD_app hv.1]
/-! the best of a set, on the two scales -/
def IMX (v : Int) (P : Int → Prop) : Prop := P v ∧ ∀ x, P x → x ≤ v
theorem IMX_one {v v2 : Int} {P : Int → Prop} (h : IMX v P) (h2 : IMX v2 P) : v = v2 := by
  have a := h.2 v2 h2.1
  have b := h2.2 v h.1
  omega
/-- what a set may come to: its least seat alone out, or a ring that begins with it -/
def WAY (n : Nat) (g k : Nat → Nat → Bool) (wt : Int) (B : Nat → Int) (s left : Nat) (x : Int) : Prop := x = B (left ^^^ 2 ^ s) ∨ ∃ r, r ∈ RGL n g k 4 [s] ∧ SUB (PM r) left ∧ x = wt * (r.length : Int) - 1 + B (left ^^^ PM r)
def LST (s left : Nat) : Prop := left.testBit s = true ∧ ∀ i, i < s → left.testBit i = false
def ISB (n : Nat) (g k : Nat → Nat → Bool) (wt : Int) (u : Nat) (B : Nat → Int) : Prop := B 0 = 0 ∧ ∀ left s, SUB left u → left < 2 ^ n → LST s left → IMX (B left) (WAY n g k wt B s left)
def phi (v : Int) : Int := v - 48 * ((v + 63) / 64)
def DVL (v : Int) (c : Nat) : Prop := ∃ o r : Int, v = 64 * o - r ∧ 0 ≤ r ∧ 2 * r ≤ o ∧ o ≤ 5 * r ∧ o ≤ c
theorem phi_at {o r : Int} (h0 : 0 ≤ r) (h1 : r ≤ 6) : phi (64 * o - r) = 16 * o - r := by
  unfold phi
  omega
theorem DVL_phi {v : Int} {c : Nat} (h : DVL v c) (hc : c ≤ 12) : ∃ o r : Int, v = 64 * o - r ∧ phi v = 16 * o - r ∧ 0 ≤ r ∧ r ≤ 6 ∧ 2 * r ≤ o ∧ o ≤ 5 * r ∧ o ≤ c := by
  obtain ⟨o, r, h1, h2, h3, h4, h5⟩ := h
  exact ⟨o, r, h1, by rw [h1]; exact phi_at h2 (by omega), h2, by omega, h3, h4, h5⟩
theorem phi_le {v w : Int} {c d : Nat} (h : DVL v c) (h2 : DVL w d) (hc : c ≤ 12) (hd : d ≤ 12) : (v ≤ w ↔ phi v ≤ phi w) ∧ (v = w ↔ phi v = phi w) := by
  obtain ⟨o, r, a1, a2, a3, a4, a5, a6, a7⟩ := DVL_phi h hc
  obtain ⟨p, q, b1, b2, b3, b4, b5, b6, b7⟩ := DVL_phi h2 hd
  rcases Int.lt_trichotomy o p with t | t | t
  · constructor <;> constructor <;> intro z <;> omega
  · constructor <;> constructor <;> intro z <;> omega
  · constructor <;> constructor <;> intro z <;> omega
theorem DVL_ring {v : Int} {c l : Nat} (h : DVL v c) (h2 : 2 ≤ l) (h5 : l ≤ 5) : DVL (64 * (l : Int) - 1 + v) (c + l) ∧ (c + l ≤ 12 → phi (64 * (l : Int) - 1 + v) = 16 * (l : Int) - 1 + phi v) := by
  obtain ⟨o, r, a1, a2, a3, a4, a5⟩ := h
  refine ⟨⟨o + l, r + 1, by omega, by omega, by omega, by omega, by omega⟩, fun hc => ?_⟩
  rw [show 64 * (l : Int) - 1 + v = 64 * (o + l) - (r + 1) by omega, phi_at (by omega) (by omega), a1, phi_at a2 (by omega)]
  omega
theorem DVL_mono {v : Int} {c d : Nat} (h : DVL v c) (hc : c ≤ d) : DVL v d := by
  obtain ⟨o, r, a1, a2, a3, a4, a5⟩ := h
  exact ⟨o, r, a1, a2, a3, a4, by omega⟩
theorem LST_ex : ∀ {n left : Nat}, left < 2 ^ n → 0 < left → ∃ s, s < n ∧ LST s left := fun {n left} h h0 => by
  have ex : ∃ i, left.testBit i = true := by
    refine Classical.byContradiction (fun q => ?_)
    have z : left = 0 := Nat.eq_of_testBit_eq (fun i => by
      rw [Nat.zero_testBit]
      cases c : left.testBit i
      · rfl
      · exact absurd ⟨i, c⟩ q)
    omega
  have key : ∀ m, (∃ i, i < m ∧ left.testBit i = true) → ∃ s, s < m ∧ LST s left := by
    intro m
    induction m with
    | zero => rintro ⟨i, hi, _⟩; exact absurd hi (Nat.not_lt_zero i)
    | succ m ih =>
      rintro ⟨i, hi, hb⟩
      by_cases c : ∃ i, i < m ∧ left.testBit i = true
      · obtain ⟨s, s1, s2⟩ := ih c
        exact ⟨s, by omega, s2⟩
      · have e : i = m := by
          rcases Nat.lt_or_ge i m with q | q
          · exact absurd ⟨i, q, hb⟩ c
          · omega
        refine ⟨m, Nat.lt_succ_self m, by rw [← e]; exact hb, fun j hj => ?_⟩
        cases q : left.testBit j
        · rfl
        · exact absurd ⟨j, hj, q⟩ c
  obtain ⟨i, hi⟩ := ex
  have hin : i < n := by
    rcases Nat.lt_or_ge i n with q | q
    · exact q
    · have : left.testBit i = false := Nat.testBit_lt_two_pow (Nat.lt_of_lt_of_le h (Nat.pow_le_pow_right (by decide) q))
      rw [this] at hi
      exact absurd hi (by decide)
  exact key n ⟨i, hin, hi⟩
theorem LST_one {s t left : Nat} (h : LST s left) (h2 : LST t left) : s = t := by
  rcases Nat.lt_trichotomy s t with q | q | q
  · have := h2.2 s q
    rw [h.1] at this
    exact absurd this (by decide)
  · exact q
  · have := h.2 t q
    rw [h2.1] at this
    exact absurd this (by decide)
theorem bit_SUB {s left : Nat} (h : left.testBit s = true) : SUB (2 ^ s) left := fun i q => by
  rw [Nat.testBit_two_pow, decide_eq_true_eq] at q
  rw [← q]; exact h
theorem xor_lt {a b n : Nat} (h : SUB a b) (h0 : 0 < a) (hb : b < 2 ^ n) : b ^^^ a < b ∧ b ^^^ a < 2 ^ n := by
  have := xor_less h
  omega
theorem pow_pos2 (s : Nat) : 0 < 2 ^ s := Nat.pow_pos (by decide)
theorem PM_pos {r : List Nat} (h : ¬ r = []) : 0 < PM r := by
  cases r with
  | nil => exact absurd rfl h
  | cons x t =>
    have : 2 ^ x ≤ 2 ^ x ||| PM t := Nat.left_le_or
    have := pow_pos2 x
    show 0 < 2 ^ x ||| PM t
    omega
/-- the values are of the kind that the scales agree on -/
theorem ISB_DVL {n : Nat} {g k : Nat → Nat → Bool} {u : Nat} {B : Nat → Int} (hk : ∀ i, k i i = true) (hn : n ≤ 12) (h : ISB n g k 64 u B) : ∀ left, SUB left u → left < 2 ^ n → DVL (B left) (popn n left) := by
  intro left
  induction left using Nat.strongRecOn with
  | _ left ih =>
    intro hs hl
    by_cases c : left = 0
    · rw [c, h.1]
      exact ⟨0, 0, by decide, by decide, by decide, by decide, by omega⟩
    · obtain ⟨s, s1, s2⟩ := LST_ex hl (by omega)
      rcases (h.2 left s hs hl s2).1 with q | ⟨r, r1, r2, r3⟩
      · have x := xor_lt (bit_SUB s2.1) (pow_pos2 s) hl
        have p := popn_less (bit_SUB s2.1) n
        rw [q]
        exact DVL_mono (ih _ x.1 (SUB_tr (xor_SUB (bit_SUB s2.1)) hs) x.2) (by omega)
      · obtain ⟨v1, v2, v3, v4, v5⟩ := RGL_mem hk (VP_one s1) r1
        have x := xor_lt r2 (PM_pos v1.1) hl
        have p := popn_less r2 n
        rw [popn_PM v1.2.2.1 v1.2.1] at p
        have l5 : r.length ≤ 5 := v4
        rw [r3]
        exact DVL_mono (DVL_ring (ih _ x.1 (SUB_tr (xor_SUB r2) hs) x.2) v3 l5).1 (by omega)
theorem scale_eq {n : Nat} {g k : Nat → Nat → Bool} {u u2 : Nat} {B C : Nat → Int} (hk : ∀ i, k i i = true) (hn : n ≤ 12) (hu : SUB u2 u) (h : ISB n g k 64 u B) (h2 : ISB n g k 16 u2 C) : ∀ left, SUB left u2 → left < 2 ^ n → C left = phi (B left) := by
  have dv := ISB_DVL hk hn h
  intro left
  induction left using Nat.strongRecOn with
  | _ left ih =>
    intro hs hl
    by_cases c : left = 0
    · rw [c, h.1, h2.1]; rfl
    · obtain ⟨s, s1, s2⟩ := LST_ex hl (by omega)
      have m1 := h.2 left s (SUB_tr hs hu) hl s2
      have m2 := h2.2 left s hs hl s2
      have d0 := dv left (SUB_tr hs hu) hl
      have pl := popn_le left n
      -- one way on the one scale is one on the other
      have w0 : C (left ^^^ 2 ^ s) = phi (B (left ^^^ 2 ^ s)) ∧ DVL (B (left ^^^ 2 ^ s)) (popn n left) := by
        have x := xor_lt (bit_SUB s2.1) (pow_pos2 s) hl
        have p := popn_less (bit_SUB s2.1) n
        exact ⟨ih _ x.1 (SUB_tr (xor_SUB (bit_SUB s2.1)) hs) x.2, DVL_mono (dv _ (SUB_tr (SUB_tr (xor_SUB (bit_SUB s2.1)) hs) hu) x.2) (by omega)⟩
      have wr : ∀ r, r ∈ RGL n g k 4 [s] → SUB (PM r) left → 16 * (r.length : Int) - 1 + C (left ^^^ PM r) = phi (64 * (r.length : Int) - 1 + B (left ^^^ PM r)) ∧ DVL (64 * (r.length : Int) - 1 + B (left ^^^ PM r)) (popn n left) := fun r r1 r2 => by
        obtain ⟨v1, v2, v3, v4, v5⟩ := RGL_mem hk (VP_one s1) r1
        have x := xor_lt r2 (PM_pos v1.1) hl
        have p := popn_less r2 n
        rw [popn_PM v1.2.2.1 v1.2.1] at p
        have l5 : r.length ≤ 5 := v4
        have q := DVL_ring (dv _ (SUB_tr (SUB_tr (xor_SUB r2) hs) hu) x.2) v3 l5
        rw [ih _ x.1 (SUB_tr (xor_SUB r2) hs) x.2, q.2 (by omega)]
        exact ⟨rfl, DVL_mono q.1 (by omega)⟩
      refine IMX_one m2 ⟨?_, fun x hx => ?_⟩
      · rcases m1.1 with q | ⟨r, r1, r2, r3⟩
        · left; rw [q, w0.1]
        · right; exact ⟨r, r1, r2, by rw [r3]; exact (wr r r1 r2).1.symm⟩
      · rcases hx with q | ⟨r, r1, r2, r3⟩
        · rw [q, w0.1]
          exact (phi_le w0.2 d0 (by omega) (by omega)).1.1 (m1.2 _ (Or.inl rfl))
        · rw [r3, (wr r r1 r2).1]
          exact (phi_le (wr r r1 r2).2 d0 (by omega) (by omega)).1.1 (m1.2 _ (Or.inr ⟨r, r1, r2, rfl⟩))
/-! the rings found: seat by seat -/
def okr (wt : Int) (B : Nat → Int) (left : Nat) (r : List Nat) : Bool := decide (PM r &&& left = PM r) && decide (wt * (r.length : Int) - 1 + B (left ^^^ PM r) = B left)
def CFN (n : Nat) (g k : Nat → Nat → Bool) (wt : Int) (B : Nat → Int) : Nat → Nat → List (List Nat)
  | 0, _ => []
  | j + 1, left => if left.testBit (n - (j + 1)) = true then (match (RGL n g k 4 [n - (j + 1)]).find? (okr wt B left) with
      | some r => r :: CFN n g k wt B j (left ^^^ PM r)
      | none => CFN n g k wt B j (left ^^^ 2 ^ (n - (j + 1)))) else CFN n g k wt B j left
