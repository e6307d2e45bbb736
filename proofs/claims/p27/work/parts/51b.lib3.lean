/-! bits as natural numbers -/
theorem jxand_nat (m n : Nat) (hm : m < 2147483648) (hn : n < 2147483648) : jxand (m : Int) (n : Int) = ((m &&& n : Nat) : Int) := by
  rw [jxand_eq]
  have e : (BitVec.ofInt 32 (m : Int) &&& BitVec.ofInt 32 (n : Int)).toNat = m &&& n := by
    rw [BitVec.toNat_and, bv_of (by omega) (by omega), bv_of (by omega) (by omega), Int.toNat_natCast, Int.toNat_natCast]
  have l : m &&& n ≤ m := Nat.and_le_left
  rw [bv_nn (by omega), e]
theorem jxor_nat (m n : Nat) (hm : m < 1073741824) (hn : n < 1073741824) : jxor (m : Int) (n : Int) = ((m ||| n : Nat) : Int) := by
  rw [jxor_eq]
  have e : (BitVec.ofInt 32 (m : Int) ||| BitVec.ofInt 32 (n : Int)).toNat = m ||| n := by
    rw [BitVec.toNat_or, bv_of (by omega) (by omega), bv_of (by omega) (by omega), Int.toNat_natCast, Int.toNat_natCast]
  have l : m ||| n < 2 ^ 30 := Nat.or_lt_two_pow (by omega) (by omega)
  rw [bv_nn (by omega), e]
theorem jxxor_nat (m n : Nat) (hm : m < 1073741824) (hn : n < 1073741824) : jxxor (m : Int) (n : Int) = ((m ^^^ n : Nat) : Int) := by
  rw [jxxor_eq]
  have e : (BitVec.ofInt 32 (m : Int) ^^^ BitVec.ofInt 32 (n : Int)).toNat = m ^^^ n := by
    rw [BitVec.toNat_xor, bv_of (by omega) (by omega), bv_of (by omega) (by omega), Int.toNat_natCast, Int.toNat_natCast]
  have l : m ^^^ n < 2 ^ 30 := Nat.xor_lt_two_pow (by omega) (by omega)
  rw [bv_nn (by omega), e]
theorem jxbit_nat (m k : Nat) (hm : m < 2147483648) (hk : k < 32) : jxand (jxshr (m : Int) (k : Int)) 1 = if m.testBit k then 1 else 0 := by
  rw [jxshr_nat (by omega) (by omega) (by omega) (by omega), Int.toNat_natCast]
  have e : (m : Int) / (2 : Int) ^ k = ((m / 2 ^ k : Nat) : Int) := by
    rw [Int.natCast_ediv, Int.natCast_pow]
    rfl
  rw [e]
  rw [Nat.testBit_eq_decide_div_mod_eq]
  have h2 : m / 2 ^ k ≤ m := Nat.div_le_self _ _
  generalize m / 2 ^ k = q at h2 ⊢
  rw [jxand1 (by omega) (by omega)]
  by_cases h : q % 2 = 1
  · simp only [h, decide_true, if_true]; omega
  · simp only [h, decide_false, Bool.false_eq_true, if_false]; omega
/-- how many bits there are below n -/
def pcn (x : Int) : Nat → Int
  | 0 => 0
  | n + 1 => pcn x n + jxand (jxshr x n) 1
def pc (x : Int) : Int := pcn x 12
theorem pcn_bd (x : Int) : ∀ n : Nat, 0 ≤ pcn x n ∧ pcn x n ≤ n := by
  intro n
  induction n with
  | zero => exact ⟨Int.le_refl _, Int.le_refl _⟩
  | succ n ih =>
    have := jxand_r (jxshr x n) 1 (by decide) (by decide)
    show 0 ≤ pcn x n + jxand (jxshr x n) 1 ∧ pcn x n + jxand (jxshr x n) 1 ≤ _
    omega
theorem pc_bd (x : Int) : 0 ≤ pc x ∧ pc x ≤ 12 := pcn_bd x 12
theorem pcn_ge {x : Int} {k : Nat} (hb : jxand (jxshr x k) 1 = 1) : ∀ n : Nat, k < n → 1 ≤ pcn x n := by
  intro n
  induction n with
  | zero => intro h; omega
  | succ n ih =>
    intro h
    have h1 := jxand_r (jxshr x n) 1 (by decide) (by decide)
    have h2 := (pcn_bd x n).1
    show 1 ≤ pcn x n + jxand (jxshr x n) 1
    by_cases hk : k = n
    · subst hk; omega
    · have := ih (by omega); omega
theorem pcn_xor {m s : Nat} (hm : m < 4096) (hs : s < 4096) (h : s &&& m = s) : ∀ n : Nat, n ≤ 12 → pcn ((m ^^^ s : Nat) : Int) n = pcn (m : Int) n - pcn (s : Int) n := by
  intro n
  induction n with
  | zero => intro _; rfl
  | succ n ih =>
    intro hn
    have hx : m ^^^ s < 2 ^ 12 := Nat.xor_lt_two_pow (by omega) (by omega)
    show pcn _ n + jxand (jxshr _ n) 1 = pcn _ n + jxand (jxshr _ n) 1 - (pcn _ n + jxand (jxshr _ n) 1)
    rw [ih (by omega), jxbit_nat _ _ (by omega) (by omega), jxbit_nat _ _ (by omega) (by omega), jxbit_nat _ _ (by omega) (by omega), Nat.testBit_xor]
    have hb : s.testBit n = (s.testBit n && m.testBit n) := by rw [← Nat.testBit_and, h]
    cases h1 : s.testBit n <;> cases h2 : m.testBit n <;> rw [h1, h2] at hb <;> simp at hb ⊢ <;> omega
theorem xor_sub {x s : Int} (hx0 : 0 ≤ x) (hx : x ≤ 4095) (hs0 : 0 ≤ s) (hs : s ≤ 4095) (h : jxand s x = s) : pc (jxxor x s) = pc x - pc s := by
  obtain ⟨m, rfl⟩ := Int.eq_ofNat_of_zero_le hx0
  obtain ⟨t, rfl⟩ := Int.eq_ofNat_of_zero_le hs0
  rw [jxand_nat _ _ (by omega) (by omega)] at h
  rw [jxxor_nat _ _ (by omega) (by omega)]
  exact pcn_xor (by omega) (by omega) (by omega) 12 (Nat.le_refl _)
theorem and_shl {x k : Int} (hx0 : 0 ≤ x) (hx : x ≤ 4095) (hk0 : 0 ≤ k) (hk : k ≤ 11) (hb : ¬ jxand (jxshr x k) 1 = 0) : jxand (jxshl 1 k) x = jxshl 1 k ∧ pc (jxshl 1 k) = 1 := by
  obtain ⟨m, rfl⟩ := Int.eq_ofNat_of_zero_le hx0
  obtain ⟨t, rfl⟩ := Int.eq_ofNat_of_zero_le hk0
  have ht : t < 12 := by omega
  have e := jxshl1_n t ht
  have e2 : ∀ t : Nat, t < 12 → pc (jxshl 1 (t : Int)) = 1 := by decide +kernel
  refine ⟨?_, e2 t ht⟩
  rw [jxbit_nat _ _ (by omega) (by omega)] at hb
  have hp : 2 ^ t ≤ 2 ^ 11 := Nat.pow_le_pow_right (by decide) (by omega)
  rw [e, jxand_nat _ _ (by omega) (by omega)]
  congr 1
  have hb2 : m.testBit t = true := by
    cases h : m.testBit t
    · rw [h] at hb; simp at hb
    · rfl
  apply Nat.eq_of_testBit_eq
  intro i
  rw [Nat.testBit_and, Nat.testBit_two_pow]
  by_cases hi : t = i
  · subst hi; simp [hb2]
  · simp [hi]
theorem xor_shl {x k : Int} (hx0 : 0 ≤ x) (hx : x ≤ 4095) (hk0 : 0 ≤ k) (hk : k ≤ 11) (hb : ¬ jxand (jxshr x k) 1 = 0) : pc (jxxor x (jxshl 1 k)) = pc x - 1 := by
  have h := and_shl hx0 hx hk0 hk hb
  have h2 := jxshl1_b k
  rw [xor_sub hx0 hx (by omega) (by omega) h.1, h.2]
/-- a set bit tells that the number is not below its power -/
theorem bit_le {x k : Int} (hx0 : 0 ≤ x) (hx : x ≤ 4095) (hk0 : 0 ≤ k) (hk : k ≤ 11) (hb : ¬ jxand (jxshr x k) 1 = 0) : jxshl 1 k ≤ x := by
  have h := and_shl hx0 hx hk0 hk hb
  have := jxand_r (jxshl 1 k) x hx0 (by omega)
  omega
theorem shl_mono {j k : Int} (hj0 : 0 ≤ j) (hj : j ≤ 12) (hk0 : 0 ≤ k) (hk : k ≤ 12) (h : jxshl 1 j < jxshl 1 k) : j < k := by
  have key : ∀ m : Nat, m < 13 → ∀ n : Nat, n < 13 → jxshl 1 (m : Int) < jxshl 1 (n : Int) → m < n := by decide +kernel
  obtain ⟨m, rfl⟩ := Int.eq_ofNat_of_zero_le hj0
  obtain ⟨n, rfl⟩ := Int.eq_ofNat_of_zero_le hk0
  have := key m (by omega) n (by omega) h
  omega
/-- a new bit -/
theorem pcn_or {m k : Nat} (hm : m < 4096) (hk : k < 12) (h : m.testBit k = false) : ∀ n : Nat, n ≤ 12 → pcn ((m ||| 2 ^ k : Nat) : Int) n = pcn (m : Int) n + if k < n then 1 else 0 := by
  intro n
  have hp : 2 ^ k < 2 ^ 12 := Nat.pow_lt_pow_right (by decide) hk
  induction n with
  | zero => intro _; rfl
  | succ n ih =>
    intro hn
    have hx : m ||| 2 ^ k < 2 ^ 12 := Nat.or_lt_two_pow (by omega) hp
    show pcn _ n + jxand (jxshr _ n) 1 = pcn _ n + jxand (jxshr _ n) 1 + _
    rw [ih (by omega), jxbit_nat _ _ (by omega) (by omega), jxbit_nat _ _ (by omega) (by omega), Nat.testBit_or, Nat.testBit_two_pow]
    by_cases hkn : k = n
    · subst hkn
      simp [h]
    · have e : decide (k = n) = false := by simp [hkn]
      rw [e, Bool.or_false]
      generalize (if m.testBit n = true then (1 : Int) else 0) = z
      by_cases h1 : k < n
      · rw [if_pos h1, if_pos (by omega)]; omega
      · rw [if_neg h1, if_neg (by omega)]; omega
theorem or_shl {x k : Int} (hx0 : 0 ≤ x) (hx : x ≤ 4095) (hk0 : 0 ≤ k) (hk : k ≤ 11) (hb : jxand (jxshr x k) 1 = 0) : pc (jxor x (jxshl 1 k)) = pc x + 1 ∧ ∀ j : Nat, j < 12 → ¬ jxand (jxshr (jxor x (jxshl 1 k)) j) 1 = 0 → (¬ jxand (jxshr x j) 1 = 0 ∨ (j : Int) = k) := by
  obtain ⟨m, rfl⟩ := Int.eq_ofNat_of_zero_le hx0
  obtain ⟨t, rfl⟩ := Int.eq_ofNat_of_zero_le hk0
  have ht : t < 12 := by omega
  have e := jxshl1_n t ht
  have hp : 2 ^ t < 2 ^ 12 := Nat.pow_lt_pow_right (by decide) ht
  have hx2 : m ||| 2 ^ t < 2 ^ 12 := Nat.or_lt_two_pow (by omega) hp
  rw [e, jxor_nat _ _ (by omega) (by omega)]
  rw [jxbit_nat _ _ (by omega) (by omega)] at hb
  have hb2 : m.testBit t = false := by
    cases h : m.testBit t
    · rfl
    · rw [h] at hb; simp at hb
  refine ⟨?_, fun j hj h => ?_⟩
  · have := pcn_or (by omega) ht hb2 12 (Nat.le_refl _)
    rw [if_pos ht] at this
    exact this
  · rw [jxbit_nat _ _ (by omega) (by omega), Nat.testBit_or, Nat.testBit_two_pow] at h
    rw [jxbit_nat _ _ (by omega) (by omega)]
    by_cases htj : t = j
    · right; omega
    · left
      intro h2
      apply h
      have e2 : decide (t = j) = false := by simp [htj]
      rw [e2, Bool.or_false]
      exact h2
/-! rows of a ring as one number -/
def nbv (f : Nat → Int) : Nat → Int
  | 0 => 0
  | n + 1 => nbv f n + f n * 16 ^ n
theorem nbv_lt {f : Nat → Int} : ∀ n : Nat, (∀ i, i < n → 0 ≤ f i ∧ f i < 12) → 0 ≤ nbv f n ∧ nbv f n < 16 ^ n := by
  intro n
  induction n with
  | zero =>
    intro _
    show (0 : Int) ≤ 0 ∧ (0 : Int) < 16 ^ 0
    decide
  | succ n ih =>
    intro h
    have h1 := ih (fun i hi => h i (by omega))
    have h2 := h n (by omega)
    have hp : (0 : Int) < 16 ^ n := Int.pow_pos (by decide)
    have h3 : 0 ≤ f n * 16 ^ n := Int.mul_nonneg h2.1 (by omega)
    have h4 : f n * 16 ^ n ≤ 15 * 16 ^ n := Int.mul_le_mul_of_nonneg_right (by omega) (by omega)
    rw [Int.pow_succ]
    show 0 ≤ nbv f n + f n * 16 ^ n ∧ nbv f n + f n * 16 ^ n < _
    omega
theorem nbv_or {x r : Int} {n : Nat} (hn : n < 5) (hx0 : 0 ≤ x) (hx : x < 16 ^ n) (hr0 : 0 ≤ r) (hr : r < 12) : jxor x (jxshl r (4 * (n : Int))) = x + r * 16 ^ n := by
  have key : ∀ m : Nat, m < 12 → ∀ n : Nat, n < 5 → jxshl (m : Int) (4 * (n : Int)) = ((2 ^ (4 * n) * m : Nat) : Int) := by decide +kernel
  obtain ⟨m, rfl⟩ := Int.eq_ofNat_of_zero_le hx0
  obtain ⟨t, rfl⟩ := Int.eq_ofNat_of_zero_le hr0
  have hp16 : ((16 : Int) ^ n) = ((2 ^ (4 * n) : Nat) : Int) := by
    rw [Nat.pow_mul, Int.natCast_pow]; rfl
  have hle : 2 ^ (4 * n) ≤ 2 ^ 16 := Nat.pow_le_pow_right (by decide) (by omega)
  have hml : 2 ^ (4 * n) * t ≤ 2 ^ (4 * n) * 11 := Nat.mul_le_mul_left _ (by omega)
  rw [hp16] at hx
  rw [key t (by omega) n hn, jxor_nat _ _ (by omega) (by omega), hp16, Nat.or_comm, ← Nat.two_pow_add_eq_or_of_lt (by omega)]
  rw [Int.natCast_add, Int.natCast_mul, Int.mul_comm (t : Int)]
  omega
theorem jxand15 {x : Int} (h0 : 0 ≤ x) (h1 : x < 2147483648) : jxand x 15 = x % 16 := by
  obtain ⟨m, rfl⟩ := Int.eq_ofNat_of_zero_le h0
  have := jxand_nat m 15 (by omega) (by decide)
  rw [show ((15 : Nat) : Int) = 15 from rfl] at this
  rw [this, Nat.and_two_pow_sub_one_eq_mod m 4]
  omega
theorem nbv_nib {f : Nat → Int} {n : Nat} (hn : n ≤ 5) (h : ∀ i, i < n → 0 ≤ f i ∧ f i < 12) : ∀ i : Nat, i < 5 → jxand (jxshr (nbv f n) (4 * (i : Int))) 15 < 12 := by
  intro i hi
  have hb := nbv_lt n h
  have hp : (16 : Int) ^ n ≤ 16 ^ 5 := by
    have : ∀ n : Nat, n ≤ 5 → (16 : Int) ^ n ≤ 16 ^ 5 := by decide
    exact this n hn
  have hs : jxshr (nbv f n) (4 * (i : Int)) = nbv f n / (2 : Int) ^ (4 * i) := by
    rw [jxshr_nat hb.1 (by omega) (by omega) (by omega)]
    congr 1
  rw [hs]
  have hq0 : 0 ≤ nbv f n / (2 : Int) ^ (4 * i) := Int.ediv_nonneg hb.1 (Int.le_of_lt (Int.pow_pos (by decide)))
  have hq1 : nbv f n / (2 : Int) ^ (4 * i) ≤ nbv f n := Int.ediv_le_self _ hb.1
  rw [jxand15 hq0 (by omega)]
  have e : ∀ m : Nat, nbv f (m + 1) = nbv f m + f m * 16 ^ m := fun _ => rfl
  have e0 : nbv f 0 = 0 := rfl
  have hN : n = 0 ∨ n = 1 ∨ n = 2 ∨ n = 3 ∨ n = 4 ∨ n = 5 := by omega
  have hI : i = 0 ∨ i = 1 ∨ i = 2 ∨ i = 3 ∨ i = 4 := by omega
  have hf : ∀ k, k < n → 0 ≤ f k ∧ f k < 12 := h
  rcases hN with rfl | rfl | rfl | rfl | rfl | rfl <;> (try have f0 := hf 0 (by decide)) <;> (try have f1 := hf 1 (by decide)) <;> (try have f2 := hf 2 (by decide)) <;> (try have f3 := hf 3 (by decide)) <;> (try have f4 := hf 4 (by decide)) <;> simp only [e, e0] <;> rcases hI with rfl | rfl | rfl | rfl | rfl <;> simp <;> omega
