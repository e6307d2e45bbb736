/-! longs -/
theorem jxwl_id {x : Int} (h1 : -9223372036854775808 ≤ x) (h2 : x < 9223372036854775808) : jxwl x = x := by
  unfold jxwl
  rw [Int.bmod_def]
  omega
theorem bvl_nn {B : BitVec 64} (h : B.toNat < 9223372036854775808) : B.toInt = (B.toNat : Int) := by
  rw [BitVec.toInt_eq_toNat_cond]
  rw [if_pos (by omega)]
theorem bvl_of {x : Int} (h0 : 0 ≤ x) (h1 : x < 9223372036854775808) : (BitVec.ofInt 64 x).toNat = x.toNat := by
  rw [BitVec.toNat_ofInt]
  congr 1
  omega
theorem jxandl_nat (m n : Nat) (hm : m < 9223372036854775808) (hn : n < 9223372036854775808) : jxandl (m : Int) (n : Int) = ((m &&& n : Nat) : Int) := by
  show (BitVec.ofInt 64 (m : Int) &&& BitVec.ofInt 64 (n : Int)).toInt = _
  have e : (BitVec.ofInt 64 (m : Int) &&& BitVec.ofInt 64 (n : Int)).toNat = m &&& n := by
    rw [BitVec.toNat_and, bvl_of (by omega) (by omega), bvl_of (by omega) (by omega), Int.toNat_natCast, Int.toNat_natCast]
  have l : m &&& n ≤ m := Nat.and_le_left
  rw [bvl_nn (by omega), e]
theorem jxorl_nat (m n : Nat) (hm : m < 4611686018427387904) (hn : n < 4611686018427387904) : jxorl (m : Int) (n : Int) = ((m ||| n : Nat) : Int) := by
  show (BitVec.ofInt 64 (m : Int) ||| BitVec.ofInt 64 (n : Int)).toInt = _
  have e : (BitVec.ofInt 64 (m : Int) ||| BitVec.ofInt 64 (n : Int)).toNat = m ||| n := by
    rw [BitVec.toNat_or, bvl_of (by omega) (by omega), bvl_of (by omega) (by omega), Int.toNat_natCast, Int.toNat_natCast]
  have l : m ||| n < 2 ^ 62 := Nat.or_lt_two_pow (by omega) (by omega)
  rw [bvl_nn (by omega), e]
theorem shlq {n : Nat} (h : n < 64) : (((Int32.ofInt (n : Int)).toInt64 &&& 63).toBitVec.smod 64).toNat = n := by
  have key : ∀ n : Nat, n < 64 → (((Int32.ofInt (n : Int)).toInt64 &&& 63).toBitVec.smod 64).toNat = n := by decide +kernel
  exact key n h
theorem jxshrl_nat (m k : Nat) (hm : m < 9223372036854775808) (hk : k < 64) : jxshrl (m : Int) (k : Int) = ((m / 2 ^ k : Nat) : Int) := by
  show ((Int64.ofInt (m : Int)).toBitVec.sshiftRight' (((Int32.ofInt (k : Int)).toInt64 &&& 63).toBitVec.smod 64)).toInt = _
  rw [BitVec.toInt_sshiftRight', shlq hk, Int.shiftRight_eq_div_pow]
  have e : (Int64.ofInt (m : Int)).toBitVec.toInt = (m : Int) := by
    show (BitVec.ofInt 64 (m : Int)).toInt = _
    rw [bvl_nn (by rw [bvl_of (by omega) (by omega)]; omega), bvl_of (by omega) (by omega)]
    omega
  rw [e]
  exact_mod_cast rfl
theorem jxshll_nat (m k : Nat) (hk : k < 64) (h : m * 2 ^ k < 9223372036854775808) : jxshll (m : Int) (k : Int) = ((m * 2 ^ k : Nat) : Int) := by
  have hm : m < 9223372036854775808 := Nat.lt_of_le_of_lt (Nat.le_mul_of_pos_right m (Nat.pow_pos (by decide))) h
  show ((Int64.ofInt (m : Int)).toBitVec <<< (((Int32.ofInt (k : Int)).toInt64 &&& 63).toBitVec.smod 64)).toInt = _
  have e : ((Int64.ofInt (m : Int)).toBitVec <<< (((Int32.ofInt (k : Int)).toInt64 &&& 63).toBitVec.smod 64)).toNat = m * 2 ^ k := by
    rw [BitVec.shiftLeft_eq', BitVec.toNat_shiftLeft, shlq hk]
    show ((BitVec.ofInt 64 (m : Int)).toNat <<< k) % 2 ^ 64 = _
    rw [bvl_of (by omega) (by omega), Int.toNat_natCast, Nat.shiftLeft_eq, Nat.mod_eq_of_lt (by omega)]
  rw [bvl_nn (by omega), e]
/-- a bit of a long -/
theorem bitl_nat (m k : Nat) (hm : m < 9223372036854775808) (hk : k < 64) : jxandl (jxshrl (m : Int) (k : Int)) 1 = if m.testBit k then 1 else 0 := by
  rw [jxshrl_nat m k hm hk]
  have l : m / 2 ^ k ≤ m := Nat.div_le_self _ _
  have e := jxandl_nat (m / 2 ^ k) 1 (by omega) (by decide)
  rw [show ((1 : Nat) : Int) = 1 from rfl] at e
  rw [e, Nat.and_one_is_mod]
  rw [Nat.testBit_eq_decide_div_mod_eq]
  by_cases c : m / 2 ^ k % 2 = 1
  · rw [c]; simp
  · rw [show m / 2 ^ k % 2 = 0 by omega]; simp
theorem pow40 {k : Nat} (h : k < 40) : 2 ^ k < 1099511627776 ∧ 2 ^ k * 2 = 2 ^ (k + 1) := by
  refine ⟨?_, (Nat.pow_succ 2 k).symm⟩
  have := Nat.pow_lt_pow_right (a := 2) (by decide) h
  exact this
/-- a member's bit is set -/
theorem orl_bit {x : Int} {k : Nat} (h0 : 0 ≤ x) (h1 : x < 1099511627776) (hk : k < 40) : 0 ≤ jxorl x (jxshll 1 (k : Int)) ∧ jxorl x (jxshll 1 (k : Int)) < 1099511627776 ∧ ∀ j : Nat, j < 40 → (jxandl (jxshrl (jxorl x (jxshll 1 (k : Int))) (j : Int)) 1 = 1 ↔ (jxandl (jxshrl x (j : Int)) 1 = 1 ∨ j = k)) := by
  obtain ⟨n, rfl⟩ : ∃ n : Nat, x = (n : Int) := ⟨x.toNat, by omega⟩
  have p := (pow40 hk).1
  have e1 : jxshll 1 (k : Int) = ((2 ^ k : Nat) : Int) := by
    have := jxshll_nat 1 k (by omega) (by omega)
    rw [show ((1 : Nat) : Int) = 1 from rfl, Nat.one_mul] at this
    exact this
  have l : n ||| 2 ^ k < 2 ^ 40 := Nat.or_lt_two_pow (by omega) (by omega)
  rw [e1, jxorl_nat n (2 ^ k) (by omega) (by omega)]
  refine ⟨by omega, by omega, fun j hj => ?_⟩
  rw [bitl_nat _ j (by omega) (by omega), bitl_nat n j (by omega) (by omega), Nat.testBit_or, Nat.testBit_two_pow]
  by_cases c : n.testBit j = true
  · rw [c]; simp
  · rw [Bool.not_eq_true] at c
    rw [c]
    by_cases d : k = j
    · rw [d]; simp
    · rw [decide_eq_false d]
      simp
      exact fun q => d q.symm
theorem bitl_01 {x : Int} {k : Nat} (h0 : 0 ≤ x) (h1 : x < 9223372036854775808) (hk : k < 64) : jxandl (jxshrl x (k : Int)) 1 = 0 ∨ jxandl (jxshrl x (k : Int)) 1 = 1 := by
  obtain ⟨n, rfl⟩ : ∃ n : Nat, x = (n : Int) := ⟨x.toNat, by omega⟩
  rw [bitl_nat n k (by omega) hk]
  split
  · exact Or.inr rfl
  · exact Or.inl rfl
theorem bitl_0 (k : Nat) (hk : k < 64) : jxandl (jxshrl 0 (k : Int)) 1 = 0 := by
  have := bitl_nat 0 k (by decide) hk
  rw [Nat.zero_testBit] at this
  exact this
