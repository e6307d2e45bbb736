/-! rings, the class: seats and their links -/
def opq (r : Nat → Int) (i : Nat) : Int := if r i = 0 then 1 else 0
/-- the first twelve that are open: m of the row looked at -/
def SEAT (r : Nat → Int) (N n : Nat) (row : Nat → Int) : Prop := ∃ m, m ≤ N ∧ n ≤ 12 ∧ GATH (opq r) (fun i => (i : Int)) m n row ∧ (m = N ∨ n = 12)
theorem CNTP_mono (p : Nat → Int) {m : Nat} : ∀ {m2}, m ≤ m2 → CNTP p m ≤ CNTP p m2
  | 0, h => by rw [show m = 0 from by omega]; exact Nat.le_refl _
  | m2 + 1, h => by
    by_cases c : m = m2 + 1
    · rw [c]; exact Nat.le_refl _
    · have ih := CNTP_mono p (m := m) (m2 := m2) (by omega)
      by_cases d : p m2 = 0
      · rw [CNTP_no d]; exact ih
      · rw [CNTP_yes d]; omega
theorem SEAT_half {p l : Nat → Int} {m m2 n n2 : Nat} {row row2 : Nat → Int} (h : GATH p l m n row) (h2 : GATH p l m2 n2 row2) (hm : m ≤ m2) {j : Nat} (hj : j < n) : row j = row2 j := by
  rw [h.1] at hj
  obtain ⟨i, a, b, d⟩ := CNTP_inv hj
  rw [← d, h.2 i a b, h2.2 i (by omega) b]
theorem SEAT_det {r : Nat → Int} {N n n2 : Nat} {row row2 : Nat → Int} (h : SEAT r N n row) (h2 : SEAT r N n2 row2) : n = n2 ∧ ∀ j, j < n → row j = row2 j := by
  obtain ⟨m, a1, a2, a3, a4⟩ := h
  obtain ⟨m2, b1, b2, b3, b4⟩ := h2
  have e : n = n2 := by
    rcases Nat.le_total m m2 with c | c
    · have q := CNTP_mono (opq r) c
      rw [← a3.1, ← b3.1] at q
      rcases a4 with z | z
      · have e2 : m = m2 := by omega
        rw [e2] at a3
        rw [a3.1, b3.1]
      · omega
    · have q := CNTP_mono (opq r) c
      rw [← a3.1, ← b3.1] at q
      rcases b4 with z | z
      · have e2 : m = m2 := by omega
        rw [e2] at a3
        rw [a3.1, b3.1]
      · omega
  refine ⟨e, fun j hj => ?_⟩
  rcases Nat.le_total m m2 with c | c
  · exact SEAT_half a3 b3 c hj
  · exact (SEAT_half b3 a3 c (by omega)).symm
theorem SEAT_rg {r : Nat → Int} {N n : Nat} {row : Nat → Int} (h : SEAT r N n row) {j : Nat} (hj : j < n) : 0 ≤ row j ∧ row j < N ∧ r (row j).toNat = 0 := by
  obtain ⟨m, a1, a2, a3, a4⟩ := h
  obtain ⟨i, b1, b2, b3⟩ := GATH_of a3 hj
  rw [b3]
  refine ⟨by omega, by omega, ?_⟩
  rw [Int.toNat_natCast]
  unfold opq at b2
  by_cases c : r i = 0
  · exact c
  · rw [if_neg c] at b2; exact absurd rfl b2
/-- a row of bits so far -/
def RB (x : Int) (f : Nat → Bool) (y : Nat) : Prop := 0 ≤ x ∧ x ≤ 4095 ∧ ∀ j, x.toNat.testBit j = (decide (j < y) && f j)
theorem RB_0 (f : Nat → Bool) : RB 0 f 0 := ⟨by decide, by decide, fun j => by
  rw [show (0 : Int).toNat = 0 from rfl, Nat.zero_testBit, decide_eq_false (Nat.not_lt_zero j)]; rfl⟩
theorem RB_no {x : Int} {f : Nat → Bool} {y : Nat} (h : RB x f y) (c : f y = false) : RB x f (y + 1) := ⟨h.1, h.2.1, fun j => by
  rw [h.2.2 j]
  by_cases e : j = y
  · rw [e, c]; simp
  · by_cases d : j < y
    · rw [decide_eq_true d, decide_eq_true (show j < y + 1 by omega)]
    · rw [decide_eq_false d, decide_eq_false (show ¬ j < y + 1 by omega)]⟩
theorem RB_yes {x : Int} {f : Nat → Bool} {y : Int} (y0 : 0 ≤ y) (y1 : y < 12) (h : RB x f y.toNat) (c : f y.toNat = true) : RB (jxor x (jxshl 1 y)) f (y.toNat + 1) := by
  obtain ⟨h0, h1, h2⟩ := h
  have s1 := jxshl1_n y.toNat (by omega)
  rw [Int.toNat_of_nonneg y0] at s1
  have p2 : 2 ^ y.toNat ≤ 2048 := Nat.pow_le_pow_right (n := 2) (by decide) (show y.toNat ≤ 11 by omega)
  have q := jxor_nat x.toNat (2 ^ y.toNat) (by omega) (by omega)
  rw [Int.toNat_of_nonneg h0] at q
  have l : x.toNat ||| 2 ^ y.toNat < 2 ^ 12 := Nat.or_lt_two_pow (by omega) (by omega)
  rw [s1, q]
  refine ⟨by omega, by omega, fun j => ?_⟩
  rw [Int.toNat_natCast, Nat.testBit_or, h2 j, Nat.testBit_two_pow]
  by_cases e : j = y.toNat
  · rw [e, c]; simp
  · rw [decide_eq_false (show ¬ y.toNat = j from fun z => e z.symm), Bool.or_false]
    by_cases d : j < y.toNat
    · rw [decide_eq_true d, decide_eq_true (show j < y.toNat + 1 by omega)]
    · rw [decide_eq_false d, decide_eq_false (show ¬ j < y.toNat + 1 by omega)]
def kC (a b : Nat → Nat → Int) (i j : Nat) : Bool := decide (¬ f_X3_areKin a b (f_X4_memberOf a b (a 91 i)) (f_X4_memberOf a b (a 91 j)) = 0)
def gC (a b : Nat → Nat → Int) (i j : Nat) : Bool := decide (f_X3_areKin a b (f_X4_memberOf a b (a 91 i)) (f_X4_memberOf a b (a 91 j)) = 0 ∧ jxand (jxshr (f_X4_wantsOf a b (a 91 j)) (f_X4_kindOf a b (a 91 i))) 1 = 1)
theorem kC_self (a b : Nat → Nat → Int) (i : Nat) : kC a b i i = true := by
  unfold kC
  refine decide_eq_true ?_
  unfold f_X3_areKin
  rw [if_pos rfl]
  decide
theorem link_fr {a a1 b b1 : Nat → Nat → Int} (e46 : a1 4 6 = a 4 6) (e836 : a1 83 6 = a 83 6) (r7 : a1 7 = a 7) (r84 : a1 84 = a 84) (r85 : a1 85 = a 85) (r86 : a1 86 = a 86) (r91 : a1 91 = a 91) : (∀ i j, f_X3_areKin a1 b1 (f_X4_memberOf a1 b1 (a1 91 i)) (f_X4_memberOf a1 b1 (a1 91 j)) = f_X3_areKin a b (f_X4_memberOf a b (a 91 i)) (f_X4_memberOf a b (a 91 j))) ∧ ∀ i j, jxand (jxshr (f_X4_wantsOf a1 b1 (a1 91 j)) (f_X4_kindOf a1 b1 (a1 91 i))) 1 = jxand (jxshr (f_X4_wantsOf a b (a 91 j)) (f_X4_kindOf a b (a 91 i))) 1 := by
  have m : ∀ x, f_X4_memberOf a1 b1 x = f_X4_memberOf a b x := fun x => by
    unfold f_X4_memberOf f_X11_entry_r84
    rw [e836, r84]
  have w : ∀ x, f_X4_wantsOf a1 b1 x = f_X4_wantsOf a b x := fun x => by
    unfold f_X4_wantsOf f_X4_has
    rw [e836, r86]
  have kd : ∀ x, f_X4_kindOf a1 b1 x = f_X4_kindOf a b x := fun x => by
    unfold f_X4_kindOf f_X11_entry_r85
    rw [e836, r85]
  refine ⟨fun i j => ?_, fun i j => ?_⟩
  · rw [m, m, r91, areKin_fr (b := b) e46 r7]
  · rw [w, kd, r91]
theorem GRF_of {a0 b0 a : Nat → Nat → Int} {n : Nat} (e3 : a 90 3 = (n : Int)) (h12 : n ≤ 12) (h : ∀ i, i < n → RB (a 92 i) (gC a0 b0 i) n ∧ RB (a 93 i) (kC a0 b0 i) n) : GRF a n (gC a0 b0) (kC a0 b0) := by
  refine ⟨e3, h12, kC_self a0 b0, fun i hi => ⟨(h i hi).1.1, (h i hi).1.2.1, (h i hi).2.1, (h i hi).2.2.1⟩, fun i j hi hj => ⟨?_, ?_⟩⟩
  · rw [(h i hi).1.2.2 j, decide_eq_true hj]; rfl
  · rw [(h i hi).2.2.2 j, decide_eq_true hj]; rfl
/-! how many bits -/
theorem jxushr_nat {m k : Nat} (hm : m < 2147483648) (hk : k < 32) : jxushr (m : Int) (k : Int) = ((m / 2 ^ k : Nat) : Int) := by
  have hs : ((Int32.ofInt (k : Int)).toUInt32 &&& Int32.toUInt32 31).toBitVec.toNat % 32 = k := by
    have key : ∀ k : Nat, k < 32 → ((Int32.ofInt (k : Int)).toUInt32 &&& Int32.toUInt32 31).toBitVec.toNat % 32 = k := by decide +kernel
    exact key k hk
  have e : jxushr (m : Int) (k : Int) = ((BitVec.ofInt 32 (m : Int)) >>> (((Int32.ofInt (k : Int)).toUInt32 &&& Int32.toUInt32 31).toBitVec.toNat % 32)).toInt := rfl
  rw [e, hs]
  have t : ((BitVec.ofInt 32 (m : Int)) >>> k).toNat = m / 2 ^ k := by
    rw [BitVec.toNat_ushiftRight, bv_of (by omega) (by omega), Int.toNat_natCast, Nat.shiftRight_eq_div_pow]
  have l : m / 2 ^ k ≤ m := Nat.div_le_self _ _
  rw [bv_nn (by omega), t]
def bc1 (x : Nat) : Nat := x - (x / 2 &&& 1431655765)
def bc2 (x : Nat) : Nat := (bc1 x &&& 858993459) + (bc1 x / 4 &&& 858993459)
def bc3 (x : Nat) : Nat := (bc2 x + bc2 x / 16) &&& 252645135
def bc4 (x : Nat) : Nat := bc3 x + bc3 x / 256
def bc5 (x : Nat) : Nat := (bc4 x + bc4 x / 65536) &&& 63
theorem bc_all : ∀ h : Nat, h < 64 → ∀ l : Nat, l < 64 → bc5 (64 * h + l) = popn 12 (64 * h + l) := by decide +kernel
theorem bitCount_at {a b : Nat → Nat → Int} {x : Int} (h0 : 0 ≤ x) (h1 : x ≤ 4095) : f_J6_bitCount_0f7a4 a b x = ((popn 12 x.toNat : Nat) : Int) := by
  obtain ⟨n, rfl⟩ : ∃ n : Nat, x = (n : Int) := ⟨x.toNat, by omega⟩
  rw [Int.toNat_natCast]
  have hn : n < 4096 := by omega
  have key := bc_all (n / 64) (by omega) (n % 64) (Nat.mod_lt _ (by decide))
  rw [show 64 * (n / 64) + n % 64 = n from by omega] at key
  rw [← key]
  have l1 : (n / 2 &&& 1431655765) ≤ n / 2 := Nat.and_le_left
  have b1 : bc1 n ≤ 4095 := by unfold bc1; omega
  have l2 : (bc1 n &&& 858993459) ≤ bc1 n := Nat.and_le_left
  have l3 : (bc1 n / 4 &&& 858993459) ≤ bc1 n / 4 := Nat.and_le_left
  have b2 : bc2 n ≤ 6000 := by unfold bc2; omega
  have l4 : ((bc2 n + bc2 n / 16) &&& 252645135) ≤ bc2 n + bc2 n / 16 := Nat.and_le_left
  have b3 : bc3 n ≤ 7000 := by unfold bc3; omega
  have b4 : bc4 n ≤ 8000 := by unfold bc4; omega
  have s1 : jxw ((n : Int) - (jxand (jxushr (n : Int) 1) 1431655765)) = ((bc1 n : Nat) : Int) := by
    have u := jxushr_nat (m := n) (k := 1) (by omega) (by decide)
    rw [show ((1 : Nat) : Int) = 1 from rfl] at u
    have v := jxand_nat (n / 2 ^ 1) 1431655765 (by omega) (by decide)
    rw [show ((1431655765 : Nat) : Int) = 1431655765 from rfl] at v
    rw [u, v, show n / 2 ^ 1 = n / 2 from rfl]
    unfold bc1
    rw [jxw_id (by omega) (by omega)]
    omega
  have s2 : jxw ((jxand ((bc1 n : Nat) : Int) 858993459) + (jxand (jxushr ((bc1 n : Nat) : Int) 2) 858993459)) = ((bc2 n : Nat) : Int) := by
    have u := jxushr_nat (m := bc1 n) (k := 2) (by omega) (by decide)
    rw [show ((2 : Nat) : Int) = 2 from rfl] at u
    have v := jxand_nat (bc1 n) 858993459 (by omega) (by decide)
    have w := jxand_nat (bc1 n / 2 ^ 2) 858993459 (by omega) (by decide)
    rw [show ((858993459 : Nat) : Int) = 858993459 from rfl] at v w
    rw [u, v, w, show bc1 n / 2 ^ 2 = bc1 n / 4 from rfl]
    unfold bc2
    rw [jxw_id (by omega) (by omega)]
    omega
  have s3 : jxand (jxw (((bc2 n : Nat) : Int) + (jxushr ((bc2 n : Nat) : Int) 4))) 252645135 = ((bc3 n : Nat) : Int) := by
    have u := jxushr_nat (m := bc2 n) (k := 4) (by omega) (by decide)
    rw [show ((4 : Nat) : Int) = 4 from rfl] at u
    rw [u, show bc2 n / 2 ^ 4 = bc2 n / 16 from rfl, jxw_id (by omega) (by omega)]
    have v := jxand_nat (bc2 n + bc2 n / 16) 252645135 (by omega) (by decide)
    rw [show ((252645135 : Nat) : Int) = 252645135 from rfl] at v
    rw [show ((bc2 n : Nat) : Int) + ((bc2 n / 16 : Nat) : Int) = ((bc2 n + bc2 n / 16 : Nat) : Int) from by omega, v]
    rfl
  have s4 : jxw (((bc3 n : Nat) : Int) + (jxushr ((bc3 n : Nat) : Int) 8)) = ((bc4 n : Nat) : Int) := by
    have u := jxushr_nat (m := bc3 n) (k := 8) (by omega) (by decide)
    rw [show ((8 : Nat) : Int) = 8 from rfl] at u
    rw [u, show bc3 n / 2 ^ 8 = bc3 n / 256 from rfl]
    unfold bc4
    rw [jxw_id (by omega) (by omega)]
    omega
  have s5 : jxand (jxw (((bc4 n : Nat) : Int) + (jxushr ((bc4 n : Nat) : Int) 16))) 63 = ((bc5 n : Nat) : Int) := by
    have u := jxushr_nat (m := bc4 n) (k := 16) (by omega) (by decide)
    rw [show ((16 : Nat) : Int) = 16 from rfl] at u
    rw [u, show bc4 n / 2 ^ 16 = bc4 n / 65536 from rfl, jxw_id (by omega) (by omega)]
    have v := jxand_nat (bc4 n + bc4 n / 65536) 63 (by omega) (by decide)
    rw [show ((63 : Nat) : Int) = 63 from rfl] at v
    rw [show ((bc4 n : Nat) : Int) + ((bc4 n / 65536 : Nat) : Int) = ((bc4 n + bc4 n / 65536 : Nat) : Int) from by omega, v]
    rfl
  unfold f_J6_bitCount_0f7a4 f_J6_bitCount_0f7a4_at24
  rw [s1, s2, s3]
  first
    | (unfold f_J6_bitCount_0f7a4_at41; rw [s4, s5])
    | (rw [s4]; unfold f_J6_bitCount_0f7a4_at41; rw [s5])
