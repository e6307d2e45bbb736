/-! THE SMALL MACHINE AND THE MACHINE: what a heap of the small machine says of the machine's heap; each instruction of the one is one of the other. -/
def jxsio : Nat → Value
  | 0 => .null
  | t + 1 => .ref t
def jxg (B : Nat) (ad : Nat → Nat) : jxV → Value
  | .inl a => .int (Int32.ofInt a)
  | .inr (.inl a) => .long (Int64.ofInt a)
  | .inr (.inr (.inl r)) => if r = 4000 then jxsio (ad 4000) else .ref (if r < 1000 then B + r else ad r)
  | .inr (.inr (.inr (g, i))) => .ref (B + g + 1 + i.toNat)
def jxin (x : Int) : Prop := -2147483648 ≤ x ∧ x < 2147483648
def jxinl (x : Int) : Prop := -9223372036854775808 ≤ x ∧ x < 9223372036854775808
def jxokV : jxV → Prop
  | .inl a => jxin a
  | .inr (.inl a) => jxinl a
  | _ => True
def jxfld (B : Nat) (ad : Nat → Nat) (S : jxS) (k j c : Nat) : Value := match c with
  | 0 => .int (Int32.ofInt (S.2.1 k j))
  | 1 => .long (Int64.ofInt (S.2.2 k j))
  | 2 => .null
  | n + 3 => if n = 4000 then jxsio (ad 4000) else .ref (if n < 1000 then B + n else ad n)
def jxcell (B : Nat) (ad : Nat → Nat) (ac : Nat → ClassId) (S : jxS) (k : Nat) (kd : jxK) : va_E := match kd with
  | (0, ci, rs) => .inr (ci, (List.range rs.length).map (fun j => jxfld B ad S k j (rs.getD j 0)))
  | (2, n, _) => .inl (ac 2, n, .inr (.inl (fun j => Int64.ofInt (S.2.2 k j))))
  | (5, n, _) => .inl (ac 5, n, .inr (.inr (.inr (.inr (fun i => some (B + k + 1 + i))))))
  | (6, m, [g, i]) => .inl (ac 1, m, .inl (fun j => Int32.ofInt (S.2.1 g (i * m + j))))
  | (t, n, _) => .inl (ac t, n, .inl (fun j => Int32.ofInt (S.2.1 k j)))
def jxPh (B : Nat) (ad : Nat → Nat) (ac : Nat → ClassId) (D : va_G) (S : jxS) (H : Heap) : Prop := ∀ (k : Nat) (kd : jxK), S.1[k]? = some kd → va_at D vwCl (B + k, jxcell B ad ac S k kd) H
/-- a heap of the small machine is in order -/
def jxokS (S : jxS) : Prop := S.1.length ≤ 1000 ∧ (∀ k j, jxin (S.2.1 k j)) ∧ (∀ k j, jxinl (S.2.2 k j)) ∧ (∀ k j, S.1.length ≤ k → S.2.1 k j = 0 ∧ S.2.2 k j = 0) ∧
  (∀ g n m w, S.1[g]? = some (5, n, m :: w) → ∀ i, i < n → S.1[g + 1 + i]? = some (6, m, [g, i])) ∧
  (∀ k m g i, S.1[k]? = some (6, m, [g, i]) → ∃ n w, S.1[g]? = some (5, n, m :: w) ∧ i < n ∧ k = g + 1 + i) ∧
  (∀ (k t n : Nat) (w : List Nat), S.1[k]? = some (t, n, w) → t ≤ 6 ∧ (t = 6 → ∃ g i, w = [g, i]) ∧ n ≤ 100000)
theorem jx_in (x : Int32) : jxin x.toInt := ⟨Int32.le_toInt x, Int32.toInt_lt x⟩
theorem jx_inl (x : Int64) : jxinl x.toInt := ⟨Int64.le_toInt x, Int64.toInt_lt x⟩
theorem jx_ti {x : Int} (h : jxin x) : (Int32.ofInt x).toInt = x := Int32.toInt_ofInt_of_le h.1 h.2
theorem jx_til {x : Int} (h : jxinl x) : (Int64.ofInt x).toInt = x := Int64.toInt_ofInt_of_le h.1 h.2
theorem jx_of (x : Int32) : Int32.ofInt x.toInt = x := Int32.ofInt_toInt x
theorem jx_ofl (x : Int64) : Int64.ofInt x.toInt = x := Int64.ofInt_toInt x
theorem jx_bt {x : Int32} {y : Int} (h : x.toInt = jxw y) : x = Int32.ofInt (jxw y) := by rw [← h, jx_of]
theorem jx_btl {x : Int64} {y : Int} (h : x.toInt = jxwl y) : x = Int64.ofInt (jxwl y) := by rw [← h, jx_ofl]
theorem jx_w_in (x : Int) : jxin (jxw x) := by unfold jxin jxw; constructor <;> simp only [Int.bmod] <;> split <;> omega
theorem jx_wl_in (x : Int) : jxinl (jxwl x) := by unfold jxinl jxwl; constructor <;> simp only [Int.bmod] <;> split <;> omega
theorem jx_add {a b : Int} (ha : jxin a) (hb : jxin b) : Int32.ofInt a + Int32.ofInt b = Int32.ofInt (jxw (a + b)) := jx_bt (by rw [Int32.toInt_add, jx_ti ha, jx_ti hb]; rfl)
theorem jx_sub {a b : Int} (ha : jxin a) (hb : jxin b) : Int32.ofInt a - Int32.ofInt b = Int32.ofInt (jxw (a - b)) := jx_bt (by rw [Int32.toInt_sub, jx_ti ha, jx_ti hb]; rfl)
theorem jx_mul {a b : Int} (ha : jxin a) (hb : jxin b) : Int32.ofInt a * Int32.ofInt b = Int32.ofInt (jxw (a * b)) := jx_bt (by rw [Int32.toInt_mul, jx_ti ha, jx_ti hb]; rfl)
theorem jx_neg {a : Int} (ha : jxin a) : -Int32.ofInt a = Int32.ofInt (jxw (-a)) := jx_bt (by rw [Int32.toInt_neg, jx_ti ha]; rfl)
theorem jx_div {a b : Int} (ha : jxin a) (hb : jxin b) : Int32.ofInt a / Int32.ofInt b = Int32.ofInt (jxw (a.tdiv b)) := jx_bt (by rw [Int32.toInt_div, jx_ti ha, jx_ti hb]; rfl)
theorem jx_rem {a b : Int} (ha : jxin a) (hb : jxin b) : Int32.ofInt a - Int32.ofInt a / Int32.ofInt b * Int32.ofInt b = Int32.ofInt (jxw (a.tmod b)) := jx_bt (by
  rw [Int32.toInt_sub, Int32.toInt_mul, Int32.toInt_div, jx_ti ha, jx_ti hb]
  show Int.bmod _ 4294967296 = Int.bmod _ 4294967296
  have e1 : ((a.tdiv b).bmod (2 ^ 32) * b).bmod (2 ^ 32) = (a.tdiv b * b).bmod (2 ^ 32) := Int.bmod_mul_bmod
  rw [e1, show (4294967296 : Nat) = 2 ^ 32 from rfl, Int.sub_bmod_bmod, Int.tmod_def, Int.mul_comm b])
theorem jx_addl {a b : Int} (ha : jxinl a) (hb : jxinl b) : Int64.ofInt a + Int64.ofInt b = Int64.ofInt (jxwl (a + b)) := jx_btl (by rw [Int64.toInt_add, jx_til ha, jx_til hb]; rfl)
theorem jx_subl {a b : Int} (ha : jxinl a) (hb : jxinl b) : Int64.ofInt a - Int64.ofInt b = Int64.ofInt (jxwl (a - b)) := jx_btl (by rw [Int64.toInt_sub, jx_til ha, jx_til hb]; rfl)
theorem jx_mull {a b : Int} (ha : jxinl a) (hb : jxinl b) : Int64.ofInt a * Int64.ofInt b = Int64.ofInt (jxwl (a * b)) := jx_btl (by rw [Int64.toInt_mul, jx_til ha, jx_til hb]; rfl)
theorem jx_i2l {a : Int} (ha : jxin a) : (Int32.ofInt a).toInt64 = Int64.ofInt a := by
  apply Int64.toInt_inj.mp
  rw [Int32.toInt_toInt64, jx_ti ha, jx_til ⟨by have := ha.1; omega, by have := ha.2; omega⟩]
theorem jx_l2i {a : Int} (ha : jxinl a) : (Int64.ofInt a).toInt32 = Int32.ofInt (jxw a) := jx_bt (by rw [Int64.toInt_toInt32, jx_til ha]; rfl)
theorem jx_eq {a b : Int} (ha : jxin a) (hb : jxin b) : Int32.ofInt a = Int32.ofInt b ↔ a = b := by rw [← Int32.toInt_inj, jx_ti ha, jx_ti hb]
theorem jx_lt {a b : Int} (ha : jxin a) (hb : jxin b) : Int32.ofInt a < Int32.ofInt b ↔ a < b := by rw [Int32.lt_iff_toInt_lt, jx_ti ha, jx_ti hb]
theorem jx_le {a b : Int} (ha : jxin a) (hb : jxin b) : Int32.ofInt a ≤ Int32.ofInt b ↔ a ≤ b := by rw [Int32.le_iff_toInt_le, jx_ti ha, jx_ti hb]
theorem jx_cmp {a b : Int} (ha : jxinl a) (hb : jxinl b) : lg_cmp (Int64.ofInt a) (Int64.ofInt b) = Int32.ofInt (jxlcmp a b) := by
  unfold lg_cmp jxlcmp
  have h1 : Int64.ofInt a > Int64.ofInt b ↔ b < a := by show Int64.ofInt b < Int64.ofInt a ↔ _; rw [Int64.lt_iff_toInt_lt, jx_til ha, jx_til hb]
  have h2 : Int64.ofInt a = Int64.ofInt b ↔ a = b := by rw [← Int64.toInt_inj, jx_til ha, jx_til hb]
  by_cases h : b < a
  · rw [if_pos (h1.mpr h), if_neg (by omega), if_neg (by omega)]; rfl
  · rw [if_neg (fun q => h (h1.mp q))]
    by_cases e : a = b
    · rw [if_pos (h2.mpr e), if_neg (by omega), if_pos e]; rfl
    · rw [if_neg (fun q => e (h2.mp q)), if_pos (by omega)]; rfl
theorem jx_nat2 {i : Int} {n : Nat} (hi : jxin i) (h : 0 ≤ i ∧ i < (n : Int)) : (Int32.ofInt i).toNatClampNeg = i.toNat ∧ vp_in (Int32.ofInt i) n ∧ i.toNat < n := by
  have e : (Int32.ofInt i).toNatClampNeg = i.toNat := by
    unfold Int32.toNatClampNeg
    rw [jx_ti hi]
  refine ⟨e, ?_, by omega⟩
  unfold vp_in
  rw [e]
  rintro (h0 | h0)
  · rw [show (0 : Int32) = Int32.ofInt 0 from rfl, jx_lt hi ⟨by omega, by omega⟩] at h0
    omega
  · omega
theorem jx_ofn (n : Nat) : Int32.ofInt (n : Int) = Int32.ofNat n := by
  apply Int32.toInt_inj.mp
  rw [Int32.toInt_ofInt, Int32.toInt_ofNat']
theorem jx_nat {i : Int} {n : Nat} (h : 0 ≤ i ∧ i < (n : Int)) (hn : n ≤ 100000) : (Int32.ofInt i).toNatClampNeg = i.toNat ∧ vp_in (Int32.ofInt i) n ∧ i.toNat < n := by
  have hi : jxin i := ⟨by omega, by omega⟩
  have e : (Int32.ofInt i).toNatClampNeg = i.toNat := by
    unfold Int32.toNatClampNeg
    rw [jx_ti hi]
  refine ⟨e, ?_, by omega⟩
  unfold vp_in
  rw [e]
  rintro (h0 | h0)
  · rw [show (0 : Int32) = Int32.ofInt 0 from rfl, jx_lt hi ⟨by omega, by omega⟩] at h0
    omega
  · omega
