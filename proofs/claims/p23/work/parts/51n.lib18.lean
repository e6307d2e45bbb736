/-! wishes: what they come to (draft, for p9) -/
theorem nxor1 (m : Nat) : (m ^^^ 1) / 2 = m / 2 ∧ ((m ^^^ 1) % 2 = 1 ↔ ¬ m % 2 = 1) := by
  constructor
  · rw [Nat.xor_div_two]; simp
  · rw [Nat.xor_mod_two_eq_one]; omega
theorem nor01 (m b : Nat) (hb : b = 0 ∨ b = 1) : (m ||| b) / 2 = m / 2 ∧ ((m ||| b) % 2 = 1 ↔ m % 2 = 1 ∨ b = 1) := by
  constructor
  · rw [Nat.or_div_two]; rcases hb with h | h <;> rw [h] <;> simp
  · rw [Nat.or_mod_two_eq_one]; omega
theorem bit_not (n : Nat) (hn : n < 8192) : jxxor (n : Int) 1 = if n % 2 = 0 then (n : Int) + 1 else (n : Int) - 1 := by
  have e := jxxor_nat n 1 (by omega) (by decide)
  have q := nxor1 n
  show jxxor (n : Int) ((1 : Nat) : Int) = _
  rw [e]
  by_cases c : n % 2 = 0
  · rw [if_pos c]; omega
  · rw [if_neg c]; omega
theorem jxand_m2 (m : Nat) (hm : m < 2147483648) : jxand (m : Int) (-2) = ((m / 2 * 2 : Nat) : Int) := by
  rw [jxand_eq]
  have e : (BitVec.ofInt 32 (m : Int) &&& BitVec.ofInt 32 (-2)).toNat = m &&& 4294967294 := by
    rw [BitVec.toNat_and, bv_of (by omega) (by omega), Int.toNat_natCast]
    rfl
  have l : m &&& 4294967294 ≤ m := Nat.and_le_left
  have d : (m &&& 4294967294) / 2 = m / 2 := by
    rw [Nat.and_div_two, show 4294967294 / 2 = 2 ^ 31 - 1 from rfl, Nat.and_two_pow_sub_one_eq_mod]
    omega
  have o : ¬ (m &&& 4294967294) % 2 = 1 := by
    rw [Nat.and_mod_two_eq_one]; omega
  rw [bv_nn (by omega), e]
  omega
theorem jxand_m1 (m : Nat) (hm : m < 2147483648) : jxand (m : Int) (-1) = (m : Int) := by
  rw [jxand_eq]
  have e : (BitVec.ofInt 32 (m : Int) &&& BitVec.ofInt 32 (-1)).toNat = m &&& 4294967295 := by
    rw [BitVec.toNat_and, bv_of (by omega) (by omega), Int.toNat_natCast]
    rfl
  have d : m &&& 4294967295 = m := by
    rw [show 4294967295 = 2 ^ 32 - 1 from rfl, Nat.and_two_pow_sub_one_eq_mod]
    omega
  rw [bv_nn (by omega), e, d]
theorem shr1 (n : Nat) (hn : n < 8192) : jxshr (n : Int) 1 = ((n / 2 : Nat) : Int) := by
  rw [jxshr_nat (by omega) (by omega) (by decide) (by decide)]
  show (n : Int) / 2 ^ 1 = _
  omega
theorem and1 (n : Nat) (hn : n < 8192) : jxand (n : Int) 1 = ((n % 2 : Nat) : Int) := by
  rw [jxand1 (by omega) (by omega)]
  omega
theorem bit_and (n : Nat) (hn : n < 8192) : jxand (jxshr (n : Int) 1) (jxor (jxand (n : Int) 1) (-2)) = if n % 2 = 0 then ((n / 2 / 2 * 2 : Nat) : Int) else ((n / 2 : Nat) : Int) := by
  rw [shr1 n hn, and1 n hn]
  by_cases c : n % 2 = 0
  · rw [if_pos c, c, show jxor ((0 : Nat) : Int) (-2) = -2 by decide +kernel, jxand_m2 _ (by omega)]
  · rw [if_neg c, show n % 2 = 1 by omega, show jxor ((1 : Nat) : Int) (-2) = -1 by decide +kernel, jxand_m1 _ (by omega)]
theorem bit_or (n : Nat) (hn : n < 8192) : jxor (jxshr (n : Int) 1) (jxand (n : Int) 1) = if n % 2 = 0 then ((n / 2 : Nat) : Int) else ((n / 2 / 2 * 2 + 1 : Nat) : Int) := by
  rw [shr1 n hn, and1 n hn, jxor_nat _ _ (by omega) (by omega)]
  have q := nor01 (n / 2) (n % 2) (by omega)
  by_cases c : n % 2 = 0
  · rw [if_pos c]; omega
  · rw [if_neg c]; omega
theorem shl1 {x : Int} (h0 : 0 ≤ x) (h1 : x < 1073741824) : jxshl x 1 = 2 * x := by
  have hs : (Int32.ofInt 1 &&& 31).toBitVec.smod 32 = 1#32 := by decide +kernel
  show (BitVec.ofInt 32 x <<< ((Int32.ofInt 1 &&& 31).toBitVec.smod 32)).toInt = _
  rw [hs]
  have e : (BitVec.ofInt 32 x <<< (1#32)).toNat = (2 * x).toNat := by
    rw [BitVec.shiftLeft_eq', BitVec.toNat_shiftLeft, bv_of h0 (by omega)]
    show (x.toNat <<< 1) % 2 ^ 32 = _
    rw [Nat.shiftLeft_eq]
    omega
  rw [bv_nn (by omega), e]
  omega
theorem bit_p (n b : Nat) (hn : n < 4096) (hb : b = 0 ∨ b = 1) : jxor (jxshl (n : Int) 1) (b : Int) = ((2 * n + b : Nat) : Int) := by
  rw [shl1 (by omega) (by omega), show 2 * (n : Int) = ((2 * n : Nat) : Int) by omega, jxor_nat _ _ (by omega) (by omega)]
  have q := nor01 (2 * n) b hb
  omega
def enot : List Int → List Int
  | [] => []
  | b :: r => (if b = 0 then 1 else 0) :: r
def eand : List Int → List Int
  | b :: c :: r => (if c = 0 then 0 else if b = 0 then 0 else 1) :: r
  | _ => []
def eor : List Int → List Int
  | b :: c :: r => (if c = 0 then (if b = 0 then 0 else 1) else 1) :: r
  | _ => []
/-- the answers that wait behind k steps, the latest ahead -/
def EST (t : Int → Int) (f : Nat → Int) : Nat → List Int
  | 0 => []
  | k + 1 => if f k = 7000 then enot (EST t f k) else if f k = 8000 then eand (EST t f k) else if f k = 9000 then eor (EST t f k) else t (f k) :: EST t f k
def EB (st : List Int) : Prop := ∀ x, x ∈ st → x = 0 ∨ x = 1
theorem EB_c {st : List Int} {x : Int} (h : EB st) (hx : x = 0 ∨ x = 1) : EB (x :: st) := fun y hy => by
  rcases List.mem_cons.1 hy with e | e
  · rw [e]; exact hx
  · exact h y e
theorem EB_t {st : List Int} {x : Int} (h : EB (x :: st)) : EB st := fun y hy => h y (List.mem_cons_of_mem _ hy)
theorem EB_h {st : List Int} {x : Int} (h : EB (x :: st)) : x = 0 ∨ x = 1 := h x (List.mem_cons_self)
theorem EB_not {st : List Int} (h : EB st) : EB (enot st) := by
  cases st with
  | nil => exact h
  | cons b r =>
    show EB ((if b = 0 then 1 else 0) :: r)
    refine EB_c (EB_t h) ?_
    split
    · exact Or.inr rfl
    · exact Or.inl rfl
theorem EB_and {st : List Int} (h : EB st) : EB (eand st) := by
  rcases st with _ | ⟨b, _ | ⟨c, r⟩⟩
  · exact h
  · exact EB_t h
  · show EB ((if c = 0 then 0 else if b = 0 then 0 else 1) :: r)
    refine EB_c (EB_t (EB_t h)) ?_
    split
    · exact Or.inl rfl
    · split
      · exact Or.inl rfl
      · exact Or.inr rfl
theorem EB_or {st : List Int} (h : EB st) : EB (eor st) := by
  rcases st with _ | ⟨b, _ | ⟨c, r⟩⟩
  · exact h
  · exact EB_t h
  · show EB ((if c = 0 then (if b = 0 then 0 else 1) else 1) :: r)
    refine EB_c (EB_t (EB_t h)) ?_
    split
    · split
      · exact Or.inl rfl
      · exact Or.inr rfl
    · exact Or.inr rfl
theorem EST_EB {t : Int → Int} {f : Nat → Int} (ht : ∀ v, t v = 0 ∨ t v = 1) : ∀ k, EB (EST t f k)
  | 0 => fun y hy => absurd hy (List.not_mem_nil)
  | k + 1 => by
    have h := EST_EB (f := f) ht k
    show EB (if f k = 7000 then enot (EST t f k) else if f k = 8000 then eand (EST t f k) else if f k = 9000 then eor (EST t f k) else t (f k) :: EST t f k)
    by_cases c7 : f k = 7000
    · rw [if_pos c7]; exact EB_not h
    rw [if_neg c7]
    by_cases c8 : f k = 8000
    · rw [if_pos c8]; exact EB_and h
    rw [if_neg c8]
    by_cases c9 : f k = 9000
    · rw [if_pos c9]; exact EB_or h
    rw [if_neg c9]
    exact EB_c h (ht _)
/-- as bits of one number, the latest lowest -/
def BN : List Int → Int
  | [] => 0
  | b :: r => 2 * BN r + b
theorem BN_bd : ∀ {st : List Int}, EB st → 0 ≤ BN st ∧ BN st < (2 : Int) ^ st.length
  | [], _ => ⟨Int.le_refl 0, by decide⟩
  | b :: r, h => by
    have q := BN_bd (EB_t h)
    have hb := EB_h h
    show 0 ≤ 2 * BN r + b ∧ 2 * BN r + b < (2 : Int) ^ (r.length + 1)
    rw [Int.pow_succ]
    omega
theorem BN_12 {st : List Int} {n : Nat} (h : EB st) (hl : st.length ≤ n) : BN st < (2 : Int) ^ n := by
  have q := (BN_bd h).2
  have e : (2 : Int) ^ st.length ≤ (2 : Int) ^ n := by
    have := Nat.pow_le_pow_right (n := 2) (by decide) hl
    exact_mod_cast this
  omega
theorem BN_not {b : Int} {r : List Int} (h : EB (b :: r)) (hl : (b :: r).length ≤ 13) : jxxor (BN (b :: r)) 1 = BN (enot (b :: r)) := by
  have q := (BN_bd h).1
  have q2 : BN (b :: r) < 8192 := BN_12 h hl
  have e := bit_not (BN (b :: r)).toNat (by omega)
  rw [show ((BN (b :: r)).toNat : Int) = BN (b :: r) by omega] at e
  rw [e]
  have hb := EB_h h
  have hv : BN (b :: r) = 2 * BN r + b := rfl
  have q3 := (BN_bd (EB_t h)).1
  show _ = 2 * BN r + (if b = 0 then 1 else 0)
  have m0 : b = 0 → (BN (b :: r)).toNat % 2 = 0 := fun _ => by omega
  have m1 : b = 1 → ¬ (BN (b :: r)).toNat % 2 = 0 := fun _ => by omega
  rcases hb with hb | hb
  · rw [if_pos (m0 hb), if_pos hb]; omega
  · rw [if_neg (m1 hb), if_neg (show ¬ b = 0 by omega)]; omega
theorem BN_and {b c : Int} {r : List Int} (h : EB (b :: c :: r)) (hl : (b :: c :: r).length ≤ 13) : jxand (jxshr (BN (b :: c :: r)) 1) (jxor (jxand (BN (b :: c :: r)) 1) (-2)) = BN (eand (b :: c :: r)) := by
  have q := (BN_bd h).1
  have q2 : BN (b :: c :: r) < 8192 := BN_12 h hl
  have e := bit_and (BN (b :: c :: r)).toNat (by omega)
  rw [show ((BN (b :: c :: r)).toNat : Int) = BN (b :: c :: r) by omega] at e
  rw [e]
  have hb := EB_h h
  have hc := EB_h (EB_t h)
  have hv : BN (b :: c :: r) = 2 * (2 * BN r + c) + b := rfl
  have q3 := (BN_bd (EB_t (EB_t h))).1
  have m0 : b = 0 → (BN (b :: c :: r)).toNat % 2 = 0 := fun _ => by omega
  have m1 : b = 1 → ¬ (BN (b :: c :: r)).toNat % 2 = 0 := fun _ => by omega
  show _ = 2 * BN r + (if c = 0 then 0 else if b = 0 then 0 else 1)
  rcases hb with hb | hb <;> rcases hc with hc | hc
  · rw [if_pos (m0 hb), if_pos hc]; omega
  · rw [if_pos (m0 hb), if_neg (show ¬ c = 0 by omega), if_pos hb]; omega
  · rw [if_neg (m1 hb), if_pos hc]; omega
  · rw [if_neg (m1 hb), if_neg (show ¬ c = 0 by omega), if_neg (show ¬ b = 0 by omega)]; omega
theorem BN_or {b c : Int} {r : List Int} (h : EB (b :: c :: r)) (hl : (b :: c :: r).length ≤ 13) : jxor (jxshr (BN (b :: c :: r)) 1) (jxand (BN (b :: c :: r)) 1) = BN (eor (b :: c :: r)) := by
  have q := (BN_bd h).1
  have q2 : BN (b :: c :: r) < 8192 := BN_12 h hl
  have e := bit_or (BN (b :: c :: r)).toNat (by omega)
  rw [show ((BN (b :: c :: r)).toNat : Int) = BN (b :: c :: r) by omega] at e
  rw [e]
  have hb := EB_h h
  have hc := EB_h (EB_t h)
  have hv : BN (b :: c :: r) = 2 * (2 * BN r + c) + b := rfl
  have q3 := (BN_bd (EB_t (EB_t h))).1
  have m0 : b = 0 → (BN (b :: c :: r)).toNat % 2 = 0 := fun _ => by omega
  have m1 : b = 1 → ¬ (BN (b :: c :: r)).toNat % 2 = 0 := fun _ => by omega
  show _ = 2 * BN r + (if c = 0 then (if b = 0 then 0 else 1) else 1)
  rcases hb with hb | hb <;> rcases hc with hc | hc
  · rw [if_pos (m0 hb), if_pos hc, if_pos hb]; omega
  · rw [if_pos (m0 hb), if_neg (show ¬ c = 0 by omega)]; omega
  · rw [if_neg (m1 hb), if_pos hc, if_neg (show ¬ b = 0 by omega)]; omega
  · rw [if_neg (m1 hb), if_neg (show ¬ c = 0 by omega)]; omega
theorem BN_push {st : List Int} {b : Int} (h : EB st) (hl : st.length ≤ 12) (hb : b = 0 ∨ b = 1) : jxor (jxshl (BN st) 1) b = BN (b :: st) := by
  have q := (BN_bd h).1
  have q2 : BN st < 4096 := BN_12 h hl
  have z := bit_p (BN st).toNat b.toNat (by omega) (by omega)
  rw [show ((BN st).toNat : Int) = BN st by omega, show ((b.toNat : Nat) : Int) = b by omega] at z
  show _ = 2 * BN st + b
  rw [z]
  omega
/-- alike codes, alike answers -/
theorem EST_eq {t t2 : Int → Int} {f g : Nat → Int} : ∀ {k : Nat}, (∀ j, j < k → f j = g j) → (∀ j, j < k → t (f j) = t2 (g j)) → EST t f k = EST t2 g k
  | 0, _, _ => rfl
  | k + 1, h, ht => by
    have e := EST_eq (k := k) (fun j hj => h j (by omega)) (fun j hj => ht j (by omega))
    show (if f k = 7000 then enot (EST t f k) else if f k = 8000 then eand (EST t f k) else if f k = 9000 then eor (EST t f k) else t (f k) :: EST t f k) = (if g k = 7000 then enot (EST t2 g k) else if g k = 8000 then eand (EST t2 g k) else if g k = 9000 then eor (EST t2 g k) else t2 (g k) :: EST t2 g k)
    rw [e, ht k (by omega), h k (by omega)]
