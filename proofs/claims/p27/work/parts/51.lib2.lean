theorem jfr_1 (a : Nat → Nat → Int) (k j : Nat) (v : Int) : jfr [(k, 9999)] a (jxu a k j v) := jfr_put (jfr_rf _ _) (by
  unfold jfin
  rw [show Nat.beq k k = true from Nat.beq_refl k]
  rfl)
theorem jfr_1s (a : Nat → Nat → Int) (k j : Nat) (v : Int) : jfr [(k, j)] a (jxu a k j v) := jfr_put (jfr_rf _ _) (by
  unfold jfin
  rw [show Nat.beq k k = true from Nat.beq_refl k, show Nat.beq j j = true from Nat.beq_refl j]
  cases Nat.beq j 9999 <;> rfl)
/-! what the reference's wishes are: steps that can be worked out -/
def jhg (f : Nat → Int) : Nat → Int
  | 0 => 0
  | n + 1 => jhg f n + (if 1024 ≤ f n then 1 else if f n = 2 then 0 else -1)
def jwf (f : Nat → Int) (n : Nat) : Prop := ∀ k, k < n → 1024 ≤ f k ∨ (f k = 2 ∧ 1 ≤ jhg f k) ∨ 2 ≤ jhg f k
def WFW (a : Nat → Nat → Int) : Prop := ∀ m, m < 40 → jwf (fun k => a 166 (64 * m + k)) (a 167 m).toNat
theorem jhg_le (f : Nat → Int) : ∀ n : Nat, jhg f n ≤ n := by
  intro n
  induction n with
  | zero => exact Int.le_refl _
  | succ n ih =>
    show jhg f n + (if 1024 ≤ f n then 1 else if f n = 2 then 0 else -1) ≤ _
    split
    · omega
    · split <;> omega
theorem jhg_congr {f g : Nat → Int} : ∀ {n : Nat}, (∀ k, k < n → f k = g k) → jhg f n = jhg g n := by
  intro n
  induction n with
  | zero => intro _; rfl
  | succ n ih =>
    intro h
    show jhg f n + _ = jhg g n + _
    rw [ih (fun k hk => h k (by omega)), h n (by omega)]
theorem jwf_congr {f g : Nat → Int} {n : Nat} (h : ∀ k, k < n → f k = g k) (hf : jwf f n) : jwf g n := by
  intro k hk
  rw [← h k hk, ← jhg_congr (fun j hj => h j (by omega))]
  exact hf k hk
theorem WFW_fr {W : List (Nat × Nat)} {a a1 : Nat → Nat → Int} (h : WFW a) (hf : jfr W a a1) (h1 : ∀ j, jfin W 166 j = false) (h2 : ∀ j, jfin W 167 j = false) : WFW a1 := by
  intro m hm
  rw [hf 167 m (h2 m)]
  exact jwf_congr (fun k _ => (hf 166 _ (h1 _)).symm) (h m hm)
theorem wf_step {a : Nat → Nat → Int} (h : WFW a) {x y : Int} (hx : 0 ≤ x ∧ x ≤ 39) (hy : 0 ≤ y) (hn : y < a 167 x.toNat) : (1024 ≤ a 166 (64 * x.toNat + y.toNat) ∨ (a 166 (64 * x.toNat + y.toNat) = 2 ∧ 1 ≤ jhg (fun k => a 166 (64 * x.toNat + k)) y.toNat) ∨ 2 ≤ jhg (fun k => a 166 (64 * x.toNat + k)) y.toNat) ∧ jhg (fun k => a 166 (64 * x.toNat + k)) (y.toNat + 1) = jhg (fun k => a 166 (64 * x.toNat + k)) y.toNat + (if 1024 ≤ a 166 (64 * x.toNat + y.toNat) then 1 else if a 166 (64 * x.toNat + y.toNat) = 2 then 0 else -1) ∧ jhg (fun k => a 166 (64 * x.toNat + k)) y.toNat ≤ y := by
  refine ⟨h x.toNat (by omega) y.toNat (by omega), rfl, ?_⟩
  have := jhg_le (fun k => a 166 (64 * x.toNat + k)) y.toNat
  omega
/-! stamps that are there have a value -/
def SV (a : Nat → Nat → Int) : Prop := ∀ k, k < 8 → a 197 k ≤ 0 ∨ 1 ≤ a 196 k
theorem SV_fr {W : List (Nat × Nat)} {a a1 : Nat → Nat → Int} (h : SV a) (hf : jfr W a a1) (h1 : ∀ j, jfin W 196 j = false) (h2 : ∀ j, jfin W 197 j = false) : SV a1 := by
  intro k hk
  rw [hf 196 k (h1 k), hf 197 k (h2 k)]
  exact h k hk
theorem SV_put197 {a : Nat → Nat → Int} (h : SV a) {j : Nat} {v : Int} (hv : v ≤ a 197 j ∨ 1 ≤ a 196 j) : SV (jxu a 197 j v) := by
  intro k hk
  by_cases hkj : k = j
  · subst hkj
    have e : jxu a 197 k v 197 k = v := by simp [jxu]
    have e2 : jxu a 197 k v 196 k = a 196 k := by simp [jxu]
    rw [e, e2]
    have := h k hk
    omega
  · have e : jxu a 197 j v 197 k = a 197 k := by simp [jxu, hkj]
    have e2 : jxu a 197 j v 196 k = a 196 k := by simp [jxu]
    rw [e, e2]
    exact h k hk
theorem SV_put196 {a : Nat → Nat → Int} (h : SV a) {j : Nat} {v : Int} (hv : 1 ≤ v) : SV (jxu a 196 j v) := by
  intro k hk
  by_cases hkj : k = j
  · subst hkj
    have e : jxu a 196 k v 196 k = v := by simp [jxu]
    rw [e]
    exact Or.inr hv
  · have e : jxu a 196 j v 196 k = a 196 k := by simp [jxu, hkj]
    have e2 : jxu a 196 j v 197 k = a 197 k := by simp [jxu]
    rw [e, e2]
    exact h k hk
theorem mul_bd {n v : Int} (h0 : 0 ≤ n) (h1 : n ≤ 51) (hv : v ≤ 500) (h : n = 0 ∨ 1 ≤ v) : 0 ≤ n * v ∧ n * v ≤ 25500 := by
  rcases h with rfl | h
  · omega
  · have h2 : n * v ≤ 51 * v := Int.mul_le_mul_of_nonneg_right h1 (by omega)
    have h3 : 0 ≤ n * v := Int.mul_nonneg h0 (by omega)
    omega
/-! what was found is of offers that are -/
def FO (a : Nat → Nat → Int) : Prop := (∀ i, a 189 i = 0 ∨ a 189 i < a 146 49) ∧ (a 146 64 = 0 ∨ 1 ≤ a 146 49)
theorem FO_fr {W : List (Nat × Nat)} {a a1 : Nat → Nat → Int} (h : FO a) (hf : jfr W a a1) (h1 : jfin W 146 49 = false) (h2 : jfin W 146 64 = false) (h3 : ∀ j, jfin W 189 j = false) : FO a1 := by
  constructor
  · intro i
    rw [hf 189 i (h3 i), hf 146 49 h1]
    exact h.1 i
  · rw [hf 146 64 h2, hf 146 49 h1]
    exact h.2
/-! an offer of a ring has its card; behind the offers nothing is told -/
def OC (a : Nat → Nat → Int) : Prop := (∀ k : Nat, (k : Int) < a 146 49 → a 181 k = 1 → ∃ c : Nat, (c : Int) < a 146 9 ∧ a 158 c = a 182 k ∧ a 154 c = a 178 k) ∧ ∀ k : Nat, a 146 49 ≤ (k : Int) → a 181 k = 0
theorem OC_fr {W : List (Nat × Nat)} {a a1 : Nat → Nat → Int} (h : OC a) (hf : jfr W a a1) (h1 : jfin W 146 9 = false) (h2 : jfin W 146 49 = false) (h3 : ∀ j, jfin W 154 j = false) (h4 : ∀ j, jfin W 158 j = false) (h5 : ∀ j, jfin W 178 j = false) (h6 : ∀ j, jfin W 181 j = false) (h7 : ∀ j, jfin W 182 j = false) : OC a1 := by
  constructor
  · intro k hk hs
    rw [hf 146 49 h2] at hk
    rw [hf 181 k (h6 k)] at hs
    obtain ⟨c, h8, h9, h10⟩ := h.1 k hk hs
    refine ⟨c, ?_, ?_, ?_⟩
    · rw [hf 146 9 h1]; exact h8
    · rw [hf 158 c (h4 c), hf 182 k (h7 k)]; exact h9
    · rw [hf 154 c (h3 c), hf 178 k (h5 k)]; exact h10
  · intro k hk
    rw [hf 146 49 h2] at hk
    rw [hf 181 k (h6 k)]
    exact h.2 k hk
/-- an offer's state is set, but not to 1 -/
theorem OC_put2 {a : Nat → Nat → Int} (h : OC a) {j : Nat} {v : Int} (hv : ¬ v = 1) (hj : (j : Int) < a 146 49) : OC (jxu a 181 j v) := by
  have e : ∀ k m, ¬ k = 181 → jxu a 181 j v k m = a k m := fun k m hk => by simp [jxu, hk]
  constructor
  · intro k hk hs
    rw [e 146 49 (by decide)] at hk
    by_cases hkj : k = j
    · subst hkj
      simp [jxu] at hs
      exact absurd hs hv
    · have hs' : a 181 k = 1 := by simpa [jxu, hkj] using hs
      obtain ⟨c, h8, h9, h10⟩ := h.1 k hk hs'
      exact ⟨c, by rw [e 146 9 (by decide)]; exact h8, by rw [e 158 c (by decide), e 182 k (by decide)]; exact h9, by rw [e 154 c (by decide), e 178 k (by decide)]; exact h10⟩
  · intro k hk
    rw [e 146 49 (by decide)] at hk
    have hkj : ¬ k = j := by omega
    simp [jxu, hkj]
    exact h.2 k hk
/-- a card comes -/
theorem OC_card {a a1 : Nat → Nat → Int} (h : OC a) (hc : a1 146 9 = a 146 9 + 1) (ho : a1 146 49 = a 146 49) (h3 : ∀ c : Nat, (c : Int) < a 146 9 → a1 154 c = a 154 c ∧ a1 158 c = a 158 c) (h5 : ∀ j, a1 178 j = a 178 j) (h6 : ∀ j, a1 181 j = a 181 j) (h7 : ∀ j, a1 182 j = a 182 j) : OC a1 := by
  constructor
  · intro k hk hs
    rw [ho] at hk
    rw [h6] at hs
    obtain ⟨c, h8, h9, h10⟩ := h.1 k hk hs
    refine ⟨c, by omega, ?_, ?_⟩
    · rw [(h3 c h8).2, h7]; exact h9
    · rw [(h3 c h8).1, h5]; exact h10
  · intro k hk
    rw [ho] at hk
    rw [h6]
    exact h.2 k hk
/-- an offer is closed in a ring, and its card comes -/
theorem OC_close {a a1 : Nat → Nat → Int} (h : OC a) {o : Nat} {R : Int} (ho1 : (o : Int) < a 146 49) (hc0 : 0 ≤ a 146 9) (hc : a1 146 9 = a 146 9 + 1) (ho : a1 146 49 = a 146 49) (h3 : ∀ c : Nat, (c : Int) < a 146 9 → a1 154 c = a 154 c ∧ a1 158 c = a 158 c) (h5 : ∀ j, a1 178 j = a 178 j) (h6 : ∀ j, ¬ j = o → a1 181 j = a 181 j) (h7 : ∀ j, ¬ j = o → a1 182 j = a 182 j) (h8 : a1 182 o = R) (h9 : a1 158 (a 146 9).toNat = R) (h10 : a1 154 (a 146 9).toNat = a 178 o) : OC a1 := by
  constructor
  · intro k hk hs
    rw [ho] at hk
    by_cases hko : k = o
    · subst hko
      refine ⟨(a 146 9).toNat, by omega, ?_, ?_⟩
      · rw [h9, h8]
      · rw [h10, h5]
    · rw [h6 k hko] at hs
      obtain ⟨c, q8, q9, q10⟩ := h.1 k hk hs
      refine ⟨c, by omega, ?_, ?_⟩
      · rw [(h3 c q8).2, h7 k hko]; exact q9
      · rw [(h3 c q8).1, h5]; exact q10
  · intro k hk
    rw [ho] at hk
    rw [h6 k (by omega)]
    exact h.2 k hk
theorem OC_putx {a : Nat → Nat → Int} (h : OC a) {k0 j : Nat} {v : Int} (hk0 : k0 = 178 ∨ k0 = 182) (hj : a 146 49 ≤ (j : Int)) : OC (jxu a k0 j v) := by
  have e : ∀ k m, ¬ k = k0 → jxu a k0 j v k m = a k m := fun k m hk => by simp [jxu, hk]
  have e2 : ∀ k m, ¬ m = j → jxu a k0 j v k m = a k m := fun k m hk => by simp [jxu, hk]
  constructor
  · intro k hk hs
    rw [e 146 49 (by omega)] at hk
    rw [e 181 k (by omega)] at hs
    obtain ⟨c, h8, h9, h10⟩ := h.1 k hk hs
    exact ⟨c, by rw [e 146 9 (by omega)]; exact h8, by rw [e 158 c (by omega), e2 182 k (by omega)]; exact h9, by rw [e 154 c (by omega), e2 178 k (by omega)]; exact h10⟩
  · intro k hk
    rw [e 146 49 (by omega)] at hk
    rw [e 181 k (by omega)]
    exact h.2 k hk
theorem OC_put49 {a : Nat → Nat → Int} (h : OC a) {v : Int} (h0 : 0 ≤ a 146 49) (hv : v = a 146 49 + 1) : OC (jxu a 146 49 v) := by
  have e : ∀ k m, ¬ k = 146 → jxu a 146 49 v k m = a k m := fun k m hk => by simp [jxu, hk]
  have e49 : jxu a 146 49 v 146 49 = v := by simp [jxu]
  have e9 : jxu a 146 49 v 146 9 = a 146 9 := by simp [jxu]
  constructor
  · intro k hk hs
    rw [e49] at hk
    rw [e 181 k (by decide)] at hs
    have hk2 : (k : Int) < a 146 49 := by
      rcases Int.lt_or_le (k : Int) (a 146 49) with h1 | h1
      · exact h1
      · have := h.2 k h1
        omega
    obtain ⟨c, h8, h9, h10⟩ := h.1 k hk2 hs
    exact ⟨c, by rw [e9]; exact h8, by rw [e 158 c (by decide), e 182 k (by decide)]; exact h9, by rw [e 154 c (by decide), e 178 k (by decide)]; exact h10⟩
  · intro k hk
    rw [e49] at hk
    rw [e 181 k (by decide)]
    exact h.2 k (by omega)
theorem FO_put49 {a : Nat → Nat → Int} (h : FO a) {v : Int} (hv : a 146 49 ≤ v) : FO (jxu a 146 49 v) := by
  have e : ∀ k m, ¬ k = 146 → jxu a 146 49 v k m = a k m := fun k m hk => by simp [jxu, hk]
  have e49 : jxu a 146 49 v 146 49 = v := by simp [jxu]
  have e64 : jxu a 146 49 v 146 64 = a 146 64 := by simp [jxu]
  constructor
  · intro i
    rw [e 189 i (by decide), e49]
    have := h.1 i
    omega
  · rw [e64, e49]
    have := h.2
    omega
/-! bits of small numbers -/
theorem jxshr_nat {x y : Int} (h0 : 0 ≤ x) (h1 : x < 2147483648) (hy0 : 0 ≤ y) (hy1 : y < 32) : jxshr x y = x / (2 : Int) ^ y.toNat := by
  unfold jxshr
  have hs : ((Int32.ofInt y &&& 31).toBitVec.smod 32).toNat = y.toNat := by
    have key : ∀ n : Nat, n < 32 → ((Int32.ofInt (n : Int) &&& 31).toBitVec.smod 32).toNat = n := by decide +kernel
    have := key y.toNat (by omega)
    rwa [Int.toNat_of_nonneg hy0] at this
  show ((Int32.ofInt x).toBitVec.sshiftRight' ((Int32.ofInt y &&& 31).toBitVec.smod 32)).toInt = _
  rw [BitVec.toInt_sshiftRight', hs, Int.shiftRight_eq_div_pow]
  congr 1
  · show (BitVec.ofInt 32 x).toInt = x
    rw [bv_nn (by rw [bv_of h0 h1]; omega), bv_of h0 h1]
    omega
theorem jxand1 {x : Int} (h0 : 0 ≤ x) (h1 : x < 2147483648) : jxand x 1 = x % 2 := by
  rw [jxand_eq]
  have e : (BitVec.ofInt 32 x &&& BitVec.ofInt 32 1).toNat = x.toNat % 2 := by
    rw [BitVec.toNat_and, bv_of h0 h1, bv_of (by decide) (by decide)]
    exact Nat.and_one_is_mod _
  rw [bv_nn (by omega), e]
  omega
theorem least0 {x : Int} (h0 : 1 ≤ x) (h1 : x ≤ 4095) : ¬ jxshr x 0 = 0 := by
  rw [jxshr_nat (by omega) (by omega) (by omega) (by omega)]
  show ¬ x / 2 ^ 0 = 0
  omega
theorem least_step {x y : Int} (h0 : 0 ≤ x) (h1 : x ≤ 4095) (hy0 : 0 ≤ y) (hy1 : y ≤ 11) (hn : ¬ jxshr x y = 0) (hb : jxand (jxshr x y) 1 = 0) : y + 1 ≤ 11 ∧ ¬ jxshr x (y + 1) = 0 := by
  have hp : (0 : Int) < 2 ^ y.toNat := Int.pow_pos (by decide)
  rw [jxshr_nat h0 (by omega) hy0 (by omega)] at hn hb
  have hq0 : 0 ≤ x / 2 ^ y.toNat := Int.ediv_nonneg h0 (by omega)
  have hq1 : x / 2 ^ y.toNat ≤ x := Int.ediv_le_self _ h0
  rw [jxand1 hq0 (by omega)] at hb
  have hy : y + 1 ≤ 11 := by
    rcases Int.lt_or_eq_of_le hy1 with h | h
    · omega
    · subst h
      have : x / 2 ^ (11 : Int).toNat ≤ 1 := by
        show x / 2 ^ 11 ≤ 1
        omega
      omega
  refine ⟨hy, ?_⟩
  rw [jxshr_nat h0 (by omega) (by omega) (by omega)]
  have e : (y + 1).toNat = y.toNat + 1 := by omega
  rw [e, Int.pow_succ, ← Int.ediv_ediv_of_nonneg (by omega)]
  omega
/-! far, both sides -/
def FarP (f g : Nat → Int) (x y n r : Int) : Prop := (0 ≤ x ∧ x ≤ 15 ∧ 0 ≤ y ∧ y ≤ 15 ∧ ¬ x = y ∧ 0 ≤ n ∧ n ≤ 99 ∧ r = f (16 * x + y).toNat ∧ ∀ j, g j = if j = (16 * y + x).toNat then n else if j = (16 * x + y).toNat then n else f j) ∨ ((x < 0 ∨ 15 < x ∨ y < 0 ∨ 15 < y ∨ x = y ∨ n < 0 ∨ 99 < n) ∧ r = -1 ∧ ∀ j, g j = f j)
theorem FarP_det {f g f2 g2 : Nat → Int} {x y n r r2 : Int} (h : FarP f g x y n r) (h2 : FarP f2 g2 x y n r2) (hf : ∀ j, f j = f2 j) : r = r2 ∧ ∀ j, g j = g2 j := by
  rcases h with ⟨a1, a2, a3, a4, a5, a6, a7, a8, a9⟩ | ⟨a1, a2, a3⟩ <;> rcases h2 with ⟨b1, b2, b3, b4, b5, b6, b7, b8, b9⟩ | ⟨b1, b2, b3⟩
  · refine ⟨by rw [a8, b8, hf], fun j => by rw [a9, b9, hf]⟩
  · omega
  · omega
  · exact ⟨by rw [a2, b2], fun j => by rw [a3, b3, hf]⟩
def FARR (a : Nat → Nat → Int) : Prop := ∀ j, a 1 j = a 147 j
theorem FARR_fr {W : List (Nat × Nat)} {a a1 : Nat → Nat → Int} (h : FARR a) (hf : jfr W a a1) (h1 : ∀ j, jfin W 1 j = false) (h2 : ∀ j, jfin W 147 j = false) : FARR a1 := by
  intro j
  rw [hf 1 j (h1 j), hf 147 j (h2 j)]
  exact h j
