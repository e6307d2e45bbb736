/-! rings, the class: the first ring on from a path -/
def gS (a b : Nat → Nat → Int) (st : Nat → Int) (i j : Nat) : Bool := decide (f_X3_areKin a b (f_X4_memberOf a b (st i)) (f_X4_memberOf a b (st j)) = 0 ∧ jxand (jxshr (f_X4_wantsOf a b (st j)) (f_X4_kindOf a b (st i))) 1 = 1)
def kS (a b : Nat → Nat → Int) (st : Nat → Int) (i j : Nat) : Bool := decide (¬ f_X3_areKin a b (f_X4_memberOf a b (st i)) (f_X4_memberOf a b (st j)) = 0)
theorem gd_left {α : Type} {A B : List α} {d : α} {i : Nat} (h : i < A.length) : (A ++ B).getD i d = A.getD i d := by
  rw [List.getD_eq_getElem?_getD, List.getD_eq_getElem?_getD, List.getElem?_append_left h]
theorem gd_last {α : Type} {A : List α} {x d : α} : (A ++ [x]).getD A.length d = x := by
  rw [List.getD_eq_getElem?_getD, List.getElem?_append_right (Nat.le_refl _), Nat.sub_self]
  rfl
def PTH (f : Nat → Int) (P : List Nat) : Prop := ∀ i, i < P.length → f i = ((P.getD i 0 : Nat) : Int)
theorem PTH_app {f : Nat → Int} {P : List Nat} {y : Int} (h : PTH f P) (y0 : 0 ≤ y) (f2 : Nat → Int) (e1 : ∀ i, i < P.length → f2 i = f i) (e2 : f2 P.length = y) : PTH f2 (P ++ [y.toNat]) := fun i hi => by
  rw [List.length_append] at hi
  have hi2 : i < P.length + 1 := hi
  by_cases c : i < P.length
  · rw [e1 i c, h i c, gd_left c]
  · have e : i = P.length := by omega
    rw [e, e2, gd_last]
    omega
theorem getD_head (P : List Nat) : P.getD 0 0 = P.headD 0 := by
  cases P with
  | nil => rfl
  | cons x r => rfl
def FRH (a : Nat → Nat → Int) (n : Nat) (g k : Nat → Nat → Bool) (P : List Nat) (x1 x2 x3 x4 x5 : Int) : Prop := GRF a n g k ∧ MPR n k P (a 96 0) x1 x2 x3 x4 ∧ PTH (a 96) P ∧ SUB (PM P) x5.toNat ∧ (0 ≤ x5 ∧ x5.toNat < 2 ^ n) ∧ ∀ t, SUB t x5.toNat → 0 ≤ a 95 t ∧ a 95 t ≤ 200
def FRO (a0 a : Nat → Nat → Int) (P : List Nat) (L : List (List Nat)) (left : Nat) (r : Int) : Prop := (L.find? (okr 16 (a0 95) left) = none ∧ r = 0 ∧ ∀ i, i < P.length → a 96 i = a0 96 i) ∨ ∃ R, L.find? (okr 16 (a0 95) left) = some R ∧ r = (R.length : Int) ∧ PTH (a 96) R
theorem andn_bit {L B : Int} {j : Nat} (l0 : 0 ≤ L) (l1 : L ≤ 4095) (b0 : 0 ≤ B) (b1 : B ≤ 4095) (hj : j < 32) : jxand (jxshr (jxand L (jxxor B (-1))) (j : Int)) 1 = if L.toNat.testBit j && !(B.toNat.testBit j) then 1 else 0 := by
  have e1 : BitVec.ofInt 32 (jxxor B (-1)) = BitVec.ofInt 32 B ^^^ BitVec.allOnes 32 := by
    rw [jxxor_eq, BitVec.ofInt_toInt]
    rfl
  have e2 : (BitVec.ofInt 32 L &&& BitVec.ofInt 32 (jxxor B (-1))).toNat = L.toNat &&& (4294967295 - B.toNat) := by
    rw [e1, BitVec.toNat_and, bv_of l0 (by omega), BitVec.xor_allOnes, BitVec.toNat_not, bv_of b0 (by omega)]
  have l : L.toNat &&& (4294967295 - B.toNat) ≤ L.toNat := Nat.and_le_left
  have e3 : jxand L (jxxor B (-1)) = ((L.toNat &&& (4294967295 - B.toNat) : Nat) : Int) := by
    rw [jxand_eq, bv_nn (by omega), e2]
  have q := Nat.testBit_two_pow_sub_succ (n := 32) (x := B.toNat) (by omega) j
  rw [show (2 : Nat) ^ 32 - (B.toNat + 1) = 4294967295 - B.toNat by omega, decide_eq_true hj, Bool.true_and] at q
  rw [e3, jxbit_nat _ _ (by omega) hj, Nat.testBit_and, q]
theorem okr_P {B : Nat → Int} {left : Nat} {P : List Nat} (h : SUB (PM P) left) : okr 16 B left P = true ↔ 16 * (P.length : Int) - 1 + B (left ^^^ PM P) = B left := by
  unfold okr
  rw [Bool.and_eq_true, decide_eq_true_eq, decide_eq_true_eq]
  exact ⟨fun q => q.2, fun q => ⟨SUB_and.1 h, q⟩⟩
theorem RGL_in {n : Nat} {g k : Nat → Nat → Bool} : ∀ {d : Nat} {P r : List Nat}, r ∈ RGL n g k d P → ∀ x, x ∈ P → x ∈ r
  | 0, P, r, h, x, hx => by
    obtain ⟨e, _⟩ := rone_mem h
    rw [e]; exact hx
  | d + 1, P, r, h, x, hx => by
    rcases RGL_mem_iff.1 h with q | ⟨y, _, q⟩
    · obtain ⟨e, _⟩ := rone_mem q
      rw [e]; exact hx
    · exact RGL_in q x (List.mem_append.2 (Or.inl hx))
/-- a seat that isn't left: no ring behind it -/
theorem okr_out {n : Nat} {g k : Nat → Nat → Bool} {B : Nat → Int} {left d y : Nat} {P : List Nat} (h : left.testBit y = false) : (RGL n g k d (P ++ [y])).find? (okr 16 B left) = none := by
  rw [List.find?_eq_none]
  intro r hr z
  have hy : y ∈ r := RGL_in hr y (List.mem_append.2 (Or.inr (List.mem_singleton.2 rfl)))
  unfold okr at z
  rw [Bool.and_eq_true, decide_eq_true_eq] at z
  have s := SUB_and.2 z.1 y ((PM_bit r y).2 hy)
  rw [h] at s; cases s
theorem rfrom_RUP {n : Nat} {g k : Nat → Nat → Bool} {P : List Nat} {F : List Nat → List (List Nat)} : ∀ {y : Nat}, y ≤ n → rfrom n g k P F n = RUP n g k P F y ++ rfrom n g k P F (n - y)
  | 0, _ => rfl
  | y + 1, h => by
    rw [rfrom_RUP (y := y) (by omega)]
    show _ = (RUP n g k P F y ++ (if rext n g k P y = true then F (P ++ [y]) else [])) ++ rfrom n g k P F (n - (y + 1))
    rw [List.append_assoc]
    congr 1
    rw [show n - y = (n - (y + 1)) + 1 by omega]
    show (if rext n g k P (n - ((n - (y + 1)) + 1)) = true then F (P ++ [n - ((n - (y + 1)) + 1)]) else []) ++ rfrom n g k P F (n - (y + 1)) = _
    rw [show n - ((n - (y + 1)) + 1) = y by omega]
theorem RGL_eq {n : Nat} {g k : Nat → Nat → Bool} {d y : Nat} {P : List Nat} (h : y ≤ n) : RGL n g k (d + 1) P = (rone g P ++ RUP n g k P (RGL n g k d) y) ++ rfrom n g k P (RGL n g k d) (n - y) := by
  show rone g P ++ rfrom n g k P (RGL n g k d) n = _
  rw [rfrom_RUP h, List.append_assoc]
theorem find_app {p : List Nat → Bool} {A B : List (List Nat)} (h : A.find? p = none) : (A ++ B).find? p = B.find? p := by
  rw [List.find?_append, h]
  rfl
theorem find_app2 {p : List Nat → Bool} {A B : List (List Nat)} {R : List Nat} (h : A.find? p = some R) : (A ++ B).find? p = some R := by
  rw [List.find?_append, h]
  rfl
/-- none so far, by seats below y -/
def FNO (B : Nat → Int) (n : Nat) (g k : Nat → Nat → Bool) (P : List Nat) (d left y : Nat) : Prop := (rone g P ++ RUP n g k P (RGL n g k d) y).find? (okr 16 B left) = none
theorem FNO_s {B : Nat → Int} {n : Nat} {g k : Nat → Nat → Bool} {P : List Nat} {d left y : Nat} (h : FNO B n g k P d left y) (e : rext n g k P y = true → (RGL n g k d (P ++ [y])).find? (okr 16 B left) = none) : FNO B n g k P d left (y + 1) := by
  unfold FNO at h ⊢
  show (rone g P ++ (RUP n g k P (RGL n g k d) y ++ (if rext n g k P y = true then RGL n g k d (P ++ [y]) else []))).find? _ = none
  rw [← List.append_assoc, find_app h]
  by_cases c : rext n g k P y = true
  · rw [if_pos c]; exact e c
  · rw [if_neg c]; rfl
theorem FNO_first {B : Nat → Int} {n : Nat} {g k : Nat → Nat → Bool} {P : List Nat} {d left y : Nat} (h : (rone g P).find? (okr 16 B left) = none) (hy : y ≤ P.headD 0 + 1) : FNO B n g k P d left y := by
  unfold FNO
  rw [find_app h, List.find?_eq_none]
  intro r hr
  exact absurd hr (RUP_first hy r)
theorem FNO_end {B : Nat → Int} {n : Nat} {g k : Nat → Nat → Bool} {P : List Nat} {d left y : Nat} (h : FNO B n g k P d left y) (hy : y = n) : (RGL n g k (d + 1) P).find? (okr 16 B left) = none := by
  rw [RGL_eq (y := n) (Nat.le_refl n), Nat.sub_self]
  unfold FNO at h
  rw [hy] at h
  rw [find_app h]
  rfl
theorem FNO_yes {B : Nat → Int} {n : Nat} {g k : Nat → Nat → Bool} {P : List Nat} {d left y : Nat} {R : List Nat} (h : FNO B n g k P d left y) (hy : y < n) (e : rext n g k P y = true) (f : (RGL n g k d (P ++ [y])).find? (okr 16 B left) = some R) : (RGL n g k (d + 1) P).find? (okr 16 B left) = some R := by
  rw [RGL_eq (y := y + 1) (by omega)]
  refine find_app2 ?_
  unfold FNO at h
  show (rone g P ++ (RUP n g k P (RGL n g k d) y ++ (if rext n g k P y = true then RGL n g k d (P ++ [y]) else []))).find? _ = _
  rw [← List.append_assoc, find_app h, if_pos e]
  exact f
/-! rings kept -/
def FND (a : Nat → Nat → Int) (st : Nat → Int) (L : List (List Nat)) : Prop := a 90 12 = (L.length : Int) ∧ ∀ m, m < L.length → a 104 m = (((L.getD m []).length : Nat) : Int) ∧ ∀ i, i < (L.getD m []).length → a 97 (m * 5 + i) = st ((L.getD m []).getD i 0)
theorem FND_0 {a : Nat → Nat → Int} {st : Nat → Int} (h : a 90 12 = 0) : FND a st [] := ⟨h, fun m hm => absurd hm (Nat.not_lt_zero m)⟩
theorem FND_fr {a a1 : Nat → Nat → Int} {st : Nat → Int} {L : List (List Nat)} (h : FND a st L) (e1 : a1 90 12 = a 90 12) (e2 : ∀ j, a1 104 j = a 104 j) (e3 : ∀ j, a1 97 j = a 97 j) : FND a1 st L := ⟨e1.trans h.1, fun m hm => ⟨(e2 m).trans (h.2 m hm).1, fun i hi => (e3 _).trans ((h.2 m hm).2 i hi)⟩⟩
theorem FND_s {a a1 : Nat → Nat → Int} {st : Nat → Int} {L : List (List Nat)} {R : List Nat} (h : FND a st L) (h5 : ∀ r, r ∈ L → r.length ≤ 5) (e1 : a1 90 12 = a 90 12 + 1) (e2 : a1 104 L.length = (R.length : Int)) (e3 : ∀ i, i < R.length → a1 97 (L.length * 5 + i) = st (R.getD i 0)) (o2 : ∀ j, ¬ j = L.length → a1 104 j = a 104 j) (o3 : ∀ j, j < L.length * 5 → a1 97 j = a 97 j) : FND a1 st (L ++ [R]) := by
  refine ⟨by rw [e1, h.1, List.length_append]; show _ = ((L.length + 1 : Nat) : Int); omega, fun m hm => ?_⟩
  rw [List.length_append] at hm
  have hm2 : m < L.length + 1 := hm
  by_cases c : m < L.length
  · rw [gd_left c, o2 m (by omega)]
    refine ⟨(h.2 m c).1, fun i hi => ?_⟩
    have l5 : (L.getD m []).length ≤ 5 := by
      have : L.getD m [] ∈ L := by
        rw [List.getD_eq_getElem _ _ c]
        exact List.getElem_mem c
      exact h5 _ this
    rw [o3 _ (by omega)]
    exact (h.2 m c).2 i hi
  · have e : m = L.length := by omega
    rw [e, gd_last]
    exact ⟨e2, e3⟩
theorem find_len {n : Nat} {g k : Nat → Nat → Bool} {p : List Nat → Bool} {d : Nat} {P R : List Nat} (h : (RGL n g k d P).find? p = some R) : 0 < R.length := by
  have m := List.mem_of_find?_eq_some h
  cases R with
  | nil => exact (RGL_ne m).elim
  | cons x r => exact Nat.succ_pos _
theorem FNO_top {B : Nat → Int} {n : Nat} {g k : Nat → Nat → Bool} {P : List Nat} {d left y : Nat} (h : FNO B n g k P d left y) (hy : n ≤ y) : (RGL n g k (d + 1) P).find? (okr 16 B left) = none := by
  rw [List.find?_eq_none]
  intro r hr
  have := RGL_RUP (g := g) (k := k) (d := d) (P := P) (r := r) hy |>.2 hr
  unfold FNO at h
  rw [List.find?_eq_none] at h
  exact h r this
theorem FR_self {a : Nat → Nat → Int} {b : Nat → Nat → Int} {n : Nat} {g k : Nat → Nat → Bool} {P : List Nat} {x1 x2 x3 x4 x5 : Int} (h : FRH a n g k P x1 x2 x3 x4 x5) : okr 16 (a 95) x5.toNat P = true ↔ jxw ((a 95 ((jxxor x5 x2).toNat)) + (f_X5_worth a b x4)) = a 95 (x5.toNat) := by
  obtain ⟨hG, hM, hP, hS, hL, hB⟩ := h
  have h12 := hG.2.1
  have t12 := two12 h12
  have m5 := hM.2.2.2.2.1
  have ml := hM.2.1
  have pl := SUB_le hS
  have e : jxxor x5 x2 = ((x5.toNat ^^^ PM P : Nat) : Int) := by
    have q := jxxor_nat x5.toNat (PM P) (by omega) (by omega)
    rw [Int.toNat_of_nonneg hL.1, ← m5] at q
    exact q
  have b1 := hB _ (xor_SUB hS)
  have b2 := hB _ (SUB_rf _)
  have l0 : P.length ≤ n := by
    have := popn_PM (m := n) hM.1.2.2.1 hM.1.2.1
    have := popn_le (PM P) n
    omega
  rw [okr_P hS, e, Int.toNat_natCast]
  unfold f_X5_worth
  rw [jxw_id (x := 16 * x4) (by omega) (by omega), jxw_id (x := 16 * x4 - 1) (by omega) (by omega), jxw_id (by omega) (by omega)]
  constructor
  · intro q; omega
  · intro q; omega
