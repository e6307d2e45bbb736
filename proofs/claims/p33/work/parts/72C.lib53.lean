/-! rings, the class: the first ring on from a path -/
def gS (a b : Nat → Nat → Int) (st : Nat → Int) (i j : Nat) : Bool := decide (f_X3_areKin a b (f_X4_memberOf a b (st i)) (f_X4_memberOf a b (st j)) = 0 ∧ jxand (jxshr (f_X4_wantsOf a b (st j)) (f_X4_kindOf a b (st i))) 1 = 1)
def kS (a b : Nat → Nat → Int) (st : Nat → Int) (i j : Nat) : Bool := decide (¬ f_X3_areKin a b (f_X4_memberOf a b (st i)) (f_X4_memberOf a b (st j)) = 0)
theorem gd_left {α : Type} {A B : List α} {d : α} {i : Nat} (h : i < A.length) : (A ++ B).getD i d = A.getD i d := by
  rw [List.getD_eq_getElem?_getD, List.getD_eq_getElem?_getD, List.getElem?_append_left h]
theorem gd_last {α : Type} {A : List α} {x d : α} : (A ++ [x]).getD A.length d = x := by
  rw [List.getD_eq_getElem?_getD, List.getElem?_append_right (Nat.le_refl _), Nat.sub_self]
  rfl
def PTH (f : Nat → Int) (P : List Nat) : Prop := ∀ i, i < P.length → f i = ((P.getD i 0 : Nat) : Int)
theorem PTH_app {f : Nat → Int} {P : List Nat} {y : Int} (h : PTH f P) (y0 : 0 ≤ y) (f2 : Nat → Int) (e1 : ∀ i, i < P.length → f2 i = f i) (e2 : f2 P.length = y) : PTH f2 (P ++ [y.toNat]) := fun i hi => by
  rw [List.length_append] at hi
  have hi2 : i < P.length + 1 := hi
  by_cases c : i < P.length
  · rw [e1 i c, h i c, gd_left c]
  · have e : i = P.length := by omega
    rw [e, e2, gd_last]
    omega
theorem getD_head (P : List Nat) : P.getD 0 0 = P.headD 0 := by
  cases P with
  | nil => rfl
  | cons x r => rfl
def FRH (a : Nat → Nat → Int) (n : Nat) (g k : Nat → Nat → Bool) (P : List Nat) (x1 x2 x3 x4 x5 : Int) : Prop := GRF a n g k ∧ MPR n k P (a 96 0) x1 x2 x3 x4 ∧ PTH (a 96) P ∧ SUB (PM P) x5.toNat ∧ (0 ≤ x5 ∧ x5.toNat < 2 ^ n) ∧ ∀ t, SUB t x5.toNat → 0 ≤ a 95 t ∧ a 95 t ≤ 200
def FRO (a0 a : Nat → Nat → Int) (P : List Nat) (L : List (List Nat)) (left : Nat) (r : Int) : Prop := (L.find? (okr 16 (a0 95) left) = none ∧ r = 0 ∧ ∀ i, i < P.length → a 96 i = a0 96 i) ∨ ∃ R, L.find? (okr 16 (a0 95) left) = some R ∧ r = (R.length : Int) ∧ PTH (a 96) R
theorem andn_bit {L B : Int} {j : Nat} (l0 : 0 ≤ L) (l1 : L ≤ 4095) (b0 : 0 ≤ B) (b1 : B ≤ 4095) (hj : j < 32) : jxand (jxshr (jxand L (jxxor B (-1))) (j : Int)) 1 = if L.toNat.testBit j && !(B.toNat.testBit j) then 1 else 0 := by
  have e1 : BitVec.ofInt 32 (jxxor B (-1)) = BitVec.ofInt 32 B ^^^ BitVec.allOnes 32 := by
    rw [jxxor_eq, BitVec.ofInt_toInt]
    rfl
  have e2 : (BitVec.ofInt 32 L &&& BitVec.ofInt 32 (jxxor B (-1))).toNat = L.toNat &&& (4294967295 - B.toNat) := by
    rw [e1, BitVec.toNat_and, bv_of l0 (by omega), BitVec.xor_allOnes, BitVec.toNat_not, bv_of b0 (by omega)]
  have l : L.toNat &&& (4294967295 - B.toNat) ≤ L.toNat := Nat.and_le_left
  have e3 : jxand L (jxxor B (-1)) = ((L.toNat &&& (4294967295 - B.toNat) : Nat) : Int) := by
    rw [jxand_eq, bv_nn (by omega), e2]
  have q := Nat.testBit_two_pow_sub_succ (n := 32) (x := B.toNat) (by omega) j
  rw [show (2 : Nat) ^ 32 - (B.toNat + 1) = 4294967295 - B.toNat by omega, decide_eq_true hj, Bool.true_and] at q
  rw [e3, jxbit_nat _ _ (by omega) hj, Nat.testBit_and, q]
theorem okr_P {B : Nat → Int} {left : Nat} {P : List Nat} (h : SUB (PM P) left) : okr 16 B left P = true ↔ 16 * (P.length : Int) - 1 + B (left ^^^ PM P) = B left := by
  unfold okr
  rw [Bool.and_eq_true, decide_eq_true_eq, decide_eq_true_eq]
  exact ⟨fun q => q.2, fun q => ⟨SUB_and.1 h, q⟩⟩
theorem RGL_in {n : Nat} {g k : Nat → Nat → Bool} : ∀ {d : Nat} {P r : List Nat}, r ∈ RGL n g k d P → ∀ x, x ∈ P → x ∈ r
  | 0, P, r, h, x, hx => by
    obtain ⟨e, _⟩ := rone_mem h
    rw [e]; exact hx
  | d + 1, P, r, h, x, hx => by
    rcases RGL_mem_iff.1 h with q | ⟨y, _, q⟩
    · obtain ⟨e, _⟩ := rone_mem q
      rw [e]; exact hx
    · exact RGL_in q x (List.mem_append.2 (Or.inl hx))
/-- a seat that isn't left: no ring behind it -/
theorem okr_out {n : Nat} {g k : Nat → Nat → Bool} {B : Nat → Int} {left d y : Nat} {P : List Nat} (h : left.testBit y = false) : (RGL n g k d (P ++ [y])).find? (okr 16 B left) = none := by
  rw [List.find?_eq_none]
  intro r hr z
  have hy : y ∈ r := RGL_in hr y (List.mem_append.2 (Or.inr (List.mem_singleton.2 rfl)))
  unfold okr at z
  rw [Bool.and_eq_true, decide_eq_true_eq] at z
  have s := SUB_and.2 z.1 y ((PM_bit r y).2 hy)
  rw [h] at s; cases s
theorem rfrom_RUP {n : Nat} {g k : Nat → Nat → Bool} {P : List Nat} {F : List Nat → List (List Nat)} : ∀ {y : Nat}, y ≤ n → rfrom n g k P F n = RUP n g k P F y ++ rfrom n g k P F (n - y)
  | 0, _ => rfl
  | y + 1, h => by
    rw [rfrom_RUP (y := y) (by omega)]
    show _ = (RUP n g k P F y ++ (if rext n g k P y = true then F (P ++ [y]) else [])) ++ rfrom n g k P F (n - (y + 1))
    rw [List.append_assoc]
    congr 1
    rw [show n - y = (n - (y + 1)) + 1 by omega]
    show (if rext n g k P (n - ((n - (y + 1)) + 1)) = true then F (P ++ [n - ((n - (y + 1)) + 1)]) else []) ++ rfrom n g k P F (n - (y + 1)) = _
    rw [show n - ((n - (y + 1)) + 1) = y by omega]
theorem RGL_eq {n : Nat} {g k : Nat → Nat → Bool} {d y : Nat} {P : List Nat} (h : y ≤ n) : RGL n g k (d + 1) P = (rone g P ++ RUP n g k P (RGL n g k d) y) ++ rfrom n g k P (RGL n g k d) (n - y) := by
  show rone g P ++ rfrom n g k P (RGL n g k d) n = _
  rw [rfrom_RUP h, List.append_assoc]
theorem find_app {p : List Nat → Bool} {A B : List (List Nat)} (h : A.find? p = none) : (A ++ B).find? p = B.find? p := by
  rw [List.find?_append, h]
  rfl
theorem find_app2 {p : List Nat → Bool} {A B : List (List Nat)} {R : List Nat} (h : A.find? p = some R) : (A ++ B).find? p = some R := by
  rw [List.find?_append, h]
  rfl
/-- none so far, by seats below y -/
def FNO (B : Nat → Int) (n : Nat) (g k : Nat → Nat → Bool) (P : List Nat) (d left y : Nat) : Prop := (rone g P ++ RUP n g k P (RGL n g k d) y).find? (okr 16 B left) = none
theorem FNO_s {B : Nat → Int} {n : Nat} {g k : Nat → Nat → Bool} {P : List Nat} {d left y : Nat} (h : FNO B n g k P d left y) (e : rext n g k P y = true → (RGL n g k d (P ++ [y])).find? (okr 16 B left) = none) : FNO B n g k P d left (y + 1) := by
  unfold FNO at h ⊢
  show (rone g P ++ (RUP n g k P (RGL n g k d) y ++ (if rext n g k P y = true then RGL n g k d (P ++ [y]) else []))).find? _ = none
  rw [← List.append_assoc, find_app h]
  by_cases c : rext n g k P y = true
  · rw [if_pos c]; exact e c
  · rw [if_neg c]; rfl
theorem FNO_first {B : Nat → Int} {n : Nat} {g k : Nat → Nat → Bool} {P : List Nat} {d left y : Nat} (h : (rone g P).find? (okr 16 B left) = none) (hy : y ≤ P.headD 0 + 1) : FNO B n g k P d left y := by
  unfold FNO
  rw [find_app h, List.find?_eq_none]
  intro r hr
  exact absurd hr (RUP_first hy r)
theorem FNO_end {B : Nat → Int} {n : Nat} {g k : Nat → Nat → Bool} {P : List Nat} {d left y : Nat} (h : FNO B n g k P d left y) (hy : y = n) : (RGL n g k (d + 1) P).find? (okr 16 B left) = none := by
  rw [RGL_eq (y := n) (Nat.le_refl n), Nat.sub_self]
  unfold FNO at h
  rw [hy] at h
  rw [find_app h]
  rfl
theorem FNO_yes {B : Nat → Int} {n : Nat} {g k : Nat → Nat → Bool} {P : List Nat} {d left y : Nat} {R : List Nat} (h : FNO B n g k P d left y) (hy : y < n) (e : rext n g k P y = true) (f : (RGL n g k d (P ++ [y])).find? (okr 16 B left) = some R) : (RGL n g k (d + 1) P).find? (okr 16 B left) = some R := by
  rw [RGL_eq (y := y + 1) (by omega)]
  refine find_app2 ?_
  unfold FNO at h
  show (rone g P ++ (RUP n g k P (RGL n g k d) y ++ (if rext n g k P y = true then RGL n g k d (P ++ [y]) else []))).find? _ = _
  rw [← List.append_assoc, find_app h, if_pos e]
  exact f
/-! rings kept -/
def FND (a : Nat → Nat → Int) (st : Nat → Int) (L : List (List Nat)) : Prop := a 90 12 = (L.length : Int) ∧ ∀ m, m < L.length → a 104 m = (((L.getD m []).length : Nat) : Int) ∧ ∀ i, i < (L.getD m []).length → a 97 (m * 5 + i) = st ((L.getD m []).getD i 0)
theorem FND_0 {a : Nat → Nat → Int} {st : Nat → Int} (h : a 90 12 = 0) : FND a st [] := ⟨h, fun m hm => absurd hm (Nat.not_lt_zero m)⟩
theorem FND_fr {a a1 : Nat → Nat → Int} {st : Nat → Int} {L : List (List Nat)} (h : FND a st L) (e1 : a1 90 12 = a 90 12) (e2 : ∀ j, a1 104 j = a 104 j) (e3 : ∀ j, a1 97 j = a 97 j) : FND a1 st L := ⟨e1.trans h.1, fun m hm => ⟨(e2 m).trans (h.2 m hm).1, fun i hi => (e3 _).trans ((h.2 m hm).2 i hi)⟩⟩
theorem FND_s {a a1 : Nat → Nat → Int} {st : Nat → Int} {L : List (List Nat)} {R : List Nat} (h : FND a st L) (h5 : ∀ r, r ∈ L → r.length ≤ 5) (e1 : a1 90 12 = a 90 12 + 1) (e2 : a1 104 L.length = (R.length : Int)) (e3 : ∀ i, i < R.length → a1 97 (L.length * 5 + i) = st (R.getD i 0)) (o2 : ∀ j, ¬ j = L.length → a1 104 j = a 104 j) (o3 : ∀ j, j < L.length * 5 → a1 97 j = a 97 j) : FND a1 st (L ++ [R]) := by
  refine ⟨by rw [e1, h.1, List.length_append]; show _ = ((L.length + 1 : Nat) : Int); omega, fun m hm => ?_⟩
  rw [List.length_append] at hm
  have hm2 : m < L.length + 1 := hm
  by_cases c : m < L.length
  · rw [gd_left c, o2 m (by omega)]
    refine ⟨(h.2 m c).1, fun i hi => ?_⟩
    have l5 : (L.getD m []).length ≤ 5 := by
      have : L.getD m [] ∈ L := by
        rw [List.getD_eq_getElem?_getD, List.getElem?_eq_getElem c]
        exact List.getElem_mem c
      exact h5 _ this
    rw [o3 _ (by omega)]
    exact (h.2 m c).2 i hi
  · have e : m = L.length := by omega
    rw [e, gd_last]
    exact ⟨e2, e3⟩
theorem find_len {n : Nat} {g k : Nat → Nat → Bool} {p : List Nat → Bool} {d : Nat} {P R : List Nat} (h : (RGL n g k d P).find? p = some R) : 0 < R.length := by
  have m := List.mem_of_find?_eq_some h
  cases R with
  | nil => exact (RGL_ne m).elim
  | cons x r => exact Nat.succ_pos _
theorem FNO_top {B : Nat → Int} {n : Nat} {g k : Nat → Nat → Bool} {P : List Nat} {d left y : Nat} (h : FNO B n g k P d left y) (hy : n ≤ y) : (RGL n g k (d + 1) P).find? (okr 16 B left) = none := by
  rw [List.find?_eq_none]
  intro r hr
  have := RGL_RUP (g := g) (k := k) (d := d) (P := P) (r := r) hy |>.2 hr
  unfold FNO at h
  rw [List.find?_eq_none] at h
  exact h r this
theorem FR_self {a : Nat → Nat → Int} {b : Nat → Nat → Int} {n : Nat} {g k : Nat → Nat → Bool} {P : List Nat} {x1 x2 x3 x4 x5 : Int} (h : FRH a n g k P x1 x2 x3 x4 x5) : okr 16 (a 95) x5.toNat P = true ↔ jxw ((a 95 ((jxxor x5 x2).toNat)) + (f_X5_worth a b x4)) = a 95 (x5.toNat) := by
  obtain ⟨hG, hM, hP, hS, hL, hB⟩ := h
  have h12 := hG.2.1
  have t12 := two12 h12
  have m5 := hM.2.2.2.2.1
  have ml := hM.2.1
  have pl := SUB_le hS
  have e : jxxor x5 x2 = ((x5.toNat ^^^ PM P : Nat) : Int) := by
    have q := jxxor_nat x5.toNat (PM P) (by omega) (by omega)
    rw [Int.toNat_of_nonneg hL.1, ← m5] at q
    exact q
  have b1 := hB _ (xor_SUB hS)
  have b2 := hB _ (SUB_rf _)
  have l0 : P.length ≤ n := by
    have := popn_PM (m := n) hM.1.2.2.1 hM.1.2.1
    have := popn_le (PM P) n
    omega
  rw [okr_P hS, e, Int.toNat_natCast]
  unfold f_X5_worth
  rw [jxw_id (x := 16 * x4) (by omega) (by omega), jxw_id (x := 16 * x4 - 1) (by omega) (by omega), jxw_id (by omega) (by omega)]
  constructor
  · intro q; omega
  · intro q; omega
theorem take_s {R : List Nat} {i : Nat} (h : i < R.length) : R.take (i + 1) = R.take i ++ [R.getD i 0] := by
  rw [List.take_succ, List.getElem?_eq_getElem h, List.getD_eq_getElem?_getD, List.getElem?_eq_getElem h]
  rfl
theorem CFN_no {n : Nat} {g k : Nat → Nat → Bool} {B : Nat → Int} {y left : Nat} (hy : y < n) (h : left.testBit y = false) : CFN n g k 16 B (n - y) left = CFN n g k 16 B (n - (y + 1)) left := by
  rw [show n - y = (n - (y + 1)) + 1 by omega]
  show (if left.testBit (n - ((n - (y + 1)) + 1)) = true then _ else CFN n g k 16 B (n - (y + 1)) left) = _
  rw [show n - ((n - (y + 1)) + 1) = y by omega, h, if_neg (by decide)]
theorem CFN_none {n : Nat} {g k : Nat → Nat → Bool} {B : Nat → Int} {y left : Nat} (hy : y < n) (h : left.testBit y = true) (f : (RGL n g k 4 [y]).find? (okr 16 B left) = none) : CFN n g k 16 B (n - y) left = CFN n g k 16 B (n - (y + 1)) (left ^^^ 2 ^ y) := by
  rw [show n - y = (n - (y + 1)) + 1 by omega]
  show (if left.testBit (n - ((n - (y + 1)) + 1)) = true then (match (RGL n g k 4 [n - ((n - (y + 1)) + 1)]).find? (okr 16 B left) with
      | some r => r :: CFN n g k 16 B (n - (y + 1)) (left ^^^ PM r)
      | none => CFN n g k 16 B (n - (y + 1)) (left ^^^ 2 ^ (n - ((n - (y + 1)) + 1)))) else _) = _
  rw [show n - ((n - (y + 1)) + 1) = y by omega, h, if_pos rfl, f]
theorem CFN_some {n : Nat} {g k : Nat → Nat → Bool} {B : Nat → Int} {y left : Nat} {R : List Nat} (hy : y < n) (h : left.testBit y = true) (f : (RGL n g k 4 [y]).find? (okr 16 B left) = some R) : CFN n g k 16 B (n - y) left = R :: CFN n g k 16 B (n - (y + 1)) (left ^^^ PM R) := by
  rw [show n - y = (n - (y + 1)) + 1 by omega]
  show (if left.testBit (n - ((n - (y + 1)) + 1)) = true then (match (RGL n g k 4 [n - ((n - (y + 1)) + 1)]).find? (okr 16 B left) with
      | some r => r :: CFN n g k 16 B (n - (y + 1)) (left ^^^ PM r)
      | none => CFN n g k 16 B (n - (y + 1)) (left ^^^ 2 ^ (n - ((n - (y + 1)) + 1)))) else _) = _
  rw [show n - ((n - (y + 1)) + 1) = y by omega, h, if_pos rfl, f]
def TFH (a : Nat → Nat → Int) (n : Nat) (g k : Nat → Nat → Bool) : Prop := GRF a n g k ∧ (a 90 8).toNat < 2 ^ n ∧ ∀ t, SUB t (a 90 8).toNat → D16 (a 95 t) (popn 12 t)
def TFI (a0 a : Nat → Nat → Int) (n : Nat) (g k : Nat → Nat → Bool) (y1 : Int) (y : Nat) : Prop := ∃ L, FND a (a0 91) L ∧ L ++ CFN n g k 16 (a0 95) (n - y) y1.toNat = CFN n g k 16 (a0 95) n (a0 90 8).toNat ∧ SUB y1.toNat (a0 90 8).toNat ∧ 0 ≤ y1 ∧ (∀ r, r ∈ L → r.length ≤ 5) ∧ 2 * L.length + popn 12 y1.toNat ≤ 12
theorem TFI_no {a0 a : Nat → Nat → Int} {n : Nat} {g k : Nat → Nat → Bool} {y1 : Int} {y : Nat} (h : TFI a0 a n g k y1 y) (hy : y < n) (b : y1.toNat.testBit y = false) : TFI a0 a n g k y1 (y + 1) := by
  obtain ⟨L, h1, h2, h3, h4, h5, h6⟩ := h
  exact ⟨L, h1, by rw [← CFN_no hy b]; exact h2, h3, h4, h5, h6⟩
theorem xor_put {y1 : Int} {u x : Nat} (h4 : 0 ≤ y1) (h3 : SUB y1.toNat u) (hu : u < 4096) (hx : SUB x y1.toNat) : jxxor y1 (x : Int) = ((y1.toNat ^^^ x : Nat) : Int) := by
  have l1 := SUB_le h3
  have l2 := SUB_le hx
  have q := jxxor_nat y1.toNat x (by omega) (by omega)
  rw [Int.toNat_of_nonneg h4] at q
  exact q
theorem TFI_none {a0 a a1 : Nat → Nat → Int} {n : Nat} {g k : Nat → Nat → Bool} {y1 : Int} {y : Nat} (hH : TFH a0 n g k) (h : TFI a0 a n g k y1 y) (hy : y < n) (b : y1.toNat.testBit y = true) (f : (RGL n g k 4 [y]).find? (okr 16 (a0 95) y1.toNat) = none) (e1 : a1 90 12 = a 90 12) (e2 : ∀ j, a1 104 j = a 104 j) (e3 : ∀ j, a1 97 j = a 97 j) : TFI a0 a1 n g k (jxxor y1 (jxshl 1 (y : Int))) (y + 1) := by
  obtain ⟨L, h1, h2, h3, h4, h5, h6⟩ := h
  have h12 := hH.1.2.1
  have t12 := two12 h12
  have sb := bit_SUB b
  have e := xor_put h4 h3 (by have := hH.2.1; omega) sb
  rw [← jxshl1_n y (by omega)] at e
  rw [e]
  refine ⟨L, FND_fr h1 e1 e2 e3, by rw [Int.toNat_natCast, ← CFN_none hy b f]; exact h2, by rw [Int.toNat_natCast]; exact SUB_tr (xor_SUB sb) h3, by omega, h5, ?_⟩
  rw [Int.toNat_natCast]
  have := popn_less sb 12
  omega
theorem TFI_some {a0 a a1 : Nat → Nat → Int} {n : Nat} {g k : Nat → Nat → Bool} {y1 r : Int} {y : Nat} {R : List Nat} (hH : TFH a0 n g k) (h : TFI a0 a n g k y1 y) (hy : y < n) (b : y1.toNat.testBit y = true) (f : (RGL n g k 4 [y]).find? (okr 16 (a0 95) y1.toNat) = some R) (hr : r = ((PM R : Nat) : Int))
    (e1 : a1 90 12 = a 90 12 + 1) (e2 : UP (a 104) (a1 104) (a 90 12).toNat (R.length : Int)) (e3 : ∀ i, i < R.length → a1 97 ((a 90 12).toNat * 5 + i) = a0 91 (R.getD i 0)) (o3 : ∀ j, j < (a 90 12).toNat * 5 → a1 97 j = a 97 j) : TFI a0 a1 n g k (jxxor y1 r) (y + 1) := by
  obtain ⟨L, h1, h2, h3, h4, h5, h6⟩ := h
  have h12 := hH.1.2.1
  have t12 := two12 h12
  have mem := List.mem_of_find?_eq_some f
  obtain ⟨l1, l2, l3, l4, l5⟩ := ring_len hH.1.2.2.1 h12 hy mem
  have ok := List.find?_some f
  unfold okr at ok
  rw [Bool.and_eq_true, decide_eq_true_eq] at ok
  have sb := SUB_and.2 ok.1
  have e := xor_put h4 h3 (by have := hH.2.1; omega) sb
  have eL : (a 90 12).toNat = L.length := by have := h1.1; omega
  rw [eL] at e2 e3 o3
  rw [hr, e]
  refine ⟨L ++ [R], FND_s h1 h5 e1 (by rw [e2 L.length, if_pos rfl]) e3 (fun j hj => by rw [e2 j, if_neg hj]) o3, ?_, by rw [Int.toNat_natCast]; exact SUB_tr (xor_SUB sb) h3, by omega, fun q hq => ?_, ?_⟩
  · rw [Int.toNat_natCast, List.append_assoc]
    show L ++ (R :: CFN n g k 16 (a0 95) (n - (y + 1)) (y1.toNat ^^^ PM R)) = _
    rw [← CFN_some hy b f]
    exact h2
  · rcases List.mem_append.1 hq with z | z
    · exact h5 q z
    · rw [List.mem_singleton.1 z]; exact l3
  · rw [Int.toNat_natCast, List.length_append]
    have := popn_less sb 12
    show 2 * (L.length + 1) + _ ≤ 12
    omega
theorem TFI_room {a0 a : Nat → Nat → Int} {n : Nat} {g k : Nat → Nat → Bool} {y1 : Int} {y : Nat} {R : List Nat} (hH : TFH a0 n g k) (h : TFI a0 a n g k y1 y) (hy : y < n) (f : (RGL n g k 4 [y]).find? (okr 16 (a0 95) y1.toNat) = some R) : a 90 12 ≤ 5 ∧ (∀ x, x ∈ R → x < 12) ∧ 2 ≤ R.length ∧ R.length ≤ 5 := by
  obtain ⟨L, h1, h2, h3, h4, h5, h6⟩ := h
  have h12 := hH.1.2.1
  have mem := List.mem_of_find?_eq_some f
  obtain ⟨l1, l2, l3, l4, l5⟩ := ring_len hH.1.2.2.1 h12 hy mem
  have ok := List.find?_some f
  unfold okr at ok
  rw [Bool.and_eq_true, decide_eq_true_eq] at ok
  have := popn_less (SUB_and.2 ok.1) 12
  have := h1.1
  exact ⟨by omega, fun x hx => by have := l5.2.1 x hx; omega, l2, l3⟩
theorem gS_fr {a a1 b b1 : Nat → Nat → Int} (e46 : a1 4 6 = a 4 6) (e836 : a1 83 6 = a 83 6) (r7 : a1 7 = a 7) (r84 : a1 84 = a 84) (r85 : a1 85 = a 85) (r86 : a1 86 = a 86) (st : Nat → Int) : gS a1 b1 st = gS a b st ∧ kS a1 b1 st = kS a b st := by
  have m : ∀ x, f_X4_memberOf a1 b1 x = f_X4_memberOf a b x := fun x => by
    unfold f_X4_memberOf f_X11_entry_r84
    rw [e836, r84]
  have w : ∀ x, f_X4_wantsOf a1 b1 x = f_X4_wantsOf a b x := fun x => by
    unfold f_X4_wantsOf f_X4_has
    rw [e836, r86]
  have kd : ∀ x, f_X4_kindOf a1 b1 x = f_X4_kindOf a b x := fun x => by
    unfold f_X4_kindOf f_X11_entry_r85
    rw [e836, r85]
  constructor
  · refine funext fun i => funext fun j => ?_
    unfold gS
    rw [m, m, w, kd, areKin_fr (b := b) e46 r7]
  · refine funext fun i => funext fun j => ?_
    unfold kS
    rw [m, m, areKin_fr (b := b) e46 r7]
def RGC (a0 b0 a : Nat → Nat → Int) (r : Int) : Prop := ∃ (n : Nat) (st : Nat → Int) (u : Nat) (B : Nat → Int), SEAT (a0 87) (a0 83 6).toNat n st ∧ n ≤ 12 ∧ ISB n (gS a0 b0 st) (kS a0 b0 st) 16 u B ∧ USE n (gS a0 b0 st) (kS a0 b0 st) u ∧ u < 2 ^ n ∧ FND a st (CFN n (gS a0 b0 st) (kS a0 b0 st) 16 B n u) ∧ r = a 90 12
theorem MKA_use {a b : Nat → Nat → Int} {n : Nat} {g k : Nat → Nat → Bool} (h : MKA a b (RUA n g k n)) (hk : ∀ i, k i i = true) : USE n g k (a 90 8).toNat ∧ (a 90 8).toNat < 2 ^ n := by
  constructor
  · intro s hs r hr i hi
    rw [PM_bit] at hi
    exact (h.2 i).2 ⟨r, RUA_mem.2 ⟨s, hs, hr⟩, hi⟩
  · refine Nat.lt_of_le_of_lt (SUB_le (b := 2 ^ n - 1) (fun i q => ?_)) (by have := pow_pos2 n; omega)
    obtain ⟨r, r1, r2⟩ := (h.2 i).1 q
    obtain ⟨s, hs, hr⟩ := RUA_mem.1 r1
    rw [Nat.testBit_two_pow_sub_one]
    exact decide_eq_true ((RGL_mem hk (VP_one hs) hr).1.2.1 i r2)
