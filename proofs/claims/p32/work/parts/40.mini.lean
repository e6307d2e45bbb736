theorem jxw_id {x : Int} (h1 : -2147483648 ≤ x) (h2 : x < 2147483648) : jxw x = x := by
  unfold jxw
  rw [Int.bmod_def]
  omega
theorem jxbI_some (sh : List jxK) (r : Int) (a b : Nat → Nat → Int) (k : Int → (Nat → Nat → Int) → (Nat → Nat → Int) → Option jxR) : jxbI sh (some ([.inl r], (sh, a, b))) k = k r a b := by
  simp [jxbI, jxsame]
theorem jxbJ_some (sh : List jxK) (r : Int) (a b : Nat → Nat → Int) (k : Int → (Nat → Nat → Int) → (Nat → Nat → Int) → Option jxR) : jxbJ sh (some ([.inr (.inl r)], (sh, a, b))) k = k r a b := by
  simp [jxbJ, jxsame]
theorem jxbV_some (sh : List jxK) (a b : Nat → Nat → Int) (k : (Nat → Nat → Int) → (Nat → Nat → Int) → Option jxR) : jxbV sh (some ([], (sh, a, b))) k = k a b := by
  simp [jxbV, jxsame]
