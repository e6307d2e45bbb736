/-! the stack of the reference's reader -/
theorem dep_OUL (f : Nat → Int) : ∀ m, (dep (OUL f m) : Int) = jdp f m
  | 0 => rfl
  | m + 1 => by
    have h := dep_OUL f m
    show (((if f m = 2 ∨ f m = 100 then 1 else 0) + dep (OUL f m) : Nat) : Int) = jdp f m + (if f m = 2 ∨ f m = 100 then 1 else 0)
    by_cases e : f m = 2 ∨ f m = 100
    · rw [if_pos e, if_pos e]; omega
    · rw [if_neg e, if_neg e]; omega
theorem UP_p2 {a : Nat → Nat → Int} {k i k2 i2 : Nat} {v v2 : Int} (h : ¬ k = k2) : UP (a k) (jxu (jxu a k i v) k2 i2 v2 k) i v := by
  intro j
  simp [jxu, h]
theorem UP_p3 {a : Nat → Nat → Int} {k i k2 i2 k3 i3 : Nat} {v v2 v3 : Int} (h : ¬ k = k2) (h3 : ¬ k = k3) : UP (a k) (jxu (jxu (jxu a k i v) k2 i2 v2) k3 i3 v3 k) i v := by
  intro j
  simp [jxu, h, h3]
