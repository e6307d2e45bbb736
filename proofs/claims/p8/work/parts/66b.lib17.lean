/-! the stack of the reference's reader -/
theorem dep_OUL (f : Nat → Int) : ∀ m, (dep (OUL f m) : Int) = jdp f m
  | 0 => rfl
  | m + 1 => by
    have h := dep_OUL f m
    show (((if f m = 2 ∨ f m = 100 then 1 else 0) + dep (OUL f m) : Nat) : Int) = jdp f m + (if f m = 2 ∨ f m = 100 then 1 else 0)
    by_cases e : f m = 2 ∨ f m = 100
    · rw [if_pos e, if_pos e]; omega
    · rw [if_neg e, if_neg e]; omega
