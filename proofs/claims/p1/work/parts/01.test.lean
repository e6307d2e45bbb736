theorem tx_a (a b : Int32) (h : 0 ≤ a) (h2 : a < 40) (hb : 0 ≤ b) (hb2 : b < 16): a * 16 + b < 656 := by grind
theorem tx_b (a b : Int) (h : 0 ≤ a) (h2 : a < 40) (hb : 0 ≤ b) (hb2 : b < 16): Int.bmod (a * 16 + b) 4294967296 = a * 16 + b := by omega
