/-! the cards, in the two programs' own words -/
def pC (a b : Nat → Nat → Int) (x y : Int) (k : Nat) : Int := if f_X0_has a b (a 66 k) = 0 then 0 else if a 65 (a 66 k).toNat = (k : Int) then (if a 67 k = -1 then 0 else if f_X3_landOf a b (a 59 (a 66 k).toNat) = x then (if f_X3_landOf a b (a 60 (a 66 k).toNat) = y then 1 else 0) else 0) else 0
theorem pC_iff {a b : Nat → Nat → Int} {x y : Int} {k : Nat} : pC a b x y k = 1 ↔ (¬ f_X0_has a b (a 66 k) = 0 ∧ a 65 (a 66 k).toNat = (k : Int) ∧ ¬ a 67 k = -1 ∧ f_X3_landOf a b (a 59 (a 66 k).toNat) = x ∧ f_X3_landOf a b (a 60 (a 66 k).toNat) = y) := by
  unfold pC
  by_cases c1 : f_X0_has a b (a 66 k) = 0
  · rw [if_pos c1]; exact ⟨fun h => absurd h (by decide), fun h => absurd c1 h.1⟩
  rw [if_neg c1]
  by_cases c2 : a 65 (a 66 k).toNat = (k : Int)
  · rw [if_pos c2]
    by_cases c3 : a 67 k = -1
    · rw [if_pos c3]; exact ⟨fun h => absurd h (by decide), fun h => absurd c3 h.2.2.1⟩
    rw [if_neg c3]
    by_cases c4 : f_X3_landOf a b (a 59 (a 66 k).toNat) = x
    · rw [if_pos c4]
      by_cases c5 : f_X3_landOf a b (a 60 (a 66 k).toNat) = y
      · rw [if_pos c5]; exact ⟨fun _ => ⟨c1, c2, c3, c4, c5⟩, fun _ => rfl⟩
      · rw [if_neg c5]; exact ⟨fun h => absurd h (by decide), fun h => absurd h.2.2.2.2 c5⟩
    · rw [if_neg c4]; exact ⟨fun h => absurd h (by decide), fun h => absurd h.2.2.2.1 c4⟩
  · rw [if_neg c2]; exact ⟨fun h => absurd h (by decide), fun h => absurd h.2.1 c2⟩
def dC (a : Nat → Nat → Int) (k : Nat) : Int := jxw (a 67 k - a 61 (a 66 k).toNat)
def SPC (a b : Nat → Nat → Int) (x y : Int) : Int × Int × Int := SPN (pC a b x y) (dC a) 0 (a 58 12).toNat (0, -1, -1)
def pR (a : Nat → Nat → Int) (x y : Int) (k : Nat) : Int := if a 160 (a 161 k).toNat = (k : Int) then (if a 162 k = -1 then 0 else if a 159 (a 161 k).toNat = -1 then (if a 148 (a 154 (a 161 k).toNat).toNat = x then (if a 148 (a 155 (a 161 k).toNat).toNat = y then 1 else 0) else 0) else 0) else 0
theorem pR_iff {a : Nat → Nat → Int} {x y : Int} {k : Nat} : pR a x y k = 1 ↔ (a 160 (a 161 k).toNat = (k : Int) ∧ ¬ a 162 k = -1 ∧ a 159 (a 161 k).toNat = -1 ∧ a 148 (a 154 (a 161 k).toNat).toNat = x ∧ a 148 (a 155 (a 161 k).toNat).toNat = y) := by
  unfold pR
  by_cases c2 : a 160 (a 161 k).toNat = (k : Int)
  · rw [if_pos c2]
    by_cases c3 : a 162 k = -1
    · rw [if_pos c3]; exact ⟨fun h => absurd h (by decide), fun h => absurd c3 h.2.1⟩
    rw [if_neg c3]
    by_cases c6 : a 159 (a 161 k).toNat = -1
    · rw [if_pos c6]
      by_cases c4 : a 148 (a 154 (a 161 k).toNat).toNat = x
      · rw [if_pos c4]
        by_cases c5 : a 148 (a 155 (a 161 k).toNat).toNat = y
        · rw [if_pos c5]; exact ⟨fun _ => ⟨c2, c3, c6, c4, c5⟩, fun _ => rfl⟩
        · rw [if_neg c5]; exact ⟨fun h => absurd h (by decide), fun h => absurd h.2.2.2.2 c5⟩
      · rw [if_neg c4]; exact ⟨fun h => absurd h (by decide), fun h => absurd h.2.2.2.1 c4⟩
    · rw [if_neg c6]; exact ⟨fun h => absurd h (by decide), fun h => absurd h.2.2.1 c6⟩
  · rw [if_neg c2]; exact ⟨fun h => absurd h (by decide), fun h => absurd h.1 c2⟩
def dR (a : Nat → Nat → Int) (k : Nat) : Int := jxw (a 162 k - a 156 (a 161 k).toNat)
def SPR (a : Nat → Nat → Int) (x y : Int) : Int × Int × Int := SPN (pR a x y) (dR a) 1 (a 146 17).toNat (0, 1000000, 0)
/-- a bound -/
def BNC (a b : Nat → Nat → Int) (x y z : Int) : Int := if (SPC a b x y).1 = 0 then z else if jxw ((jxw (2 * (SPC a b x y).2.2)) + 7) < z then jxw ((jxw (2 * (SPC a b x y).2.2)) + 7) else z
def BNR (a : Nat → Nat → Int) (x y : Int) : Int := if (SPR a x y).1 = 0 then a 171 3 else if a 171 3 < jxw ((jxw (2 * (SPR a x y).2.2)) + 7) then a 171 3 else jxw ((jxw (2 * (SPR a x y).2.2)) + 7)
/-! the class's counts -/
def TAD (a a1 : Nat → Nat → Int) (x1 x2 x3 x4 : Int) : Prop := ∀ m : Nat,
  a1 70 m = (if (0 ≤ x1 ∧ x1 ≤ 39 ∧ 0 ≤ x2 ∧ x2 ≤ 39) ∧ (m : Int) = x1 ∧ (x3 = 1 ∨ x3 = 3) then jxw (a 70 m + 1) else a 70 m) ∧
  a1 71 m = (if (0 ≤ x1 ∧ x1 ≤ 39 ∧ 0 ≤ x2 ∧ x2 ≤ 39) ∧ (m : Int) = x2 ∧ (x3 = 1 ∨ x3 = 3) then jxw (a 71 m + 1) else a 71 m) ∧
  a1 72 m = (if (0 ≤ x1 ∧ x1 ≤ 39 ∧ 0 ≤ x2 ∧ x2 ≤ 39) ∧ (m : Int) = x2 ∧ x3 = 0 then jxw (a 72 m + 1) else a 72 m) ∧
  a1 73 m = (if (0 ≤ x1 ∧ x1 ≤ 39 ∧ 0 ≤ x2 ∧ x2 ≤ 39) ∧ (m : Int) = x1 ∧ x3 = 0 then jxw (a 73 m + 1) else a 73 m) ∧
  a1 74 m = (if (0 ≤ x1 ∧ x1 ≤ 39 ∧ 0 ≤ x2 ∧ x2 ≤ 39) ∧ (m : Int) = x1 ∧ x3 = 2 then jxw (a 74 m + 1) else a 74 m) ∧
  a1 75 m = (if (0 ≤ x1 ∧ x1 ≤ 39 ∧ 0 ≤ x2 ∧ x2 ≤ 39) ∧ (m : Int) = x2 then x4 else a 75 m)
theorem TAD_no {a : Nat → Nat → Int} {x1 x2 x3 x4 : Int} (h : ¬ (0 ≤ x1 ∧ x1 ≤ 39 ∧ 0 ≤ x2 ∧ x2 ≤ 39)) : TAD a a x1 x2 x3 x4 := fun m => by
  rw [if_neg (fun q => h q.1), if_neg (fun q => h q.1), if_neg (fun q => h q.1), if_neg (fun q => h q.1), if_neg (fun q => h q.1), if_neg (fun q => h q.1)]
  exact ⟨rfl, rfl, rfl, rfl, rfl, rfl⟩
theorem UP_pt {f g : Nat → Int} {x : Int} {e : Int → Int} (h : UP f g x.toNat (e (f x.toNat))) (h0 : 0 ≤ x) (m : Nat) : g m = if (m : Int) = x then e (f m) else f m := by
  rw [h m]
  by_cases c : m = x.toNat
  · rw [if_pos c, if_pos (by omega), c]
  · rw [if_neg c, if_neg (by omega)]
theorem TAD_a {a a1 : Nat → Nat → Int} {x1 x2 x3 x4 : Int} (h : 0 ≤ x1 ∧ x1 ≤ 39 ∧ 0 ≤ x2 ∧ x2 ≤ 39) (h3 : x3 = 1 ∨ x3 = 3) (u75 : UP (a 75) (a1 75) x2.toNat x4) (u70 : UP (a 70) (a1 70) x1.toNat (jxw (a 70 x1.toNat + 1))) (u71 : UP (a 71) (a1 71) x2.toNat (jxw (a 71 x2.toNat + 1))) (s72 : ∀ j, a1 72 j = a 72 j) (s73 : ∀ j, a1 73 j = a 73 j) (s74 : ∀ j, a1 74 j = a 74 j) : TAD a a1 x1 x2 x3 x4 := fun m => by
  rw [UP_pt (e := fun _ => x4) u75 h.2.2.1 m, UP_pt (e := fun z => jxw (z + 1)) u70 h.1 m, UP_pt (e := fun z => jxw (z + 1)) u71 h.2.2.1 m, s72, s73, s74]
  refine ⟨?_, ?_, ?_, ?_, ?_, ?_⟩
  · by_cases c : (m : Int) = x1
    · rw [if_pos c, if_pos ⟨h, c, h3⟩]
    · rw [if_neg c, if_neg (fun q => c q.2.1)]
  · by_cases c : (m : Int) = x2
    · rw [if_pos c, if_pos ⟨h, c, h3⟩]
    · rw [if_neg c, if_neg (fun q => c q.2.1)]
  · rw [if_neg (fun q => by have := q.2.2; omega)]
  · rw [if_neg (fun q => by have := q.2.2; omega)]
  · rw [if_neg (fun q => by have := q.2.2; omega)]
  · by_cases c : (m : Int) = x2
    · rw [if_pos c, if_pos ⟨h, c⟩]
    · rw [if_neg c, if_neg (fun q => c q.2)]
theorem TAD_b {a a1 : Nat → Nat → Int} {x1 x2 x3 x4 : Int} (h : 0 ≤ x1 ∧ x1 ≤ 39 ∧ 0 ≤ x2 ∧ x2 ≤ 39) (h3 : x3 = 0) (u75 : UP (a 75) (a1 75) x2.toNat x4) (u72 : UP (a 72) (a1 72) x2.toNat (jxw (a 72 x2.toNat + 1))) (u73 : UP (a 73) (a1 73) x1.toNat (jxw (a 73 x1.toNat + 1))) (s70 : ∀ j, a1 70 j = a 70 j) (s71 : ∀ j, a1 71 j = a 71 j) (s74 : ∀ j, a1 74 j = a 74 j) : TAD a a1 x1 x2 x3 x4 := fun m => by
  rw [UP_pt (e := fun _ => x4) u75 h.2.2.1 m, UP_pt (e := fun z => jxw (z + 1)) u72 h.2.2.1 m, UP_pt (e := fun z => jxw (z + 1)) u73 h.1 m, s70, s71, s74]
  refine ⟨?_, ?_, ?_, ?_, ?_, ?_⟩
  · rw [if_neg (fun q => by have := q.2.2; omega)]
  · rw [if_neg (fun q => by have := q.2.2; omega)]
  · by_cases c : (m : Int) = x2
    · rw [if_pos c, if_pos ⟨h, c, h3⟩]
    · rw [if_neg c, if_neg (fun q => c q.2.1)]
  · by_cases c : (m : Int) = x1
    · rw [if_pos c, if_pos ⟨h, c, h3⟩]
    · rw [if_neg c, if_neg (fun q => c q.2.1)]
  · rw [if_neg (fun q => by have := q.2.2; omega)]
  · by_cases c : (m : Int) = x2
    · rw [if_pos c, if_pos ⟨h, c⟩]
    · rw [if_neg c, if_neg (fun q => c q.2)]
theorem TAD_c {a a1 : Nat → Nat → Int} {x1 x2 x3 x4 : Int} (h : 0 ≤ x1 ∧ x1 ≤ 39 ∧ 0 ≤ x2 ∧ x2 ≤ 39) (h3 : x3 = 2) (u75 : UP (a 75) (a1 75) x2.toNat x4) (u74 : UP (a 74) (a1 74) x1.toNat (jxw (a 74 x1.toNat + 1))) (s70 : ∀ j, a1 70 j = a 70 j) (s71 : ∀ j, a1 71 j = a 71 j) (s72 : ∀ j, a1 72 j = a 72 j) (s73 : ∀ j, a1 73 j = a 73 j) : TAD a a1 x1 x2 x3 x4 := fun m => by
  rw [UP_pt (e := fun _ => x4) u75 h.2.2.1 m, UP_pt (e := fun z => jxw (z + 1)) u74 h.1 m, s70, s71, s72, s73]
  refine ⟨?_, ?_, ?_, ?_, ?_, ?_⟩
  · rw [if_neg (fun q => by have := q.2.2; omega)]
  · rw [if_neg (fun q => by have := q.2.2; omega)]
  · rw [if_neg (fun q => by have := q.2.2; omega)]
  · rw [if_neg (fun q => by have := q.2.2; omega)]
  · by_cases c : (m : Int) = x1
    · rw [if_pos c, if_pos ⟨h, c, h3⟩]
    · rw [if_neg c, if_neg (fun q => c q.2.1)]
  · by_cases c : (m : Int) = x2
    · rw [if_pos c, if_pos ⟨h, c⟩]
    · rw [if_neg c, if_neg (fun q => c q.2)]
theorem TAD_d {a a1 : Nat → Nat → Int} {x1 x2 x3 x4 : Int} (h : 0 ≤ x1 ∧ x1 ≤ 39 ∧ 0 ≤ x2 ∧ x2 ≤ 39) (h3 : ¬ x3 = 0 ∧ ¬ x3 = 1 ∧ ¬ x3 = 2 ∧ ¬ x3 = 3) (u75 : UP (a 75) (a1 75) x2.toNat x4) (s70 : ∀ j, a1 70 j = a 70 j) (s71 : ∀ j, a1 71 j = a 71 j) (s72 : ∀ j, a1 72 j = a 72 j) (s73 : ∀ j, a1 73 j = a 73 j) (s74 : ∀ j, a1 74 j = a 74 j) : TAD a a1 x1 x2 x3 x4 := fun m => by
  rw [UP_pt (e := fun _ => x4) u75 h.2.2.1 m, s70, s71, s72, s73, s74]
  refine ⟨?_, ?_, ?_, ?_, ?_, ?_⟩
  · rw [if_neg (fun q => by have := q.2.2; omega)]
  · rw [if_neg (fun q => by have := q.2.2; omega)]
  · rw [if_neg (fun q => by have := q.2.2; omega)]
  · rw [if_neg (fun q => by have := q.2.2; omega)]
  · rw [if_neg (fun q => by have := q.2.2; omega)]
  · by_cases c : (m : Int) = x2
    · rw [if_pos c, if_pos ⟨h, c⟩]
    · rw [if_neg c, if_neg (fun q => c q.2)]
def tVl (a : Nat → Nat → Int) (c : Nat) : Prop := 0 ≤ a 59 c ∧ a 59 c ≤ 39 ∧ 0 ≤ a 60 c ∧ a 60 c ≤ 39
noncomputable def tF (a b : Nat → Nat → Int) (w m : Int) (k : Nat) (p : Int → Prop) (c : Nat) : Int := @ite Int (tVl a c ∧ m = a k c ∧ p (f_X0_stateNow a b (c : Int) w)) (Classical.propDecidable _) 1 0
noncomputable def tL (a : Nat → Nat → Int) (m : Int) : Nat → Int
  | 0 => -1
  | n + 1 => @ite Int (tVl a n ∧ m = a 60 n) (Classical.propDecidable _) (a 61 n) (tL a m n)
def hasP (s : Int) : Prop := s = 1 ∨ s = 3
def TSUM (a0 b0 : Nat → Nat → Int) (w : Int) (a : Nat → Nat → Int) (n : Nat) : Prop := ∀ m : Nat, m < 40 →
  a 70 m = SUMN (tF a0 b0 w m 59 hasP) n ∧ a 71 m = SUMN (tF a0 b0 w m 60 hasP) n ∧ a 72 m = SUMN (tF a0 b0 w m 60 (fun s => s = 0)) n ∧ a 73 m = SUMN (tF a0 b0 w m 59 (fun s => s = 0)) n ∧ a 74 m = SUMN (tF a0 b0 w m 59 (fun s => s = 2)) n ∧ a 75 m = tL a0 m n
theorem TSUM_0 {a0 b0 a : Nat → Nat → Int} {w : Int} (h : ∀ m : Nat, m < 40 → a 70 m = 0 ∧ a 71 m = 0 ∧ a 72 m = 0 ∧ a 73 m = 0 ∧ a 74 m = 0 ∧ a 75 m = -1) : TSUM a0 b0 w a 0 := fun m hm => h m hm
theorem tF_rg (a b : Nat → Nat → Int) (w m : Int) (k : Nat) (p : Int → Prop) (c : Nat) : 0 ≤ tF a b w m k p c ∧ tF a b w m k p c ≤ 1 := by
  unfold tF
  by_cases q : tVl a c ∧ m = a k c ∧ p (f_X0_stateNow a b (c : Int) w)
  · rw [if_pos q]; omega
  · rw [if_neg q]; omega
theorem tF_step {a b : Nat → Nat → Int} {w m : Int} {k n : Nat} {p : Int → Prop} {v z : Int} {c : Prop} {d : Decidable c} (hv : v = SUMN (tF a b w m k p) n) (hn : n ≤ 300) (hz : z = @ite Int c d (jxw (v + 1)) v) (hc : c ↔ (tVl a n ∧ m = a k n ∧ p (f_X0_stateNow a b (n : Int) w))) : z = SUMN (tF a b w m k p) (n + 1) := by
  have bd := SUMN_bd (f := tF a b w m k p) (n := n) (fun j _ => tF_rg a b w m k p j)
  show z = SUMN (tF a b w m k p) n + tF a b w m k p n
  rw [hz]
  unfold tF at *
  by_cases q : c
  · rw [if_pos q, if_pos (hc.1 q), ← hv, jxw_id (by omega) (by omega)]
  · rw [if_neg q, if_neg (fun e => q (hc.2 e)), ← hv]; omega
theorem TSUM_step {a0 b0 a a1 : Nat → Nat → Int} {w : Int} {n : Nat} (h : TSUM a0 b0 w a n) (hn : n ≤ 300) (t : TAD a a1 (a0 59 n) (a0 60 n) (f_X0_stateNow a0 b0 ((n : Nat) : Int) w) (a0 61 n)) : TSUM a0 b0 w a1 (n + 1) := fun m hm => by
  obtain ⟨h1, h2, h3, h4, h5, h6⟩ := h m hm
  obtain ⟨t1, t2, t3, t4, t5, t6⟩ := t m
  refine ⟨tF_step h1 hn t1 Iff.rfl, tF_step h2 hn t2 Iff.rfl, tF_step h3 hn t3 Iff.rfl, tF_step h4 hn t4 Iff.rfl, tF_step h5 hn t5 Iff.rfl, ?_⟩
  rw [t6]
  show _ = @ite Int (tVl a0 n ∧ (m : Int) = a0 60 n) (Classical.propDecidable _) (a0 61 n) (tL a0 m n)
  by_cases q : tVl a0 n ∧ (m : Int) = a0 60 n
  · exact (if_pos q).trans (if_pos q).symm
  · exact ((if_neg q).trans h6).trans (if_neg q).symm
theorem fromOf_at {a b : Nat → Nat → Int} {x : Int} (h0 : 0 ≤ x) (h1 : x < a 58 8) (h2 : a 58 8 ≤ 300) : f_X0_fromOf a b x = a 59 x.toNat := by
  show (if x < 0 then (-1) else (if x < a 58 8 then (if x < 300 then a 59 x.toNat else (-1)) else (-1))) = _
  rw [if_neg (by omega), if_pos h1, if_pos (by omega)]
theorem toOf_at {a b : Nat → Nat → Int} {x : Int} (h0 : 0 ≤ x) (h1 : x < a 58 8) (h2 : a 58 8 ≤ 300) : f_X0_toOf a b x = a 60 x.toNat := by
  show (if x < 0 then (-1) else (if x < a 58 8 then (if x < 300 then a 60 x.toNat else (-1)) else (-1))) = _
  rw [if_neg (by omega), if_pos h1, if_pos (by omega)]
theorem sentOf_at {a b : Nat → Nat → Int} {x : Int} (h0 : 0 ≤ x) (h1 : x < a 58 8) (h2 : a 58 8 ≤ 300) : f_X0_sentOnOf a b x = a 61 x.toNat := by
  show (if x < 0 then (-1) else (if x < a 58 8 then (if x < 300 then a 61 x.toNat else (-1)) else (-1))) = _
  rw [if_neg (by omega), if_pos h1, if_pos (by omega)]
theorem stNow_fr {a a1 b : Nat → Nat → Int} (e8 : a1 58 8 = a 58 8) (e12 : a1 58 12 = a 58 12) (r61 : a1 61 = a 61) (r62 : a1 62 = a 62) (r64 : a1 64 = a 64) (r65 : a1 65 = a 65) (r67 : a1 67 = a 67) (x y : Int) : f_X0_stateNow a1 b x y = f_X0_stateNow a b x y := by
  unfold f_X0_stateNow f_X0_stateOn f_X0_stateOn_at30 f_X0_stateOn_at54 f_X0_stateOn_at55 f_X0_stateOn_at100 f_X0_stateOn_at98 f_X0_stateOn_at94 f_X0_arrivedOnOf f_X11_entry_r67 f_X11_entry_r65 f_X0_has
  rw [e8, e12, r61, r62, r64, r65, r67]
