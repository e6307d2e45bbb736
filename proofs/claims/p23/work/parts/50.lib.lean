def jxT (k j : Nat) : Int × Int := (bif Nat.ble 156 k then (bif Nat.ble 179 k then (bif Nat.ble 189 k then (bif Nat.ble 194 k then (bif Nat.ble 196 k then (bif Nat.ble 197 k then (bif Nat.beq k 197 then (0, 50) else (1, 0)) else (bif Nat.beq k 196 then ((-1), 500) else (1, 0))) else (bif Nat.ble 195 k then (bif Nat.beq k 195 then (0, 900) else (1, 0)) else (bif Nat.beq k 194 then (0, 900) else (1, 0)))) else (bif Nat.ble 190 k then (bif Nat.ble 193 k then (bif Nat.beq k 193 then (0, 12) else (1, 0)) else (bif Nat.beq k 190 then (0, 5) else (1, 0))) else (bif Nat.beq k 189 then (0, 19) else (1, 0)))) else (bif Nat.ble 184 k then (bif Nat.ble 186 k then (bif Nat.ble 187 k then (bif Nat.beq k 187 then (0, 12) else (1, 0)) else (bif Nat.beq k 186 then (0, 27000) else (1, 0))) else (bif Nat.beq k 184 then (0, 4095) else (1, 0))) else (bif Nat.ble 181 k then (bif Nat.ble 183 k then (bif Nat.beq k 183 then (0, 19) else (1, 0)) else (bif Nat.beq k 181 then (0, 2) else (1, 0))) else (bif Nat.beq k 179 then (0, 31) else (1, 0))))) else (bif Nat.ble 169 k then (bif Nat.ble 174 k then (bif Nat.ble 176 k then (bif Nat.ble 178 k then (bif Nat.beq k 178 then (0, 39) else (1, 0)) else (bif Nat.beq k 176 then ((-1), 39) else (1, 0))) else (bif Nat.beq k 174 then (0, 39) else (1, 0))) else (bif Nat.ble 170 k then (bif Nat.ble 173 k then (bif Nat.beq k 173 then (0, 39) else (1, 0)) else (bif Nat.beq k 170 then (0, 1) else (1, 0))) else (bif Nat.beq k 169 then (0, 100) else (1, 0)))) else (bif Nat.ble 164 k then (bif Nat.ble 165 k then (bif Nat.ble 167 k then (bif Nat.beq k 167 then (0, 64) else (1, 0)) else (bif Nat.beq k 165 then (3, 0) else (1, 0))) else (bif Nat.beq k 164 then ((-128), 127) else (1, 0))) else (bif Nat.ble 160 k then (bif Nat.ble 161 k then (bif Nat.beq k 161 then (0, 299) else (1, 0)) else (bif Nat.beq k 160 then ((-1), 599) else (1, 0))) else (bif Nat.beq k 156 then (0, 1999) else (1, 0)))))) else (bif Nat.ble 104 k then (bif Nat.ble 146 k then (bif Nat.ble 150 k then (bif Nat.ble 154 k then (bif Nat.ble 155 k then (bif Nat.beq k 155 then (0, 39) else (1, 0)) else (bif Nat.beq k 154 then (0, 39) else (1, 0))) else (bif Nat.ble 152 k then (bif Nat.beq k 152 then (0, 1) else (1, 0)) else (bif Nat.beq k 150 then ((-1), 19) else (1, 0)))) else (bif Nat.ble 147 k then (bif Nat.ble 148 k then (bif Nat.beq k 148 then (0, 15) else (1, 0)) else (bif Nat.beq k 147 then (0, 99) else (1, 0))) else (bif Nat.beq k 146 then (bif Nat.beq j 0 then (0, 1999) else (bif Nat.beq j 17 then (0, 600) else (bif Nat.beq j 2 then (0, 40) else (bif Nat.beq j 22 then (0, 200) else (bif Nat.beq j 23 then (0, 200) else (bif Nat.beq j 25 then (0, 200) else (bif Nat.beq j 26 then (0, 999) else (bif Nat.beq j 32 then (0, 64) else (bif Nat.beq j 33 then (0, 12) else (bif Nat.beq j 35 then (0, 64) else (bif Nat.beq j 39 then (0, 10) else (bif Nat.beq j 42 then (0, 8) else (bif Nat.beq j 44 then (0, 8) else (bif Nat.beq j 49 then (0, 20) else (bif Nat.beq j 56 then (0, 12) else (bif Nat.beq j 58 then (0, 27000) else (bif Nat.beq j 64 then (0, 6) else (bif Nat.beq j 68 then (0, 10) else (bif Nat.beq j 9 then (0, 300) else (1, 0)))))))))))))))))))) else (1, 0)))) else (bif Nat.ble 108 k then (bif Nat.ble 119 k then (bif Nat.ble 130 k then (bif Nat.beq k 130 then (0, 999) else (1, 0)) else (bif Nat.beq k 119 then (0, 999) else (1, 0))) else (bif Nat.beq k 108 then (0, 999) else (1, 0))) else (bif Nat.ble 105 k then (bif Nat.ble 107 k then (bif Nat.beq k 107 then (0, 12) else (1, 0)) else (bif Nat.beq k 105 then (bif Nat.beq j 5 then (0, 10) else (1, 0)) else (1, 0))) else (bif Nat.beq k 104 then (0, 5) else (1, 0))))) else (bif Nat.ble 53 k then (bif Nat.ble 83 k then (bif Nat.ble 90 k then (bif Nat.ble 96 k then (bif Nat.beq k 96 then (0, 11) else (1, 0)) else (bif Nat.beq k 90 then (bif Nat.beq j 12 then (0, 6) else (bif Nat.beq j 3 then (0, 12) else (bif Nat.beq j 8 then (0, 4095) else (1, 0)))) else (1, 0))) else (bif Nat.beq k 83 then (bif Nat.beq j 6 then (0, 20) else (1, 0)) else (1, 0))) else (bif Nat.ble 58 k then (bif Nat.ble 79 k then (bif Nat.beq k 79 then (bif Nat.beq j 3 then (0, 8) else (1, 0)) else (1, 0)) else (bif Nat.beq k 58 then (bif Nat.beq j 12 then (0, 600) else (bif Nat.beq j 13 then (0, 10) else (bif Nat.beq j 8 then (0, 300) else (1, 0)))) else (1, 0))) else (bif Nat.beq k 53 then (0, 40) else (1, 0)))) else (bif Nat.ble 3 k then (bif Nat.ble 4 k then (bif Nat.ble 11 k then (bif Nat.beq k 11 then (bif Nat.beq j 6 then (0, 40) else (bif Nat.beq j 7 then (0, 12) else (1, 0))) else (1, 0)) else (bif Nat.beq k 4 then (bif Nat.beq j 6 then (0, 40) else (1, 0)) else (1, 0))) else (bif Nat.beq k 3 then (0, 255) else (1, 0))) else (bif Nat.ble 1 k then (bif Nat.ble 2 k then (bif Nat.beq k 2 then (bif Nat.beq j 1 then (0, 200) else (bif Nat.beq j 2 then (0, 200) else (1, 0))) else (1, 0)) else (bif Nat.beq k 1 then (0, 99) else (1, 0))) else (bif Nat.beq k 0 then (bif Nat.beq j 0 then (0, 1999) else (bif Nat.beq j 9 then (0, 8) else (1, 0))) else (1, 0)))))))
/-! ends of runs, and how they are reached -/
def jt (o : Option jxR) (Q : List jxV → (Nat → Nat → Int) → (Nat → Nat → Int) → Prop) : Prop := ∃ v a b, o = some (v, (jxSH, a, b)) ∧ Q v a b
abbrev rI (P : Int → (Nat → Nat → Int) → (Nat → Nat → Int) → Prop) : List jxV → (Nat → Nat → Int) → (Nat → Nat → Int) → Prop := fun v a b => ∃ r, v = [.inl r] ∧ P r a b
abbrev rJ (P : Int → (Nat → Nat → Int) → (Nat → Nat → Int) → Prop) : List jxV → (Nat → Nat → Int) → (Nat → Nat → Int) → Prop := fun v a b => ∃ r, v = [.inr (.inl r)] ∧ P r a b
abbrev rV (P : (Nat → Nat → Int) → (Nat → Nat → Int) → Prop) : List jxV → (Nat → Nat → Int) → (Nat → Nat → Int) → Prop := fun v a b => v = [] ∧ P a b
section
variable {Q : List jxV → (Nat → Nat → Int) → (Nat → Nat → Int) → Prop}
theorem jt_eq {X Y : Option jxR} (e : X = Y) (h : jt Y Q) : jt X Q := e ▸ h
theorem jt_mono {X : Option jxR} {Q2 : List jxV → (Nat → Nat → Int) → (Nat → Nat → Int) → Prop} (h : jt X Q) (hq : ∀ v a b, Q v a b → Q2 v a b) : jt X Q2 := by
  obtain ⟨v, a, b, h1, h2⟩ := h
  exact ⟨v, a, b, h1, hq _ _ _ h2⟩
theorem jt_ite {c : Prop} {d : Decidable c} {X Y : Option jxR} (h1 : c → jt X Q) (h2 : ¬ c → jt Y Q) : jt (@ite (Option jxR) c d X Y) Q := by
  by_cases hc : c
  · rw [if_pos hc]; exact h1 hc
  · rw [if_neg hc]; exact h2 hc
theorem jt_grd {c : Prop} {d : Decidable c} {X : Option jxR} (hc : c) (h : jt X Q) : jt (@ite (Option jxR) c d X none) Q := by
  rw [if_pos hc]; exact h
theorem jt_dvd {c : Prop} {d : Decidable c} {X : Option jxR} (hc : ¬ c) (h : jt X Q) : jt (@ite (Option jxR) c d none X) Q := by
  rw [if_neg hc]; exact h
theorem jt_bI {c : Option jxR} {P : Int → (Nat → Nat → Int) → (Nat → Nat → Int) → Prop} {k : Int → (Nat → Nat → Int) → (Nat → Nat → Int) → Option jxR} (h : jt c (rI P)) (hk : ∀ r a b, P r a b → jt (k r a b) Q) : jt (jxbI jxSH c k) Q := by
  obtain ⟨v, a, b, rfl, r, rfl, hP⟩ := h
  rw [jxbI_some]; exact hk _ _ _ hP
theorem jt_bJ {c : Option jxR} {P : Int → (Nat → Nat → Int) → (Nat → Nat → Int) → Prop} {k : Int → (Nat → Nat → Int) → (Nat → Nat → Int) → Option jxR} (h : jt c (rJ P)) (hk : ∀ r a b, P r a b → jt (k r a b) Q) : jt (jxbJ jxSH c k) Q := by
  obtain ⟨v, a, b, rfl, r, rfl, hP⟩ := h
  rw [jxbJ_some]; exact hk _ _ _ hP
theorem jt_bV {c : Option jxR} {P : (Nat → Nat → Int) → (Nat → Nat → Int) → Prop} {k : (Nat → Nat → Int) → (Nat → Nat → Int) → Option jxR} (h : jt c (rV P)) (hk : ∀ a b, P a b → jt (k a b) Q) : jt (jxbV jxSH c k) Q := by
  obtain ⟨v, a, b, rfl, rfl, hP⟩ := h
  rw [jxbV_some]; exact hk _ _ hP
theorem jt_eI {c : Option jxR} {r : Int} {a b : Nat → Nat → Int} {k : Int → (Nat → Nat → Int) → (Nat → Nat → Int) → Option jxR} (h : c = some ([.inl r], (jxSH, a, b))) (hk : jt (k r a b) Q) : jt (jxbI jxSH c k) Q := by
  rw [h, jxbI_some]; exact hk
theorem jt_eJ {c : Option jxR} {r : Int} {a b : Nat → Nat → Int} {k : Int → (Nat → Nat → Int) → (Nat → Nat → Int) → Option jxR} (h : c = some ([.inr (.inl r)], (jxSH, a, b))) (hk : jt (k r a b) Q) : jt (jxbJ jxSH c k) Q := by
  rw [h, jxbJ_some]; exact hk
end
theorem jt_rI {P : Int → (Nat → Nat → Int) → (Nat → Nat → Int) → Prop} {r : Int} {a b : Nat → Nat → Int} (h : P r a b) : jt (some ([.inl r], (jxSH, a, b))) (rI P) := ⟨_, _, _, rfl, _, rfl, h⟩
theorem jt_rJ {P : Int → (Nat → Nat → Int) → (Nat → Nat → Int) → Prop} {r : Int} {a b : Nat → Nat → Int} (h : P r a b) : jt (some ([.inr (.inl r)], (jxSH, a, b))) (rJ P) := ⟨_, _, _, rfl, _, rfl, h⟩
theorem jt_rV {P : (Nat → Nat → Int) → (Nat → Nat → Int) → Prop} {a b : Nat → Nat → Int} (h : P a b) : jt (some ([], (jxSH, a, b))) (rV P) := ⟨_, _, _, rfl, rfl, h⟩
/-! equations of pure methods -/
theorem eq_ite {c : Prop} {d : Decidable c} {X Y : Option jxR} {f : Int → List jxV} {x y : Int} {S : jxS} (h1 : c → X = some (f x, S)) (h2 : ¬ c → Y = some (f y, S)) : (@ite (Option jxR) c d X Y) = some (f (@ite Int c d x y), S) := by
  by_cases hc : c
  · rw [if_pos hc, if_pos hc]; exact h1 hc
  · rw [if_neg hc, if_neg hc]; exact h2 hc
theorem eq_iteI {c : Prop} {d : Decidable c} {X Y : Option jxR} {x y : Int} {S : jxS} (h1 : c → X = some ([.inl x], S)) (h2 : ¬ c → Y = some ([.inl y], S)) : (@ite (Option jxR) c d X Y) = some ([.inl (@ite Int c d x y)], S) := eq_ite (f := fun x => [.inl x]) h1 h2
theorem eq_iteJ {c : Prop} {d : Decidable c} {X Y : Option jxR} {x y : Int} {S : jxS} (h1 : c → X = some ([.inr (.inl x)], S)) (h2 : ¬ c → Y = some ([.inr (.inl y)], S)) : (@ite (Option jxR) c d X Y) = some ([.inr (.inl (@ite Int c d x y))], S) := eq_ite (f := fun x => [.inr (.inl x)]) h1 h2
theorem eq_iteV {c : Prop} {d : Decidable c} {X Y R : Option jxR} (h1 : c → X = R) (h2 : ¬ c → Y = R) : (@ite (Option jxR) c d X Y) = R := by
  by_cases hc : c
  · rw [if_pos hc]; exact h1 hc
  · rw [if_neg hc]; exact h2 hc
theorem eq_bV {c R : Option jxR} {a b : Nat → Nat → Int} {k : (Nat → Nat → Int) → (Nat → Nat → Int) → Option jxR} (h : c = some ([], (jxSH, a, b))) (hk : k a b = R) : jxbV jxSH c k = R := by
  rw [h, jxbV_some]; exact hk
theorem jt_eV {c : Option jxR} {a b : Nat → Nat → Int} {k : (Nat → Nat → Int) → (Nat → Nat → Int) → Option jxR} {Q : List jxV → (Nat → Nat → Int) → (Nat → Nat → Int) → Prop} (h : c = some ([], (jxSH, a, b))) (hk : jt (k a b) Q) : jt (jxbV jxSH c k) Q := by
  rw [h, jxbV_some]; exact hk
theorem eq_grd {c : Prop} {d : Decidable c} {X R : Option jxR} (hc : c) (h : X = R) : (@ite (Option jxR) c d X none) = R := by
  rw [if_pos hc]; exact h
theorem eq_dvd {c : Prop} {d : Decidable c} {X R : Option jxR} (hc : ¬ c) (h : X = R) : (@ite (Option jxR) c d none X) = R := by
  rw [if_neg hc]; exact h
theorem eq_bI {c R : Option jxR} {r : Int} {a b : Nat → Nat → Int} {k : Int → (Nat → Nat → Int) → (Nat → Nat → Int) → Option jxR} (h : c = some ([.inl r], (jxSH, a, b))) (hk : k r a b = R) : jxbI jxSH c k = R := by
  rw [h, jxbI_some]; exact hk
theorem eq_bJ {c R : Option jxR} {r : Int} {a b : Nat → Nat → Int} {k : Int → (Nat → Nat → Int) → (Nat → Nat → Int) → Option jxR} (h : c = some ([.inr (.inl r)], (jxSH, a, b))) (hk : k r a b = R) : jxbJ jxSH c k = R := by
  rw [h, jxbJ_some]; exact hk
theorem bool_ite {c : Prop} {d : Decidable c} {x y : Int} (h1 : x = 0 ∨ x = 1) (h2 : y = 0 ∨ y = 1) : (@ite Int c d x y) = 0 ∨ (@ite Int c d x y) = 1 := by
  by_cases hc : c
  · rw [if_pos hc]; exact h1
  · rw [if_neg hc]; exact h2
theorem jd_succ {k d : Nat} (h : Nat.ble (k + 1) d = true) : ∃ d', d = d' + 1 := ⟨d - 1, by have := Nat.le_of_ble_eq_true h; omega⟩
theorem jd_le {k m d : Nat} (h : Nat.ble (k + 1) (d + 1) = true) (e : Nat.ble m k = true) : Nat.ble m d = true := by
  have h1 := Nat.le_of_ble_eq_true h
  have h2 := Nat.le_of_ble_eq_true e
  exact Nat.ble_eq_true_of_le (by omega)
theorem jx_ind {P : Nat → Prop} (h : ∀ n, (∀ m, m < n → P m) → P n) : ∀ n, P n := fun n => Nat.strongRecOn n h
/-! numbers -/
theorem jxw_ex (x : Int) : ∃ q : Int, jxw x = x - 4294967296 * q ∧ -2147483648 ≤ jxw x ∧ jxw x < 2147483648 := by
  refine ⟨(x - jxw x) / 4294967296, ?_⟩
  unfold jxw
  rw [Int.bmod_def]
  omega
theorem jxw_im (x : Int) : -2147483648 ≤ x ∧ x < 2147483648 → jxw x = x := fun h => jxw_id h.1 h.2
theorem jxw_rg (x : Int) : -2147483648 ≤ jxw x ∧ jxw x < 2147483648 := by
  obtain ⟨q, h⟩ := jxw_ex x
  exact h.2
theorem jx_td (x c : Int) : 0 ≤ x → Int.tdiv x c = x / c := fun h => by
  rw [Int.tdiv_eq_ediv_of_nonneg h]
theorem jx_tm (x c : Int) : 0 ≤ x → Int.tmod x c = x % c := fun h => by
  rw [Int.tmod_eq_emod_of_nonneg h]
theorem jx_tdr (x c : Int) (hc : 0 < c) : (0 ≤ x → 0 ≤ Int.tdiv x c ∧ Int.tdiv x c ≤ x) ∧ (x < 0 → x ≤ Int.tdiv x c ∧ Int.tdiv x c ≤ 0) := by
  have key : ∀ y : Int, 0 ≤ y → 0 ≤ Int.tdiv y c ∧ Int.tdiv y c ≤ y := fun y hy => by
    rw [Int.tdiv_eq_ediv_of_nonneg hy]
    exact ⟨Int.ediv_nonneg hy (by omega), Int.ediv_le_self _ hy⟩
  refine ⟨key x, fun h => ?_⟩
  have h2 := key (-x) (by omega)
  rw [Int.neg_tdiv] at h2
  omega
theorem jx_tmr (x c : Int) (hc : 0 < c) : -c < Int.tmod x c ∧ Int.tmod x c < c := by
  have h1 := Int.tmod_lt_of_pos x hc
  have h2 := Int.tmod_lt_of_pos (-x) hc
  rw [Int.neg_tmod] at h2
  omega
theorem jxlcmp_b (a b : Int) : (jxlcmp a b = -1 ∧ a < b) ∨ (jxlcmp a b = 0 ∧ a = b) ∨ (jxlcmp a b = 1 ∧ b < a) := by
  unfold jxlcmp
  by_cases h : a < b
  · rw [if_pos h]; omega
  · rw [if_neg h]
    by_cases h2 : a = b
    · rw [if_pos h2]; omega
    · rw [if_neg h2]; omega
theorem jxu_sp (f : Nat → Nat → Int) (k i : Nat) (v : Int) (j : Nat) : (j = i ∧ jxu f k i v k j = v) ∨ (¬ j = i ∧ jxu f k i v k j = f k j) := by
  by_cases h : j = i
  · left; exact ⟨h, by simp [jxu, h]⟩
  · right; exact ⟨h, by simp [jxu, h]⟩
/-! what every heap of the program keeps: each cell in its interval; the row of words -/
def jxwd (j : Nat) : Int := ([111, 114, 0, 0, 0, 0, 97, 110, 100, 0, 0, 0, 110, 111, 116, 0, 0, 0, 108, 97, 110, 100, 0, 0, 116, 111, 110, 103, 117, 101, 115, 104, 97, 114, 101, 100, 102, 97, 114, 0, 0, 0, 110, 101, 97, 114, 0, 0, 111, 108, 100, 0, 0, 0, 97, 110, 121, 0, 0, 0, 117, 110, 100, 101, 114, 0, 109, 111, 114, 101, 0, 0, 115, 108, 97, 99, 107, 0, 108, 111, 115, 116, 0, 0, 115, 116, 114, 105, 99, 116, 122, 111, 110, 101, 0, 0] : List Int).getD j 0
def iv (a : Nat → Nat → Int) : Prop := (∀ k j, (jxT k j).1 ≤ (jxT k j).2 → (jxT k j).1 ≤ a k j ∧ a k j ≤ (jxT k j).2) ∧ ∀ j, a 165 j = jxwd j
theorem iv_wd {a : Nat → Nat → Int} (h : iv a) (j : Nat) : a 165 j = jxwd j := h.2 j
theorem iv_get {a : Nat → Nat → Int} (h : iv a) {k j : Nat} {l u : Int} (e : jxT k j = (l, u)) (hlu : l ≤ u := by decide) : l ≤ a k j ∧ a k j ≤ u := by
  have := h.1 k j
  rw [e] at this
  exact this hlu
theorem jxT165 (j : Nat) : jxT 165 j = (3, 0) := rfl
theorem iv_put {a : Nat → Nat → Int} (h : iv a) {k j : Nat} {v l u : Int} (e : jxT k j = (l, u)) (h1 : l ≤ v) (h2 : v ≤ u) : iv (jxu a k j v) := by
  refine ⟨fun k' j' hle => ?_, fun j' => ?_⟩
  · unfold jxu
    by_cases hk : k' = k
    · subst hk
      rw [if_pos rfl]
      by_cases hj : j' = j
      · subst hj
        rw [if_pos rfl, e]
        exact ⟨h1, h2⟩
      · rw [if_neg hj]; exact h.1 _ _ hle
    · rw [if_neg hk]; exact h.1 _ _ hle
  · unfold jxu
    rw [if_neg]
    · exact h.2 j'
    · intro hk
      rw [← hk, jxT165] at e
      cases e
      omega
theorem iv_putf {a : Nat → Nat → Int} (h : iv a) {k j : Nat} {v : Int} (e : jxT k j = (1, 0)) : iv (jxu a k j v) := by
  refine ⟨fun k' j' hle => ?_, fun j' => ?_⟩
  · unfold jxu
    by_cases hk : k' = k
    · subst hk
      rw [if_pos rfl]
      by_cases hj : j' = j
      · subst hj
        rw [e] at hle
        exact absurd hle (by decide)
      · rw [if_neg hj]; exact h.1 _ _ hle
    · rw [if_neg hk]; exact h.1 _ _ hle
  · unfold jxu
    rw [if_neg]
    · exact h.2 j'
    · intro hk
      rw [← hk, jxT165] at e
      cases e
/-! what a method may write -/
def jfin : List (Nat × Nat) → Nat → Nat → Bool
  | [], _, _ => false
  | (k, s) :: W, k1, j => bif Nat.beq k k1 then (bif Nat.beq s 9999 then true else bif Nat.beq s j then true else jfin W k1 j) else jfin W k1 j
def jfr (W : List (Nat × Nat)) (a a1 : Nat → Nat → Int) : Prop := ∀ k j, jfin W k j = false → a1 k j = a k j
def jfin1 : List (Nat × Nat) → Nat × Nat → Bool
  | [], _ => false
  | (k, s) :: W, p => (Nat.beq k p.1 && (Nat.beq s 9999 || Nat.beq s p.2)) || jfin1 W p
def jfsub (V W : List (Nat × Nat)) : Bool := V.all (jfin1 W)
theorem jfin1_in {W : List (Nat × Nat)} {k s j : Nat} (h : jfin1 W (k, s) = true) (hs : s = 9999 ∨ s = j) : jfin W k j = true := by
  induction W with
  | nil => cases h
  | cons p W ih =>
    obtain ⟨k1, s1⟩ := p
    simp only [jfin1, Bool.or_eq_true, Bool.and_eq_true] at h
    unfold jfin
    rcases h with ⟨h1, h2⟩ | h
    · rw [h1]
      rcases h2 with h2 | h2
      · rw [h2]; rfl
      · cases h3 : Nat.beq s1 9999
        · rcases hs with rfl | rfl
          · rw [h2] at h3; cases h3
          · rw [h2]; rfl
        · rfl
    · rw [ih h]
      cases Nat.beq k1 k <;> cases Nat.beq s1 9999 <;> cases Nat.beq s1 j <;> rfl
theorem jfsub_in {V W : List (Nat × Nat)} (h : jfsub V W = true) {k j : Nat} (hV : jfin V k j = true) : jfin W k j = true := by
  induction V with
  | nil => cases hV
  | cons p V ih =>
    obtain ⟨k1, s1⟩ := p
    simp only [jfsub, List.all_cons, Bool.and_eq_true] at h
    unfold jfin at hV
    cases h1 : Nat.beq k1 k
    · rw [h1] at hV; exact ih h.2 hV
    · have e1 := Nat.eq_of_beq_eq_true h1
      subst e1
      rw [h1] at hV
      cases h2 : Nat.beq s1 9999
      · rw [h2] at hV
        cases h3 : Nat.beq s1 j
        · rw [h3] at hV; exact ih h.2 hV
        · exact jfin1_in h.1 (Or.inr (Nat.eq_of_beq_eq_true h3))
      · exact jfin1_in h.1 (Or.inl (Nat.eq_of_beq_eq_true h2))
theorem jfr_rf (W : List (Nat × Nat)) (a : Nat → Nat → Int) : jfr W a a := fun _ _ _ => rfl
theorem jfr_eq {a a1 : Nat → Nat → Int} (h : a = a1) : jfr [] a a1 := fun _ _ _ => by rw [h]
theorem jfr_put {W : List (Nat × Nat)} {a a1 : Nat → Nat → Int} (h : jfr W a a1) {k j : Nat} {v : Int} (e : jfin W k j = true) : jfr W a (jxu a1 k j v) := by
  intro k' j' hn
  unfold jxu
  by_cases hk : k' = k
  · subst hk
    rw [if_pos rfl]
    by_cases hj : j' = j
    · subst hj; rw [e] at hn; cases hn
    · rw [if_neg hj]; exact h _ _ hn
  · rw [if_neg hk]; exact h _ _ hn
theorem jfr_tr {V W : List (Nat × Nat)} {a a1 a2 : Nat → Nat → Int} (h : jfr W a a1) (h1 : jfr V a1 a2) (e : jfsub V W = true) : jfr W a a2 := by
  intro k j hn
  rw [h1 k j (by
    cases h2 : jfin V k j
    · rfl
    · rw [jfsub_in e h2] at hn; cases hn), h k j hn]
/-! bits -/
theorem jxand_eq (a b : Int) : jxand a b = (BitVec.ofInt 32 a &&& BitVec.ofInt 32 b).toInt := rfl
theorem jxor_eq (a b : Int) : jxor a b = (BitVec.ofInt 32 a ||| BitVec.ofInt 32 b).toInt := rfl
theorem jxxor_eq (a b : Int) : jxxor a b = (BitVec.ofInt 32 a ^^^ BitVec.ofInt 32 b).toInt := rfl
theorem bv_nn {B : BitVec 32} (h : B.toNat < 2147483648) : B.toInt = (B.toNat : Int) := by
  rw [BitVec.toInt_eq_toNat_cond]
  rw [if_pos (by omega)]
theorem bv_of {x : Int} (h0 : 0 ≤ x) (h1 : x < 2147483648) : (BitVec.ofInt 32 x).toNat = x.toNat := by
  rw [BitVec.toNat_ofInt]
  congr 1
  omega
theorem jxand_l (x y : Int) (h0 : 0 ≤ x) (h1 : x < 2147483648) : 0 ≤ jxand x y ∧ jxand x y ≤ x := by
  rw [jxand_eq]
  have e : (BitVec.ofInt 32 x &&& BitVec.ofInt 32 y).toNat ≤ x.toNat := by
    rw [BitVec.toNat_and, bv_of h0 h1]
    exact Nat.and_le_left
  rw [bv_nn (by omega)]
  omega
theorem jxand_r (x y : Int) (h0 : 0 ≤ y) (h1 : y < 2147483648) : 0 ≤ jxand x y ∧ jxand x y ≤ y := by
  rw [jxand_eq]
  have e : (BitVec.ofInt 32 x &&& BitVec.ofInt 32 y).toNat ≤ y.toNat := by
    rw [BitVec.toNat_and, bv_of h0 h1]
    exact Nat.and_le_right
  rw [bv_nn (by omega)]
  omega
theorem jxand_b (x y : Int) : (0 ≤ x ∧ x < 2147483648 → 0 ≤ jxand x y ∧ jxand x y ≤ x) ∧ (0 ≤ y ∧ y < 2147483648 → 0 ≤ jxand x y ∧ jxand x y ≤ y) := ⟨fun h => jxand_l x y h.1 h.2, fun h => jxand_r x y h.1 h.2⟩
theorem jxor_n {x y : Int} (n : Nat) (hn : n ≤ 31) (hx0 : 0 ≤ x) (hx : x < (2 : Int) ^ n) (hy0 : 0 ≤ y) (hy : y < (2 : Int) ^ n) : 0 ≤ jxor x y ∧ jxor x y < (2 : Int) ^ n := by
  have hp : (2 : Int) ^ n = ((2 ^ n : Nat) : Int) := by simp
  have hl : 2 ^ n ≤ 2 ^ 31 := Nat.pow_le_pow_right (by decide) hn
  rw [hp] at hx hy ⊢
  rw [jxor_eq]
  have e : (BitVec.ofInt 32 x ||| BitVec.ofInt 32 y).toNat < 2 ^ n := by
    rw [BitVec.toNat_or, bv_of hx0 (by omega), bv_of hy0 (by omega)]
    exact Nat.or_lt_two_pow (by omega) (by omega)
  rw [bv_nn (by omega)]
  omega
theorem jxxor_n {x y : Int} (n : Nat) (hn : n ≤ 31) (hx0 : 0 ≤ x) (hx : x < (2 : Int) ^ n) (hy0 : 0 ≤ y) (hy : y < (2 : Int) ^ n) : 0 ≤ jxxor x y ∧ jxxor x y < (2 : Int) ^ n := by
  have hp : (2 : Int) ^ n = ((2 ^ n : Nat) : Int) := by simp
  have hl : 2 ^ n ≤ 2 ^ 31 := Nat.pow_le_pow_right (by decide) hn
  rw [hp] at hx hy ⊢
  rw [jxxor_eq]
  have e : (BitVec.ofInt 32 x ^^^ BitVec.ofInt 32 y).toNat < 2 ^ n := by
    rw [BitVec.toNat_xor, bv_of hx0 (by omega), bv_of hy0 (by omega)]
    exact Nat.xor_lt_two_pow (by omega) (by omega)
  rw [bv_nn (by omega)]
  omega
theorem jxor_b (x y : Int) : 0 ≤ x ∧ x < 4096 ∧ 0 ≤ y ∧ y < 4096 → 0 ≤ jxor x y ∧ jxor x y < 4096 := fun h => jxor_n 12 (by decide) h.1 h.2.1 h.2.2.1 h.2.2.2
theorem jxxor_b (x y : Int) : (0 ≤ x ∧ x < 4096 ∧ 0 ≤ y ∧ y < 4096 → 0 ≤ jxxor x y ∧ jxxor x y < 4096) ∧ (0 ≤ x ∧ x < 256 ∧ 0 ≤ y ∧ y < 256 → 0 ≤ jxxor x y ∧ jxxor x y < 256) := ⟨fun h => jxxor_n 12 (by decide) h.1 h.2.1 h.2.2.1 h.2.2.2, fun h => jxxor_n 8 (by decide) h.1 h.2.1 h.2.2.1 h.2.2.2⟩
theorem jxshl1_n : ∀ n : Nat, n < 12 → jxshl 1 (n : Int) = ((2 ^ n : Nat) : Int) := by decide +kernel
theorem jxshl1_b (y : Int) : (0 ≤ y ∧ y ≤ 12 → 1 ≤ jxshl 1 y ∧ jxshl 1 y ≤ 4096) ∧ (0 ≤ y ∧ y ≤ 11 → jxshl 1 y ≤ 2048) ∧ (0 ≤ y ∧ y ≤ 8 → jxshl 1 y ≤ 256) ∧ (0 ≤ y ∧ y ≤ 7 → jxshl 1 y ≤ 128) := by
  have h12 : ∀ n : Nat, n ≤ 12 → 1 ≤ jxshl 1 (n : Int) ∧ jxshl 1 (n : Int) ≤ 4096 := by decide +kernel
  have h11 : ∀ n : Nat, n ≤ 11 → jxshl 1 (n : Int) ≤ 2048 := by decide +kernel
  have h8 : ∀ n : Nat, n ≤ 8 → jxshl 1 (n : Int) ≤ 256 := by decide +kernel
  have h7 : ∀ n : Nat, n ≤ 7 → jxshl 1 (n : Int) ≤ 128 := by decide +kernel
  refine ⟨fun h => ?_, fun h => ?_, fun h => ?_, fun h => ?_⟩
  · have := h12 y.toNat (by omega); rwa [Int.toNat_of_nonneg h.1] at this
  · have := h11 y.toNat (by omega); rwa [Int.toNat_of_nonneg h.1] at this
  · have := h8 y.toNat (by omega); rwa [Int.toNat_of_nonneg h.1] at this
  · have := h7 y.toNat (by omega); rwa [Int.toNat_of_nonneg h.1] at this
theorem jxi2b_b (x : Int) : (-128 ≤ jxi2b x ∧ jxi2b x < 128) := by
  unfold jxi2b
  have h1 := Int8.toInt_lt (Int32.ofInt x).toInt8
  have h2 := Int8.le_toInt (Int32.ofInt x).toInt8
  rw [Int8.toInt_toInt32]
  constructor
  · have := h2; simpa using this
  · have := h1; simpa using this
theorem jxi2c_b (x : Int) : 0 ≤ jxi2c x ∧ jxi2c x < 65536 := by
  unfold jxi2c
  have h : ((Int32.ofInt x).toUInt32 % 65536).toNat < 65536 := by
    rw [UInt32.toNat_mod]
    exact Nat.mod_lt _ (by decide)
  generalize (Int32.ofInt x).toUInt32 % 65536 = u at h
  have e : u.toInt32.toInt = (u.toNat : Int) := bv_nn (B := u.toBitVec) (by show u.toNat < _; omega)
  rw [e]
  omega
theorem jxshr_b (x y : Int) : 0 ≤ x ∧ x < 2147483648 → 0 ≤ jxshr x y ∧ jxshr x y ≤ x := by
  intro h
  unfold jxshr
  generalize (Int32.ofInt y &&& 31) = s
  have e : (Int32.ofInt x >>> s).toInt = x >>> (s.toBitVec.smod 32).toNat := by
    show ((Int32.ofInt x).toBitVec.sshiftRight' (s.toBitVec.smod 32)).toInt = _
    rw [BitVec.toInt_sshiftRight']
    congr 1
    show (BitVec.ofInt 32 x).toInt = x
    rw [bv_nn (by rw [bv_of h.1 h.2]; omega), bv_of h.1 h.2]
    omega
  rw [e, Int.shiftRight_eq_div_pow]
  constructor
  · exact Int.ediv_nonneg h.1 (Int.natCast_nonneg _)
  · exact Int.ediv_le_self _ h.1
theorem wd_ne {y1 y2 : Int} (h1 : 0 ≤ y1) (h2 : y1 < 16) : (y2 = 0 ∨ y2 = 1) → ¬ jxwd ((jxw ((jxw (6 * y1)) + y2)).toNat) = 0 := by
  have key : ∀ n : Nat, n < 16 → ¬ jxwd ((jxw ((jxw (6 * (n : Int))) + 0)).toNat) = 0 ∧ ¬ jxwd ((jxw ((jxw (6 * (n : Int))) + 1)).toNat) = 0 := by decide +kernel
  have := key y1.toNat (by omega)
  rw [Int.toNat_of_nonneg h1] at this
  rintro (rfl | rfl)
  · exact this.1
  · exact this.2
