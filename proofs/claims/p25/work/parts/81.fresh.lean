/-! the heap behind the constructors -/
theorem ups_same (L : List (Nat × Nat × Int)) (f : Nat → Nat → Int) (k j : Nat) (h : L.all (fun t => !(Nat.beq t.1 k && Nat.beq t.2.1 j)) = true) : jxups L f k j = f k j := by
  induction L generalizing f with
  | nil => rfl
  | cons t L ih =>
    obtain ⟨k1, j1, v⟩ := t
    simp only [List.all_cons, Bool.and_eq_true] at h
    show jxups L (jxu f k1 j1 v) k j = _
    rw [ih _ h.2]
    unfold jxu
    by_cases hk : k = k1
    · subst hk
      by_cases hj : j = j1
      · subst hj
        have := h.1
        simp [Nat.beq_refl] at this
      · rw [if_pos rfl, if_neg hj]
    · rw [if_neg hk]
theorem ups_row (L : List (Nat × Nat × Int)) (f : Nat → Nat → Int) (k j : Nat) (n : Nat) (h : L.all (fun t => !(Nat.beq t.1 k) || Nat.blt t.2.1 n) = true) (hj : n ≤ j) : jxups L f k j = f k j := by
  apply ups_same
  rw [List.all_eq_true] at h ⊢
  intro t ht
  have h1 := h t ht
  cases h2 : Nat.beq t.1 k
  · rfl
  · rw [h2] at h1
    simp only [Bool.not_true, Bool.false_or] at h1
    have h3 : t.2.1 < n := by simpa [Nat.blt_eq] using h1
    have h4 : Nat.beq t.2.1 j = false := by
      cases h5 : Nat.beq t.2.1 j
      · rfl
      · have := Nat.eq_of_beq_eq_true h5; omega
    rw [h4]; rfl
def ivok (t : Nat × Nat × Int) : Bool := decide ((jxT t.1 t.2.1).2 < (jxT t.1 t.2.1).1) || (decide ((jxT t.1 t.2.1).1 ≤ t.2.2) && decide (t.2.2 ≤ (jxT t.1 t.2.1).2))
theorem ups_iv (L : List (Nat × Nat × Int)) (f : Nat → Nat → Int) (hf : ∀ k j, (jxT k j).1 ≤ (jxT k j).2 → (jxT k j).1 ≤ f k j ∧ f k j ≤ (jxT k j).2) (h : L.all ivok = true) : ∀ k j, (jxT k j).1 ≤ (jxT k j).2 → (jxT k j).1 ≤ jxups L f k j ∧ jxups L f k j ≤ (jxT k j).2 := by
  induction L generalizing f with
  | nil => exact hf
  | cons t L ih =>
    obtain ⟨k1, j1, v⟩ := t
    simp only [List.all_cons, Bool.and_eq_true] at h
    refine ih _ (fun k j hle => ?_) h.2
    unfold jxu
    by_cases hk : k = k1
    · subst hk
      by_cases hj : j = j1
      · subst hj
        rw [if_pos rfl, if_pos rfl]
        have h1 := h.1
        unfold ivok at h1
        simp only [Bool.or_eq_true, Bool.and_eq_true, decide_eq_true_eq] at h1
        rcases h1 with h1 | h1
        · omega
        · exact h1
      · rw [if_pos rfl, if_neg hj]; exact hf _ _ hle
    · rw [if_neg hk]; exact hf _ _ hle
def tz (t : Int × Int) : Prop := t.1 ≤ t.2 → t.1 ≤ 0 ∧ 0 ≤ t.2
theorem tz_c {c : Bool} {x y : Int × Int} (h1 : tz x) (h2 : tz y) : tz (bif c then x else y) := by
  cases c
  · exact h2
  · exact h1
theorem T_zero (k j : Nat) : tz (jxT k j) := by
  unfold jxT
  repeat' (refine tz_c ?_ ?_)
  all_goals (unfold tz; decide)
theorem fresh_iv : iv jxa0 := by
  refine ⟨ups_iv jxI0 _ (fun k j h => T_zero k j h) (by decide +kernel), fun j => ?_⟩
  by_cases hj : j < 96
  · have h : ∀ j, j < 96 → jxa0 165 j = jxwd j := by decide +kernel
    exact h j hj
  · rw [show jxa0 165 j = jxups jxI0 (fun _ _ => 0) 165 j from rfl, ups_row jxI0 _ 165 j 96 (by decide +kernel) (by omega)]
    unfold jxwd
    rw [List.getD_eq_getElem?_getD, List.getElem?_eq_none (show 96 ≤ j by omega)]
    rfl
theorem fresh_row (k j : Nat) (h : jxI0.all (fun t => !(Nat.beq t.1 k) || Nat.blt t.2.1 0) = true) : jxa0 k j = 0 := ups_row jxI0 _ k j 0 h (Nat.zero_le _)
theorem fresh_WFW : WFW jxa0 := by
  intro m _
  rw [fresh_row 167 m (by decide +kernel)]
  intro k hk
  exact absurd hk (Nat.not_lt_zero _)
theorem fresh_SV : SV jxa0 := fun k _ => Or.inl (by rw [fresh_row 197 k (by decide +kernel)]; exact Int.le_refl _)
theorem fresh_OC : OC jxa0 := by
  have e : jxa0 146 49 = 0 := by decide +kernel
  refine ⟨fun k hk => ?_, fun k _ => fresh_row 181 k (by decide +kernel)⟩
  rw [e] at hk
  omega
theorem fresh_FO : FO jxa0 := ⟨fun i => Or.inl (fresh_row 189 i (by decide +kernel)), Or.inl (by decide +kernel)⟩
theorem fresh_FW : FW jxa0 := fun i => Or.inl (fresh_row 183 i (by decide +kernel))
theorem fresh_FARR : FARR jxa0 := by
  intro j
  by_cases hj : j < 256
  · have h : ∀ j, j < 256 → jxa0 1 j = jxa0 147 j := by decide +kernel
    exact h j hj
  · have h1 : jxa0 1 j = 0 := ups_row jxI0 (fun _ _ => 0) 1 j 256 (by decide +kernel) (by omega)
    have h2 : jxa0 147 j = 0 := ups_row jxI0 (fun _ _ => 0) 147 j 256 (by decide +kernel) (by omega)
    rw [h1, h2]
theorem fresh_MEMR : MEMR jxa0 := fun j => ⟨by rw [fresh_row 5 j (by decide +kernel), fresh_row 148 j (by decide +kernel)], by rw [fresh_row 6 j (by decide +kernel), fresh_row 149 j (by decide +kernel)],
  by rw [fresh_row 7 j (by decide +kernel), fresh_row 150 j (by decide +kernel)], by rw [fresh_row 8 j (by decide +kernel), fresh_row 151 j (by decide +kernel)], by rw [fresh_row 10 j (by decide +kernel), fresh_row 152 j (by decide +kernel)]⟩
theorem fresh_TAPE : TAPE jxa0 := fun j => by
  rw [fresh_row 3 j (by decide +kernel)]
  unfold UB
  rw [fresh_row 164 j (by decide +kernel)]
  decide +kernel
theorem fresh_RATR : RATR jxa0 := by
  intro r hr
  have e : jxa0 105 5 = 0 := by decide +kernel
  rw [e] at hr
  omega
theorem fresh_WISHR : WISHR jxa0 := fun m _ => by
  have z : (0 : Int).toNat = 0 := rfl
  rw [fresh_row 53 m (by decide +kernel), fresh_row 167 m (by decide +kernel), z]
  exact ⟨show ([] : List Int) = [] from rfl, show True from trivial, Or.inl rfl⟩
theorem vN_C (a : Nat → Nat → Int) : vN (cvC a) = a 58 8 := rfl
theorem vT_C (a : Nat → Nat → Int) : vT (cvC a) = a 58 12 := rfl
theorem fresh_CIC : CIC jxa0 := by
  have e1 : vN (cvC jxa0) = 0 := (vN_C jxa0).trans (by decide +kernel)
  have e2 : vT (cvC jxa0) = 0 := (vT_C jxa0).trans (by decide +kernel)
  refine ⟨by rw [e1, e2]; decide, fun c hc => ?_, fun c d _ hd => ?_, fun c hc => ?_, fun c hc => ?_, fun k hk => ?_, fun c hc => ?_⟩
  · rw [e1] at hc; omega
  · rw [e1] at hd; omega
  · rw [e1] at hc; omega
  · rw [e1] at hc; omega
  · rw [e2] at hk; omega
  · rw [e1] at hc; omega
theorem fresh_STR : STR jxa0 := by
  have f : ∀ k, (jxI0.all (fun t => !(Nat.beq t.1 k) || Nat.blt t.2.1 0) = true) → jxa0 k = fun _ => 0 := fun k h => funext fun j => fresh_row k j h
  have e1 : jxa0 58 8 = 0 := by decide +kernel
  have ec : cvC jxa0 = cvR jxa0 := by
    refine mkCV_eq (by decide +kernel) (by decide +kernel) ?_ ?_ ?_ ?_ ?_ ?_ ?_ ?_ ?_ ?_
    · rw [f 59 (by decide +kernel), f 154 (by decide +kernel)]
    · rw [f 60 (by decide +kernel), f 155 (by decide +kernel)]
    · rw [f 61 (by decide +kernel), f 156 (by decide +kernel)]
    · rw [f 62 (by decide +kernel), f 157 (by decide +kernel)]
    · rw [f 63 (by decide +kernel), f 158 (by decide +kernel)]
    · rw [f 64 (by decide +kernel), f 159 (by decide +kernel)]
    · rw [f 65 (by decide +kernel), f 160 (by decide +kernel)]
    · rw [f 66 (by decide +kernel), f 161 (by decide +kernel)]
    · rw [f 67 (by decide +kernel), f 162 (by decide +kernel)]
    · rw [f 68 (by decide +kernel), f 163 (by decide +kernel)]
  have e0 : OFN (cvC jxa0) = 0 := by
    unfold OFN
    rw [(vN_C jxa0).trans e1]
    rfl
  refine ⟨⟨ec, by rw [f 9 (by decide +kernel), f 153 (by decide +kernel)], fresh_CIC, ⟨fun j => ?_, fun j _ => fresh_row 9 j (by decide +kernel)⟩, by decide +kernel, by decide +kernel⟩, ⟨⟨by decide +kernel, by rw [f 84 (by decide +kernel), f 178 (by decide +kernel)], by rw [f 85 (by decide +kernel), f 179 (by decide +kernel)], by rw [f 86 (by decide +kernel), f 180 (by decide +kernel)], by rw [f 87 (by decide +kernel), f 181 (by decide +kernel)]⟩, fun j _ => fresh_row 87 j (by decide +kernel), fun j hj => ?_, fun j hj => ?_, by decide +kernel, by decide +kernel, fun c hc => ?_⟩, ⟨by decide +kernel, fun m hm => ?_⟩, by decide +kernel, fun i hi => ?_⟩
  · rw [e0, fresh_row 9 j (by decide +kernel)]; decide
  · rw [show jxa0 83 6 = 0 by decide +kernel] at hj; omega
  · rw [fresh_row 87 j (by decide +kernel)] at hj; exact absurd hj (by decide)
  · rw [(vN_C jxa0).trans e1] at hc; omega
  · rw [show jxa0 90 12 = 0 by decide +kernel] at hm; omega
  · rw [show jxa0 0 9 = 0 by decide +kernel] at hi; omega
