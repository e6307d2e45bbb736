/-! the reference's search of rings: what holds at its places -/
def rbase (a0 : Nat → Nat → Int) (x : Int) : Int := a0 146 58 + tot (a0 146 56 - 1 - x)
def RJ (a0 a : Nat → Nat → Int) (x n : Int) : Prop := a 187 0 = x ∧ rowd a x n ∧ (1 ≤ n → x ≤ a 187 n.toNat ∧ a 187 n.toNat < a 146 56) ∧ a0 146 58 ≤ a 146 58 ∧ a 146 58 + jpot a x n ≤ rbase a0 x
def RJ49 (a0 a : Nat → Nat → Int) (x n : Int) : Prop := a 187 0 = x ∧ rowd a x n ∧ (x < a 187 n.toNat ∧ a 187 n.toNat < a 146 56) ∧ a0 146 58 ≤ a 146 58 ∧ a 146 58 + jpot a x n ≤ rbase a0 x ∧ ((∀ i : Nat, 1 ≤ i → (i : Int) < n → ¬ a 187 n.toNat = a 187 i) → a 146 58 + jpot a x n + tn (a 146 56 - 1 - x) n ≤ rbase a0 x)
def RJ87 (a0 a : Nat → Nat → Int) (x n : Int) : Prop := a 187 0 = x ∧ rowd a x n ∧ (x < a 187 n.toNat ∧ a 187 n.toNat < a 146 56) ∧ (∀ i : Nat, 1 ≤ i → (i : Int) < n → ¬ a 187 n.toNat = a 187 i) ∧ a0 146 58 ≤ a 146 58 ∧ a 146 58 + jpot a x n + tn (a 146 56 - 1 - x) n ≤ rbase a0 x
def RJ108 (a0 a : Nat → Nat → Int) (x n : Int) : Prop := a 187 0 = x ∧ rowd a x n ∧ (x < a 187 n.toNat ∧ a 187 n.toNat < a 146 56) ∧ (∀ i : Nat, 1 ≤ i → (i : Int) < n → ¬ a 187 n.toNat = a 187 i) ∧ a0 146 58 ≤ a 146 58 ∧ a 146 58 + jpot a x n + tn (a 146 56 - 1 - x) n - 1 ≤ rbase a0 x
theorem rowd_put {a : Nat → Nat → Int} {x n m v : Int} (h : rowd a x n) (hn : 0 ≤ n ∧ n ≤ 4) (hm : m ≤ n) : rowd (jxu a 187 n.toNat v) x m := by
  have e : jxu a 187 n.toNat v 146 56 = a 146 56 := by simp [jxu]
  have e1 : ∀ i : Nat, ¬ i = n.toNat → jxu a 187 n.toNat v 187 i = a 187 i := fun i hi => by simp [jxu, hi]
  obtain ⟨h2, h3, h4⟩ := h
  refine ⟨fun q => ?_, fun q => ?_, fun q => ?_⟩
  · rw [e, e1 1 (by omega)]; exact h2 (by omega)
  · rw [e, e1 1 (by omega), e1 2 (by omega)]; exact h3 (by omega)
  · rw [e, e1 1 (by omega), e1 2 (by omega), e1 3 (by omega)]; exact h4 (by omega)
theorem RJ_cur {a : Nat → Nat → Int} {x n : Int} (h : rowd a x n) (hn : 1 ≤ n ∧ n ≤ 4) (hx : 0 ≤ x) : 2 ≤ n → x ≤ a 187 (n - 1).toNat ∧ a 187 (n - 1).toNat < a 146 56 := by
  intro h2
  obtain ⟨q2, q3, q4⟩ := h
  have hc : n = 2 ∨ n = 3 ∨ n = 4 := by omega
  rcases hc with rfl | rfl | rfl
  · have := q2 (by decide); show x ≤ a 187 1 ∧ a 187 1 < _; omega
  · have := q3 (by decide); show x ≤ a 187 2 ∧ a 187 2 < _; omega
  · have := q4 (by decide); show x ≤ a 187 3 ∧ a 187 3 < _; omega
theorem RJ_43 {a0 a : Nat → Nat → Int} {x n v : Int} (h : RJ a0 a x n) (hn : 1 ≤ n ∧ n ≤ 4) (hx : 0 ≤ x) (hv : v = a 187 n.toNat + 1) (hF : ¬ v < a 146 56) : RJ a0 (jxu a 187 n.toNat v) x (n - 1) := by
  obtain ⟨h0, h1, h2, h3, h4⟩ := h
  have e : jxu a 187 n.toNat v 146 56 = a 146 56 := by simp [jxu]
  have e58 : jxu a 187 n.toNat v 146 58 = a 146 58 := by simp [jxu]
  have e1 : ∀ i : Nat, ¬ i = n.toNat → jxu a 187 n.toNat v 187 i = a 187 i := fun i hi => by simp [jxu, hi]
  refine ⟨?_, rowd_put h1 (by omega) (by omega), fun q => ?_, ?_, ?_⟩
  · rw [e1 0 (by omega)]; exact h0
  · rw [e1 _ (by omega), e]; exact RJ_cur h1 hn hx (by omega)
  · rw [e58]; exact h3
  · rw [e58, jpot_pop hn h1 (by have := h2 hn.1; omega)]; exact h4
theorem RJ_49 {a0 a : Nat → Nat → Int} {x n v : Int} (h : RJ a0 a x n) (hn : 1 ≤ n ∧ n ≤ 4) (hx : 0 ≤ x) (hF12 : a 146 56 ≤ 12) (hv : v = a 187 n.toNat + 1) (hF : v < a 146 56) : RJ49 a0 (jxu a 187 n.toNat v) x n := by
  obtain ⟨h0, h1, h2, h3, h4⟩ := h
  have e : jxu a 187 n.toNat v 146 56 = a 146 56 := by simp [jxu]
  have e58 : jxu a 187 n.toNat v 146 58 = a 146 58 := by simp [jxu]
  have en : jxu a 187 n.toNat v 187 n.toNat = v := by simp [jxu]
  have e1 : ∀ i : Nat, ¬ i = n.toNat → jxu a 187 n.toNat v 187 i = a 187 i := fun i hi => by simp [jxu, hi]
  have hp := jpot_inc (a := a) (x := x) (n := n) (v := v) hn h1 hv hx (by have := h2 hn.1; omega) hF12
  refine ⟨?_, rowd_put h1 (by omega) (by omega), ?_, ?_, ?_, fun hf => ?_⟩
  · rw [e1 0 (by omega)]; exact h0
  · rw [en, e]; have := h2 hn.1; omega
  · rw [e58]; exact h3
  · rw [e58]; omega
  · rw [e58, e]
    have := hp.2 (fun i hi1 hi2 => by
      have h5 := hf i hi1 hi2
      rw [en, e1 i (by omega)] at h5
      exact h5)
    omega
theorem RJ49_16 {a0 a : Nat → Nat → Int} {x n : Int} (h : RJ49 a0 a x n) : RJ a0 a x n := ⟨h.1, h.2.1, fun _ => ⟨by have := h.2.2.1; omega, h.2.2.1.2⟩, h.2.2.2.1, h.2.2.2.2.1⟩
theorem RJ49_87 {a0 a : Nat → Nat → Int} {x n : Int} (h : RJ49 a0 a x n) (hj : ∀ i : Nat, (i : Int) < n → ¬ a 187 i = a 187 n.toNat) : RJ87 a0 a x n := ⟨h.1, h.2.1, h.2.2.1, fun i _ hi hh => hj i hi hh.symm, h.2.2.2.1, h.2.2.2.2.2 (fun i _ hi hh => hj i hi hh.symm)⟩
theorem RJ87_16 {a0 a : Nat → Nat → Int} {x n : Int} (h : RJ87 a0 a x n) (hx : 0 ≤ x) (hF : a 146 56 ≤ 12) : RJ a0 a x n := ⟨h.1, h.2.1, fun _ => ⟨by have := h.2.2.1; omega, h.2.2.1.2⟩, h.2.2.2.2.1, by
  have h1 := h.2.2.2.2.2
  have h2 := tn_pos (m := a 146 56 - 1 - x) (n := n) (by have := h.2.2.1; omega) (by omega)
  omega⟩
theorem RJ87_108 {a0 a : Nat → Nat → Int} {x n : Int} (h : RJ87 a0 a x n) : RJ108 a0 a x n := ⟨h.1, h.2.1, h.2.2.1, h.2.2.2.1, h.2.2.2.2.1, by have := h.2.2.2.2.2; omega⟩
theorem rowd_congr {a a1 : Nat → Nat → Int} {x n : Int} (h : rowd a x n) (h1 : ∀ i, a1 187 i = a 187 i) (h2 : a1 146 56 = a 146 56) : rowd a1 x n := by
  unfold rowd
  rw [h1, h1, h1, h2]
  exact h
theorem jpot_congr {a a1 : Nat → Nat → Int} {x n : Int} (h1 : ∀ i, a1 187 i = a 187 i) (h2 : a1 146 56 = a 146 56) : jpot a1 x n = jpot a x n := by
  unfold jpot
  rw [h1, h1, h1, h1, h2]
theorem RJ87_108n {a0 a a1 : Nat → Nat → Int} {x n : Int} (h : RJ87 a0 a x n) (h1 : ∀ i, a1 187 i = a 187 i) (h2 : a1 146 56 = a 146 56) (h3 : a1 146 58 = a 146 58 + 1) : RJ108 a0 a1 x n := by
  refine ⟨?_, rowd_congr h.2.1 h1 h2, ?_, fun i hi1 hi2 => ?_, ?_, ?_⟩
  · rw [h1]; exact h.1
  · rw [h1, h2]; exact h.2.2.1
  · rw [h1, h1]; exact h.2.2.2.1 i hi1 hi2
  · have := h.2.2.2.2.1; omega
  · rw [jpot_congr h1 h2, h2]; have := h.2.2.2.2.2; omega
theorem RJ87_room {a0 a : Nat → Nat → Int} {x n : Int} (h : RJ87 a0 a x n) (hx : 0 ≤ x) (hF : a 146 56 ≤ 12) (hn : 1 ≤ n ∧ n ≤ 4) (hb : rbase a0 x ≤ 27000) : a 146 58 ≤ 26999 := by
  have h1 := h.2.2.2.2.2
  have h2 := tn_pos (m := a 146 56 - 1 - x) (n := n) (by have := h.2.2.1; omega) (by omega)
  have h3 := jpot_nn (a := a) (x := x) (n := n) hx hF (by have := h.2.2.1; omega) hn h.2.1 h.2.2.1.2 h.2.2.2.1
  omega
theorem RJ87_rows {a0 a : Nat → Nat → Int} {x n m : Int} (h : RJ87 a0 a x n) (hx : 0 ≤ x) (hF : a 146 56 ≤ 12) (hn : 1 ≤ n ∧ n ≤ 4) (hm : m = n + 1) : ROWS a m := by
  subst hm
  obtain ⟨h0, ⟨q2, q3, q4⟩, h2, h3, -⟩ := h
  have hc : n = 1 ∨ n = 2 ∨ n = 3 ∨ n = 4 := by omega
  intro i hi
  have hi5 : i = 0 ∨ i = 1 ∨ i = 2 ∨ i = 3 ∨ i = 4 := by omega
  rcases hc with rfl | rfl | rfl | rfl
  · have h2 : x < a 187 1 ∧ a 187 1 < a 146 56 := h2
    rcases hi5 with rfl | rfl | rfl | rfl | rfl <;> first | omega | (refine ⟨by omega, by omega, fun j hj => ?_⟩; have hj5 : j = 0 ∨ j = 1 ∨ j = 2 ∨ j = 3 := (by omega); rcases hj5 with rfl | rfl | rfl | rfl <;> omega)
  · have h2 : x < a 187 2 ∧ a 187 2 < a 146 56 := h2
    have h31 : ¬ a 187 2 = a 187 1 := h3 1 (by decide) (by decide)
    have q2 := q2 (by decide)
    rcases hi5 with rfl | rfl | rfl | rfl | rfl <;> first | omega | (refine ⟨by omega, by omega, fun j hj => ?_⟩; have hj5 : j = 0 ∨ j = 1 ∨ j = 2 ∨ j = 3 := (by omega); rcases hj5 with rfl | rfl | rfl | rfl <;> omega)
  · have h2 : x < a 187 3 ∧ a 187 3 < a 146 56 := h2
    have h31 : ¬ a 187 3 = a 187 1 := h3 1 (by decide) (by decide)
    have h32 : ¬ a 187 3 = a 187 2 := h3 2 (by decide) (by decide)
    have q2 := q2 (by decide)
    have q3 := q3 (by decide)
    rcases hi5 with rfl | rfl | rfl | rfl | rfl <;> first | omega | (refine ⟨by omega, by omega, fun j hj => ?_⟩; have hj5 : j = 0 ∨ j = 1 ∨ j = 2 ∨ j = 3 := (by omega); rcases hj5 with rfl | rfl | rfl | rfl <;> omega)
  · have h2 : x < a 187 4 ∧ a 187 4 < a 146 56 := h2
    have h31 : ¬ a 187 4 = a 187 1 := h3 1 (by decide) (by decide)
    have h32 : ¬ a 187 4 = a 187 2 := h3 2 (by decide) (by decide)
    have h33 : ¬ a 187 4 = a 187 3 := h3 3 (by decide) (by decide)
    have q2 := q2 (by decide)
    have q3 := q3 (by decide)
    have q4 := q4 (by decide)
    rcases hi5 with rfl | rfl | rfl | rfl | rfl <;> first | omega | (refine ⟨by omega, by omega, fun j hj => ?_⟩; have hj5 : j = 0 ∨ j = 1 ∨ j = 2 ∨ j = 3 := (by omega); rcases hj5 with rfl | rfl | rfl | rfl <;> omega)
theorem RJ49_bd {a0 a : Nat → Nat → Int} {x n : Int} (h : RJ49 a0 a x n) (hx : 0 ≤ x) (hF : a 146 56 ≤ 12) (hn : 1 ≤ n ∧ n ≤ 4) : ∀ i : Nat, (i : Int) < n → a 187 i < 12 := by
  obtain ⟨h0, ⟨q2, q3, q4⟩, h2, -⟩ := h
  intro i hi
  have hi5 : i = 0 ∨ i = 1 ∨ i = 2 ∨ i = 3 := by omega
  rcases hi5 with rfl | rfl | rfl | rfl
  · omega
  · have := q2 (by omega); omega
  · have := q3 (by omega); omega
  · have := q4 (by omega); omega
theorem RJ108_16 {a0 a : Nat → Nat → Int} {x n : Int} (h : RJ108 a0 a x n) (hn : n = 4) : RJ a0 a x n := ⟨h.1, h.2.1, fun _ => ⟨by have := h.2.2.1; omega, h.2.2.1.2⟩, h.2.2.2.2.1, by
  have h1 := h.2.2.2.2.2
  subst hn
  have e : tn (a 146 56 - 1 - x) 4 = 1 := by simp [tn]
  omega⟩
theorem RJ108_push {a0 a : Nat → Nat → Int} {x n m : Int} (h : RJ108 a0 a x n) (hn : 1 ≤ n ∧ n ≤ 3) (hm : m = n + 1) (hx : 0 ≤ x) (hF : a 146 56 ≤ 12) : RJ a0 (jxu a 187 m.toNat x) x m := by
  obtain ⟨h0, h1, h2, h3, h4, h5⟩ := h
  have e : jxu a 187 m.toNat x 146 56 = a 146 56 := by simp [jxu]
  have e58 : jxu a 187 m.toNat x 146 58 = a 146 58 := by simp [jxu]
  have en : jxu a 187 m.toNat x 187 m.toNat = x := by simp [jxu]
  have e1 : ∀ i : Nat, ¬ i = m.toNat → jxu a 187 m.toNat x 187 i = a 187 i := fun i hi => by simp [jxu, hi]
  have hr : rowd a x m := by
    obtain ⟨q2, q3, q4⟩ := h1
    have hc : n = 1 ∨ n = 2 ∨ n = 3 := by omega
    subst hm
    rcases hc with rfl | rfl | rfl
    · exact ⟨fun _ => h2, fun q => by omega, fun q => by omega⟩
    · exact ⟨fun _ => q2 (by decide), fun _ => ⟨h2.1, h2.2, h3 1 (by decide) (by decide)⟩, fun q => by omega⟩
    · exact ⟨fun _ => q2 (by decide), fun _ => q3 (by decide), fun _ => ⟨h2.1, h2.2, h3 1 (by decide) (by decide), h3 2 (by decide) (by decide)⟩⟩
  refine ⟨?_, rowd_put hr (by omega) (Int.le_refl _), fun _ => ?_, ?_, ?_⟩
  · rw [e1 0 (by omega)]; exact h0
  · rw [en, e]; omega
  · rw [e58]; exact h4
  · rw [e58, jpot_push hn hm hr hx hF]; omega
theorem RJ_start {a0 : Nat → Nat → Int} {x : Int} (hx : 0 ≤ x) (hF : a0 146 56 ≤ 12) (hxF : x < a0 146 56) : RJ a0 (jxu (jxu a0 187 0 x) 187 1 x) x 1 := by
  have ht := tt_at (m := a0 146 56 - 1 - x) (by omega) (by omega)
  have e : jxu (jxu a0 187 0 x) 187 1 x 146 56 = a0 146 56 := by simp [jxu]
  have e58 : jxu (jxu a0 187 0 x) 187 1 x 146 58 = a0 146 58 := by simp [jxu]
  refine ⟨by simp [jxu], ⟨fun q => by omega, fun q => by omega, fun q => by omega⟩, fun _ => ?_, ?_, ?_⟩
  · rw [e]; show x ≤ jxu (jxu a0 187 0 x) 187 1 x 187 1 ∧ jxu (jxu a0 187 0 x) 187 1 x 187 1 < _; simp [jxu]; omega
  · rw [e58]; exact Int.le_refl _
  · rw [e58]
    have e2 : jpot (jxu (jxu a0 187 0 x) 187 1 x) x 1 = (a0 146 56 - 1 - x) * tt1 (a0 146 56 - 1 - x) := by simp [jpot, potI, jxu]
    rw [e2]
    unfold rbase
    have := ht.2.2.2.2.2.2.1
    omega
theorem jmu_congr {a a1 : Nat → Nat → Int} {n : Int} (h1 : ∀ i, a1 187 i = a 187 i) : jmu a1 n = jmu a n := by
  unfold jmu
  rw [h1, h1, h1, h1]
/-! the reference's rings found -/
theorem xor_le {x s : Int} (hx0 : 0 ≤ x) (hx : x ≤ 4095) (hs0 : 0 ≤ s) (hs : s ≤ 4095) (h : jxand s x = s) : 0 ≤ jxxor x s ∧ jxxor x s ≤ x := by
  obtain ⟨m, rfl⟩ := Int.eq_ofNat_of_zero_le hx0
  obtain ⟨t, rfl⟩ := Int.eq_ofNat_of_zero_le hs0
  rw [jxand_nat _ _ (by omega) (by omega)] at h
  rw [jxxor_nat _ _ (by omega) (by omega)]
  have h2 : t &&& m = t := by omega
  have e : (m ^^^ t) &&& m = m ^^^ t := by
    apply Nat.eq_of_testBit_eq
    intro i
    rw [Nat.testBit_and, Nat.testBit_xor]
    have hb : t.testBit i = (t.testBit i && m.testBit i) := by rw [← Nat.testBit_and, h2]
    cases h1 : t.testBit i <;> cases h3 : m.testBit i <;> rw [h1, h3] at hb <;> simp at hb ⊢
  have l : (m ^^^ t) &&& m ≤ m := Nat.and_le_right
  rw [e] at l
  omega
theorem pc_sub {x s : Int} (hx0 : 0 ≤ x) (hx : x ≤ 4095) (hs0 : 0 ≤ s) (hs : s ≤ 4095) (h : jxand s x = s) : pc s ≤ pc x := by
  have h1 := xor_sub hx0 hx hs0 hs h
  have h2 := pc_bd (jxxor x s)
  omega
theorem pc_pos {x k : Int} (hk0 : 0 ≤ k) (hk : k ≤ 11) (hb : ¬ jxand (jxshr x k) 1 = 0) : 1 ≤ pc x := by
  obtain ⟨t, rfl⟩ := Int.eq_ofNat_of_zero_le hk0
  have h1 := jxand_r (jxshr x t) 1 (by decide) (by decide)
  exact pcn_ge (k := t) (by omega) 12 (by omega)
def RF (a : Nat → Nat → Int) (n : Int) : Prop := ∀ k : Nat, (k : Int) < n → a 186 k ≤ a 146 58
theorem RF_step {a a1 : Nat → Nat → Int} {n m : Int} (h : RF a n) (h0 : 0 ≤ n) (hm : m = n + 1) (h1 : ∀ k, a1 186 k = jxu a 186 n.toNat (a 146 58) 186 k) (h2 : a 146 58 ≤ a1 146 58) : RF a1 m := by
  intro k hk
  rw [h1]
  by_cases hkn : k = n.toNat
  · subst hkn; simp [jxu]; exact h2
  · have := h k (by omega)
    simp [jxu, hkn]; omega
theorem RF_last {a : Nat → Nat → Int} {n : Int} (h : RF a n) (h0 : 0 ≤ n) (hn : a 146 56 = n) : RF (jxu (jxu a 186 n.toNat (a 146 58)) 191 0 0) (jxu (jxu a 186 n.toNat (a 146 58)) 191 0 0 146 56 + 1) := by
  have e : jxu (jxu a 186 n.toNat (a 146 58)) 191 0 0 146 56 = n := by simp [jxu]; exact hn
  rw [e]
  exact RF_step h h0 rfl (fun k => by simp [jxu]) (by simp [jxu])
theorem RS_zero (a : Nat → Nat → Int) : RS (jxu a 146 58 0) := by
  intro r hr
  have e : jxu a 146 58 0 146 58 = 0 := by simp [jxu]
  rw [e] at hr
  omega
def FW (a : Nat → Nat → Int) : Prop := ∀ i, a 183 i = 0 ∨ a 183 i < a 146 49
theorem FW_fr {W : List (Nat × Nat)} {a a1 : Nat → Nat → Int} (h : FW a) (hf : jfr W a a1) (h1 : jfin W 146 49 = false) (h2 : ∀ j, jfin W 183 j = false) : FW a1 := by
  intro i
  rw [hf 183 i (h2 i), hf 146 49 h1]
  exact h i
theorem FW_put {a : Nat → Nat → Int} (h : FW a) {j : Nat} {v : Int} (hv : v = 0 ∨ v < a 146 49) : FW (jxu a 183 j v) := by
  intro i
  have e : jxu a 183 j v 146 49 = a 146 49 := by simp [jxu]
  rw [e]
  by_cases hi : i = j
  · subst hi
    have e2 : jxu a 183 i v 183 i = v := by simp [jxu]
    rw [e2]; exact hv
  · have e2 : jxu a 183 j v 183 i = a 183 i := by simp [jxu, hi]
    rw [e2]; exact h i
theorem FW_put49 {a : Nat → Nat → Int} (h : FW a) {v : Int} (hv : a 146 49 ≤ v) : FW (jxu a 146 49 v) := by
  intro i
  have e : jxu a 146 49 v 146 49 = v := by simp [jxu]
  have e2 : jxu a 146 49 v 183 i = a 183 i := by simp [jxu]
  rw [e, e2]
  have := h i
  omega
theorem FO_put189 {a : Nat → Nat → Int} (h : FO a) {j : Nat} {v : Int} (hv : v = 0 ∨ v < a 146 49) : FO (jxu a 189 j v) := by
  have e : jxu a 189 j v 146 49 = a 146 49 := by simp [jxu]
  have e64 : jxu a 189 j v 146 64 = a 146 64 := by simp [jxu]
  refine ⟨fun i => ?_, ?_⟩
  · rw [e]
    by_cases hi : i = j
    · subst hi
      have e2 : jxu a 189 i v 189 i = v := by simp [jxu]
      rw [e2]; exact hv
    · have e2 : jxu a 189 j v 189 i = a 189 i := by simp [jxu, hi]
      rw [e2]; exact h.1 i
  · rw [e, e64]; exact h.2
theorem FO_put64 {a : Nat → Nat → Int} (h : FO a) {v : Int} (hv : v = 0 ∨ 1 ≤ a 146 49) : FO (jxu a 146 64 v) := by
  have e : jxu a 146 64 v 146 49 = a 146 49 := by simp [jxu]
  have e64 : jxu a 146 64 v 146 64 = v := by simp [jxu]
  refine ⟨fun i => ?_, ?_⟩
  · have e2 : jxu a 146 64 v 189 i = a 189 i := by simp [jxu]
    rw [e, e2]; exact h.1 i
  · rw [e, e64]; exact hv
theorem RF_fr {W : List (Nat × Nat)} {a a1 : Nat → Nat → Int} {n : Int} (h : RF a n) (hf : jfr W a a1) (y : Int) (hy : 0 ≤ y ∧ y + 1 < n) (h1 : jfin W 146 58 = false := by rfl) (h2 : ∀ j, jfin W 186 j = false := by intro _; rfl) : a1 186 (jxw (y + 1)).toNat ≤ a1 146 58 ∨ 2147483647 ≤ y := by
  by_cases hb : 2147483647 ≤ y
  · exact Or.inr hb
  · left
    rw [hf 186 _ (h2 _), hf 146 58 h1]
    apply h
    rw [jxw_id (by omega) (by omega)]
    omega
