/-! the reference's reading of a wish: what waits, and what is written -/
def jdp (f : Nat → Int) : Nat → Int
  | 0 => 0
  | n + 1 => jdp f n + (if f n = 2 ∨ f n = 100 then 1 else 0)
def jop (f : Nat → Int) : Nat → Int
  | 0 => 0
  | n + 1 => jop f n + (if f n = 100 then 1 else 0)
theorem jdp_bd (f : Nat → Int) : ∀ n : Nat, 0 ≤ jop f n ∧ jop f n ≤ jdp f n ∧ jdp f n ≤ n := by
  intro n
  induction n with
  | zero => exact ⟨Int.le_refl _, Int.le_refl _, Int.le_refl _⟩
  | succ n ih =>
    show 0 ≤ jop f n + (if f n = 100 then 1 else 0) ∧ jop f n + (if f n = 100 then 1 else 0) ≤ jdp f n + (if f n = 2 ∨ f n = 100 then 1 else 0) ∧ jdp f n + (if f n = 2 ∨ f n = 100 then 1 else 0) ≤ _
    by_cases h : f n = 100
    · rw [if_pos h, if_pos (Or.inr h)]; omega
    · rw [if_neg h]
      split <;> omega
theorem jdp_congr {f g : Nat → Int} : ∀ {n : Nat}, (∀ k, k < n → f k = g k) → jdp f n = jdp g n ∧ jop f n = jop g n := by
  intro n
  induction n with
  | zero => intro _; exact ⟨rfl, rfl⟩
  | succ n ih =>
    intro h
    have h1 := ih (fun k hk => h k (by omega))
    have h2 := h n (by omega)
    constructor
    · show jdp f n + _ = jdp g n + _
      rw [h1.1, h2]
    · show jop f n + _ = jop g n + _
      rw [h1.2, h2]
def PS (a : Nat → Nat → Int) (t : Int) : Prop := jwf (a 168) (a 146 32).toNat ∧ jhg (a 168) (a 146 32).toNat = a 146 35 - jdp (a 169) (a 146 35).toNat + t ∧ jdp (a 169) (a 146 35).toNat ≤ 10 ∧ 2 * (a 146 32 + a 146 35) ≤ a 146 23 + 2 * jop (a 169) (a 146 35).toNat
theorem PS_next {a a1 : Nat → Nat → Int} {t : Int} (h : PS a t) (h1 : ∀ k, a1 168 k = a 168 k) (h2 : ∀ k, a1 169 k = a 169 k) (h3 : a1 146 32 = a 146 32) (h4 : a1 146 35 = a 146 35) (h5 : a 146 23 ≤ a1 146 23) : PS a1 t := by
  have e1 : a1 168 = a 168 := funext h1
  have e2 : a1 169 = a 169 := funext h2
  unfold PS
  rw [e1, e2, h3, h4]
  exact ⟨h.1, h.2.1, h.2.2.1, by have := h.2.2.2; omega⟩
theorem PS_room {a : Nat → Nat → Int} {t : Int} (h : PS a t) (hn : a 146 23 ≤ 100) : a 146 32 + a 146 35 ≤ 60 := by
  have h1 := jdp_bd (a 169) (a 146 35).toNat
  have h2 := h.2.2.1
  have h3 := h.2.2.2
  omega
theorem PS_start {a : Nat → Nat → Int} (h1 : a 146 32 = 0) (h2 : a 146 35 = 0) (h3 : 0 ≤ a 146 23) : PS a 0 := by
  unfold PS
  rw [h1, h2]
  refine ⟨fun k hk => absurd hk (Nat.not_lt_zero _), rfl, (by show (0 : Int) ≤ 10; decide), ?_⟩
  show 2 * (0 + 0) ≤ a 146 23 + 2 * 0
  omega
theorem jwf_snoc {f g : Nat → Int} {n : Nat} (h : jwf f n) (hg : ∀ k, k < n → g k = f k) (hn : 1024 ≤ g n ∨ (g n = 2 ∧ 1 ≤ jhg f n) ∨ 2 ≤ jhg f n) : jwf g (n + 1) ∧ jhg g (n + 1) = jhg f n + (if 1024 ≤ g n then 1 else if g n = 2 then 0 else -1) := by
  have e : jhg g n = jhg f n := jhg_congr hg
  refine ⟨fun k hk => ?_, ?_⟩
  · by_cases hkn : k = n
    · subst hkn; rw [e]; exact hn
    · have hk2 : k < n := by omega
      rw [hg k hk2, jhg_congr (fun j hj => hg j (by omega))]
      exact h k hk2
  · show jhg g n + _ = _
    rw [e]
/-- a not or a bracket is put on what waits -/
theorem PS_push {a a1 : Nat → Nat → Int} (h : PS a 0) {e c : Int} (h0 : 0 ≤ a 146 35) (h1 : ∀ k, a1 168 k = a 168 k) (h2 : ∀ k : Nat, (k : Int) < a 146 35 → a1 169 k = a 169 k) (h3 : a1 146 32 = a 146 32) (h4 : a1 146 35 = a 146 35 + 1) (he : a1 169 (a 146 35).toNat = e) (hec : (e = 2 ∧ 2 ≤ c) ∨ (e = 100 ∧ 0 ≤ c)) (h5 : a 146 23 + c ≤ a1 146 23) (h6 : ¬ jdp (a 169) (a 146 35).toNat = 10) : PS a1 0 := by
  have e1 : a1 168 = a 168 := funext h1
  have e4 : (a1 146 35).toNat = (a 146 35).toNat + 1 := by omega
  have ec := jdp_congr (f := a1 169) (g := a 169) (n := (a 146 35).toNat) (fun k hk => h2 k (by omega))
  have d1 : jdp (a1 169) ((a 146 35).toNat + 1) = jdp (a 169) (a 146 35).toNat + 1 := by
    show jdp (a1 169) (a 146 35).toNat + _ = _
    rw [ec.1, he, if_pos (by omega)]
  have d2 : jop (a1 169) ((a 146 35).toNat + 1) = jop (a 169) (a 146 35).toNat + (if e = 100 then 1 else 0) := by
    show jop (a1 169) (a 146 35).toNat + _ = _
    rw [ec.2, he]
  unfold PS
  rw [e1, e4, d1, d2, h3, h4]
  have q1 := h.2.1
  have q2 := h.2.2.1
  have q3 := h.2.2.2
  refine ⟨h.1, by omega, by omega, ?_⟩
  split <;> omega
/-- an and or an or is put on what waits -/
theorem PS_bin {a a1 : Nat → Nat → Int} (h : PS a 1) {w : Int} (h0 : 0 ≤ a 146 35) (h1 : ∀ k, a1 168 k = a 168 k) (h2 : ∀ k : Nat, (k : Int) < a 146 35 → a1 169 k = a 169 k) (h3 : a1 146 32 = a 146 32) (h4 : a1 146 35 = a 146 35 + 1) (he : a1 169 (a 146 35).toNat = w) (hw : w = 0 ∨ w = 1) (h5 : a 146 23 + 2 ≤ a1 146 23) : PS a1 0 := by
  have e1 : a1 168 = a 168 := funext h1
  have e4 : (a1 146 35).toNat = (a 146 35).toNat + 1 := by omega
  have ec := jdp_congr (f := a1 169) (g := a 169) (n := (a 146 35).toNat) (fun k hk => h2 k (by omega))
  have d1 : jdp (a1 169) ((a 146 35).toNat + 1) = jdp (a 169) (a 146 35).toNat := by
    show jdp (a1 169) (a 146 35).toNat + _ = _
    rw [ec.1, he, if_neg (by omega)]; omega
  have d2 : jop (a1 169) ((a 146 35).toNat + 1) = jop (a 169) (a 146 35).toNat := by
    show jop (a1 169) (a 146 35).toNat + _ = _
    rw [ec.2, he, if_neg (by omega)]; omega
  unfold PS
  rw [e1, e4, d1, d2, h3, h4]
  have q1 := h.2.1
  have q2 := h.2.2.1
  have q3 := h.2.2.2
  exact ⟨h.1, by omega, by omega, by omega⟩
/-- an atom is written -/
theorem PS_atom {a a1 : Nat → Nat → Int} (h : PS a 0) (h0 : 0 ≤ a 146 32) (h1 : ∀ k : Nat, (k : Int) < a 146 32 → a1 168 k = a 168 k) (h2 : ∀ k, a1 169 k = a 169 k) (h3 : a1 146 32 = a 146 32 + 1) (h4 : a1 146 35 = a 146 35) (he : 1024 ≤ a1 168 (a 146 32).toNat) (h5 : a 146 23 + 2 ≤ a1 146 23) : PS a1 1 := by
  have e2 : a1 169 = a 169 := funext h2
  have e3 : (a1 146 32).toNat = (a 146 32).toNat + 1 := by omega
  have hs := jwf_snoc (f := a 168) (g := a1 168) h.1 (fun k hk => h1 k (by omega)) (Or.inl he)
  unfold PS
  rw [e2, e3, h3, h4]
  have q1 := h.2.1
  have q2 := h.2.2.1
  have q3 := h.2.2.2
  refine ⟨hs.1, ?_, q2, by omega⟩
  rw [hs.2, if_pos he]; omega
/-- what waited last is written -/
theorem PS_pop {a a1 : Nat → Nat → Int} (h : PS a 1) {e : Int} (h0 : 0 ≤ a 146 32) (h01 : 1 ≤ a 146 35) (he0 : a 169 (a 146 35 - 1).toNat = e) (he1 : ¬ e = 100) (he2 : e < 1024) (h1 : ∀ k : Nat, (k : Int) < a 146 32 → a1 168 k = a 168 k) (h2 : ∀ k, a1 169 k = a 169 k) (h3 : a1 146 32 = a 146 32 + 1) (h4 : a1 146 35 = a 146 35 - 1) (he : a1 168 (a 146 32).toNat = e) (h5 : a 146 23 ≤ a1 146 23) : PS a1 1 := by
  have e2 : a1 169 = a 169 := funext h2
  have e3 : (a1 146 32).toNat = (a 146 32).toNat + 1 := by omega
  have e4 : (a 146 35).toNat = (a 146 35 - 1).toNat + 1 := by omega
  have q1 := h.2.1
  have q2 := h.2.2.1
  have q3 := h.2.2.2
  have hb := jdp_bd (a 169) (a 146 35 - 1).toNat
  have d1 : jdp (a 169) (a 146 35).toNat = jdp (a 169) (a 146 35 - 1).toNat + (if e = 2 then 1 else 0) := by
    rw [e4]
    show jdp (a 169) (a 146 35 - 1).toNat + _ = _
    rw [he0]
    by_cases h2 : e = 2
    · rw [if_pos h2, if_pos (Or.inl h2)]
    · rw [if_neg h2, if_neg (by omega)]
  have d2 : jop (a 169) (a 146 35).toNat = jop (a 169) (a 146 35 - 1).toNat := by
    rw [e4]
    show jop (a 169) (a 146 35 - 1).toNat + _ = _
    rw [he0, if_neg he1]; omega
  have hs := jwf_snoc (f := a 168) (g := a1 168) (n := (a 146 32).toNat) h.1 (fun k hk => h1 k (by omega)) (by
    rw [he]
    by_cases h2 : e = 2
    · right; left; rw [if_pos h2] at d1; exact ⟨h2, by omega⟩
    · right; right; rw [if_neg h2] at d1; omega)
  unfold PS
  rw [e2, e3, h3, h4]
  refine ⟨hs.1, ?_, ?_, by omega⟩
  · rw [hs.2, he, if_neg (by omega)]
    by_cases h2 : e = 2
    · rw [if_pos h2]; rw [if_pos h2] at d1; omega
    · rw [if_neg h2]; rw [if_neg h2] at d1; omega
  · split at d1 <;> omega
/-- a bracket is closed -/
theorem PS_par {a a1 : Nat → Nat → Int} (h : PS a 1) (h01 : 1 ≤ a 146 35) (he0 : a 169 (a 146 35 - 1).toNat = 100) (h1 : ∀ k, a1 168 k = a 168 k) (h2 : ∀ k, a1 169 k = a 169 k) (h3 : a1 146 32 = a 146 32) (h4 : a1 146 35 = a 146 35 - 1) (h5 : a 146 23 ≤ a1 146 23) : PS a1 1 := by
  have e1 : a1 168 = a 168 := funext h1
  have e2 : a1 169 = a 169 := funext h2
  have e4 : (a 146 35).toNat = (a 146 35 - 1).toNat + 1 := by omega
  have q1 := h.2.1
  have q2 := h.2.2.1
  have q3 := h.2.2.2
  have d1 : jdp (a 169) (a 146 35).toNat = jdp (a 169) (a 146 35 - 1).toNat + 1 := by
    rw [e4]
    show jdp (a 169) (a 146 35 - 1).toNat + _ = _
    rw [he0]; rfl
  have d2 : jop (a 169) (a 146 35).toNat = jop (a 169) (a 146 35 - 1).toNat + 1 := by
    rw [e4]
    show jop (a 169) (a 146 35 - 1).toNat + _ = _
    rw [he0]; rfl
  unfold PS
  rw [e1, e2, h3, h4]
  exact ⟨h.1, by omega, by omega, by omega⟩
/-- what waited last is written already, but waits still -/
def PSW (a : Nat → Nat → Int) (e : Int) : Prop := ∃ b : Nat → Nat → Int, PS b 1 ∧ 0 ≤ b 146 32 ∧ 1 ≤ b 146 35 ∧ b 169 (b 146 35 - 1).toNat = e ∧ ¬ e = 100 ∧ e < 1024 ∧ (∀ k : Nat, (k : Int) < b 146 32 → a 168 k = b 168 k) ∧ (∀ k, a 169 k = b 169 k) ∧ a 146 32 = b 146 32 + 1 ∧ a 146 35 = b 146 35 ∧ a 168 (b 146 32).toNat = e ∧ b 146 23 ≤ a 146 23
theorem PSW_pop {a : Nat → Nat → Int} {e v : Int} (h : PSW a e) (hv : v = a 146 35 - 1) : PS (jxu a 146 35 v) 1 := by
  obtain ⟨b, h1, h2, h3, h4, h5, h6, h7, h8, h9, h10, h11, h12⟩ := h
  exact PS_pop h1 h2 h3 h4 h5 h6 h7 h8 h9 (by show v = b 146 35 - 1; omega) h11 h12
theorem PSW_mk {a a1 : Nat → Nat → Int} {e i : Int} (h : PS a 1) (h0 : 0 ≤ a 146 32) (h01 : 1 ≤ a 146 35) (hi : i = a 146 35 - 1) (he0 : a 169 i.toNat = e) (he1 : ¬ e = 100) (he2 : e < 1024) (w0 : a1 146 32 = a 146 32 + 1) (w1 : a1 168 (a 146 32).toNat = e) (w2 : ∀ k, ¬ k = (a 146 32).toNat → a1 168 k = a 168 k) (hf : jfr [(146, 32), (168, 9999)] a a1) : PSW a1 e := by
  subst hi
  exact ⟨a, h, h0, h01, he0, he1, he2, fun k hk => w2 k (by omega), fun k => hf 169 k rfl, w0, hf 146 35 rfl, w1, by rw [hf 146 23 rfl]; exact Int.le_refl _⟩
def PSP (a : Nat → Nat → Int) (e : Int) : Prop := ∃ b : Nat → Nat → Int, ∃ c : Int, PS b 0 ∧ 0 ≤ b 146 35 ∧ ¬ jdp (b 169) (b 146 35).toNat = 10 ∧ (∀ k, a 168 k = b 168 k) ∧ (∀ k, a 169 k = b 169 k) ∧ a 146 32 = b 146 32 ∧ a 146 35 = b 146 35 ∧ ((e = 2 ∧ 2 ≤ c) ∨ (e = 100 ∧ 0 ≤ c)) ∧ b 146 23 + c ≤ a 146 23
theorem PSP_push {a : Nat → Nat → Int} {e n v : Int} (h : PSP a e) (hn : n = a 146 35) (hv : v = a 146 35 + 1) : PS (jxu (jxu a 169 n.toNat e) 146 35 v) 0 := by
  subst hn
  obtain ⟨b, c, h1, h2, h3, h4, h5, h6, h7, h8, h9⟩ := h
  refine PS_push h1 h2 h4 (fun k hk => ?_) h6 (by show v = _; omega) ?_ h8 h9 h3
  · have hk2 : ¬ k = (a 146 35).toNat := by omega
    have e1 : jxu (jxu a 169 (a 146 35).toNat e) 146 35 v 169 k = a 169 k := by simp [jxu, hk2]
    rw [e1]; exact h5 k
  · rw [← h7]; simp [jxu]
theorem PSP_mk {a : Nat → Nat → Int} {e c v : Int} (h : PS a 0) (h0 : 0 ≤ a 146 35) (hd : ¬ jdp (a 169) (a 146 35).toNat = 10) (hec : (e = 2 ∧ 2 ≤ c) ∨ (e = 100 ∧ 0 ≤ c)) (hv : a 146 23 + c ≤ v) : PSP (jxu a 146 23 v) e := ⟨a, c, h, h0, hd, fun _ => rfl, fun _ => rfl, rfl, rfl, hec, hv⟩
theorem TOP_100 {a : Nat → Nat → Int} {x : Int} (h : a 146 35 = 0 ∨ a 169 (jxw ((a 146 35) - 1)).toNat = 100 ∨ a 169 (jxw ((a 146 35) - 1)).toNat < x) (h0 : ¬ a 146 35 = 0) (h1 : 0 ≤ a 146 35 ∧ a 146 35 ≤ 64) (hx : x ≤ 0) (hi : ∀ j, 0 ≤ a 169 j) : a 169 (a 146 35 - 1).toNat = 100 := by
  rw [jxw_id (by omega) (by omega)] at h
  have := hi (a 146 35 - 1).toNat
  omega
def WW (a : Nat → Nat → Int) (m y : Int) : Prop := (∀ q : Nat, q < 40 → ¬ q = m.toNat → jwf (fun k => a 166 (64 * q + k)) (a 167 q).toNat) ∧ a 167 m.toNat = a 146 32 ∧ jwf (a 168) (a 146 32).toNat ∧ ∀ k : Nat, (k : Int) < y → a 166 (64 * m.toNat + k) = a 168 k
theorem WW_start {a : Nat → Nat → Int} {m : Int} (h : WFW a) (hj : jwf (a 168) (a 146 32).toNat) : WW (jxu (jxu a 146 22 0) 167 m.toNat (a 146 32)) m 0 := by
  refine ⟨fun q hq hne => ?_, by simp [jxu], hj, fun k hk => by omega⟩
  have e : jxu (jxu a 146 22 0) 167 m.toNat (a 146 32) 167 q = a 167 q := by simp [jxu, hne]
  rw [e]
  exact h q hq
theorem WW_step {a : Nat → Nat → Int} {m y i z : Int} (h : WW a m y) (hi : ∀ q, a 167 q ≤ 64) (h0 : 0 ≤ y) (h1 : y < 64) (hm : 0 ≤ m) (he : i = 64 * m + y) (hz : z = y + 1) : WW (jxu a 166 i.toNat (a 168 y.toNat)) m z := by
  subst hz
  have e1 : ∀ j : Nat, ¬ j = i.toNat → jxu a 166 i.toNat (a 168 y.toNat) 166 j = a 166 j := fun j hj => by simp [jxu, hj]
  refine ⟨fun q hq hne => ?_, h.2.1, h.2.2.1, fun k hk => ?_⟩
  · have hq2 := hi q
    show jwf _ (a 167 q).toNat
    exact jwf_congr (f := fun k => a 166 (64 * q + k)) (fun k hk => (e1 _ (by omega)).symm) (h.1 q hq hne)
  · by_cases hky : (k : Int) = y
    · have e2 : 64 * m.toNat + k = i.toNat := by omega
      rw [e2]
      have e3 : y.toNat = k := by omega
      rw [e3]
      simp [jxu]
    · rw [e1 _ (by omega)]
      exact h.2.2.2 k (by omega)
theorem WW_done {a : Nat → Nat → Int} {m y : Int} (h : WW a m y) (hy : ¬ y < a 146 32) (hm : 0 ≤ m) : WFW a := by
  intro q hq
  by_cases hqm : q = m.toNat
  · subst hqm
    rw [h.2.1]
    exact jwf_congr (f := a 168) (fun k hk => (h.2.2.2 k (by omega)).symm) h.2.2.1
  · exact h.1 q hq hqm
