/-! matching: each asker one receiver at most, each receiver one asker at most; 40: nobody -/
def VLD (ok : Nat → Nat → Prop) (m : Nat) (r : Nat → Nat) : Prop := (∀ i, i < m → r i = 40 ∨ ok i (r i)) ∧ ∀ i j, i < m → j < m → ¬ i = j → r i = r j → r i = 40
def TOT (w : Nat → Nat → Int) (m : Nat) (r : Nat → Nat) : Int := SUMN (fun i => if r i = 40 then 0 else w i (r i)) m
def PW (i : Nat) : Int := 64 ^ (7 - i)
def ORD (m : Nat) (r : Nat → Nat) : Int := SUMN (fun i => (r i : Int) * PW i) m
def nset (r : Nat → Nat) (i v : Nat) : Nat → Nat := fun j => if j = i then v else r j
theorem nset_at (r : Nat → Nat) (i v : Nat) : nset r i v i = v := if_pos rfl
theorem nset_ne {r : Nat → Nat} {i j v : Nat} (h : ¬ j = i) : nset r i v j = r j := if_neg h
theorem SUMN_take {f : Nat → Int} : ∀ {m i : Nat}, i < m → SUMN f m = SUMN (fun j => if j = i then 0 else f j) m + f i
  | 0, i, h => absurd h (Nat.not_lt_zero i)
  | m + 1, i, h => by
    show SUMN f m + f m = SUMN (fun j => if j = i then 0 else f j) m + (if m = i then 0 else f m) + f i
    by_cases e : m = i
    · subst e
      rw [if_pos rfl, SUMN_congr (f := fun j => if j = m then 0 else f j) (g := f) (fun k hk => if_neg (by omega))]
      omega
    · rw [if_neg e, SUMN_take (f := f) (m := m) (i := i) (by omega)]
      omega
theorem TOT_set {w : Nat → Nat → Int} {m i v : Nat} {r : Nat → Nat} (hi : i < m) (h : r i = 40) (hv : ¬ v = 40) : TOT w m (nset r i v) = TOT w m r + w i v := by
  unfold TOT
  rw [SUMN_take (f := fun j => if nset r i v j = 40 then 0 else w j (nset r i v j)) hi, SUMN_congr (g := fun j => if r j = 40 then 0 else w j (r j)) (fun k hk => ?_)]
  · show _ + (if nset r i v i = 40 then 0 else w i (nset r i v i)) = _
    rw [nset_at, if_neg hv]
  · show (if k = i then 0 else if nset r i v k = 40 then 0 else w k (nset r i v k)) = _
    by_cases e : k = i
    · rw [if_pos e, e, h, if_pos rfl]
    · rw [if_neg e, nset_ne e]
theorem ORD_set {m i v : Nat} {r : Nat → Nat} (hi : i < m) : ORD m (nset r i v) = ORD m r - (r i : Int) * PW i + (v : Int) * PW i := by
  unfold ORD
  rw [SUMN_take (f := fun j => (nset r i v j : Int) * PW j) hi, SUMN_take (f := fun j => (r j : Int) * PW j) hi, SUMN_congr (f := fun j => if j = i then 0 else (nset r i v j : Int) * PW j) (g := fun j => if j = i then 0 else (r j : Int) * PW j) (fun k hk => ?_)]
  · show _ + (nset r i v i : Int) * PW i = _
    rw [nset_at]; omega
  · by_cases e : k = i
    · rw [if_pos e, if_pos e]
    · rw [if_neg e, if_neg e, nset_ne e]
theorem nset_nset (r : Nat → Nat) (i v u : Nat) : nset (nset r i v) i u = nset r i u := funext fun j => by
  by_cases e : j = i
  · rw [e, nset_at, nset_at]
  · rw [nset_ne e, nset_ne e, nset_ne e]
theorem nset_self {r : Nat → Nat} {i v : Nat} (h : r i = v) : nset r i v = r := funext fun j => by
  by_cases e : j = i
  · rw [e, nset_at, h]
  · rw [nset_ne e]
/-- one pair less, one pair more -/
theorem VLD_less {ok ok2 : Nat → Nat → Prop} {m i b : Nat} {r : Nat → Nat} (h : VLD ok m r) (hi : i < m) (hr : r i = b) (hb : ¬ b = 40) (hk : ∀ j c, j < m → ok j c → ¬ j = i → ¬ c = b → ok2 j c) : VLD ok2 m (nset r i 40) := by
  refine ⟨fun j hj => ?_, fun j k hj hk2 hjk e => ?_⟩
  · by_cases c : j = i
    · rw [c, nset_at]; exact Or.inl rfl
    · rw [nset_ne c]
      rcases h.1 j hj with q | q
      · exact Or.inl q
      · by_cases cb : r j = b
        · have := h.2 j i hj hi c (by rw [cb, hr])
          omega
        · exact Or.inr (hk j (r j) hj q c cb)
  · by_cases c : j = i
    · rw [c, nset_at]
    · by_cases c2 : k = i
      · rw [e, c2, nset_at]
      · rw [nset_ne c] at e ⊢
        rw [nset_ne c2] at e
        exact h.2 j k hj hk2 hjk e
theorem VLD_more {ok ok2 : Nat → Nat → Prop} {m i b : Nat} {r : Nat → Nat} (h : VLD ok m r) (hr : r i = 40) (ho : ok2 i b) (hk : ∀ j c, ok j c → ok2 j c ∧ ¬ c = b) (hb : ¬ b = 40) : VLD ok2 m (nset r i b) := by
  refine ⟨fun j hj => ?_, fun j k hj hk2 hjk e => ?_⟩
  · by_cases c : j = i
    · rw [c, nset_at]; exact Or.inr ho
    · rw [nset_ne c]
      rcases h.1 j hj with q | q
      · exact Or.inl q
      · exact Or.inr (hk _ _ q).1
  · by_cases c : j = i
    · have c2 : ¬ k = i := fun q => hjk (by rw [c, q])
      rw [c, nset_at, nset_ne c2] at e
      rcases h.1 k hk2 with q | q
      · rw [q] at e; exact absurd e hb
      · exact absurd e.symm (hk _ _ q).2
    · by_cases c2 : k = i
      · rw [c2, nset_at, nset_ne c] at e
        rcases h.1 j hj with q | q
        · rw [q] at e; exact absurd e.symm hb
        · exact absurd e (hk _ _ q).2
      · rw [nset_ne c, nset_ne c2] at e
        rw [nset_ne c]
        exact h.2 j k hj hk2 hjk e
theorem VLD_mono {ok ok2 : Nat → Nat → Prop} {m : Nat} {r : Nat → Nat} (h : VLD ok m r) (hk : ∀ j, j < m → ¬ r j = 40 → ok j (r j) → ok2 j (r j)) : VLD ok2 m r := ⟨fun j hj => by
  by_cases c : r j = 40
  · exact Or.inl c
  · exact Or.inr (hk j hj c ((h.1 j hj).resolve_left c)), h.2⟩
/-! the class: for each set of askers the best way -/
def IMPO : Int := 4611686018427387904
def EXA (m s : Nat) (r : Nat → Nat) : Prop := ∀ i, i < m → (¬ r i = 40 ↔ s.testBit i = true)
def OPTC (ok : Nat → Nat → Prop) (p : Nat → Nat → Int) (m s : Nat) (c o : Int) : Prop := (c = IMPO ∧ ∀ r, VLD ok m r → ¬ EXA m s r) ∨ (¬ c = IMPO ∧ (∃ r, VLD ok m r ∧ EXA m s r ∧ c = TOT p m r ∧ o = ORD m r) ∧ ∀ r, VLD ok m r → EXA m s r → c < TOT p m r ∨ (c = TOT p m r ∧ o ≤ ORD m r))
theorem bit_x {s i j : Nat} : (s ^^^ 2 ^ i).testBit j = (s.testBit j ^^ decide (i = j)) := by
  rw [Nat.testBit_xor, Nat.testBit_two_pow]
theorem EXA_less {m s i : Nat} {r : Nat → Nat} (h : EXA m s r) (hs : s.testBit i = true) : EXA m (s ^^^ 2 ^ i) (nset r i 40) := fun j hj => by
  rw [bit_x]
  by_cases c : j = i
  · rw [c, nset_at, hs]; simp
  · rw [nset_ne c, show decide (i = j) = false from decide_eq_false (fun q => c q.symm), Bool.xor_false]
    exact h j hj
theorem EXA_more {m s i b : Nat} {r : Nat → Nat} (h : EXA m (s ^^^ 2 ^ i) r) (hs : s.testBit i = true) (hb : ¬ b = 40) : EXA m s (nset r i b) := fun j hj => by
  by_cases c : j = i
  · rw [c, nset_at, hs]; simp [hb]
  · have q := h j hj
    rw [bit_x, show decide (i = j) = false from decide_eq_false (fun q => c q.symm), Bool.xor_false] at q
    rw [nset_ne c]
    exact q
theorem EXA_out {m s i : Nat} {r : Nat → Nat} (h : EXA m (s ^^^ 2 ^ i) r) (hi : i < m) (hs : s.testBit i = true) : r i = 40 := by
  have q := h i hi
  rw [bit_x, hs] at q
  simp at q
  exact q
/-- a pair is tried -/
theorem OPTC_try {ok okb : Nat → Nat → Prop} {p : Nat → Nat → Int} {m s i b : Nat} {c o c1 o1 c2 o2 : Int} (hi : i < m) (hs : s.testBit i = true) (hb : b < 40) (h : OPTC ok p m s c o) (hw : OPTC okb p m (s ^^^ 2 ^ i) c1 o1)
    (k1 : ∀ j d, okb j d → ok j d ∧ ¬ d = b) (k2 : ∀ j d, j < m → ok j d → ¬ d = b → okb j d) (hbd : ∀ r, VLD okb m r → TOT p m r + p i b < IMPO)
    (hres : (c1 = IMPO ∧ c2 = c ∧ o2 = o) ∨ (¬ c1 = IMPO ∧ (((c1 + p i b < c ∨ (c1 + p i b = c ∧ o1 - (40 - (b : Int)) * PW i < o)) ∧ c2 = c1 + p i b ∧ o2 = o1 - (40 - (b : Int)) * PW i) ∨ (¬ (c1 + p i b < c ∨ (c1 + p i b = c ∧ o1 - (40 - (b : Int)) * PW i < o)) ∧ c2 = c ∧ o2 = o)))) :
    OPTC (fun j d => ok j d ∨ (j = i ∧ d = b)) p m s c2 o2 := by
  have b40 : ¬ b = 40 := by omega
  -- ways without the pair
  have f1 : ∀ r, VLD (fun j d => ok j d ∨ (j = i ∧ d = b)) m r → ¬ r i = b → VLD ok m r := fun r hr hne => VLD_mono hr (fun j hj _ q => by
    rcases q with q | q
    · exact q
    · exact absurd (by rw [q.1] at q; exact q.2) hne)
  have f2 : ∀ r, VLD (fun j d => ok j d ∨ (j = i ∧ d = b)) m r → EXA m s r → r i = b → VLD okb m (nset r i 40) ∧ EXA m (s ^^^ 2 ^ i) (nset r i 40) ∧ TOT p m r = TOT p m (nset r i 40) + p i b ∧ ORD m r = ORD m (nset r i 40) - (40 - (b : Int)) * PW i := fun r hr he hrb => by
    have e : nset (nset r i 40) i b = r := by rw [nset_nset]; exact nset_self hrb
    refine ⟨VLD_less hr hi hrb b40 (fun j d hj q hji hdb => ?_), EXA_less he hs, ?_, ?_⟩
    · rcases q with q | q
      · exact k2 j d hj q hdb
      · exact absurd q.1 hji
    · have t := TOT_set (w := p) (r := nset r i 40) (v := b) hi (nset_at _ _ _) b40
      rw [e] at t
      exact t
    · have t := ORD_set (r := nset r i 40) (v := b) hi
      rw [e, nset_at] at t
      rw [t, Int.sub_mul]
      show _ - ((40 : Nat) : Int) * PW i + _ = _
      rw [show ((40 : Nat) : Int) = 40 from rfl]
      omega
  have f3 : ∀ r, VLD okb m r → EXA m (s ^^^ 2 ^ i) r → VLD (fun j d => ok j d ∨ (j = i ∧ d = b)) m (nset r i b) ∧ EXA m s (nset r i b) ∧ TOT p m (nset r i b) = TOT p m r + p i b ∧ ORD m (nset r i b) = ORD m r - (40 - (b : Int)) * PW i := fun r hr he => by
    have h40 := EXA_out he hi hs
    refine ⟨VLD_more hr h40 (Or.inr ⟨rfl, rfl⟩) (fun j d q => ⟨Or.inl (k1 j d q).1, (k1 j d q).2⟩) b40, EXA_more he hs b40, TOT_set hi h40 b40, ?_⟩
    rw [ORD_set hi, h40, Int.sub_mul]
    show _ - ((40 : Nat) : Int) * PW i + _ = _
    rw [show ((40 : Nat) : Int) = 40 from rfl]
    omega
  have f4 : ∀ r, VLD ok m r → VLD (fun j d => ok j d ∨ (j = i ∧ d = b)) m r := fun r hr => VLD_mono hr (fun _ _ _ q => Or.inl q)
  rcases hres with ⟨e1, e2, e3⟩ | ⟨e1, e2⟩
  · -- the smaller set can't be served
    have no : ∀ r, VLD (fun j d => ok j d ∨ (j = i ∧ d = b)) m r → EXA m s r → VLD ok m r := fun r hr he => by
      by_cases q : r i = b
      · have g := f2 r hr he q
        rcases hw with w | w
        · exact absurd g.2.1 (w.2 _ g.1)
        · exact absurd e1 w.1
      · exact f1 r hr q
    rw [e2, e3]
    rcases h with ⟨a1, a2⟩ | ⟨a1, ⟨r, r1, r2, r3, r4⟩, a3⟩
    · exact Or.inl ⟨a1, fun r hr he => a2 r (no r hr he) he⟩
    · exact Or.inr ⟨a1, ⟨r, f4 r r1, r2, r3, r4⟩, fun r hr he => a3 r (no r hr he) he⟩
  · rcases hw with w | ⟨w1, ⟨r1, w2, w3, w4, w5⟩, w6⟩
    · exact absurd w.1 e1
    have g3 := f3 r1 w2 w3
    have hb1 := hbd r1 w2
    rcases e2 with ⟨q1, q2, q3⟩ | ⟨q1, q2, q3⟩
    · rw [q2, q3]
      refine Or.inr ⟨by rw [w4]; omega, ⟨_, g3.1, g3.2.1, by rw [g3.2.2.1, w4], by rw [g3.2.2.2, w5]⟩, fun r hr he => ?_⟩
      by_cases c : r i = b
      · have g := f2 r hr he c
        have z := w6 _ g.1 g.2.1
        rw [g.2.2.1, g.2.2.2]
        omega
      · have v := f1 r hr c
        rcases h with ⟨a1, a2⟩ | ⟨a1, a2, a3⟩
        · exact absurd he (a2 r v)
        · have z := a3 r v he
          omega
    · rw [q2, q3]
      rcases h with ⟨a1, a2⟩ | ⟨a1, ⟨r, r1, r2, r3, r4⟩, a3⟩
      · rw [a1, w4] at q1
        exact absurd (Or.inl (by omega)) q1
      · refine Or.inr ⟨a1, ⟨r, f4 r r1, r2, r3, r4⟩, fun r hr he => ?_⟩
        by_cases c : r i = b
        · have g := f2 r hr he c
          have z := w6 _ g.1 g.2.1
          rw [g.2.2.1, g.2.2.2]
          omega
        · exact a3 r (f1 r hr c) he
/-- a pair that can't be, or an asker not of the set -/
theorem OPTC_skip {ok ok2 : Nat → Nat → Prop} {p : Nat → Nat → Int} {m s : Nat} {c o : Int} (h : OPTC ok p m s c o) (k : ∀ j d, j < m → s.testBit j = true → (ok j d ↔ ok2 j d)) : OPTC ok2 p m s c o := by
  have f1 : ∀ r, VLD ok2 m r → EXA m s r → VLD ok m r := fun r hr he => VLD_mono hr (fun j hj q1 q2 => (k j (r j) hj ((he j hj).1 q1)).2 q2)
  have f2 : ∀ r, VLD ok m r → EXA m s r → VLD ok2 m r := fun r hr he => VLD_mono hr (fun j hj q1 q2 => (k j (r j) hj ((he j hj).1 q1)).1 q2)
  rcases h with ⟨a1, a2⟩ | ⟨a1, ⟨r, r1, r2, r3, r4⟩, a3⟩
  · exact Or.inl ⟨a1, fun r hr he => a2 r (f1 r hr he) he⟩
  · exact Or.inr ⟨a1, ⟨r, f2 r r1 r2, r2, r3, r4⟩, fun r hr he => a3 r (f1 r hr he) he⟩
/-! the reference: the greatest worth -/
def MAXV (ok : Nat → Nat → Prop) (w : Nat → Nat → Int) (m : Nat) (v : Int) : Prop := (∃ r, VLD ok m r ∧ v = TOT w m r) ∧ ∀ r, VLD ok m r → TOT w m r ≤ v
theorem MAXV_one {ok : Nat → Nat → Prop} {w : Nat → Nat → Int} {m : Nat} {v v2 : Int} (h : MAXV ok w m v) (h2 : MAXV ok w m v2) : v = v2 := by
  obtain ⟨⟨r, r1, r2⟩, q⟩ := h
  obtain ⟨⟨s, s1, s2⟩, q2⟩ := h2
  have a := q s s1
  have b := q2 r r1
  omega
theorem MAXV_same {ok ok2 : Nat → Nat → Prop} {w : Nat → Nat → Int} {m : Nat} {v : Int} (h : MAXV ok w m v) (k : ∀ j d, j < m → ¬ d = 40 → (ok j d ↔ ok2 j d)) : MAXV ok2 w m v := by
  obtain ⟨⟨r, r1, r2⟩, q⟩ := h
  exact ⟨⟨r, VLD_mono r1 (fun j hj c q => (k j _ hj c).1 q), r2⟩, fun s hs => q s (VLD_mono hs (fun j hj c q => (k j _ hj c).2 q))⟩
theorem MAXV_try {ok okb : Nat → Nat → Prop} {w : Nat → Nat → Int} {m i b : Nat} {v v1 : Int} (hi : i < m) (hb : b < 40) (h : MAXV ok w m v) (hw : MAXV okb w m v1)
    (k1 : ∀ j d, okb j d → ok j d ∧ ¬ d = b ∧ ¬ j = i) (k2 : ∀ j d, j < m → ok j d → ¬ d = b → ¬ j = i → okb j d) : MAXV (fun j d => ok j d ∨ (j = i ∧ d = b)) w m (if v < w i b + v1 then w i b + v1 else v) := by
  have b40 : ¬ b = 40 := by omega
  have f1 : ∀ r, VLD (fun j d => ok j d ∨ (j = i ∧ d = b)) m r → ¬ r i = b → VLD ok m r := fun r hr hne => VLD_mono hr (fun j hj _ q => by
    rcases q with q | q
    · exact q
    · exact absurd (by rw [q.1] at q; exact q.2) hne)
  have f2 : ∀ r, VLD (fun j d => ok j d ∨ (j = i ∧ d = b)) m r → r i = b → TOT w m r ≤ w i b + v1 := fun r hr hrb => by
    have e : nset (nset r i 40) i b = r := by rw [nset_nset]; exact nset_self hrb
    have t := TOT_set (w := w) (r := nset r i 40) (v := b) hi (nset_at _ _ _) b40
    rw [e] at t
    have z := hw.2 (nset r i 40) (VLD_less hr hi hrb b40 (fun j d hj q hji hdb => by
      rcases q with q | q
      · exact k2 j d hj q hdb hji
      · exact absurd q.1 hji))
    omega
  have h40 : ∀ r, VLD okb m r → r i = 40 := fun r hr => by
    rcases hr.1 i hi with q | q
    · exact q
    · exact absurd rfl (k1 _ _ q).2.2
  obtain ⟨⟨r1, w2, w4⟩, w6⟩ := hw
  obtain ⟨⟨r, r2, r3⟩, a3⟩ := h
  by_cases c : v < w i b + v1
  · rw [if_pos c]
    refine ⟨⟨nset r1 i b, VLD_more w2 (h40 r1 w2) (Or.inr ⟨rfl, rfl⟩) (fun j d q => ⟨Or.inl (k1 j d q).1, (k1 j d q).2.1⟩) b40, by rw [TOT_set hi (h40 r1 w2) b40, w4]; omega⟩, fun s hs => ?_⟩
    by_cases q : s i = b
    · exact f2 s hs q
    · have := a3 s (f1 s hs q)
      omega
  · rw [if_neg c]
    refine ⟨⟨r, VLD_mono r2 (fun _ _ _ q => Or.inl q), r3⟩, fun s hs => ?_⟩
    by_cases q : s i = b
    · have := f2 s hs q
      omega
    · exact a3 s (f1 s hs q)
/-- nobody left to ask -/
theorem MAXV_none {ok : Nat → Nat → Prop} {w : Nat → Nat → Int} {m : Nat} (h : ∀ j d, j < m → ¬ d = 40 → ¬ ok j d) : MAXV ok w m 0 := by
  have z : ∀ r, (∀ i, i < m → r i = 40) → TOT w m r = 0 := fun r hr => by
    unfold TOT
    rw [SUMN_congr (g := fun _ => 0) (fun k hk => if_pos (hr k hk))]
    have q : ∀ n : Nat, SUMN (fun _ => 0) n = 0 := fun n => by
      induction n with
      | zero => rfl
      | succ n ih => show SUMN (fun _ => 0) n + 0 = 0; omega
    exact q m
  refine ⟨⟨fun _ => 40, ⟨fun _ _ => Or.inl rfl, fun _ _ _ _ _ _ => rfl⟩, (z _ (fun _ _ => rfl)).symm⟩, fun r hr => ?_⟩
  rw [z r (fun i hi => ?_)]
  · exact Int.le_refl _
  · rcases hr.1 i hi with q | q
    · exact q
    · by_cases c : r i = 40
      · exact c
      · exact absurd q (h i _ hi c)
/-! the reference's choice, one asker after the other -/
def GOK (A : Nat → Nat → Prop) (q : Nat → Nat) (k : Nat) : Nat → Nat → Prop := fun i b => k ≤ i ∧ A i b ∧ ∀ j, j < k → ¬ q j = b
/-- behind k askers: q the choice so far, due what the rest come to -/
def GRD (A : Nat → Nat → Prop) (w : Nat → Nat → Int) (m : Nat) (q : Nat → Nat) (k : Nat) (due : Int) : Prop :=
  (∀ i, i < k → q i = 40 ∨ A i (q i)) ∧ (∀ i j, i < k → j < k → ¬ i = j → q i = q j → q i = 40) ∧ MAXV (GOK A q k) w m due ∧
  (∀ tot, MAXV A w m tot → tot = SUMN (fun i => if q i = 40 then 0 else w i (q i)) k + due) ∧
  (∀ r, VLD A m r → MAXV A w m (TOT w m r) → (∀ j, j < k → r j = q j) ∨ ∃ j, j < k ∧ (∀ i, i < j → r i = q i) ∧ q j < r j)
theorem GRD_0 {A : Nat → Nat → Prop} {w : Nat → Nat → Int} {m : Nat} {q : Nat → Nat} {due : Int} (h : MAXV A w m due) : GRD A w m q 0 due := by
  have e : MAXV (GOK A q 0) w m due := MAXV_same h (fun j d hj hd => ⟨fun a => ⟨Nat.zero_le _, a, fun j hj => absurd hj (Nat.not_lt_zero j)⟩, fun a => a.2.1⟩)
  refine ⟨fun i hi => absurd hi (Nat.not_lt_zero i), fun i j hi => absurd hi (Nat.not_lt_zero i), e, fun tot ht => ?_, fun r _ _ => Or.inl (fun j hj => absurd hj (Nat.not_lt_zero j))⟩
  rw [MAXV_one ht h]
  show due = 0 + due
  omega
/-- the part of a way behind k askers -/
def rest (r : Nat → Nat) (k : Nat) : Nat → Nat := fun i => if i < k then 40 else r i
theorem TOT_split {w : Nat → Nat → Int} {r : Nat → Nat} {k : Nat} : ∀ {m : Nat}, k ≤ m → TOT w m r = SUMN (fun i => if r i = 40 then 0 else w i (r i)) k + TOT w m (rest r k)
  | 0, h => by
    have e : k = 0 := by omega
    subst e
    show (0 : Int) = 0 + 0
    omega
  | m + 1, h => by
    by_cases e : k = m + 1
    · rw [← e]
      have z : TOT w k (rest r k) = 0 := by
        unfold TOT
        rw [SUMN_congr (g := fun _ => 0) (fun i hi => by
          show (if rest r k i = 40 then 0 else _) = 0
          rw [if_pos (show rest r k i = 40 from if_pos hi)])]
        have q : ∀ n : Nat, SUMN (fun _ => 0) n = 0 := fun n => by
          induction n with
          | zero => rfl
          | succ n ih => show SUMN (fun _ => 0) n + 0 = 0; omega
        exact q k
      rw [z]
      show TOT w k r = TOT w k r + 0
      omega
    · have q := TOT_split (w := w) (r := r) (k := k) (m := m) (by omega)
      show TOT w m r + (if r m = 40 then 0 else w m (r m)) = _ + (TOT w m (rest r k) + (if rest r k m = 40 then 0 else w m (rest r k m)))
      rw [q, show rest r k m = r m from if_neg (by omega)]
      omega
theorem rest_VLD {A : Nat → Nat → Prop} {m k : Nat} {r q : Nat → Nat} (h : VLD A m r) (hk : k ≤ m) (e : ∀ j, j < k → r j = q j) : VLD (GOK A q k) m (rest r k) := by
  refine ⟨fun i hi => ?_, fun i j hi hj hij eq => ?_⟩
  · by_cases c : i < k
    · exact Or.inl (if_pos c)
    · rw [show rest r k i = r i from if_neg c]
      rcases h.1 i hi with g | g
      · exact Or.inl g
      · by_cases c40 : r i = 40
        · exact Or.inl c40
        · refine Or.inr ⟨by omega, g, fun j hj qe => ?_⟩
          have z := h.2 i j hi (by omega) (by omega) (by rw [e j hj, qe])
          exact c40 z
  · by_cases c : i < k
    · exact if_pos c
    · rw [show rest r k i = r i from if_neg c] at eq ⊢
      by_cases c2 : j < k
      · rw [show rest r k j = 40 from if_pos c2] at eq
        exact eq
      · rw [show rest r k j = r j from if_neg c2] at eq
        exact h.2 i j hi hj hij eq
/-- what asker k may be given: b, so that the rest comes to what is due -/
def CAND (A : Nat → Nat → Prop) (w : Nat → Nat → Int) (m : Nat) (q : Nat → Nat) (k : Nat) (due : Int) (b : Nat) : Prop := A k b ∧ (∀ j, j < k → ¬ q j = b) ∧ ∃ v, MAXV (GOK A (nset q k b) (k + 1)) w m v ∧ w k b + v = due
theorem GOK_less {A : Nat → Nat → Prop} {w : Nat → Nat → Int} {m k b : Nat} {q r : Nat → Nat} (hr : VLD (GOK A q k) m r) (hk : k < m) (hb : r k = b) (h40 : ¬ b = 40) : VLD (GOK A (nset q k b) (k + 1)) m (nset r k 40) :=
  VLD_less hr hk hb h40 (fun j c hj ho hjk hcb => ⟨by have := ho.1; omega, ho.2.1, fun i hi e => by
    by_cases ci : i = k
    · rw [ci, nset_at] at e; exact hcb e.symm
    · rw [nset_ne ci] at e; exact ho.2.2 i (by omega) e⟩)
theorem GOK_more {A : Nat → Nat → Prop} {w : Nat → Nat → Int} {m k b : Nat} {q r : Nat → Nat} (hr : VLD (GOK A (nset q k b) (k + 1)) m r) (hk : k < m) (ha : A k b) (hn : ∀ j, j < k → ¬ q j = b) (h40 : ¬ b = 40) : VLD (GOK A q k) m (nset r k b) ∧ r k = 40 := by
  have e40 : r k = 40 := by
    rcases hr.1 k hk with g | g
    · exact g
    · have := g.1; omega
  refine ⟨VLD_more hr e40 ⟨Nat.le_refl _, ha, hn⟩ (fun j c ho => ⟨⟨by have := ho.1; omega, ho.2.1, fun i hi e => ?_⟩, fun e => ?_⟩) h40, e40⟩
  · have := ho.2.2 i (by omega)
    rw [nset_ne (by omega)] at this
    exact this e
  · have := ho.2.2 k (Nat.lt_succ_self k)
    rw [nset_at] at this
    exact this e.symm
/-- b is given to asker k: the least that may be -/
theorem GRD_yes {A : Nat → Nat → Prop} {w : Nat → Nat → Int} {m k b : Nat} {q : Nat → Nat} {due v : Int} (h : GRD A w m q k due) (hk : k < m) (hb : b < 40) (hA : ∀ i d, A i d → d < 40) (ha : A k b) (hn : ∀ j, j < k → ¬ q j = b) (hm : MAXV (GOK A (nset q k b) (k + 1)) w m v) (hv : w k b + v = due) (hl : ∀ d, d < b → ¬ CAND A w m q k due d) : GRD A w m (nset q k b) (k + 1) v := by
  obtain ⟨h1, h2, h3, h4, h5⟩ := h
  have b40 : ¬ b = 40 := by omega
  refine ⟨fun i hi => ?_, fun i j hi hj hij e => ?_, hm, fun tot ht => ?_, fun r hr hmx => ?_⟩
  · by_cases c : i = k
    · rw [c, nset_at]; exact Or.inr ha
    · rw [nset_ne c]; exact h1 i (by omega)
  · by_cases c : i = k
    · have cj : ¬ j = k := fun z => hij (by rw [c, z])
      rw [c, nset_at, nset_ne cj] at e
      exact absurd e.symm (hn j (by omega))
    · by_cases cj : j = k
      · rw [cj, nset_at, nset_ne c] at e
        exact absurd e (hn i (by omega))
      · rw [nset_ne c, nset_ne cj] at e
        rw [nset_ne c]
        exact h2 i j (by omega) (by omega) hij e
  · rw [h4 tot ht]
    show _ = SUMN (fun i => if nset q k b i = 40 then 0 else w i (nset q k b i)) k + (if nset q k b k = 40 then 0 else w k (nset q k b k)) + v
    rw [nset_at, if_neg b40, SUMN_congr (f := fun i => if nset q k b i = 40 then 0 else w i (nset q k b i)) (g := fun i => if q i = 40 then 0 else w i (q i)) (fun i hi => by rw [nset_ne (by omega)])]
    omega
  · rcases h5 r hr hmx with g | ⟨j, g1, g2, g3⟩
    · -- alike so far
      have rv := rest_VLD hr (by omega) g
      have rt := TOT_split (w := w) (r := r) (k := k) (m := m) (by omega)
      have t4 := h4 _ hmx
      rw [SUMN_congr (f := fun i => if r i = 40 then 0 else w i (r i)) (g := fun i => if q i = 40 then 0 else w i (q i)) (fun i hi => by rw [g i hi])] at rt
      have rk : rest r k k = r k := if_neg (by omega)
      by_cases c40 : r k = 40
      · right
        refine ⟨k, Nat.lt_succ_self k, fun i hi => by rw [g i hi, nset_ne (by omega)], ?_⟩
        rw [nset_at]; omega
      · have ok := (rv.1 k hk).resolve_left (by rw [rk]; exact c40)
        rw [rk] at ok
        have lt40 := hA k _ ok.2.1
        have cand : CAND A w m q k due (r k) := by
          have less := GOK_less (w := w) rv hk rk c40
          have ts := TOT_set (w := w) (r := nset (rest r k) k 40) (i := k) (v := r k) hk (nset_at _ _ _) c40
          rw [nset_nset, nset_self rk] at ts
          refine ⟨ok.2.1, ok.2.2, TOT w m (nset (rest r k) k 40), ⟨⟨_, less, rfl⟩, fun s hs => ?_⟩, by omega⟩
          have mo := GOK_more (w := w) hs hk ok.2.1 ok.2.2 c40
          have ts2 := TOT_set (w := w) (r := s) (i := k) (v := r k) hk mo.2 c40
          have := h3.2 _ mo.1
          omega
        by_cases e : r k = b
        · left
          intro j hj
          by_cases c : j = k
          · rw [c, nset_at]; exact e
          · rw [nset_ne c]; exact g j (by omega)
        · right
          refine ⟨k, Nat.lt_succ_self k, fun i hi => by rw [g i hi, nset_ne (by omega)], ?_⟩
          rw [nset_at]
          rcases Nat.lt_or_ge (r k) b with z | z
          · exact absurd cand (hl _ z)
          · omega
    · right
      exact ⟨j, by omega, fun i hi => by rw [g2 i hi, nset_ne (by omega)], by rw [nset_ne (by omega)]; exact g3⟩
/-- nobody can be given to asker k -/
theorem GRD_no {A : Nat → Nat → Prop} {w : Nat → Nat → Int} {m k : Nat} {q : Nat → Nat} {due : Int} (h : GRD A w m q k due) (hk : k < m) (hA : ∀ i d, A i d → d < 40) (hl : ∀ d, ¬ CAND A w m q k due d) : GRD A w m (nset q k 40) (k + 1) due := by
  obtain ⟨h1, h2, h3, h4, h5⟩ := h
  -- a way of the rest serves not k
  have key : ∀ r, VLD (GOK A q k) m r → TOT w m r = due → r k = 40 := fun r hr ht => by
    by_cases c40 : r k = 40
    · exact c40
    · exfalso
      have ok := (hr.1 k hk).resolve_left c40
      refine hl (r k) ⟨ok.2.1, ok.2.2, TOT w m (nset r k 40), ⟨⟨_, GOK_less (w := w) hr hk rfl c40, rfl⟩, fun s hs => ?_⟩, ?_⟩
      · have mo := GOK_more (w := w) hs hk ok.2.1 ok.2.2 c40
        have ts2 := TOT_set (w := w) (r := s) (i := k) (v := r k) hk mo.2 c40
        have ts := TOT_set (w := w) (r := nset r k 40) (i := k) (v := r k) hk (nset_at _ _ _) c40
        rw [nset_nset, nset_self rfl] at ts
        have := h3.2 _ mo.1
        omega
      · have ts := TOT_set (w := w) (r := nset r k 40) (i := k) (v := r k) hk (nset_at _ _ _) c40
        rw [nset_nset, nset_self rfl] at ts
        omega
  refine ⟨fun i hi => ?_, fun i j hi hj hij e => ?_, ?_, fun tot ht => ?_, fun r hr hmx => ?_⟩
  · by_cases c : i = k
    · rw [c, nset_at]; exact Or.inl rfl
    · rw [nset_ne c]; exact h1 i (by omega)
  · by_cases c : i = k
    · rw [c, nset_at]
    · by_cases cj : j = k
      · rw [e, cj, nset_at]
      · rw [nset_ne c, nset_ne cj] at e
        rw [nset_ne c]
        exact h2 i j (by omega) (by omega) hij e
  · obtain ⟨⟨r, r1, r2⟩, r3⟩ := h3
    have r40 := key r r1 r2.symm
    refine ⟨⟨r, VLD_mono r1 (fun j hj c ho => ⟨?_, ho.2.1, fun i hi e => ?_⟩), r2⟩, fun s hs => r3 s (VLD_mono hs (fun j hj c ho => ⟨by have := ho.1; omega, ho.2.1, fun i hi e => ?_⟩))⟩
    · have := ho.1
      by_cases cj : j = k
      · rw [cj] at c; exact absurd r40 c
      · omega
    · by_cases ci : i = k
      · rw [ci, nset_at] at e; exact c e.symm
      · rw [nset_ne ci] at e; exact ho.2.2 i (by omega) e
    · have := ho.2.2 i (by omega)
      rw [nset_ne (by omega)] at this
      exact this e
  · rw [h4 tot ht]
    show _ = SUMN (fun i => if nset q k 40 i = 40 then 0 else w i (nset q k 40 i)) k + (if nset q k 40 k = 40 then 0 else w k (nset q k 40 k)) + due
    rw [nset_at, if_pos rfl, SUMN_congr (f := fun i => if nset q k 40 i = 40 then 0 else w i (nset q k 40 i)) (g := fun i => if q i = 40 then 0 else w i (q i)) (fun i hi => by rw [nset_ne (by omega)])]
    omega
  · rcases h5 r hr hmx with g | ⟨j, g1, g2, g3⟩
    · have rv := rest_VLD hr (by omega) g
      have rt := TOT_split (w := w) (r := r) (k := k) (m := m) (by omega)
      have t4 := h4 _ hmx
      rw [SUMN_congr (f := fun i => if r i = 40 then 0 else w i (r i)) (g := fun i => if q i = 40 then 0 else w i (q i)) (fun i hi => by rw [g i hi])] at rt
      have z := key _ rv (by omega)
      rw [show rest r k k = r k from if_neg (by omega)] at z
      left
      intro j hj
      by_cases c : j = k
      · rw [c, nset_at]; exact z
      · rw [nset_ne c]; exact g j (by omega)
    · right
      exact ⟨j, by omega, fun i hi => by rw [g2 i hi, nset_ne (by omega)], by rw [nset_ne (by omega)]; exact g3⟩
