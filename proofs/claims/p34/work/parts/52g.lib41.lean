/-! matching: the two sides come to the same choice -/
theorem SUMN0 : ∀ m, SUMN (fun _ => 0) m = 0
  | 0 => rfl
  | m + 1 => by
    show SUMN (fun _ => 0) m + 0 = 0
    rw [SUMN0 m]; rfl
theorem PW_pos (i : Nat) : 0 < PW i := Int.pow_pos (by decide)
theorem PW_s {i : Nat} (h : i < 7) : PW i = 64 * PW (i + 1) := by
  unfold PW
  rw [show 7 - i = (7 - (i + 1)) + 1 by omega, Int.pow_succ]
  omega
theorem ORD_le {q : Nat → Nat} {j : Nat} (hq : ∀ i, q i ≤ 63) : ∀ {m : Nat}, j < m → m ≤ 8 → SUMN (fun i => (q i : Int) * PW i) m ≤ SUMN (fun i => (q i : Int) * PW i) (j + 1) + PW j - PW (m - 1)
  | 0, h, _ => absurd h (Nat.not_lt_zero j)
  | m + 1, h, h8 => by
    by_cases e : j = m
    · subst e
      show _ ≤ _ + PW j - PW j
      omega
    · have ih := ORD_le hq (j := j) (m := m) (by omega) (by omega)
      have p1 : PW (m - 1) = 64 * PW m := by
        have := PW_s (i := m - 1) (by omega)
        rw [show m - 1 + 1 = m by omega] at this
        exact this
      have p2 : (q m : Int) * PW m ≤ 63 * PW m := Int.mul_le_mul_of_nonneg_right (by have := hq m; omega) (Int.le_of_lt (PW_pos m))
      show SUMN (fun i => (q i : Int) * PW i) m + (q m : Int) * PW m ≤ _ + PW j - PW m
      omega
theorem ORD_ge {q : Nat → Nat} {j : Nat} : ∀ {m : Nat}, j ≤ m → SUMN (fun i => (q i : Int) * PW i) j ≤ SUMN (fun i => (q i : Int) * PW i) m
  | 0, h => by
    rw [show j = 0 by omega]; exact Int.le_refl _
  | m + 1, h => by
    by_cases e : j = m + 1
    · rw [e]; exact Int.le_refl _
    · have ih := ORD_ge (q := q) (j := j) (m := m) (by omega)
      have p : 0 ≤ (q m : Int) * PW m := Int.mul_nonneg (Int.natCast_nonneg _) (Int.le_of_lt (PW_pos m))
      show _ ≤ SUMN (fun i => (q i : Int) * PW i) m + (q m : Int) * PW m
      omega
theorem ORD_lt {q r : Nat → Nat} {m j : Nat} (h8 : m ≤ 8) (hq : ∀ i, q i ≤ 63) (hj : j < m) (he : ∀ i, i < j → r i = q i) (hl : q j < r j) : ORD m q < ORD m r := by
  have a := ORD_le hq hj h8
  have b := ORD_ge (q := r) (j := j + 1) (m := m) (by omega)
  have c : SUMN (fun i => (r i : Int) * PW i) (j + 1) = SUMN (fun i => (q i : Int) * PW i) j + (r j : Int) * PW j := by
    show SUMN (fun i => (r i : Int) * PW i) j + (r j : Int) * PW j = _
    rw [SUMN_congr (f := fun i => (r i : Int) * PW i) (g := fun i => (q i : Int) * PW i) (fun i hi => by rw [he i hi])]
  have d : SUMN (fun i => (q i : Int) * PW i) (j + 1) = SUMN (fun i => (q i : Int) * PW i) j + (q j : Int) * PW j := rfl
  have e : ((q j : Int) + 1) * PW j ≤ (r j : Int) * PW j := Int.mul_le_mul_of_nonneg_right (by omega) (Int.le_of_lt (PW_pos j))
  rw [Int.add_mul] at e
  have f := PW_pos (m - 1)
  show SUMN (fun i => (q i : Int) * PW i) m < SUMN (fun i => (r i : Int) * PW i) m
  omega
theorem ORD_hi {q : Nat → Nat} {i : Nat} (h : i < 8) : ∃ H : Int, SUMN (fun j => (q j : Int) * PW j) i = 64 * PW i * H := by
  have key : ∀ k, k ≤ i → ∃ H : Int, SUMN (fun j => (q j : Int) * PW j) k = 64 * PW i * H := by
    intro k
    induction k with
    | zero => intro _; exact ⟨0, by rw [Int.mul_zero]; rfl⟩
    | succ k ih =>
      intro hk
      obtain ⟨H, e⟩ := ih (by omega)
      have p : ∃ c : Int, PW k = 64 * PW i * c := by
        refine ⟨64 ^ (i - k - 1), ?_⟩
        unfold PW
        rw [show 7 - k = (7 - i) + (i - k - 1) + 1 by omega, Int.pow_succ, Int.pow_add]
        rw [Int.mul_comm _ 64, Int.mul_assoc]
      obtain ⟨c, ec⟩ := p
      refine ⟨H + (q k : Int) * c, ?_⟩
      show SUMN (fun j => (q j : Int) * PW j) k + (q k : Int) * PW k = _
      rw [e, ec, Int.mul_add, Int.mul_left_comm]
  exact key i (Nat.le_refl _)
/-- a digit of the order -/
theorem ORD_dig {q : Nat → Nat} {m i : Nat} (h8 : m ≤ 8) (hq : ∀ i, q i ≤ 63) (hi : i < m) : ORD m q / PW i % 64 = q i := by
  obtain ⟨H, eH⟩ := ORD_hi (q := q) (i := i) (by omega)
  have a := ORD_le hq hi h8
  have b := ORD_ge (q := q) (j := i + 1) (m := m) (by omega)
  have c : SUMN (fun j => (q j : Int) * PW j) (i + 1) = 64 * PW i * H + (q i : Int) * PW i := by
    show SUMN (fun j => (q j : Int) * PW j) i + (q i : Int) * PW i = _
    rw [eH]
  have p := PW_pos i
  have f := PW_pos (m - 1)
  obtain ⟨L, eL⟩ : ∃ L, L = SUMN (fun j => (q j : Int) * PW j) m - SUMN (fun j => (q j : Int) * PW j) (i + 1) := ⟨_, rfl⟩
  have e : ORD m q = L + (64 * H + (q i : Int)) * PW i := by
    show SUMN (fun j => (q j : Int) * PW j) m = _
    rw [Int.add_mul, Int.mul_assoc, Int.mul_comm H (PW i), ← Int.mul_assoc]
    omega
  rw [e, Int.add_mul_ediv_right _ _ (by omega), Int.ediv_eq_zero_of_lt (by omega) (by omega)]
  have := hq i
  omega
theorem SUMN_bd2 {f : Nat → Int} {l u : Int} : ∀ {n : Nat}, (∀ k, k < n → l ≤ f k ∧ f k ≤ u) → l * n ≤ SUMN f n ∧ SUMN f n ≤ u * n
  | 0, _ => by
    show l * 0 ≤ 0 ∧ (0 : Int) ≤ u * 0
    omega
  | n + 1, h => by
    have a := SUMN_bd2 (l := l) (u := u) (fun k hk => h k (Nat.lt_succ_of_lt hk))
    have b := h n (Nat.lt_succ_self n)
    show l * ((n + 1 : Nat) : Int) ≤ SUMN f n + f n ∧ SUMN f n + f n ≤ u * ((n + 1 : Nat) : Int)
    rw [show ((n + 1 : Nat) : Int) = (n : Int) + 1 by omega, Int.mul_add, Int.mul_add]
    omega
theorem SUMN_lin {f g h : Nat → Int} {x y z : Int} : ∀ {n : Nat}, SUMN (fun i => x * f i + y * g i + z * h i) n = x * SUMN f n + y * SUMN g n + z * SUMN h n
  | 0 => by
    show (0 : Int) = x * 0 + y * 0 + z * 0
    omega
  | n + 1 => by
    have e := SUMN_lin (f := f) (g := g) (h := h) (x := x) (y := y) (z := z) (n := n)
    show SUMN (fun i => x * f i + y * g i + z * h i) n + (x * f n + y * g n + z * h n) = x * (SUMN f n + f n) + y * (SUMN g n + g n) + z * (SUMN h n + h n)
    rw [e, Int.mul_add, Int.mul_add, Int.mul_add]
    omega
/-- pairs, unhappy, owed of a way -/
def wP (m : Nat) (r : Nat → Nat) : Int := SUMN (fun i => if r i = 40 then 0 else 1) m
def wU (u : Nat → Nat → Int) (m : Nat) (r : Nat → Nat) : Int := TOT u m r
def cp (u : Nat → Nat → Int) (o : Nat → Int) (i d : Nat) : Int := 1048576 * u i d - o d - 1099511627776
def cw (u : Nat → Nat → Int) (o : Nat → Int) (i d : Nat) : Int := 1000000000 - 1000000 * u i d + o d
theorem TOT_cp (u : Nat → Nat → Int) (o : Nat → Int) (m : Nat) (r : Nat → Nat) : TOT (cp u o) m r = 1048576 * wU u m r + (-1) * TOT (fun _ d => o d) m r + (-1099511627776) * wP m r := by
  unfold TOT wU wP TOT
  rw [← SUMN_lin]
  refine SUMN_congr (fun k _ => ?_)
  by_cases c : r k = 40
  · rw [if_pos c, if_pos c, if_pos c, if_pos c]; omega
  · rw [if_neg c, if_neg c, if_neg c, if_neg c]
    show cp u o k (r k) = 1048576 * u k (r k) + (-1) * o (r k) + (-1099511627776) * 1
    unfold cp
    omega
theorem TOT_cw (u : Nat → Nat → Int) (o : Nat → Int) (m : Nat) (r : Nat → Nat) : TOT (cw u o) m r = (-1000000) * wU u m r + 1 * TOT (fun _ d => o d) m r + 1000000000 * wP m r := by
  unfold TOT wU wP TOT
  rw [← SUMN_lin]
  refine SUMN_congr (fun k _ => ?_)
  by_cases c : r k = 40
  · rw [if_pos c, if_pos c, if_pos c, if_pos c]; omega
  · rw [if_neg c, if_neg c, if_neg c, if_neg c]
    show cw u o k (r k) = (-1000000) * u k (r k) + 1 * o (r k) + 1000000000 * 1
    unfold cw
    omega
theorem TOT_bd {w : Nat → Nat → Int} {m : Nat} {r : Nat → Nat} {l u : Int} (h0 : l ≤ 0 ∧ 0 ≤ u) (h : ∀ i, i < m → ¬ r i = 40 → l ≤ w i (r i) ∧ w i (r i) ≤ u) : l * m ≤ TOT w m r ∧ TOT w m r ≤ u * m := by
  refine SUMN_bd2 (fun k hk => ?_)
  by_cases c : r k = 40
  · rw [if_pos c]; exact h0
  · rw [if_neg c]; exact h k hk c
/-- the two choices are one -/
theorem MATCH_eq {A : Nat → Nat → Prop} {u : Nat → Nat → Int} {o : Nat → Int} {m : Nat} {r q : Nat → Nat} {tot : Int} (h8 : m ≤ 8) (hA : ∀ i d, A i d → d < 40) (hu : ∀ i d, i < m → A i d → 0 ≤ u i d ∧ u i d ≤ 2) (ho : ∀ d, d < 40 → -50000 ≤ o d ∧ o d ≤ 50000)
    (hr : VLD A m r) (hr40 : ∀ i, r i ≤ 40) (hmin : ∀ s, VLD A m s → TOT (cp u o) m r < TOT (cp u o) m s ∨ (TOT (cp u o) m r = TOT (cp u o) m s ∧ ORD m r ≤ ORD m s)) (hq40 : ∀ i, q i ≤ 40) (hT : MAXV A (cw u o) m tot) {due : Int} (hg : GRD A (cw u o) m q m due) : ∀ i, i < m → r i = q i := by
  obtain ⟨g1, g2, g3, g4, g5⟩ := hg
  have d0 : due = 0 := MAXV_one g3 (MAXV_none (fun j d hj _ c => by have := c.1; omega))
  have vq : VLD A m q := ⟨fun i hi => g1 i hi, fun i j hi hj hij e => g2 i j hi hj hij e⟩
  have tq : TOT (cw u o) m q = tot := by
    have := g4 tot hT
    show SUMN _ m = tot
    omega
  have bnd : ∀ s, VLD A m s → (0 ≤ wU u m s ∧ wU u m s ≤ 16) ∧ (-400000 ≤ TOT (fun _ d => o d) m s ∧ TOT (fun _ d => o d) m s ≤ 400000) ∧ (0 ≤ wP m s ∧ wP m s ≤ 8) := fun s hs => by
    have hm : (m : Int) ≤ 8 := by omega
    have a := TOT_bd (w := u) (m := m) (r := s) (l := 0) (u := 2) ⟨by decide, by decide⟩ (fun i hi c => hu i _ hi ((hs.1 i hi).resolve_left c))
    have b := TOT_bd (w := fun _ d => o d) (m := m) (r := s) (l := -50000) (u := 50000) ⟨by decide, by decide⟩ (fun i hi c => ho _ (hA i _ ((hs.1 i hi).resolve_left c)))
    have c := SUMN_bd (f := fun i => if s i = 40 then 0 else 1) (n := m) (fun k _ => by split <;> omega)
    refine ⟨?_, ?_, ?_⟩
    · unfold wU; omega
    · omega
    · unfold wP; omega
  have br := bnd r hr
  have bq := bnd q vq
  have e1 := hmin q vq
  have e2 := hT.2 r hr
  rw [← tq, TOT_cw, TOT_cw] at e2
  have pe := TOT_cp u o m r
  have qe := TOT_cp u o m q
  have ab : wP m r = wP m q ∧ wU u m r = wU u m q ∧ TOT (fun _ d => o d) m r = TOT (fun _ d => o d) m q := by
    have x : TOT (cp u o) m r ≤ TOT (cp u o) m q := by omega
    rw [pe, qe] at x
    have p1 : wP m r = wP m q := by omega
    have p2 : wU u m r = wU u m q := by omega
    exact ⟨p1, p2, by omega⟩
  have cr : TOT (cp u o) m r = TOT (cp u o) m q := by rw [pe, qe, ab.1, ab.2.1, ab.2.2]
  have wr : TOT (cw u o) m r = tot := by rw [← tq, TOT_cw, TOT_cw, ab.1, ab.2.1, ab.2.2]
  rcases g5 r hr (by rw [wr]; exact hT) with z | ⟨j, j1, j2, j3⟩
  · exact z
  · exfalso
    have lt := ORD_lt h8 (fun i => by have := hq40 i; omega) j1 j2 j3
    omega
/-! every way has its set -/
def MASK (r : Nat → Nat) : Nat → Nat
  | 0 => 0
  | m + 1 => if r m = 40 then MASK r m else MASK r m ||| 2 ^ m
theorem MASK_lt (r : Nat → Nat) : ∀ m, MASK r m < 2 ^ m
  | 0 => Nat.zero_lt_one
  | m + 1 => by
    have a := MASK_lt r m
    have e : (2 : Nat) ^ (m + 1) = 2 ^ m + 2 ^ m := by rw [Nat.pow_succ]; omega
    show (if r m = 40 then MASK r m else MASK r m ||| 2 ^ m) < _
    split
    · omega
    · exact Nat.or_lt_two_pow (by omega) (by omega)
theorem MASK_bit (r : Nat → Nat) : ∀ m i, (MASK r m).testBit i = true ↔ (i < m ∧ ¬ r i = 40)
  | 0, i => by
    show (0 : Nat).testBit i = true ↔ _
    rw [Nat.zero_testBit]
    exact ⟨fun h => absurd h (by decide), fun h => absurd h.1 (Nat.not_lt_zero i)⟩
  | m + 1, i => by
    have a := MASK_bit r m i
    show (if r m = 40 then MASK r m else MASK r m ||| 2 ^ m).testBit i = true ↔ _
    by_cases c : r m = 40
    · rw [if_pos c, a]
      constructor
      · intro h; exact ⟨by omega, h.2⟩
      · intro h
        refine ⟨?_, h.2⟩
        by_cases e : i = m
        · rw [e] at h; exact absurd c h.2
        · omega
    · rw [if_neg c, Nat.testBit_or, Nat.testBit_two_pow, Bool.or_eq_true, decide_eq_true_eq, a]
      constructor
      · rintro (h | h)
        · exact ⟨by omega, h.2⟩
        · rw [← h]; exact ⟨by omega, c⟩
      · intro h
        by_cases e : m = i
        · exact Or.inr e
        · exact Or.inl ⟨by omega, h.2⟩
/-- for each set of askers the best way, receivers below b -/
def DPC (A : Nat → Nat → Prop) (p : Nat → Nat → Int) (m b : Nat) (C O : Nat → Int) : Prop := ∀ s, s < 2 ^ m → OPTC (fun i d => d < b ∧ A i d) p m s (C s) (O s)
theorem DPC_best {A : Nat → Nat → Prop} {p : Nat → Nat → Int} {m b sb : Nat} {C O : Nat → Int} (h : DPC A p m b C O) (hA : ∀ i d, A i d → d < b) (hsb : sb < 2 ^ m) (hb : ∀ s, s < 2 ^ m → C sb < C s ∨ (C sb = C s ∧ O sb ≤ O s)) (hp : ∀ r, VLD A m r → TOT p m r < IMPO) :
    ∃ r, VLD A m r ∧ (∀ i, r i ≤ 40 ∨ r i < b) ∧ O sb = ORD m r ∧ ∀ s, VLD A m s → TOT p m r < TOT p m s ∨ (TOT p m r = TOT p m s ∧ ORD m r ≤ ORD m s) := by
  have v2 : ∀ r, VLD A m r → VLD (fun i d => d < b ∧ A i d) m r := fun r hr => VLD_mono hr (fun j _ _ q => ⟨hA _ _ q, q⟩)
  have ex : ∀ r, EXA m (MASK r m) r := fun r i hi => by
    rw [MASK_bit]
    exact ⟨fun c => ⟨hi, c⟩, fun c => c.2⟩
  have all : ∀ r, VLD A m r → C (MASK r m) < TOT p m r ∨ (C (MASK r m) = TOT p m r ∧ O (MASK r m) ≤ ORD m r) := fun r hr => by
    rcases h _ (MASK_lt r m) with ⟨_, q⟩ | ⟨_, _, q⟩
    · exact absurd (ex r) (q r (v2 r hr))
    · exact q r (v2 r hr) (ex r)
  have low : ∀ r, VLD A m r → C sb < TOT p m r ∨ (C sb = TOT p m r ∧ O sb ≤ ORD m r) := fun r hr => by
    have x := hb _ (MASK_lt r m)
    have y := all r hr
    omega
  have v0 : VLD A m (fun _ => 40) := ⟨fun _ _ => Or.inl rfl, fun _ _ _ _ _ _ => rfl⟩
  rcases h sb hsb with ⟨e, _⟩ | ⟨_, ⟨r, r1, r2, r3, r4⟩, _⟩
  · have x := low _ v0
    have y := hp _ v0
    omega
  · -- beyond the askers the row says nothing: nobody
    refine ⟨fun i => if i < m then r i else 40, ?_, fun i => ?_, ?_, fun s hs => ?_⟩
    · refine ⟨fun i hi => ?_, fun i j hi hj hij e => ?_⟩
      · show (if i < m then r i else 40) = 40 ∨ A i (if i < m then r i else 40)
        rw [if_pos hi]
        rcases r1.1 i hi with q | q
        · exact Or.inl q
        · exact Or.inr q.2
      · have e' : (if i < m then r i else 40) = (if j < m then r j else 40) := e
        rw [if_pos hi, if_pos hj] at e'
        show (if i < m then r i else 40) = 40
        rw [if_pos hi]
        exact r1.2 i j hi hj hij e'
    · show (if i < m then r i else 40) ≤ 40 ∨ (if i < m then r i else 40) < b
      by_cases hi : i < m
      · rw [if_pos hi]
        rcases r1.1 i hi with q | q
        · left; omega
        · right; exact q.1
      · rw [if_neg hi]; left; omega
    · rw [r4]
      unfold ORD
      exact SUMN_congr (fun k hk => by
        show (r k : Int) * PW k = (((if k < m then r k else 40 : Nat)) : Int) * PW k
        rw [if_pos hk])
    · have e1 : TOT p m (fun i => if i < m then r i else 40) = TOT p m r := by
        unfold TOT
        exact SUMN_congr (fun k hk => by
          show (if (if k < m then r k else 40) = 40 then 0 else p k (if k < m then r k else 40)) = _
          rw [if_pos hk])
      have e2 : ORD m (fun i => if i < m then r i else 40) = ORD m r := by
        unfold ORD
        exact SUMN_congr (fun k hk => by
          show (((if k < m then r k else 40 : Nat)) : Int) * PW k = _
          rw [if_pos hk])
      rw [e1, e2, ← r3, ← r4]
      exact low s hs
