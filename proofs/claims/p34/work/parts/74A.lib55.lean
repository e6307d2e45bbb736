/-! rings, the reference: what sets come to, and the rings found -/
theorem pc_popn {x : Int} (h0 : 0 ≤ x) (h1 : x ≤ 4095) : pc x = ((popn 12 x.toNat : Nat) : Int) := by
  have key : ∀ n, n ≤ 12 → pcn x n = ((popn n x.toNat : Nat) : Int) := fun n => by
    induction n with
    | zero => intro _; rfl
    | succ n ih =>
      intro hn
      show pcn x n + jxand (jxshr x n) 1 = ((popn n x.toNat + (if x.toNat.testBit n = true then 1 else 0) : Nat) : Int)
      rw [ih (by omega), bit_at h0 (by omega) (by omega)]
      split <;> simp
  exact key 12 (Nat.le_refl _)
theorem LST_of {x : Int} {r : Int} (h0 : 0 ≤ x) (h1 : x ≤ 4095) (r0 : 0 ≤ r) (r1 : r ≤ 11) (hb : ¬ jxand (jxshr x r) 1 = 0) (hl : ∀ i : Nat, (i : Int) < r → jxand (jxshr x (i : Int)) 1 = 0) : LST r.toNat x.toNat := by
  have e := bit_at (j := r.toNat) h0 (by omega) (by omega)
  rw [Int.toNat_of_nonneg r0] at e
  constructor
  · cases z : x.toNat.testBit r.toNat
    · rw [z] at e; exact absurd e hb
    · rfl
  · intro i hi
    have e2 := bit_at (j := i) h0 (by omega) (by omega)
    cases z : x.toNat.testBit i
    · rfl
    · rw [z, hl i (by omega)] at e2
      exact absurd e2 (by decide)
def RG1 (a : Nat → Nat → Int) (n : Nat) (g k : Nat → Nat → Bool) (Y : Nat) : Prop := ∀ s, s < Y → 0 ≤ a 186 s ∧ RSEG a (a 186 s).toNat (RGL n g k 4 [s]) ∧ a 186 s + ((RGL n g k 4 [s]).length : Int) ≤ a 146 58 ∧ (s + 1 < Y → a 186 (s + 1) = a 186 s + ((RGL n g k 4 [s]).length : Int)) ∧ (s + 1 = Y → a 146 58 = a 186 s + ((RGL n g k 4 [s]).length : Int))
theorem RG1_s {a a1 H b : Nat → Nat → Int} {n : Nat} {g k : Nat → Nat → Bool} {Y : Nat} (h : RG1 a n g k Y) (h58 : 0 ≤ a 146 58) (e186 : ∀ s, ¬ s = Y → H 186 s = a 186 s) (eY : H 186 Y = a 146 58) (eH58 : H 146 58 = a 146 58) (eH4 : ∀ j, H 184 j = a 184 j) (eH5 : ∀ j, H 185 j = a 185 j) (f186 : ∀ s, a1 186 s = H 186 s)
    (hn : (H 146 56).toNat = n) (hg : gR H b (H 183) = g) (hk : kR H b (H 183) = k) (r : RCD H b a1 Y []) : RG1 a1 n g k (Y + 1) := by
  obtain ⟨L, r1, r2, r3, r4⟩ := r
  rw [List.append_nil, hn, hg, hk] at r4
  rw [r4, eH58] at r1
  rw [r4, eH58] at r2
  rw [eH58] at r3
  intro s hs
  by_cases c : s = Y
  · subst c
    rw [f186, eY]
    exact ⟨h58, r1, by omega, fun z => absurd z (by omega), fun _ => r2⟩
  · obtain ⟨h1, h2, h3, h4, h5⟩ := h s (by omega)
    rw [f186, e186 s c]
    refine ⟨h1, fun m hm => ?_, by omega, fun z => ?_, fun z => absurd z (by omega)⟩
    · have q := r3 ((a 186 s).toNat + m) (by omega)
      rw [q.1, q.2, eH4, eH5]
      exact h2 m hm
    · rw [f186]
      by_cases d : s + 1 = Y
      · rw [d, eY]; exact h5 d
      · rw [e186 _ d]; exact h4 (by omega)
def RG2 (a : Nat → Nat → Int) (n : Nat) (g k : Nat → Nat → Bool) : Prop := ∀ s, s < n → 0 ≤ a 186 s ∧ RSEG a (a 186 s).toNat (RGL n g k 4 [s]) ∧ a 186 (s + 1) = a 186 s + ((RGL n g k 4 [s]).length : Int)
theorem RG1_end {a a1 : Nat → Nat → Int} {n : Nat} {g k : Nat → Nat → Bool} (h : RG1 a n g k n) (e : ∀ s, s < n → a1 186 s = a 186 s) (en : a1 186 n = a 146 58) (e4 : ∀ j, a1 184 j = a 184 j) (e5 : ∀ j, a1 185 j = a 185 j) : RG2 a1 n g k := fun s hs => by
  obtain ⟨h1, h2, h3, h4, h5⟩ := h s hs
  rw [e s hs]
  refine ⟨h1, fun m hm => ⟨(e4 _).trans (h2 m hm).1, (e5 _).trans (h2 m hm).2⟩, ?_⟩
  by_cases c : s + 1 < n
  · rw [e _ c]; exact h4 c
  · rw [show s + 1 = n from by omega, en]; exact h5 (by omega)
theorem RG2_fr {a a1 : Nat → Nat → Int} {n : Nat} {g k : Nat → Nat → Bool} (h : RG2 a n g k) (e : ∀ j, a1 186 j = a 186 j) (e4 : ∀ j, a1 184 j = a 184 j) (e5 : ∀ j, a1 185 j = a 185 j) : RG2 a1 n g k := fun s hs => by
  obtain ⟨h1, h2, h3⟩ := h s hs
  rw [e, e]
  exact ⟨h1, fun m hm => ⟨(e4 _).trans (h2 m hm).1, (e5 _).trans (h2 m hm).2⟩, h3⟩
/-- a ring read off its place -/
theorem RG2_at {a : Nat → Nat → Int} {n : Nat} {g k : Nat → Nat → Bool} (h : RG2 a n g k) (hk : ∀ i, k i i = true) (h12 : n ≤ 12) {s : Nat} (hs : s < n) {y : Int} (y0 : a 186 s ≤ y) (y1 : y < a 186 (s + 1)) : ∃ R, (RGL n g k 4 [s]).getD (y - a 186 s).toNat [] = R ∧ R ∈ RGL n g k 4 [s] ∧ (y - a 186 s).toNat < (RGL n g k 4 [s]).length ∧ a 184 y.toNat = ((PM R : Nat) : Int) ∧ a 185 y.toNat = NBL R ∧ popn 12 (PM R) = R.length ∧ 2 ≤ R.length ∧ R.length ≤ 5 ∧ (∀ x, x ∈ R → x < n) ∧ PM R < 2 ^ n := by
  obtain ⟨h1, h2, h3⟩ := h s hs
  have l : (y - a 186 s).toNat < (RGL n g k 4 [s]).length := by omega
  have mem : (RGL n g k 4 [s]).getD (y - a 186 s).toNat [] ∈ RGL n g k 4 [s] := by
    rw [List.getD_eq_getElem?_getD, List.getElem?_eq_getElem l]
    exact List.getElem_mem l
  obtain ⟨l1, l2, l3, l4, l5⟩ := ring_len hk h12 hs mem
  have q := h2 _ l
  rw [show (a 186 s).toNat + (y - a 186 s).toNat = y.toNat by omega] at q
  exact ⟨_, rfl, mem, l, q.1, q.2, l1, l2, l3, l5.2.1, PM_lt l5.2.1⟩
theorem DVL_bd {v : Int} {c : Nat} (h : DVL v c) (hc : c ≤ 12) : 0 ≤ v ∧ v ≤ 768 := by
  obtain ⟨o, r, a1, a2, a3, a4, a5⟩ := h
  omega
def W64 (n : Nat) (g k : Nat → Nat → Bool) (B : Nat → Int) (y : Nat) : Prop := B 0 = 0 ∧ ∀ left, left < y → left < 2 ^ n → DVL (B left) (popn 12 left) ∧ ∀ s, LST s left → IMX (B left) (WAY n g k 64 B s left)
theorem DVL_0 : DVL 0 0 := ⟨0, 0, by decide, by decide, by decide, by decide, by decide⟩
theorem W64_1 {n : Nat} {g k : Nat → Nat → Bool} {B : Nat → Int} (h : B 0 = 0) : W64 n g k B 1 := ⟨h, fun left hl _ => by
  have e : left = 0 := by omega
  rw [e, h]
  have : popn 12 0 = 0 := by decide
  rw [this]
  exact ⟨DVL_0, fun s hs => (LST_no0 hs).elim⟩⟩
theorem WAY64_D {n : Nat} {g k : Nat → Nat → Bool} {B : Nat → Int} {x s : Nat} (h : W64 n g k B x) (hk : ∀ i, k i i = true) (h12 : n ≤ 12) (hx : x < 2 ^ n) (hs : LST s x) {v : Int} (w : WAY n g k 64 B s x v) : DVL v (popn 12 x) := by
  have sn := LST_lt hs hx
  rcases w with e | ⟨r, r1, r2, r3⟩
  · have sb := bit_SUB hs.1
    have l := xor_lt sb (pow_pos2 s) hx
    rw [e]
    refine DVL_mono (h.2 _ l.1 l.2).1 ?_
    have := popn_less sb 12
    omega
  · obtain ⟨l1, l2, l3, l4, l5⟩ := ring_len hk h12 sn r1
    have l := xor_lt r2 (PM_pos l5.1) hx
    have q := (DVL_ring (h.2 _ l.1 l.2).1 l2 l3).1
    rw [r3]
    have := popn_less r2 12
    exact DVL_mono q (by omega)
theorem W64_s {n : Nat} {g k : Nat → Nat → Bool} {B : Nat → Int} {x : Nat} {v : Int} (h : W64 n g k B x) (hk : ∀ i, k i i = true) (h12 : n ≤ 12) (h0 : 0 < x) (hx : x < 2 ^ n) {s : Nat} (hs : LST s x) (hv : IMX v (WAY n g k 64 B s x)) : W64 n g k (rup B x v) (x + 1) := by
  refine ⟨by rw [rup_ne (by omega)]; exact h.1, fun left hl hl2 => ?_⟩
  by_cases c : left = x
  · rw [c, rup_at]
    refine ⟨WAY64_D h hk h12 hx hs hv.1, fun t ht => ?_⟩
    rw [LST_one ht hs]
    have wc := fun y => WAY_congr (g := g) (k := k) (wt := 64) (B := rup B x v) (C := B) hs hx (fun t ht => rup_ne (by omega)) y
    exact ⟨(wc _).2 hv.1, fun y hy => hv.2 y ((wc y).1 hy)⟩
  · have q := h.2 left (by omega) hl2
    rw [rup_ne c]
    refine ⟨q.1, fun t ht => ?_⟩
    have m := q.2 t ht
    have wc := fun y => WAY_congr (g := g) (k := k) (wt := 64) (B := rup B x v) (C := B) ht hl2 (fun t ht => rup_ne (by omega)) y
    exact ⟨(wc _).2 m.1, fun y hy => m.2 y ((wc y).1 hy)⟩
def RGI (n : Nat) (g k : Nat → Nat → Bool) (B : Nat → Int) (s x : Nat) (best : Int) (m : Nat) : Prop := WAY n g k 64 B s x best ∧ B (x ^^^ 2 ^ s) ≤ best ∧ ∀ q, q < m → SUB (PM ((RGL n g k 4 [s]).getD q [])) x → 64 * ((((RGL n g k 4 [s]).getD q []).length : Nat) : Int) - 1 + B (x ^^^ PM ((RGL n g k 4 [s]).getD q [])) ≤ best
theorem RGI_0 {n : Nat} {g k : Nat → Nat → Bool} {B : Nat → Int} {s x : Nat} : RGI n g k B s x (B (x ^^^ 2 ^ s)) 0 := ⟨Or.inl rfl, Int.le_refl _, fun q hq => absurd hq (Nat.not_lt_zero q)⟩
theorem RGI_skip {n : Nat} {g k : Nat → Nat → Bool} {B : Nat → Int} {s x m : Nat} {best : Int} {R : List Nat} (h : RGI n g k B s x best m) (e : (RGL n g k 4 [s]).getD m [] = R) (c : ¬ SUB (PM R) x) : RGI n g k B s x best (m + 1) := ⟨h.1, h.2.1, fun q hq hs => by
  by_cases d : q = m
  · rw [d, e] at hs; exact absurd hs c
  · exact h.2.2 q (by omega) hs⟩
theorem RGI_s {n : Nat} {g k : Nat → Nat → Bool} {B : Nat → Int} {s x m : Nat} {best v z : Int} {R : List Nat} (h : RGI n g k B s x best m) (e : (RGL n g k 4 [s]).getD m [] = R) (hR : R ∈ RGL n g k 4 [s]) (c : SUB (PM R) x) (hv : v = 64 * (R.length : Int) - 1 + B (x ^^^ PM R)) (hz : (z = v ∧ best < v) ∨ (z = best ∧ ¬ best < v)) : RGI n g k B s x z (m + 1) := by
  refine ⟨?_, ?_, fun q hq hs => ?_⟩
  · rcases hz with ⟨a, _⟩ | ⟨a, _⟩
    · rw [a]; exact Or.inr ⟨R, hR, c, hv⟩
    · rw [a]; exact h.1
  · have := h.2.1
    omega
  · by_cases d : q = m
    · rw [d, e, ← hv]; omega
    · have := h.2.2 q (by omega) hs
      omega
theorem RGI_end {n : Nat} {g k : Nat → Nat → Bool} {B : Nat → Int} {s x m : Nat} {best : Int} (h : RGI n g k B s x best m) (e : (RGL n g k 4 [s]).length ≤ m) : IMX best (WAY n g k 64 B s x) := ⟨h.1, fun v hv => by
  rcases hv with z | ⟨r, r1, r2, r3⟩
  · rw [z]; exact h.2.1
  · obtain ⟨q, hq, e2⟩ := List.getElem_of_mem r1
    have e3 : (RGL n g k 4 [s]).getD q [] = r := by
      rw [List.getD_eq_getElem?_getD, List.getElem?_eq_getElem hq, ← e2]
      rfl
    have := h.2.2 q (by omega) (by rw [e3]; exact r2)
    rw [e3] at this
    rw [r3]; exact this⟩
/-! the rings found -/
def FNR (a : Nat → Nat → Int) (st : Nat → Int) (L : List (List Nat)) : Prop := a 146 64 = (L.length : Int) ∧ ∀ m, m < L.length → a 190 m = (((L.getD m []).length : Nat) : Int) ∧ ∀ i, i < (L.getD m []).length → a 189 (5 * m + i) = st ((L.getD m []).getD i 0)
theorem FNR_0 {a : Nat → Nat → Int} {st : Nat → Int} (h : a 146 64 = 0) : FNR a st [] := ⟨h, fun m hm => absurd hm (Nat.not_lt_zero m)⟩
theorem FNR_fr {a a1 : Nat → Nat → Int} {st : Nat → Int} {L : List (List Nat)} (h : FNR a st L) (e1 : a1 146 64 = a 146 64) (e2 : ∀ j, a1 190 j = a 190 j) (e3 : ∀ j, a1 189 j = a 189 j) : FNR a1 st L := ⟨e1.trans h.1, fun m hm => ⟨(e2 m).trans (h.2 m hm).1, fun i hi => (e3 _).trans ((h.2 m hm).2 i hi)⟩⟩
def FNRp (a : Nat → Nat → Int) (st : Nat → Int) (L : List (List Nat)) (R : List Nat) (y : Nat) : Prop := a 146 64 = (L.length : Int) ∧ (∀ m, m < L.length → a 190 m = (((L.getD m []).length : Nat) : Int) ∧ ∀ i, i < (L.getD m []).length → a 189 (5 * m + i) = st ((L.getD m []).getD i 0)) ∧ a 190 L.length = (R.length : Int) ∧ ∀ i, i < y → a 189 (5 * L.length + i) = st (R.getD i 0)
theorem FNRp_done {a a1 : Nat → Nat → Int} {st : Nat → Int} {L : List (List Nat)} {R : List Nat} {y : Nat} (h : FNRp a st L R y) (hy : R.length ≤ y) (e1 : a1 146 64 = a 146 64 + 1) (e2 : ∀ j, a1 190 j = a 190 j) (e3 : ∀ j, a1 189 j = a 189 j) : FNR a1 st (L ++ [R]) := by
  obtain ⟨h1, h2, h3, h4⟩ := h
  refine ⟨by rw [e1, h1, List.length_append]; show _ = ((L.length + 1 : Nat) : Int); omega, fun m hm => ?_⟩
  rw [List.length_append] at hm
  have hm2 : m < L.length + 1 := hm
  by_cases c : m < L.length
  · rw [gd_left c, e2]
    exact ⟨(h2 m c).1, fun i hi => (e3 _).trans ((h2 m c).2 i hi)⟩
  · have e : m = L.length := by omega
    rw [e, gd_last, e2]
    exact ⟨h3, fun i hi => (e3 _).trans (h4 i (by omega))⟩
theorem find_take {p : List Nat → Bool} {L : List (List Nat)} {m : Nat} {R : List Nat} (h : (L.take m).find? p = none) (hm : m < L.length) (e : L.getD m [] = R) : (p R = false → (L.take (m + 1)).find? p = none) ∧ (p R = true → L.find? p = some R) := by
  have t : L.take (m + 1) = L.take m ++ [R] := by
    rw [List.take_succ, List.getElem?_eq_getElem hm, ← e, List.getD_eq_getElem?_getD, List.getElem?_eq_getElem hm]
    rfl
  constructor
  · intro c
    rw [t, find_app h]
    show List.find? p [R] = none
    rw [List.find?_cons, c]
    rfl
  · intro c
    have s : L = L.take (m + 1) ++ L.drop (m + 1) := (List.take_append_drop (m + 1) L).symm
    rw [s]
    refine find_app2 ?_
    rw [t, find_app h]
    show List.find? p [R] = some R
    rw [List.find?_cons, c]
theorem okr_R {B : Nat → Int} {left : Nat} {R : List Nat} (h : SUB (PM R) left) : okr 64 B left R = true ↔ 64 * (R.length : Int) - 1 + B (left ^^^ PM R) = B left := by
  unfold okr
  rw [Bool.and_eq_true, decide_eq_true_eq, decide_eq_true_eq]
  exact ⟨fun q => q.2, fun q => ⟨SUB_and.1 h, q⟩⟩
theorem okr_Rno {B : Nat → Int} {left : Nat} {R : List Nat} (h : ¬ SUB (PM R) left) : okr 64 B left R = false := by
  unfold okr
  rw [decide_eq_false (fun z => h (SUB_and.2 z))]
  rfl
theorem CFN_z {n : Nat} {g k : Nat → Nat → Bool} {B : Nat → Int} : ∀ j, CFN n g k 64 B j 0 = []
  | 0 => rfl
  | j + 1 => by
    show (if (0 : Nat).testBit (n - (j + 1)) = true then _ else CFN n g k 64 B j 0) = []
    rw [Nat.zero_testBit, if_neg (by decide)]
    exact CFN_z j
theorem CFN_sk {n : Nat} {g k : Nat → Nat → Bool} {B : Nat → Int} {left : Nat} : ∀ y, y ≤ n → (∀ i, i < y → left.testBit i = false) → CFN n g k 64 B n left = CFN n g k 64 B (n - y) left
  | 0, _, _ => rfl
  | y + 1, hy, h => by
    rw [CFN_sk y (by omega) (fun i hi => h i (by omega)), show n - y = (n - (y + 1)) + 1 by omega]
    show (if left.testBit (n - ((n - (y + 1)) + 1)) = true then _ else CFN n g k 64 B (n - (y + 1)) left) = _
    rw [show n - ((n - (y + 1)) + 1) = y by omega, h y (Nat.lt_succ_self y), if_neg (by decide)]
theorem CFN_R {n : Nat} {g k : Nat → Nat → Bool} {B : Nat → Int} {left s : Nat} (hk : ∀ i, k i i = true) (h12 : n ≤ 12) (hl : left < 2 ^ n) (hs : LST s left) : ((RGL n g k 4 [s]).find? (okr 64 B left) = none → CFN n g k 64 B n left = CFN n g k 64 B n (left ^^^ 2 ^ s)) ∧ ∀ R, (RGL n g k 4 [s]).find? (okr 64 B left) = some R → CFN n g k 64 B n left = R :: CFN n g k 64 B n (left ^^^ PM R) := by
  have sn := LST_lt hs hl
  have e0 := CFN_sk (n := n) (g := g) (k := k) (B := B) (left := left) s (by omega) hs.2
  have e1 : CFN n g k 64 B (n - s) left = (match (RGL n g k 4 [s]).find? (okr 64 B left) with
      | some r => r :: CFN n g k 64 B (n - (s + 1)) (left ^^^ PM r)
      | none => CFN n g k 64 B (n - (s + 1)) (left ^^^ 2 ^ s)) := by
    rw [show n - s = (n - (s + 1)) + 1 by omega]
    show (if left.testBit (n - ((n - (s + 1)) + 1)) = true then (match (RGL n g k 4 [n - ((n - (s + 1)) + 1)]).find? (okr 64 B left) with
      | some r => r :: CFN n g k 64 B (n - (s + 1)) (left ^^^ PM r)
      | none => CFN n g k 64 B (n - (s + 1)) (left ^^^ 2 ^ (n - ((n - (s + 1)) + 1)))) else _) = _
    rw [show n - ((n - (s + 1)) + 1) = s by omega, hs.1, if_pos rfl]
  constructor
  · intro f
    rw [e0, e1, f]
    show CFN n g k 64 B (n - (s + 1)) (left ^^^ 2 ^ s) = _
    refine (CFN_sk (s + 1) (by omega) (fun i hi => ?_)).symm
    rw [xbit hs.1]
    by_cases c : i = s
    · rw [c]; simp
    · rw [hs.2 i (by omega)]; rfl
  · intro R f
    have mem := List.mem_of_find?_eq_some f
    obtain ⟨l1, l2, l3, l4, l5⟩ := ring_len hk h12 sn mem
    have hb : (PM R).testBit s = true := (PM_bit R s).2 (ring_head hk sn mem)
    rw [e0, e1, f]
    show R :: CFN n g k 64 B (n - (s + 1)) (left ^^^ PM R) = _
    congr 1
    refine (CFN_sk (s + 1) (by omega) (fun i hi => ?_)).symm
    rw [Nat.testBit_xor]
    by_cases c : i = s
    · rw [c, hb, hs.1]; rfl
    · rw [hs.2 i (by omega)]
      cases z : (PM R).testBit i
      · rfl
      · have m := (PM_bit R i).1 z
        have := l5.2.2.2 i m
        omega
theorem nbv_dig {f : Nat → Int} {n : Nat} (hn : n ≤ 5) (h : ∀ i, i < n → 0 ≤ f i ∧ f i < 12) : ∀ i : Nat, i < n → jxand (jxshr (nbv f n) (4 * (i : Int))) 15 = f i := by
  intro i hi
  have hb := nbv_lt n h
  have hp : (16 : Int) ^ n ≤ 16 ^ 5 := by
    have : ∀ n : Nat, n ≤ 5 → (16 : Int) ^ n ≤ 16 ^ 5 := by decide
    exact this n hn
  have hs : jxshr (nbv f n) (4 * (i : Int)) = nbv f n / (2 : Int) ^ (4 * i) := by
    rw [jxshr_nat hb.1 (by omega) (by omega) (by omega)]
    congr 1
  rw [hs]
  have hq0 : 0 ≤ nbv f n / (2 : Int) ^ (4 * i) := Int.ediv_nonneg hb.1 (Int.le_of_lt (Int.pow_pos (by decide)))
  have hq1 : nbv f n / (2 : Int) ^ (4 * i) ≤ nbv f n := Int.ediv_le_self _ hb.1
  rw [jxand15 hq0 (by omega)]
  have e : ∀ m : Nat, nbv f (m + 1) = nbv f m + f m * 16 ^ m := fun _ => rfl
  have e0 : nbv f 0 = 0 := rfl
  have hN : n = 1 ∨ n = 2 ∨ n = 3 ∨ n = 4 ∨ n = 5 := by omega
  have hI : i = 0 ∨ i = 1 ∨ i = 2 ∨ i = 3 ∨ i = 4 := by omega
  have hf : ∀ k, k < n → 0 ≤ f k ∧ f k < 12 := h
  rcases hN with rfl | rfl | rfl | rfl | rfl
  all_goals
    (try have f0 := hf 0 (by decide)); (try have f1 := hf 1 (by decide)); (try have f2 := hf 2 (by decide)); (try have f3 := hf 3 (by decide)); (try have f4 := hf 4 (by decide))
    rcases hI with rfl | rfl | rfl | rfl | rfl
    all_goals first
      | (exfalso; omega)
      | (simp only [e, e0]; omega)
theorem NBL_dig {R : List Nat} (h5 : R.length ≤ 5) (h : ∀ x, x ∈ R → x < 12) {i : Nat} (hi : i < R.length) : jxand (jxshr (NBL R) (4 * (i : Int))) 15 = ((R.getD i 0 : Nat) : Int) := by
  unfold NBL
  refine nbv_dig h5 (fun j hj => ?_) i hi
  have m : R.getD j 0 ∈ R := by
    rw [List.getD_eq_getElem?_getD, List.getElem?_eq_getElem hj]
    exact List.getElem_mem hj
  have := h _ m
  show 0 ≤ ((R.getD j 0 : Nat) : Int) ∧ ((R.getD j 0 : Nat) : Int) < 12
  omega
def RGRr (a0 b0 a : Nat → Nat → Int) (r : Int) : Prop := ∃ (n : Nat) (st : Nat → Int) (B : Nat → Int), SEAT (a0 181) (a0 146 49).toNat n st ∧ n ≤ 12 ∧ ISB n (gR a0 b0 st) (kR a0 b0 st) 64 (2 ^ n - 1) B ∧ FNR a st (CFN n (gR a0 b0 st) (kR a0 b0 st) 64 B n (2 ^ n - 1)) ∧ r = a 146 64
theorem W64_ISB {n : Nat} {g k : Nat → Nat → Bool} {B : Nat → Int} {y : Nat} (h : W64 n g k B y) (hy : 2 ^ n ≤ y) : ISB n g k 64 (2 ^ n - 1) B := ⟨h.1, fun left s _ hl hs => (h.2 left (by omega) hl).2 s hs⟩
