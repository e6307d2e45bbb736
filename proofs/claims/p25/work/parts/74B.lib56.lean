/-! rings, the reference: the moves of the three loops -/
theorem gk_fr2 {a a1 b b1 : Nat → Nat → Int} (r150 : a1 150 = a 150) (r178 : a1 178 = a 178) (r179 : a1 179 = a 179) (r180 : a1 180 = a 180) : (∀ st, gR a1 b1 st = gR a b st) ∧ ∀ st, kR a1 b1 st = kR a b st := by
  refine ⟨fun st => funext fun i => funext fun j => ?_, fun st => funext fun i => funext fun j => ?_⟩
  · unfold gR
    rw [isKin_fr (a1 := a1) (a := a) r150, r178, r179, r180, isKin_b a b1 b]
  · unfold kR
    rw [isKin_fr (a1 := a1) (a := a) r150, r178, isKin_b a b1 b]
theorem shl1_12 : ∀ n : Nat, n ≤ 12 → jxshl 1 (n : Int) = ((2 ^ n : Nat) : Int) := by
  have h : ∀ n : Nat, n < 13 → jxshl 1 (n : Int) = ((2 ^ n : Nat) : Int) := by decide +kernel
  exact fun n hn => h n (by omega)
theorem xsh {y r : Int} (h0 : 0 ≤ y) (h1 : y ≤ 4095) (r0 : 0 ≤ r) (r1 : r ≤ 11) : jxxor y (jxshl 1 r) = ((y.toNat ^^^ 2 ^ r.toNat : Nat) : Int) := by
  have s1 := jxshl1_n r.toNat (by omega)
  rw [Int.toNat_of_nonneg r0] at s1
  have p2 : 2 ^ r.toNat ≤ 2048 := Nat.pow_le_pow_right (n := 2) (by decide) (show r.toNat ≤ 11 by omega)
  have q := jxxor_nat y.toNat (2 ^ r.toNat) (by omega) (by omega)
  rw [Int.toNat_of_nonneg h0] at q
  rw [s1, q]
theorem xpm {y x : Int} {p : Nat} (h0 : 0 ≤ y) (h1 : y ≤ 4095) (hx : x = (p : Int)) (hp : p ≤ 4095) : jxxor y x = ((y.toNat ^^^ p : Nat) : Int) := by
  have q := jxxor_nat y.toNat p (by omega) (by omega)
  rw [Int.toNat_of_nonneg h0] at q
  rw [hx, q]
theorem sub_pm {y x : Int} {p : Nat} (h0 : 0 ≤ y) (h1 : y ≤ 4095) (hx : x = (p : Int)) (hp : p ≤ 4095) : jxand x y = x ↔ SUB p y.toNat := by
  have q := jxand_nat p y.toNat (by omega) (by omega)
  rw [Int.toNat_of_nonneg h0] at q
  rw [hx, q, SUB_and]
  omega
theorem sz_pm {x : Int} {p l : Nat} (hx : x = (p : Int)) (hp : p ≤ 4095) (hl : popn 12 p = l) : pc x = (l : Int) := by
  rw [pc_popn (x := x) (by omega) (by omega), hx, Int.toNat_natCast, hl]
/-- what a set comes to with a ring -/
def wR (a : Nat → Nat → Int) (x1 x2 : Int) : Int := jxw (64 * pc (a 184 x2.toNat) - 1 + a 191 (jxxor x1 (a 184 x2.toNat)).toNat)
theorem wR_at {a : Nat → Nat → Int} {n : Nat} {x1 x2 : Int} {R : List Nat} (h0 : 0 ≤ x1) (h1 : x1.toNat < 2 ^ n) (h12 : n ≤ 12) (e : a 184 x2.toNat = ((PM R : Nat) : Int)) (hl : popn 12 (PM R) = R.length) (hl5 : R.length ≤ 5) (hs : SUB (PM R) x1.toNat) (hb : 0 ≤ a 191 (x1.toNat ^^^ PM R) ∧ a 191 (x1.toNat ^^^ PM R) ≤ 768) : wR a x1 x2 = 64 * (R.length : Int) - 1 + a 191 (x1.toNat ^^^ PM R) := by
  have t := two12 h12
  have l := SUB_le hs
  unfold wR
  rw [sz_pm e (by omega) hl, xpm h0 (by omega) e (by omega), Int.toNat_natCast, jxw_id (by omega) (by omega)]
theorem W64_bd {n : Nat} {g k : Nat → Nat → Bool} {B : Nat → Int} {y x : Nat} (h : W64 n g k B y) (hx : x < y) (hx2 : x < 2 ^ n) : 0 ≤ B x ∧ B x ≤ 768 := DVL_bd (h.2 x hx hx2).1 (popn_le x 12)
theorem xor_small {p x n : Nat} (hs : SUB p x) (hp : 0 < p) (hx : x < 2 ^ n) : x ^^^ p < x ∧ x ^^^ p < 2 ^ n := xor_lt hs hp hx
/-- the loop over the rings of the least seat: one ring on -/
theorem RGI_go {a : Nat → Nat → Int} {n : Nat} {g k : Nat → Nat → Bool} (hg : RG2 a n g k) (hk : ∀ i, k i i = true) (h12 : n ≤ 12) {x y2 y3 y4 : Int} (x0 : 0 ≤ x) (hx : x.toNat < 2 ^ n) (hs : y2.toNat < n) (q0 : a 186 y2.toNat ≤ y4) (q1 : y4 < a 186 (y2.toNat + 1)) (h : RGI n g k (a 191) y2.toNat x.toNat y3 (y4 - a 186 y2.toNat).toNat) : (¬ jxand (a 184 y4.toNat) x = a 184 y4.toNat → RGI n g k (a 191) y2.toNat x.toNat y3 ((y4 - a 186 y2.toNat).toNat + 1)) ∧ (jxand (a 184 y4.toNat) x = a 184 y4.toNat → W64 n g k (a 191) x.toNat → ∀ z, (z = wR a x y4 ∧ y3 < wR a x y4) ∨ (z = y3 ∧ ¬ y3 < wR a x y4) → RGI n g k (a 191) y2.toNat x.toNat z ((y4 - a 186 y2.toNat).toNat + 1)) := by
  obtain ⟨R, e, mem, l, e4, e5, l1, l2, l3, l4, l5⟩ := RG2_at hg hk h12 hs q0 q1
  have t := two12 h12
  have sp := sub_pm (y := x) x0 (by omega) e4 (by omega)
  constructor
  · intro c
    exact RGI_skip h e (fun z => c (sp.2 z))
  · intro c w z hz
    have sb := sp.1 c
    have pp : 0 < PM R := PM_pos (fun z => by rw [z] at l2; exact absurd l2 (by decide))
    have xl := xor_lt sb pp hx
    have wr := wR_at x0 hx h12 e4 l1 l3 sb (W64_bd w xl.1 xl.2)
    exact RGI_s h e mem sb wr hz
/-! rings found -/
def FDH (a : Nat → Nat → Int) (n : Nat) (g k : Nat → Nat → Bool) : Prop := a 146 56 = (n : Int) ∧ n ≤ 12 ∧ (∀ i, k i i = true) ∧ RG2 a n g k ∧ ∀ t, t < 2 ^ n → 0 ≤ a 191 t ∧ a 191 t ≤ 768
def FNI (a0 a : Nat → Nat → Int) (n : Nat) (g k : Nat → Nat → Bool) (y1 : Int) : Prop := ∃ L, FNR a (a0 183) L ∧ L ++ CFN n g k 64 (a0 191) n y1.toNat = CFN n g k 64 (a0 191) n (2 ^ n - 1) ∧ 0 ≤ y1 ∧ y1.toNat < 2 ^ n ∧ ∀ r, r ∈ L → r.length ≤ 5
def FSM (a0 : Nat → Nat → Int) (n : Nat) (g k : Nat → Nat → Bool) (y1 y2 y3 : Int) : Prop := ∃ R, (RGL n g k 4 [y2.toNat]).find? (okr 64 (a0 191) y1.toNat) = some R ∧ a0 184 y3.toNat = ((PM R : Nat) : Int) ∧ a0 185 y3.toNat = NBL R
def FTE (a0 : Nat → Nat → Int) (n : Nat) (g k : Nat → Nat → Bool) (y1 y2 y3 : Int) : Prop := (y3 = -1 → (RGL n g k 4 [y2.toNat]).find? (okr 64 (a0 191) y1.toNat) = none) ∧ (¬ y3 = -1 → FSM a0 n g k y1 y2 y3)
def FTK (a0 : Nat → Nat → Int) (n : Nat) (g k : Nat → Nat → Bool) (y1 y2 y3 y4 : Int) : Prop := a0 186 y2.toNat ≤ y4 ∧ (y3 = -1 → ((RGL n g k 4 [y2.toNat]).take (y4 - a0 186 y2.toNat).toNat).find? (okr 64 (a0 191) y1.toNat) = none) ∧ (¬ y3 = -1 → FSM a0 n g k y1 y2 y3)
theorem FTK_0 {a0 : Nat → Nat → Int} {n : Nat} {g k : Nat → Nat → Bool} {y1 y2 y4 : Int} (e : y4 = a0 186 y2.toNat) : FTK a0 n g k y1 y2 (-1) y4 := ⟨by omega, fun _ => by rw [show (y4 - a0 186 y2.toNat).toNat = 0 by omega]; rfl, fun h => absurd rfl h⟩
theorem FTK_skip {a0 : Nat → Nat → Int} {n : Nat} {g k : Nat → Nat → Bool} {y1 y2 y3 y4 : Int} (hF : FDH a0 n g k) (y0 : 0 ≤ y1) (hx : y1.toNat < 2 ^ n) (hs : y2.toNat < n) (h : FTK a0 n g k y1 y2 y3 y4) (h3 : y3 = -1) (q1 : y4 < a0 186 (y2.toNat + 1)) (c : ¬ jxand (a0 184 y4.toNat) y1 = a0 184 y4.toNat) : FTK a0 n g k y1 y2 y3 (y4 + 1) := by
  obtain ⟨h1, h2, hh3⟩ := h
  obtain ⟨R, e, mem, l, e4, e5, l1, l2, l3, l4, l5⟩ := RG2_at hF.2.2.2.1 hF.2.2.1 hF.2.1 hs h1 q1
  have t := two12 hF.2.1
  have sp := sub_pm (y := y1) y0 (by omega) e4 (by omega)
  refine ⟨by omega, fun z => ?_, hh3⟩
  rw [show (y4 + 1 - a0 186 y2.toNat).toNat = (y4 - a0 186 y2.toNat).toNat + 1 by omega]
  exact (find_take (h2 z) l e).1 (okr_Rno (fun z => c (sp.2 z)))
theorem FTK_try {a0 : Nat → Nat → Int} {n : Nat} {g k : Nat → Nat → Bool} {y1 y2 y3 y4 : Int} (hF : FDH a0 n g k) (y0 : 0 ≤ y1) (hx : y1.toNat < 2 ^ n) (hs : y2.toNat < n) (h : FTK a0 n g k y1 y2 y3 y4) (h3 : y3 = -1) (p4 : 0 ≤ y4) (q1 : y4 < a0 186 (y2.toNat + 1)) (c : jxand (a0 184 y4.toNat) y1 = a0 184 y4.toNat) : (wR a0 y1 y4 = a0 191 y1.toNat → FTK a0 n g k y1 y2 y4 (y4 + 1)) ∧ (¬ wR a0 y1 y4 = a0 191 y1.toNat → FTK a0 n g k y1 y2 y3 (y4 + 1)) := by
  obtain ⟨h1, h2, hh3⟩ := h
  obtain ⟨R, e, mem, l, e4, e5, l1, l2, l3, l4, l5⟩ := RG2_at hF.2.2.2.1 hF.2.2.1 hF.2.1 hs h1 q1
  have t := two12 hF.2.1
  have sp := sub_pm (y := y1) y0 (by omega) e4 (by omega)
  have sb := sp.1 c
  have pp : 0 < PM R := PM_pos (fun z => by rw [z] at l2; exact absurd l2 (by decide))
  have xl := xor_lt sb pp hx
  have wr := wR_at y0 hx hF.2.1 e4 l1 l3 sb (hF.2.2.2.2 _ xl.2)
  have ok := okr_R (B := a0 191) sb
  rw [← wr] at ok
  have ft := find_take (h2 h3) l e
  constructor
  · intro z
    exact ⟨by omega, fun q => absurd q (by omega), fun _ => ⟨R, ft.2 (ok.2 z), e4, e5⟩⟩
  · intro z
    refine ⟨by omega, fun q => ?_, hh3⟩
    rw [show (y4 + 1 - a0 186 y2.toNat).toNat = (y4 - a0 186 y2.toNat).toNat + 1 by omega]
    refine ft.1 ?_
    cases b : okr 64 (a0 191) y1.toNat R
    · rfl
    · exact absurd (ok.1 b) z
theorem FTK_end {a0 : Nat → Nat → Int} {n : Nat} {g k : Nat → Nat → Bool} {y1 y2 y3 y4 : Int} (hF : FDH a0 n g k) (hs : y2.toNat < n) (h : FTK a0 n g k y1 y2 y3 y4) (q : ¬ y3 = -1 ∨ ¬ y4 < a0 186 (y2.toNat + 1)) : FTE a0 n g k y1 y2 y3 := by
  obtain ⟨h1, h2, hh3⟩ := h
  refine ⟨fun z => ?_, hh3⟩
  have r := (hF.2.2.2.1 _ hs).2.2
  have e := h2 z
  rw [List.take_of_length_le (by omega)] at e
  exact e
theorem FNI_no {a0 a a1 : Nat → Nat → Int} {n : Nat} {g k : Nat → Nat → Bool} {y1 y2 y3 : Int} (hF : FDH a0 n g k) (h : FNI a0 a n g k y1) (hl : LST y2.toNat y1.toNat) (y20 : 0 ≤ y2) (ht : FTE a0 n g k y1 y2 y3) (h3 : y3 = -1) (e1 : a1 146 64 = a 146 64) (e2 : ∀ j, a1 190 j = a 190 j) (e3 : ∀ j, a1 189 j = a 189 j) : FNI a0 a1 n g k (jxxor y1 (jxshl 1 y2)) := by
  obtain ⟨L, h1, h2, h3', h4, hL⟩ := h
  have t := two12 hF.2.1
  have sn := LST_lt hl h4
  have xl := xor_lt (bit_SUB hl.1) (pow_pos2 y2.toNat) h4
  have h12 := hF.2.1
  rw [xsh h3' (by omega) y20 (by omega)]
  refine ⟨L, FNR_fr h1 e1 e2 e3, ?_, by omega, by rw [Int.toNat_natCast]; exact xl.2, hL⟩
  rw [Int.toNat_natCast, ← (CFN_R hF.2.2.1 h12 h4 hl).1 (ht.1 h3)]
  exact h2
def FNQ (a0 a : Nat → Nat → Int) (n : Nat) (g k : Nat → Nat → Bool) (y1 y3 y4 y5 : Int) : Prop := ∃ L R, FNRp a (a0 183) L R y5.toNat ∧ L ++ R :: CFN n g k 64 (a0 191) n (y1.toNat ^^^ PM R) = CFN n g k 64 (a0 191) n (2 ^ n - 1) ∧ a0 184 y3.toNat = ((PM R : Nat) : Int) ∧ a0 185 y3.toNat = NBL R ∧ R.length ≤ 5 ∧ (∀ x, x ∈ R → x < n) ∧ SUB (PM R) y1.toNat ∧ 0 ≤ y1 ∧ y1.toNat < 2 ^ n ∧ y4 = (R.length : Int) ∧ ∀ r, r ∈ L → r.length ≤ 5
theorem FNQ_of {a0 a : Nat → Nat → Int} {n : Nat} {g k : Nat → Nat → Bool} {y1 y2 y3 r : Int} (hF : FDH a0 n g k) (h : FNI a0 a n g k y1) (hl : LST y2.toNat y1.toNat) (ht : FTE a0 n g k y1 y2 y3) (h3 : ¬ y3 = -1) (hr : r = pc (a0 184 y3.toNat)) : FNQ a0 (jxu a 190 (a 146 64).toNat r) n g k y1 y3 r 0 := by
  obtain ⟨L, h1, h2, h3', h4, hL⟩ := h
  obtain ⟨R, f, e4, e5⟩ := ht.2 h3
  have t := two12 hF.2.1
  have sn := LST_lt hl h4
  have mem := List.mem_of_find?_eq_some f
  obtain ⟨l1, l2, l3, l4, l5⟩ := ring_len hF.2.2.1 hF.2.1 sn mem
  have ok := List.find?_some f
  have sb : SUB (PM R) y1.toNat := by
    unfold okr at ok
    rw [Bool.and_eq_true, decide_eq_true_eq, decide_eq_true_eq] at ok
    exact SUB_and.2 ok.1
  have sl := SUB_le sb
  have er : r = (R.length : Int) := by rw [hr]; exact sz_pm e4 (by omega) l1
  have eN : (a 146 64).toNat = L.length := by have := h1.1; omega
  refine ⟨L, R, ⟨(jxu_nk (by decide)).trans h1.1, fun m hm => ⟨(jxu_nj (by omega)).trans (h1.2 m hm).1, fun i hi => (jxu_nk (by decide)).trans ((h1.2 m hm).2 i hi)⟩, ?_, fun i hi => absurd hi (Nat.not_lt_zero i)⟩, ?_, e4, e5, l3, l5.2.1, sb, h3', h4, er, hL⟩
  · rw [eN, jxu_at, er]
  · rw [← (CFN_R hF.2.2.1 hF.2.1 h4 hl).2 R f]
    exact h2
theorem FNQ_put {a0 a : Nat → Nat → Int} {n : Nat} {g k : Nat → Nat → Bool} {y1 y3 y4 y5 : Int} (hF : FDH a0 n g k) (h : FNQ a0 a n g k y1 y3 y4 y5) (y50 : 0 ≤ y5) (hy : y5 < y4) (i64 : 0 ≤ a 146 64 ∧ a 146 64 ≤ 5) (e183 : ∀ j, a 183 j = a0 183 j) (e185 : a 185 y3.toNat = a0 185 y3.toNat) : FNQ a0 (jxu a 189 ((jxw ((jxw (5 * (a 146 64))) + y5)).toNat) (a 183 ((jxand (jxshr (a 185 (y3.toNat)) (jxw (4 * y5))) 15).toNat))) n g k y1 y3 y4 (y5 + 1) := by
  obtain ⟨L, R, ⟨p1, p2, p3, p4⟩, h2, h3, h4, h5, h6, h7, h8, h9, h10, h11⟩ := h
  have h12 := hF.2.1
  have ei : (jxw ((jxw (5 * (a 146 64))) + y5)).toNat = 5 * L.length + y5.toNat := by
    rw [jxw_id (x := 5 * a 146 64) (by omega) (by omega), jxw_id (by omega) (by omega)]
    omega
  have ev : a 183 ((jxand (jxshr (a 185 (y3.toNat)) (jxw (4 * y5))) 15).toNat) = a0 183 (R.getD y5.toNat 0) := by
    have d := NBL_dig h5 (fun x hx => by have := h6 x hx; omega) (i := y5.toNat) (by omega)
    rw [Int.toNat_of_nonneg y50] at d
    rw [jxw_id (x := 4 * y5) (by omega) (by omega), e183, e185, h4, d, Int.toNat_natCast]
  rw [ei, ev]
  refine ⟨L, R, ⟨(jxu_nk (by decide)).trans p1, fun m hm => ⟨(jxu_nk (by decide)).trans (p2 m hm).1, fun i hi => ?_⟩, (jxu_nk (by decide)).trans p3, fun i hi => ?_⟩, h2, h3, h4, h5, h6, h7, h8, h9, h10, h11⟩
  · have mem : L.getD m [] ∈ L := by
      rw [List.getD_eq_getElem?_getD, List.getElem?_eq_getElem hm]
      exact List.getElem_mem hm
    have l5 := h11 _ mem
    exact (jxu_nj (by omega)).trans ((p2 m hm).2 i hi)
  · by_cases c : i = y5.toNat
    · rw [c, jxu_at]
    · exact (jxu_nj (by omega)).trans (p4 i (by omega))
theorem FNI_yes {a0 a : Nat → Nat → Int} {n : Nat} {g k : Nat → Nat → Bool} {y1 y3 y4 y5 : Int} (hF : FDH a0 n g k) (h : FNQ a0 a n g k y1 y3 y4 y5) (hy : ¬ y5 < y4) (i64 : 0 ≤ a 146 64 ∧ a 146 64 ≤ 5) (e184 : a 184 y3.toNat = a0 184 y3.toNat) : FNI a0 (jxu a 146 64 (jxw ((a 146 64) + 1))) n g k (jxxor y1 (a 184 (y3.toNat))) := by
  obtain ⟨L, R, p, h2, h3, h4, h5, h6, h7, h8, h9, h10, h11⟩ := h
  have t := two12 hF.2.1
  have sl := SUB_le h7
  have xs := SUB_le (xor_SUB h7)
  rw [e184, xpm h8 (by omega) h3 (by omega)]
  refine ⟨L ++ [R], FNRp_done p (by omega) (by rw [jxu_at, jxw_id (by omega) (by omega)]) (fun j => jxu_nk (by decide)) (fun j => jxu_nk (by decide)), ?_, by omega, by rw [Int.toNat_natCast]; omega, fun r hr => ?_⟩
  · rw [Int.toNat_natCast, List.append_assoc]
    exact h2
  · rcases List.mem_append.1 hr with z | z
    · exact h11 r z
    · rw [List.mem_singleton.1 z]; exact h5
theorem FNI_end {a0 a : Nat → Nat → Int} {n : Nat} {g k : Nat → Nat → Bool} {y1 : Int} (h : FNI a0 a n g k y1) (h1 : y1 = 0) : FNR a (a0 183) (CFN n g k 64 (a0 191) n (2 ^ n - 1)) := by
  obtain ⟨L, p1, p2, _⟩ := h
  rw [h1, show (0 : Int).toNat = 0 from rfl, CFN_z, List.append_nil] at p2
  rw [← p2]; exact p1
theorem FNI_0 {a0 : Nat → Nat → Int} {n : Nat} {g k : Nat → Nat → Bool} (hF : FDH a0 n g k) : FNI a0 (jxu a0 146 64 0) n g k (jxw ((jxshl 1 (a0 146 56)) - 1)) := by
  have t := two12 hF.2.1
  have p := pow_pos2 n
  have e := shl1_12 n hF.2.1
  rw [← hF.1] at e
  rw [e, jxw_id (by omega) (by omega)]
  refine ⟨[], FNR_0 (jxu_at _ _ _ _), ?_, by omega, by omega, fun r hr => absurd hr List.not_mem_nil⟩
  rw [List.nil_append, show (((2 ^ n : Nat) : Int) - 1).toNat = 2 ^ n - 1 by omega]
