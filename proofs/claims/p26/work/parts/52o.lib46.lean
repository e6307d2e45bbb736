/-! all ask, the reference -/
def MYR (a : Nat → Nat → Int) (m : Int) : Int := vMay (a 152 m.toNat) (SUMN (ohF (cvR a) (a 146 0) m 0) (a 146 9).toNat) (SUMN (gvF (cvR a) (a 146 0) m) (a 146 9).toNat) (a 171 0) (a 171 1)
theorem MYR_fr {a a1 : Nat → Nat → Int} (h : SAM7 a a1) (m : Int) : MYR a1 m = MYR a m := by
  unfold MYR
  rw [h.1, h.2.1, h.2.2.1, h.2.2.2.2 152 (by decide), h.2.2.2.2 171 (by decide)]
theorem METR_b (a b b2 : Nat → Nat → Int) (x y : Int) : METR a b x y = METR a b2 x y := by
  have e : TRR a b x y = TRR a b2 x y := funext fun v => rfl
  unfold METR
  rw [e]
theorem UNR_b (a b b2 : Nat → Nat → Int) (x y : Int) : UNR a b x y = UNR a b2 x y := by
  unfold UNR
  rw [METR_b a b b2, METR_b a b b2]
theorem isKin_b (a b b2 : Nat → Nat → Int) (x y : Int) : f_X12_isKin a b x y = f_X12_isKin a b2 x y := rfl
theorem RCR_b (a b b2 : Nat → Nat → Int) (x y : Int) : ∀ n, RCR a b x y n = RCR a b2 x y n
  | 0 => rfl
  | n + 1 => by
    show (if a 155 n = y ∧ ¬ f_X12_isKin a b (a 154 n) x = 0 then 1 else RCR a b x y n) = (if a 155 n = y ∧ ¬ f_X12_isKin a b2 (a 154 n) x = 0 then 1 else RCR a b2 x y n)
    rw [RCR_b a b b2 x y n, isKin_b a b b2]
theorem MGR_b (a b b2 : Nat → Nat → Int) (x y : Int) : MGR a b x y = MGR a b2 x y := by
  unfold MGR
  rw [UNR_b a b b2, RCR_b a b b2, isKin_b a b b2]
def CANTV : Int := -4000000000000000000
def WRT (a b : Nat → Nat → Int) (x : Int) (d : Nat) : Int := if MGR a b x d = 0 then CANTV else jxwl ((jxwl (1000000000 - (jxwl (1000000 * UNR a b x d)))) + vOwR a d)
theorem UNR_rg (a b : Nat → Nat → Int) (x y : Int) : 0 ≤ UNR a b x y ∧ UNR a b x y ≤ 2 := by
  have k : ∀ p q : Int, 0 ≤ unh p q ∧ unh p q ≤ 2 := fun p q => by
    unfold unh
    split <;> split <;> decide
  exact k _ _
theorem vOwR_rg (a : Nat → Nat → Int) (m : Int) : -2147483648 ≤ vOwR a m ∧ vOwR a m < 2147483648 := by
  have h := jxw_rg (jxw (jxw (SUMN (gvF (cvR a) (a 146 0) m) (vN (cvR a)).toNat + a 153 m.toNat) - SUMN (gtF (cvR a) (a 146 0) m) (vN (cvR a)).toNat) - SUMN (cmF (cvR a) (a 146 0) m) (vN (cvR a)).toNat)
  unfold vOwR vOwed
  omega
def rA (a b : Nat → Nat → Int) (as : Nat → Int) (i d : Nat) : Prop := (d : Int) < a 146 2 ∧ d < 40 ∧ ¬ MGR a b (as i) d = 0
def rW (a b : Nat → Nat → Int) (as : Nat → Int) (i d : Nat) : Int := cw (fun i d => UNR a b (as i) d) (fun d => vOwR a d) i d
theorem WRT_cw {a b : Nat → Nat → Int} {as : Nat → Int} {i d : Nat} (h : ¬ MGR a b (as i) d = 0) : WRT a b (as i) d = rW a b as i d ∧ -2199023255552 ≤ rW a b as i d ∧ rW a b as i d ≤ 2199023255552 ∧ ¬ WRT a b (as i) d = CANTV := by
  have u := UNR_rg a b (as i) d
  have o := vOwR_rg a d
  have e : WRT a b (as i) d = rW a b as i d := by
    unfold WRT
    rw [if_neg h, jxwl_id (x := 1000000 * UNR a b (as i) d) (by omega) (by omega), jxwl_id (x := 1000000000 - 1000000 * UNR a b (as i) d) (by omega) (by omega), jxwl_id (by omega) (by omega)]
    rfl
  rw [e]
  refine ⟨rfl, ?_⟩
  show -2199023255552 ≤ 1000000000 - 1000000 * UNR a b (as i) d + vOwR a d ∧ 1000000000 - 1000000 * UNR a b (as i) d + vOwR a d ≤ 2199023255552 ∧ ¬ 1000000000 - 1000000 * UNR a b (as i) d + vOwR a d = -4000000000000000000
  omega
def WROW (a b : Nat → Nat → Int) (as : Nat → Int) (m nm : Nat) (B : Nat → Int) : Prop := ∀ i d, i < m → d < nm → B (40 * i + d) = WRT a b (as i) d
def HYB (B : Nat → Int) (m nm : Nat) (w : Nat → Nat → Int) : Prop := ∀ i d, i < m → d < nm → B (40 * i + d) = CANTV ∨ (B (40 * i + d) = w i d ∧ -2199023255552 ≤ w i d ∧ w i d ≤ 2199023255552)
theorem WROW_HYB {a b : Nat → Nat → Int} {as : Nat → Int} {m nm : Nat} {B : Nat → Int} (h : WROW a b as m nm B) : HYB B m nm (rW a b as) := fun i d hi hd => by
  rw [h i d hi hd]
  by_cases c : MGR a b (as i) d = 0
  · left; unfold WRT; rw [if_pos c]
  · have q := WRT_cw (as := as) (i := i) c
    exact Or.inr ⟨q.1, q.2.1, q.2.2.1⟩
theorem WROW_A {a b : Nat → Nat → Int} {as : Nat → Int} {m nm i d : Nat} {B : Nat → Int} (h : WROW a b as m nm B) (hn : a 146 2 = (nm : Int)) (h40 : nm ≤ 40) (hi : i < m) : rA a b as i d ↔ (d < nm ∧ ¬ B (40 * i + d) = CANTV) := by
  unfold rA
  rw [hn]
  constructor
  · intro q
    have d1 : d < nm := by omega
    rw [h i d hi d1]
    exact ⟨d1, (WRT_cw q.2.2).2.2.2⟩
  · intro q
    refine ⟨by omega, by omega, fun z => ?_⟩
    rw [h i d hi q.1] at q
    apply q.2
    unfold WRT
    rw [if_pos z]
/-- for a set of askers s, receivers from k on, t those taken -/
def okB (B : Nat → Int) (nm s : Nat) (t : Int) (k i d : Nat) : Prop := k ≤ d ∧ d < nm ∧ s.testBit i = true ∧ ¬ jxandl (jxshrl t (d : Int)) 1 = 1 ∧ ¬ B (40 * i + d) = CANTV
def okJ (B : Nat → Int) (nm s : Nat) (t : Int) (k j i d : Nat) : Prop := okB B nm s t (k + 1) i d ∨ (d = k ∧ d < nm ∧ i < j ∧ s.testBit i = true ∧ ¬ jxandl (jxshrl t (d : Int)) 1 = 1 ∧ ¬ B (40 * i + d) = CANTV)
def DPR (B : Nat → Int) (m nm : Nat) (t : Int) (w : Nat → Nat → Int) (k : Nat) (C : Nat → Int) (S : Nat) : Prop := ∀ s, s < S → MAXV (okB B nm s t k) w m (C (256 * k + s))
theorem okJ_0 {B : Nat → Int} {nm s k i d : Nat} {t : Int} : okJ B nm s t k 0 i d ↔ okB B nm s t (k + 1) i d := ⟨fun q => q.elim id (fun z => absurd z.2.2.1 (Nat.not_lt_zero _)), fun q => Or.inl q⟩
theorem okJ_m {B : Nat → Int} {nm s k m i d : Nat} {t : Int} (hi : i < m) : okJ B nm s t k m i d ↔ okB B nm s t k i d := by
  unfold okJ okB
  constructor
  · rintro (q | q)
    · exact ⟨by omega, q.2⟩
    · exact ⟨by omega, q.2.1, q.2.2.2.1, q.2.2.2.2⟩
  · intro q
    by_cases c : d = k
    · exact Or.inr ⟨c, q.2.1, hi, q.2.2.1, q.2.2.2⟩
    · exact Or.inl ⟨by omega, q.2⟩
theorem DPJ_0 {B : Nat → Int} {nm s k m : Nat} {t : Int} {w : Nat → Nat → Int} {v : Int} (h : MAXV (okB B nm s t (k + 1)) w m v) : MAXV (okJ B nm s t k 0) w m v := MAXV_same h (fun _ _ _ _ => okJ_0.symm)
theorem DPJ_m {B : Nat → Int} {nm s k m : Nat} {t : Int} {w : Nat → Nat → Int} {v : Int} (h : MAXV (okJ B nm s t k m) w m v) : MAXV (okB B nm s t k) w m v := MAXV_same h (fun _ _ hj _ => okJ_m hj)
theorem DPJ_skip {B : Nat → Int} {nm s k j m : Nat} {t : Int} {w : Nat → Nat → Int} {v : Int} (h : MAXV (okJ B nm s t k j) w m v) (n : ¬ s.testBit j = true ∨ jxandl (jxshrl t (k : Int)) 1 = 1 ∨ B (40 * j + k) = CANTV) : MAXV (okJ B nm s t k (j + 1)) w m v := MAXV_same h (fun i d _ _ => by
  unfold okJ
  constructor
  · rintro (q | q)
    · exact Or.inl q
    · exact Or.inr ⟨q.1, q.2.1, by omega, q.2.2.2⟩
  · rintro (q | ⟨q1, q2, q3, q4, q5, q6⟩)
    · exact Or.inl q
    · by_cases c : i = j
      · subst c; subst q1
        rcases n with z | z | z
        · exact absurd q4 z
        · exact absurd z q5
        · exact absurd z q6
      · exact Or.inr ⟨q1, q2, by omega, q4, q5, q6⟩)
theorem DPJ_try {B : Nat → Int} {nm s k j m : Nat} {t : Int} {w : Nat → Nat → Int} {v v1 : Int} (hj : j < m) (hk : k < nm) (h40 : nm ≤ 40) (hb : s.testBit j = true) (ht : ¬ jxandl (jxshrl t (k : Int)) 1 = 1) (hB : ¬ B (40 * j + k) = CANTV)
    (h : MAXV (okJ B nm s t k j) w m v) (hw : MAXV (okB B nm (s ^^^ 2 ^ j) t (k + 1)) w m v1) : MAXV (okJ B nm s t k (j + 1)) w m (if v < w j k + v1 then w j k + v1 else v) := by
  refine MAXV_same (MAXV_try hj (by omega) h hw (fun i d q => ?_) (fun i d hi q hdk hij => ?_)) (fun i d hi hd => ?_)
  · obtain ⟨q1, q2, q3, q4, q5⟩ := q
    rw [bit_x] at q3
    have ij : ¬ i = j := fun z => by
      rw [z, hb] at q3
      simp at q3
    have e : s.testBit i = true := by
      rw [decide_eq_false (fun z => ij z.symm)] at q3
      simpa using q3
    exact ⟨Or.inl ⟨q1, q2, e, q4, q5⟩, by omega, ij⟩
  · rcases q with q | q
    · refine ⟨q.1, q.2.1, ?_, q.2.2.2⟩
      rw [bit_x, decide_eq_false (fun z => hij z.symm), q.2.2.1]
      rfl
    · exact absurd q.1 hdk
  · unfold okJ
    constructor
    · rintro ((q | q) | q)
      · exact Or.inl q
      · exact Or.inr ⟨q.1, q.2.1, by omega, q.2.2.2⟩
      · obtain ⟨q1, q2⟩ := q
        subst q1; subst q2
        exact Or.inr ⟨rfl, hk, Nat.lt_succ_self _, hb, ht, hB⟩
    · rintro (q | ⟨q1, q2, q3, q4, q5, q6⟩)
      · exact Or.inl (Or.inl q)
      · by_cases c : i = j
        · exact Or.inr ⟨c, q1⟩
        · exact Or.inl (Or.inr ⟨q1, q2, by omega, q4, q5, q6⟩)
theorem okB_bd {B : Nat → Int} {nm s k m : Nat} {t : Int} {w : Nat → Nat → Int} {v : Int} (hm : m ≤ 8) (hy : HYB B m nm w) (h : MAXV (okB B nm s t k) w m v) : -17592186044416 ≤ v ∧ v ≤ 17592186044416 := by
  obtain ⟨⟨r, r1, r2⟩, _⟩ := h
  have a := TOT_bd (w := w) (m := m) (r := r) (l := -2199023255552) (u := 2199023255552) ⟨by decide, by decide⟩ (fun i hi c => by
    have q := (r1.1 i hi).resolve_left c
    rcases hy i (r i) hi q.2.1 with z | z
    · exact absurd z q.2.2.2.2
    · exact z.2)
  omega
theorem DPJ_step {B : Nat → Int} {nm s k j m : Nat} {t : Int} {w : Nat → Nat → Int} {v v1 y : Int} (hm : m ≤ 8) (hj : j < m) (hk : k < nm) (h40 : nm ≤ 40) (hb : s.testBit j = true) (ht : ¬ jxandl (jxshrl t (k : Int)) 1 = 1) (hB : ¬ B (40 * j + k) = CANTV) (hy : HYB B m nm w)
    (h : MAXV (okJ B nm s t k j) w m v) (hw : MAXV (okB B nm (s ^^^ 2 ^ j) t (k + 1)) w m v1) (e : y = jxwl (B (40 * j + k) + v1)) : (v < y → MAXV (okJ B nm s t k (j + 1)) w m y) ∧ (¬ v < y → MAXV (okJ B nm s t k (j + 1)) w m v) := by
  have r := DPJ_try hj hk h40 hb ht hB h hw
  have bd := okB_bd hm hy hw
  have q := (hy j k hj hk).resolve_left hB
  have ey : y = w j k + v1 := by
    rw [e, q.1, jxwl_id (by omega) (by omega)]
  rw [ey]
  constructor
  · intro c
    rw [if_pos c] at r
    exact r
  · intro c
    rw [if_neg c] at r
    exact r
theorem DPR_top (B : Nat → Int) (m nm S : Nat) (t : Int) (w : Nat → Nat → Int) (C : Nat → Int) (h : ∀ s, s < S → C (256 * nm + s) = 0) : DPR B m nm t w nm C S := fun s hs => by
  rw [h s hs]
  exact MAXV_none (fun j d _ _ q => by have := q.1; have := q.2.1; omega)
theorem two8 {m : Nat} (h : m ≤ 8) : 2 ^ m ≤ 256 := Nat.pow_le_pow_right (n := 2) (by decide) h
/-! the choice, asker after asker -/
def QR (f : Nat → Int) (i : Nat) : Nat := if f i = -1 then 40 else (f i).toNat
def LEFT (m k : Nat) (y : Int) : Prop := 0 ≤ y ∧ y.toNat < 2 ^ m ∧ ∀ i, i < m → (y.toNat.testBit i = true ↔ k ≤ i)
def TAK (q : Nat → Nat) (k : Nat) (y : Int) : Prop := 0 ≤ y ∧ y < 1099511627776 ∧ ∀ d : Nat, d < 40 → (jxandl (jxshrl y (d : Int)) 1 = 1 ↔ ∃ j, j < k ∧ q j = d)
theorem LEFT_0 {m : Nat} (h : m ≤ 8) : LEFT m 0 (jxw (jxshl 1 (m : Int) - 1)) := by
  have p := two8 h
  have p0 := pow_pos2 m
  have e : jxw (jxshl 1 (m : Int) - 1) = ((2 ^ m - 1 : Nat) : Int) := by
    rw [jxshl1_n m (by omega), jxw_id (by omega) (by omega)]
    omega
  rw [e]
  refine ⟨by omega, by rw [Int.toNat_natCast]; omega, fun i hi => ?_⟩
  rw [Int.toNat_natCast, Nat.testBit_two_pow_sub_one]
  simp [hi]
theorem XB {y k : Int} (h0 : 0 ≤ y) (h1 : y < 256) (k0 : 0 ≤ k) (k1 : k < 8) : jxxor y (jxshl 1 k) = ((y.toNat ^^^ 2 ^ k.toNat : Nat) : Int) ∧ y.toNat ^^^ 2 ^ k.toNat < 256 := by
  have l : y.toNat ^^^ 2 ^ k.toNat < 2 ^ 8 := Nat.xor_lt_two_pow (by omega) (Nat.pow_lt_pow_right (a := 2) (by decide) (show k.toNat < 8 by omega))
  have p : 2 ^ k.toNat ≤ 128 := Nat.pow_le_pow_right (n := 2) (by decide) (show k.toNat ≤ 7 by omega)
  have x : jxxor y (jxshl 1 k) = ((y.toNat ^^^ 2 ^ k.toNat : Nat) : Int) := by
    have e := jxshl1_n k.toNat (by omega)
    rw [Int.toNat_of_nonneg k0] at e
    rw [e]
    have := jxxor_nat y.toNat (2 ^ k.toNat) (by omega) (by omega)
    rw [Int.toNat_of_nonneg h0] at this
    exact this
  exact ⟨x, l⟩
theorem LEFT_s {m k : Nat} {y : Int} (hm : m ≤ 8) (hk : k < m) (h : LEFT m k y) : LEFT m (k + 1) (jxxor y (jxshl 1 (k : Int))) := by
  obtain ⟨h0, h1, h2⟩ := h
  have t8 := two8 hm
  have x := (XB (y := y) (k := (k : Int)) h0 (by omega) (by omega) (by omega)).1
  rw [Int.toNat_natCast] at x
  have hb := (h2 k hk).2 (Nat.le_refl k)
  rw [x]
  refine ⟨by omega, ?_, fun i hi => ?_⟩
  · rw [Int.toNat_natCast]
    exact (xor_lt (bit_SUB hb) (pow_pos2 k) h1).2
  · rw [Int.toNat_natCast, bit_x]
    by_cases c : k = i
    · rw [decide_eq_true c, (h2 i hi).2 (by omega)]
      simp
      omega
    · rw [decide_eq_false c]
      simp only [Bool.xor_false]
      rw [h2 i hi]
      omega
theorem TAK_0 (q : Nat → Nat) : TAK q 0 0 := ⟨by decide, by decide, fun d hd => by
  rw [bitl_0 d (by omega)]
  exact ⟨fun z => absurd z (by decide), fun ⟨j, hj, _⟩ => absurd hj (Nat.not_lt_zero j)⟩⟩
theorem TAK_congr {q q2 : Nat → Nat} {k : Nat} {y : Int} (h : TAK q k y) (e : ∀ j, j < k → q j = q2 j) : TAK q2 k y := ⟨h.1, h.2.1, fun d hd => by
  rw [h.2.2 d hd]
  exact ⟨fun ⟨j, a, b⟩ => ⟨j, a, by rw [← e j a]; exact b⟩, fun ⟨j, a, b⟩ => ⟨j, a, by rw [e j a]; exact b⟩⟩⟩
theorem TAK_yes {q : Nat → Nat} {k b : Nat} {y : Int} (h : TAK q k y) (hb : b < 40) : TAK (nset q k b) (k + 1) (jxorl y (jxshll 1 (b : Int))) := by
  obtain ⟨h0, h1, h2⟩ := h
  obtain ⟨o1, o2, o3⟩ := orl_bit h0 h1 hb
  refine ⟨o1, o2, fun d hd => ?_⟩
  rw [o3 d hd, h2 d hd]
  constructor
  · rintro (⟨j, a, c⟩ | c)
    · exact ⟨j, by omega, by rw [nset_ne (by omega)]; exact c⟩
    · exact ⟨k, Nat.lt_succ_self k, by rw [nset_at]; exact c.symm⟩
  · rintro ⟨j, a, c⟩
    by_cases e : j = k
    · rw [e, nset_at] at c; exact Or.inr c.symm
    · rw [nset_ne e] at c; exact Or.inl ⟨j, by omega, c⟩
theorem TAK_no {q : Nat → Nat} {k : Nat} {y : Int} (h : TAK q k y) : TAK (nset q k 40) (k + 1) y := ⟨h.1, h.2.1, fun d hd => by
  rw [h.2.2 d hd]
  constructor
  · rintro ⟨j, a, c⟩
    exact ⟨j, by omega, by rw [nset_ne (by omega)]; exact c⟩
  · rintro ⟨j, a, c⟩
    by_cases e : j = k
    · rw [e, nset_at] at c; omega
    · rw [nset_ne e] at c; exact ⟨j, by omega, c⟩⟩
theorem GOK_congr {A : Nat → Nat → Prop} {q q2 : Nat → Nat} {k : Nat} (e : ∀ j, j < k → q j = q2 j) : GOK A q k = GOK A q2 k := funext fun i => funext fun b => propext ⟨fun z => ⟨z.1, z.2.1, fun j hj => by rw [← e j hj]; exact z.2.2 j hj⟩, fun z => ⟨z.1, z.2.1, fun j hj => by rw [e j hj]; exact z.2.2 j hj⟩⟩
theorem GRD_congr {A : Nat → Nat → Prop} {w : Nat → Nat → Int} {m : Nat} {q q2 : Nat → Nat} {k : Nat} {due : Int} (h : GRD A w m q k due) (e : ∀ j, j < k → q j = q2 j) : GRD A w m q2 k due := by
  obtain ⟨h1, h2, h3, h4, h5⟩ := h
  refine ⟨fun i hi => by rw [← e i hi]; exact h1 i hi, fun i j hi hj => by rw [← e i hi, ← e j hj]; exact h2 i j hi hj, by rw [← GOK_congr e]; exact h3, fun tot ht => ?_, fun r hr hm => ?_⟩
  · rw [h4 tot ht]
    congr 1
    exact SUMN_congr (fun i hi => by rw [e i hi])
  · rcases h5 r hr hm with z | ⟨j, z1, z2, z3⟩
    · exact Or.inl (fun j hj => (z j hj).trans (e j hj))
    · exact Or.inr ⟨j, z1, fun i hi => (z2 i hi).trans (e i (by omega)), by rw [← e j z1]; exact z3⟩
/-- what best says, of the rest -/
theorem best_GOK {A : Nat → Nat → Prop} {B : Nat → Int} {w : Nat → Nat → Int} {m nm k : Nat} {q : Nat → Nat} {y t v : Int} (hA : ∀ i d, i < m → (A i d ↔ (d < nm ∧ ¬ B (40 * i + d) = CANTV))) (h40 : nm ≤ 40) (hl : LEFT m k y) (ht : TAK q k t) (h : MAXV (okB B nm y.toNat t 0) w m v) : MAXV (GOK A q k) w m v := MAXV_same h (fun i d hi _ => by
  unfold okB GOK
  rw [hl.2.2 i hi, hA i d hi]
  constructor
  · rintro ⟨_, q2, q3, q4, q5⟩
    refine ⟨q3, ⟨q2, q5⟩, fun j hj e => q4 ((ht.2.2 d (by omega)).2 ⟨j, hj, e⟩)⟩
  · rintro ⟨q1, ⟨q2, q3⟩, q4⟩
    refine ⟨Nat.zero_le _, q2, q1, fun z => ?_, q3⟩
    obtain ⟨j, hj, e⟩ := (ht.2.2 d (by omega)).1 z
    exact q4 j hj e)
theorem best_A {A : Nat → Nat → Prop} {B : Nat → Int} {w : Nat → Nat → Int} {m nm : Nat} {y v : Int} (hA : ∀ i d, i < m → (A i d ↔ (d < nm ∧ ¬ B (40 * i + d) = CANTV))) (h40 : nm ≤ 40) (hl : LEFT m 0 y) (h : MAXV (okB B nm y.toNat 0 0) w m v) : MAXV A w m v := MAXV_same (best_GOK hA h40 hl (TAK_0 (fun _ => 40)) h) (fun i d hi _ => by
  unfold GOK
  exact ⟨fun q => q.2.1, fun q => ⟨Nat.zero_le _, q, fun j hj => absurd hj (Nat.not_lt_zero j)⟩⟩)
def GLA (A : Nat → Nat → Prop) (w : Nat → Nat → Int) (m : Nat) (f : Nat → Int) (k : Nat) (y2 y4 : Int) (n : Nat) : Prop := f k = -1 ∧ GRD A w m (QR f) k y4 ∧ TAK (QR f) k y2 ∧ ∀ d, d < n → ¬ CAND A w m (QR f) k y4 d
def GLB (A : Nat → Nat → Prop) (w : Nat → Nat → Int) (m : Nat) (f : Nat → Int) (k : Nat) (y2 y4 : Int) : Prop := ¬ f k = -1 ∧ GRD A w m (QR f) (k + 1) y4 ∧ TAK (QR f) (k + 1) y2
def GLP (A : Nat → Nat → Prop) (w : Nat → Nat → Int) (m : Nat) (f : Nat → Int) (k : Nat) (y2 y4 : Int) (n : Nat) : Prop := GLA A w m f k y2 y4 n ∨ GLB A w m f k y2 y4
theorem GLA_s {A : Nat → Nat → Prop} {w : Nat → Nat → Int} {m : Nat} {f : Nat → Int} {k n : Nat} {y2 y4 : Int} (h : GLA A w m f k y2 y4 n) (c : ¬ CAND A w m (QR f) k y4 n) : GLP A w m f k y2 y4 (n + 1) := Or.inl ⟨h.1, h.2.1, h.2.2.1, fun d hd => by
  by_cases e : d = n
  · rw [e]; exact c
  · exact h.2.2.2 d (by omega)⟩
theorem QR_set {f : Nat → Int} {k : Nat} {v : Int} (h : 0 ≤ v) : QR (rup f k v) = nset (QR f) k v.toNat := funext fun i => by
  unfold QR
  by_cases c : i = k
  · rw [c, rup_at, nset_at, if_neg (by omega)]
  · rw [rup_ne c, nset_ne c]
/-- all askers have been -/
theorem GLP_end {A : Nat → Nat → Prop} {w : Nat → Nat → Int} {m nm : Nat} {f : Nat → Int} {k n : Nat} {y2 y4 : Int} (h : GLP A w m f k y2 y4 n) (hk : k < m) (hA : ∀ i d, A i d → d < 40) (hn : (∀ d, A k d → d < n) ∨ ¬ f k = -1) : GRD A w m (QR f) (k + 1) y4 ∧ TAK (QR f) (k + 1) y2 := by
  rcases h with ⟨h1, h2, h3, h4⟩ | ⟨_, h2, h3⟩
  · have hl : ∀ d, ¬ CAND A w m (QR f) k y4 d := fun d c => by
      rcases hn with z | z
      · exact h4 d (z d c.1) c
      · exact z h1
    have e : ∀ j, j < k + 1 → nset (QR f) k 40 j = QR f j := fun j hj => by
      by_cases c : j = k
      · rw [c, nset_at]
        show 40 = (if f k = -1 then 40 else _)
        rw [if_pos h1]
      · rw [nset_ne c]
    exact ⟨GRD_congr (GRD_no h2 hk hA hl) e, TAK_congr (TAK_no h3) e⟩
  · exact ⟨h2, h3⟩
/-! bounds, the reference -/
def pVr (v : CV) (ld : Int → Int) (x y : Int) (k : Nat) : Int := if vLt v (vTc v k).toNat = (k : Int) ∧ ¬ vTd v k = -1 ∧ vOf v (vTc v k).toNat = -1 ∧ ld (vFr v (vTc v k).toNat) = x ∧ ld (vTo v (vTc v k).toNat) = y then 1 else 0
def SPVr (v : CV) (ld : Int → Int) (x y : Int) : Int × Int × Int := SPN (pVr v ld x y) (dV v) 1 (vT v).toNat (0, 1000000, 0)
def BNVr (ld : Int → Int) (z : Int) (v : CV) (f t : Int) : Int := if (SPVr v ld (ld f) (ld t)).1 = 0 then z else if z < jxw ((jxw (2 * (SPVr v ld (ld f) (ld t)).2.2)) + 7) then z else jxw ((jxw (2 * (SPVr v ld (ld f) (ld t)).2.2)) + 7)
def ldR (a : Nat → Nat → Int) (x : Int) : Int := a 148 x.toNat
theorem pR_pVr (a : Nat → Nat → Int) (x y : Int) : pR a x y = pVr (cvR a) (ldR a) x y := funext fun k => by
  have h1 := pR_iff (a := a) (x := x) (y := y) (k := k)
  show _ = (if a 160 (a 161 k).toNat = (k : Int) ∧ ¬ a 162 k = -1 ∧ a 159 (a 161 k).toNat = -1 ∧ a 148 (a 154 (a 161 k).toNat).toNat = x ∧ a 148 (a 155 (a 161 k).toNat).toNat = y then (1 : Int) else 0)
  by_cases c : a 160 (a 161 k).toNat = (k : Int) ∧ ¬ a 162 k = -1 ∧ a 159 (a 161 k).toNat = -1 ∧ a 148 (a 154 (a 161 k).toNat).toNat = x ∧ a 148 (a 155 (a 161 k).toNat).toNat = y
  · rw [if_pos c]; exact h1.2 c
  · rw [if_neg c]
    have z01 : pR a x y k = 0 ∨ pR a x y k = 1 := by
      unfold pR
      repeat (first | exact Or.inl rfl | exact Or.inr rfl | split)
    exact z01.resolve_right (fun z => c (h1.1 z))
theorem BNR_BNVr (a : Nat → Nat → Int) (f t : Int) : BNR a (a 148 f.toNat) (a 148 t.toNat) = BNVr (ldR a) (a 171 3) (cvR a) f t := by
  unfold BNR BNVr SPR SPVr
  rw [pR_pVr]
  rfl
theorem ldR_fr {a a1 : Nat → Nat → Int} (h : a1 148 = a 148) : ldR a1 = ldR a := funext fun x => by unfold ldR; rw [h]
def GSR (a0 b0 : Nat → Nat → Int) (as : Nat → Int) (q : Nat → Nat) (y6 : Int) (n : Nat) (v : CV) : Prop := y6 = gCnt q n ∧ v = gSend as q (a0 146 0) (BNVr (ldR a0) (a0 171 3)) n (cvR a0)
/-- a giving, the reference -/
def GIVR (a0 b0 a : Nat → Nat → Int) (r : Int) : Prop := ∃ (m : Nat) (as : Nat → Int) (q : Nat → Nat) (tot due : Int), m ≤ 8 ∧ GATH (fun i => MYR a0 (a0 173 i)) (a0 173) (a0 146 42).toNat m as ∧ MAXV (rA a0 b0 as) (rW a0 b0 as) m tot ∧ GRD (rA a0 b0 as) (rW a0 b0 as) m q m due ∧ (∀ i, q i ≤ 40) ∧ r = gCnt q m ∧ cvR a = gSend as q (a0 146 0) (BNVr (ldR a0) (a0 171 3)) m (cvR a0)
theorem GSR_no {a0 b0 : Nat → Nat → Int} {as : Nat → Int} {f : Nat → Int} {y6 : Int} {n : Nat} {v : CV} (h : GSR a0 b0 as (QR f) y6 n v) (c : f n = -1) : GSR a0 b0 as (QR f) y6 (n + 1) v := by
  have e : QR f n = 40 := if_pos c
  exact ⟨h.1.trans (if_pos e).symm, h.2.trans (if_pos e).symm⟩
theorem GSR_yes {a0 b0 : Nat → Nat → Int} {as : Nat → Int} {f : Nat → Int} {y6 : Int} {n : Nat} {v v2 : CV} (h : GSR a0 b0 as (QR f) y6 n v) (c : ¬ f n = -1) (h0 : 0 ≤ f n) (h1 : f n < 40) (hv : v2 = vAdd v (as n) (f n) (a0 146 0) (BNVr (ldR a0) (a0 171 3) v (as n) (f n)) (-1)) : GSR a0 b0 as (QR f) (y6 + 1) (n + 1) v2 := by
  have e : QR f n = (f n).toNat := if_neg c
  have e4 : ¬ QR f n = 40 := by omega
  have ez : ((QR f n : Nat) : Int) = f n := by omega
  refine ⟨?_, ?_⟩
  · rw [h.1]; exact (if_neg e4).symm
  · rw [hv, h.2, ← ez]
    exact (if_neg e4).symm
theorem QR_le {f : Nat → Int} (h : ∀ j, f j ≤ 39) (i : Nat) : QR f i ≤ 40 := by
  have := h i
  unfold QR
  split <;> omega
theorem QR_ne {f : Nat → Int} {k j : Nat} {v : Int} (h : ¬ j = k) : QR (rup f k v) j = QR f j := by
  unfold QR
  rw [rup_ne h]
theorem MAXV_bdG {B : Nat → Int} {nm s k m : Nat} {t : Int} {w : Nat → Nat → Int} {v : Int} (hm : m ≤ 8) (hy : HYB B m nm w) (h : MAXV (okB B nm s t k) w m v) : -17592186044416 ≤ v ∧ v ≤ 17592186044416 := okB_bd hm hy h
