/-! matching, in the program's own words -/
def jbf (ks : List Nat) (b b1 : Nat → Nat → Int) : Prop := ∀ k j, ks.contains k = false → b1 k j = b k j
theorem jbf_rf (ks : List Nat) (b : Nat → Nat → Int) : jbf ks b b := fun _ _ _ => rfl
theorem jbf_put {ks : List Nat} {b b1 : Nat → Nat → Int} (h : jbf ks b b1) {k j : Nat} {v : Int} (e : ks.contains k = true) : jbf ks b (jxu b1 k j v) := fun k2 j2 q => by
  have hk : ¬ k2 = k := fun z => by rw [z, e] at q; cases q
  show (if k2 = k then (if j2 = j then v else b1 k2 j2) else b1 k2 j2) = _
  rw [if_neg hk]; exact h k2 j2 q
theorem jbf_tr {ks ks2 : List Nat} {b b1 b2 : Nat → Nat → Int} (h : jbf ks b b1) (h2 : jbf ks2 b1 b2) (e : ks2.all (fun k => ks.contains k) = true) : jbf ks b b2 := fun k j q => by
  have q2 : ks2.contains k = false := by
    cases c : ks2.contains k
    · rfl
    · rw [List.contains_iff_mem] at c
      have := List.all_eq_true.1 e k c
      rw [this] at q
      cases q
  rw [h2 k j q2, h k j q]
theorem jxu_at (b : Nat → Nat → Int) (k j : Nat) (v : Int) : jxu b k j v k j = v := by
  show (if k = k then (if j = j then v else b k j) else b k j) = v
  rw [if_pos rfl, if_pos rfl]
theorem jxu_nj {b : Nat → Nat → Int} {k j i : Nat} {v : Int} (h : ¬ i = j) : jxu b k j v k i = b k i := by
  show (if k = k then (if i = j then v else b k i) else b k i) = _
  rw [if_pos rfl, if_neg h]
theorem jxu_nk {b : Nat → Nat → Int} {k k2 j i : Nat} {v : Int} (h : ¬ k2 = k) : jxu b k j v k2 i = b k2 i := by
  show (if k2 = k then (if i = j then v else b k2 i) else b k2 i) = _
  rw [if_neg h]
def TPW (x1 x2 : Int) : Nat := (jxxor x1 (jxshl 1 x2)).toNat
def TPN (b : Nat → Nat → Int) (x1 x2 : Int) : Int := jxwl (b 80 (TPW x1 x2) + b 82 x2.toNat)
def TPO (b : Nat → Nat → Int) (x1 x2 x3 : Int) : Int := jxwl (b 81 (TPW x1 x2) - jxshll (jxw (40 - x3)) (jxw (6 * (jxw (7 - x2)))))
def TPR (b b1 : Nat → Nat → Int) (x1 x2 x3 : Int) : Prop := (b 80 (TPW x1 x2) = IMPO ∧ b1 = b) ∨ (¬ b 80 (TPW x1 x2) = IMPO ∧ (((TPN b x1 x2 < b 80 x1.toNat ∨ (TPN b x1 x2 = b 80 x1.toNat ∧ TPO b x1 x2 x3 < b 81 x1.toNat)) ∧ b1 = jxu (jxu b 80 x1.toNat (TPN b x1 x2)) 81 x1.toNat (TPO b x1 x2 x3)) ∨
  (¬ (TPN b x1 x2 < b 80 x1.toNat ∨ (TPN b x1 x2 = b 80 x1.toNat ∧ TPO b x1 x2 x3 < b 81 x1.toNat)) ∧ b1 = b)))
theorem TPR_fr {b b1 : Nat → Nat → Int} {x1 x2 x3 : Int} (h : TPR b b1 x1 x2 x3) : jbf [80, 81] b b1 ∧ ∀ s, ¬ s = x1.toNat → b1 80 s = b 80 s ∧ b1 81 s = b 81 s := by
  have same : b1 = b → jbf [80, 81] b b1 ∧ ∀ s, ¬ s = x1.toNat → b1 80 s = b 80 s ∧ b1 81 s = b 81 s := fun e => by
    rw [e]; exact ⟨jbf_rf _ _, fun _ _ => ⟨rfl, rfl⟩⟩
  rcases h with ⟨_, e⟩ | ⟨_, ⟨_, e⟩ | ⟨_, e⟩⟩
  · exact same e
  · rw [e]
    refine ⟨jbf_put (jbf_put (jbf_rf _ _) rfl) rfl, fun s hs => ⟨?_, ?_⟩⟩
    · rw [jxu_nk (by decide), jxu_nj hs]
    · rw [jxu_nj hs, jxu_nk (by decide)]
  · exact same e
theorem TPW_nat {s i : Nat} (hs : s < 256) (hi : i < 8) : TPW (s : Int) (i : Int) = s ^^^ 2 ^ i := by
  have p : 2 ^ i ≤ 128 := by
    have := Nat.pow_le_pow_right (n := 2) (by decide) (show i ≤ 7 by omega)
    exact this
  unfold TPW
  rw [jxshl1_n i (by omega), jxxor_nat s (2 ^ i) (by omega) (by omega), Int.toNat_natCast]
theorem shiftPW {x : Int} {i : Nat} (h0 : 0 ≤ x) (h1 : x ≤ 63) (hi : i < 8) : jxshll x (jxw (6 * (jxw (7 - (i : Int))))) = x * PW i := by
  have e : jxw (6 * (jxw (7 - (i : Int)))) = ((6 * (7 - i) : Nat) : Int) := by
    rw [jxw_id (x := 7 - (i : Int)) (by omega) (by omega), jxw_id (by omega) (by omega)]
    omega
  obtain ⟨n, rfl⟩ : ∃ n : Nat, x = (n : Int) := ⟨x.toNat, by omega⟩
  have p : 2 ^ (6 * (7 - i)) = 64 ^ (7 - i) := by rw [Nat.pow_mul]
  have q : 64 ^ (7 - i) ≤ 64 ^ 7 := Nat.pow_le_pow_right (by decide) (by omega)
  have q7 : (64 : Nat) ^ 7 = 4398046511104 := by decide
  have m : n * 64 ^ (7 - i) ≤ 63 * 4398046511104 := Nat.mul_le_mul (by omega) (by omega)
  rw [e, jxshll_nat n (6 * (7 - i)) (by omega) (by rw [p]; omega), p]
  unfold PW
  rw [Int.natCast_mul, Int.natCast_pow]
  rfl
/-- the pairs of one receiver -/
def PROW (A : Nat → Nat → Prop) (p : Nat → Nat → Int) (m r : Nat) (P : Nat → Int) : Prop := ∀ i, i < m → (A i r ∧ P i = p i r ∧ ¬ P i = IMPO) ∨ (¬ A i r ∧ P i = IMPO)
def PBD (A : Nat → Nat → Prop) (p : Nat → Nat → Int) (m : Nat) : Prop := ∀ i d, i < m → A i d → d < 40 ∧ -2199023255552 ≤ p i d ∧ p i d ≤ 2199023255552
theorem PBD_tot {A : Nat → Nat → Prop} {p : Nat → Nat → Int} {m : Nat} {ok : Nat → Nat → Prop} {r : Nat → Nat} (hm : m ≤ 8) (h : PBD A p m) (hr : VLD ok m r) (hk : ∀ i d, ok i d → A i d) : -17592186044416 ≤ TOT p m r ∧ TOT p m r ≤ 17592186044416 := by
  have a := TOT_bd (w := p) (m := m) (r := r) (l := -2199023255552) (u := 2199023255552) ⟨by decide, by decide⟩ (fun i hi c => (h i _ hi (hk _ _ ((hr.1 i hi).resolve_left c))).2)
  omega
theorem ORD_rg {m : Nat} {r : Nat → Nat} (hm : m ≤ 8) (h : ∀ i, i < m → r i ≤ 40) : 0 ≤ ORD m r ∧ ORD m r < 281474976710656 := by
  have e : ORD m r = ORD m (fun i => if i < m then r i else 40) := by
    unfold ORD
    exact SUMN_congr (fun k hk => by
      show _ = (((if k < m then r k else 40 : Nat)) : Int) * PW k
      rw [if_pos hk])
  have b := ORD_ge (q := fun i => if i < m then r i else 40) (j := 0) (m := m) (Nat.zero_le _)
  have z : SUMN (fun i => (((if i < m then r i else 40 : Nat)) : Int) * PW i) 0 = 0 := rfl
  have q : ∀ i, (if i < m then r i else 40) ≤ 63 := fun i => by
    by_cases c : i < m
    · rw [if_pos c]; have := h i c; omega
    · rw [if_neg c]; decide
  by_cases m0 : m = 0
  · rw [m0]
    exact ⟨Int.le_refl _, show (0 : Int) < 281474976710656 by decide⟩
  have a := ORD_le q (j := 0) (m := m) (by omega) hm
  have c : SUMN (fun i => (((if i < m then r i else 40 : Nat)) : Int) * PW i) (0 + 1) = 0 + (((if 0 < m then r 0 else 40 : Nat)) : Int) * PW 0 := rfl
  have p0 : PW 0 = 4398046511104 := by decide
  have pm := PW_pos (m - 1)
  have q0 := q 0
  rw [c, p0] at a
  rw [e]
  have b' : 0 ≤ SUMN (fun i => (((if i < m then r i else 40 : Nat)) : Int) * PW i) m := b
  show 0 ≤ SUMN (fun i => (((if i < m then r i else 40 : Nat)) : Int) * PW i) m ∧ SUMN (fun i => (((if i < m then r i else 40 : Nat)) : Int) * PW i) m < 281474976710656
  omega
theorem PW_le (i : Nat) : PW i ≤ 4398046511104 := by
  have q : 64 ^ (7 - i) ≤ 64 ^ 7 := Nat.pow_le_pow_right (by decide) (by omega)
  have q7 : (64 : Nat) ^ 7 = 4398046511104 := by decide
  have e : PW i = ((64 ^ (7 - i) : Nat) : Int) := by
    unfold PW
    rw [Int.natCast_pow]; rfl
  omega
def okI (A : Nat → Nat → Prop) (r i : Nat) : Nat → Nat → Prop := fun j d => (d < r ∧ A j d) ∨ (d = r ∧ j < i ∧ A j d)
theorem DP_pair {A : Nat → Nat → Prop} {p : Nat → Nat → Int} {m r i s : Nat} {b b1 : Nat → Nat → Int} (hm : m ≤ 8) (hi : i < m) (hs : s < 2 ^ m) (hb : s.testBit i = true) (hr : r < 40) (hA : A i r) (hP : b 82 i = p i r) (hbd : PBD A p m)
    (h : OPTC (okI A r i) p m s (b 80 s) (b 81 s)) (hw : OPTC (fun j d => d < r ∧ A j d) p m (s ^^^ 2 ^ i) (b 80 (s ^^^ 2 ^ i)) (b 81 (s ^^^ 2 ^ i))) (t : TPR b b1 (s : Int) (i : Int) (r : Int)) : OPTC (okI A r (i + 1)) p m s (b1 80 s) (b1 81 s) := by
  have s256 : s < 256 := Nat.lt_of_lt_of_le hs (Nat.pow_le_pow_right (n := 2) (by decide) hm)
  have eW := TPW_nat s256 (show i < 8 by omega)
  have tb : ∀ q, VLD (fun j d => d < r ∧ A j d) m q → -17592186044416 ≤ TOT p m q ∧ TOT p m q ≤ 17592186044416 := fun q hq => PBD_tot hm hbd hq (fun _ _ z => z.2)
  have q40 : ∀ q, VLD (fun j d => d < r ∧ A j d) m q → ∀ j, j < m → q j ≤ 40 := fun q hq j hj => by
    rcases hq.1 j hj with z | z
    · omega
    · omega
  have pb := (hbd i r hi hA).2
  have eN : ¬ b 80 (s ^^^ 2 ^ i) = IMPO → TPN b (s : Int) (i : Int) = b 80 (s ^^^ 2 ^ i) + p i r ∧ TPO b (s : Int) (i : Int) (r : Int) = b 81 (s ^^^ 2 ^ i) - (40 - (r : Int)) * PW i := fun ne => by
    rcases hw with ⟨w, _⟩ | ⟨_, ⟨q, v1, v2, v3, v4⟩, _⟩
    · exact absurd w ne
    · have t1 := tb q v1
      have t2 := ORD_rg hm (q40 q v1)
      have p1 : 0 ≤ (40 - (r : Int)) * PW i := Int.mul_nonneg (by omega) (Int.le_of_lt (PW_pos i))
      have pw := PW_le i
      have p2 : (40 - (r : Int)) * PW i ≤ 40 * 4398046511104 := Int.mul_le_mul (by omega) pw (Int.le_of_lt (PW_pos i)) (by decide)
      constructor
      · unfold TPN
        rw [eW, show ((i : Int)).toNat = i from Int.toNat_natCast i, hP, jxwl_id (by omega) (by omega)]
      · unfold TPO
        rw [eW, jxw_id (x := 40 - (r : Int)) (by omega) (by omega), shiftPW (by omega) (by omega) (by omega), jxwl_id (by omega) (by omega)]
  have es : ((s : Int)).toNat = s := Int.toNat_natCast s
  have res := OPTC_try (c2 := b1 80 s) (o2 := b1 81 s) hi hb hr h hw (fun j d q => ⟨Or.inl q, by omega⟩) (fun j d hj q hd => by
    rcases q with q | q
    · exact q
    · exact absurd q.1 hd) (fun q hq => by
      have := tb q hq
      have : IMPO = 4611686018427387904 := rfl
      omega) (by
    rcases t with ⟨t1, t2⟩ | ⟨t1, t2⟩
    · rw [eW] at t1
      left
      rw [t2]
      exact ⟨t1, rfl, rfl⟩
    · rw [eW] at t1
      right
      refine ⟨t1, ?_⟩
      obtain ⟨e1, e2⟩ := eN t1
      rw [e1, e2, es] at t2
      rcases t2 with ⟨c, t2⟩ | ⟨c, t2⟩
      · left
        refine ⟨c, ?_, ?_⟩
        · rw [t2, jxu_nk (by decide), jxu_at]
        · rw [t2, jxu_at]
      · right
        rw [t2]
        exact ⟨c, rfl, rfl⟩)
  refine OPTC_skip res (fun j d hj hbj => ?_)
  unfold okI
  constructor
  · rintro ((q | q) | q)
    · exact Or.inl q
    · exact Or.inr ⟨q.1, by omega, q.2.2⟩
    · rw [q.1, q.2]; exact Or.inr ⟨rfl, Nat.lt_succ_self i, hA⟩
  · rintro (q | q)
    · exact Or.inl (Or.inl q)
    · by_cases c : j = i
      · exact Or.inr ⟨c, q.1⟩
      · exact Or.inl (Or.inr ⟨q.1, by omega, q.2.2⟩)
/-- while a receiver is tried: the sets above are done, of this one the askers below i -/
def TRS (A : Nat → Nat → Prop) (p : Nat → Nat → Int) (m r : Nat) (C O : Nat → Int) (s i : Nat) : Prop := (∀ t, t < s → t < 2 ^ m → OPTC (fun j d => d < r ∧ A j d) p m t (C t) (O t)) ∧ (s < 2 ^ m → OPTC (okI A r i) p m s (C s) (O s)) ∧ ∀ t, s < t → t < 2 ^ m → OPTC (fun j d => d < r + 1 ∧ A j d) p m t (C t) (O t)
theorem TRS_start {A : Nat → Nat → Prop} {p : Nat → Nat → Int} {m r : Nat} {C O : Nat → Int} (h : DPC A p m r C O) : TRS A p m r C O (2 ^ m - 1) 0 := by
  refine ⟨fun t h1 h2 => h t h2, fun h1 => OPTC_skip (h _ h1) (fun j d _ _ => ?_), fun t h1 h2 => by omega⟩
  unfold okI
  exact ⟨fun q => Or.inl q, fun q => q.elim (fun z => z) (fun z => absurd z.2.1 (Nat.not_lt_zero j))⟩
theorem okI_m {A : Nat → Nat → Prop} {m r : Nat} : ∀ j d, j < m → (okI A r m j d ↔ (d < r + 1 ∧ A j d)) := fun j d hj => by
  unfold okI
  constructor
  · rintro (q | q)
    · exact ⟨by omega, q.2⟩
    · exact ⟨by omega, q.2.2⟩
  · intro q
    by_cases c : d = r
    · exact Or.inr ⟨c, hj, q.2⟩
    · exact Or.inl ⟨by omega, q.2⟩
theorem TRS_next {A : Nat → Nat → Prop} {p : Nat → Nat → Int} {m r : Nat} {C O : Nat → Int} {s : Nat} (hs : 0 < s) (h : TRS A p m r C O s m) : TRS A p m r C O (s - 1) 0 := by
  obtain ⟨h1, h2, h3⟩ := h
  refine ⟨fun t a b => h1 t (by omega) b, fun a => OPTC_skip (h1 _ (by omega) a) (fun j d _ _ => ?_), fun t a b => ?_⟩
  · unfold okI
    exact ⟨fun q => Or.inl q, fun q => q.elim (fun z => z) (fun z => absurd z.2.1 (Nat.not_lt_zero j))⟩
  · by_cases c : t = s
    · rw [c] at b ⊢
      exact OPTC_skip (h2 b) (fun j d hj _ => okI_m j d hj)
    · exact h3 t (by omega) b
theorem TRS_end {A : Nat → Nat → Prop} {p : Nat → Nat → Int} {m r : Nat} {C O : Nat → Int} (h : TRS A p m r C O 0 0) : DPC A p m (r + 1) C O := by
  obtain ⟨h1, h2, h3⟩ := h
  intro t ht
  by_cases c : t = 0
  · rw [c] at ht ⊢
    exact OPTC_skip (h2 ht) (fun j d _ hb => by rw [Nat.zero_testBit] at hb; cases hb)
  · exact h3 t (by omega) ht
theorem TRS_skip {A : Nat → Nat → Prop} {p : Nat → Nat → Int} {m r : Nat} {C O : Nat → Int} {s i : Nat} (h : TRS A p m r C O s i) (hi : ¬ s.testBit i = true ∨ ¬ A i r) : TRS A p m r C O s (i + 1) := by
  obtain ⟨h1, h2, h3⟩ := h
  refine ⟨h1, fun a => OPTC_skip (h2 a) (fun j d _ hb => ?_), h3⟩
  unfold okI
  constructor
  · rintro (q | q)
    · exact Or.inl q
    · exact Or.inr ⟨q.1, by omega, q.2.2⟩
  · rintro (q | q)
    · exact Or.inl q
    · by_cases c : j = i
      · rw [c] at hb q
        rcases hi with z | z
        · exact absurd hb z
        · rw [q.1] at q; exact absurd q.2.2 z
      · exact Or.inr ⟨q.1, by omega, q.2.2⟩
theorem TRS_pair {A : Nat → Nat → Prop} {p : Nat → Nat → Int} {m r : Nat} {s i : Nat} {b b1 : Nat → Nat → Int} (hm : m ≤ 8) (hi : i < m) (hs : s < 2 ^ m) (hb : s.testBit i = true) (hr : r < 40) (hA : A i r) (hP : b 82 i = p i r) (hbd : PBD A p m) (h : TRS A p m r (b 80) (b 81) s i) (t : TPR b b1 (s : Int) (i : Int) (r : Int)) : TRS A p m r (b1 80) (b1 81) s (i + 1) := by
  obtain ⟨h1, h2, h3⟩ := h
  have fr := (TPR_fr t).2
  rw [Int.toNat_natCast] at fr
  have ws := (xor_lt (bit_SUB hb) (pow_pos2 i) hs).1
  refine ⟨fun u a c => ?_, fun _ => DP_pair hm hi hs hb hr hA hP hbd (h2 hs) (h1 _ ws (by omega)) t, fun u a c => ?_⟩
  · rw [(fr u (by omega)).1, (fr u (by omega)).2]; exact h1 u a c
  · rw [(fr u (by omega)).1, (fr u (by omega)).2]; exact h3 u a c
/-- before the first receiver -/
theorem DPC_0 {A : Nat → Nat → Prop} {p : Nat → Nat → Int} {m : Nat} {C O : Nat → Int} (h0 : C 0 = 0) (hO : O 0 = SUMN (fun i => 40 * PW i) m) (hC : ∀ s, 0 < s → s < 2 ^ m → C s = IMPO) : DPC A p m 0 C O := by
  intro s hs
  by_cases c : s = 0
  · rw [c]
    have z : ∀ r, (∀ i, i < m → r i = 40) → TOT p m r = 0 ∧ ORD m r = SUMN (fun i => 40 * PW i) m := fun r hr => by
      constructor
      · unfold TOT
        rw [SUMN_congr (g := fun _ => 0) (fun k hk => if_pos (hr k hk)), SUMN0]
      · unfold ORD
        exact SUMN_congr (fun k hk => by rw [hr k hk]; rfl)
    have v0 := z (fun _ => 40) (fun _ _ => rfl)
    refine Or.inr ⟨by rw [h0]; decide, ⟨fun _ => 40, ⟨fun _ _ => Or.inl rfl, fun _ _ _ _ _ _ => rfl⟩, fun i hi => by rw [Nat.zero_testBit]; simp, by rw [h0, v0.1], by rw [hO, v0.2]⟩, fun r hr he => ?_⟩
    have r40 : ∀ i, i < m → r i = 40 := fun i hi => by
      rcases hr.1 i hi with q | q
      · exact q
      · exact absurd q.1 (Nat.not_lt_zero _)
    have v := z r r40
    rw [h0, hO, v.1, v.2]
    exact Or.inr ⟨rfl, Int.le_refl _⟩
  · refine Or.inl ⟨hC s (by omega) hs, fun r hr he => ?_⟩
    have z : s = 0 := Nat.eq_of_testBit_eq (fun i => by
      rw [Nat.zero_testBit]
      by_cases hi : i < m
      · cases q : s.testBit i
        · rfl
        · have := (he i hi).2 q
          rcases hr.1 i hi with w | w
          · exact absurd w this
          · exact absurd w.1 (Nat.not_lt_zero _)
      · exact Nat.testBit_lt_two_pow (Nat.lt_of_lt_of_le hs (Nat.pow_le_pow_right (by decide) (by omega))))
    exact c z
theorem jxand63 {x : Int} (h0 : 0 ≤ x) : jxand (jxw x) 63 = x % 64 := by
  rw [jxand_eq]
  have e : BitVec.ofInt 32 (jxw x) = BitVec.ofInt 32 x := by
    refine BitVec.eq_of_toInt_eq ?_
    rw [BitVec.toInt_ofInt, BitVec.toInt_ofInt]
    unfold jxw
    rw [show (4294967296 : Nat) = 2 ^ 32 from rfl, Int.bmod_bmod]
  have t : (BitVec.ofInt 32 x &&& BitVec.ofInt 32 63).toNat = x.toNat % 64 := by
    rw [BitVec.toNat_and, BitVec.toNat_ofInt, bv_of (by decide) (by decide)]
    have := Nat.and_two_pow_sub_one_eq_mod ((x % ((2 ^ 32 : Nat) : Int)).toNat) 6
    rw [show (63 : Int).toNat = 2 ^ 6 - 1 from rfl, this]
    have z : ((2 ^ 32 : Nat) : Int) = 4294967296 := by decide
    rw [z]
    omega
  rw [e, bv_nn (by omega), t]
  omega
/-- a receiver read off the order -/
theorem recv_dig {q : Nat → Nat} {m i : Nat} (hm : m ≤ 8) (hq : ∀ j, q j ≤ 40) (hi : i < m) : jxand (jxw (jxshrl (ORD m q) (jxw (6 * (jxw (7 - (i : Int))))))) 63 = (q i : Int) := by
  have e : jxw (6 * (jxw (7 - (i : Int)))) = ((6 * (7 - i) : Nat) : Int) := by
    rw [jxw_id (x := 7 - (i : Int)) (by omega) (by omega), jxw_id (by omega) (by omega)]
    omega
  have b := ORD_rg hm (r := q) (fun j _ => hq j)
  obtain ⟨n, hn⟩ : ∃ n : Nat, ORD m q = (n : Int) := ⟨(ORD m q).toNat, by omega⟩
  have d := ORD_dig hm (q := q) (fun j => by have := hq j; omega) hi
  have p : 2 ^ (6 * (7 - i)) = 64 ^ (7 - i) := by rw [Nat.pow_mul]
  have pw : PW i = ((64 ^ (7 - i) : Nat) : Int) := by
    unfold PW
    rw [Int.natCast_pow]; rfl
  rw [e, hn, jxshrl_nat n _ (by omega) (by omega), jxand63 (Int.natCast_nonneg _), ← d, hn, pw, p]
  rw [← Int.natCast_ediv]
theorem pow79 {x : Int} (h0 : 0 ≤ x) (h1 : x ≤ 8) : jxshl 1 x = 2 ^ x.toNat ∧ (2 : Int) ^ x.toNat = ((2 ^ x.toNat : Nat) : Int) ∧ 1 ≤ 2 ^ x.toNat ∧ 2 ^ x.toNat ≤ 256 := by
  have e := jxshl1_n x.toNat (by omega)
  rw [Int.toNat_of_nonneg h0] at e
  have p : 2 ^ x.toNat ≤ 256 := Nat.pow_le_pow_right (n := 2) (by decide) (show x.toNat ≤ 8 by omega)
  have q := pow_pos2 x.toNat
  have c : (2 : Int) ^ x.toNat = ((2 ^ x.toNat : Nat) : Int) := by rw [Int.natCast_pow]; rfl
  exact ⟨by rw [e, c], c, by omega, p⟩
