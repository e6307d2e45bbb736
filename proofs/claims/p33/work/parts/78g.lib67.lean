/-! rings found, alike -/
theorem lstD_mem {P : List Nat} (h : ¬ P = []) : P.getLastD 0 ∈ P := by
  cases P with
  | nil => exact absurd rfl h
  | cons y r => exact List.getLast_mem (l := y :: r) (by simp)
theorem hdD_mem {P : List Nat} (h : ¬ P = []) : P.headD 0 ∈ P := by
  cases P with
  | nil => exact absurd rfl h
  | cons y r => exact List.mem_cons_self
theorem RGL_pw {n : Nat} {g k : Nat → Nat → Bool} {r : List Nat} : ∀ {d : Nat} {path : List Nat}, path.Pairwise (fun p q => k p q = false) → r ∈ RGL n g k d path → r.Pairwise (fun p q => k p q = false)
  | 0, path, hp, h => by
    obtain ⟨e, _⟩ := rone_mem h
    rw [e]; exact hp
  | d + 1, path, hp, h => by
    have h' : r ∈ rone g path ++ rfrom n g k path (RGL n g k d) n := h
    rw [List.mem_append] at h'
    rcases h' with q | q
    · obtain ⟨e, _⟩ := rone_mem q
      rw [e]; exact hp
    · obtain ⟨x, x1, x2, x3⟩ := rfrom_mem q
      refine RGL_pw (d := d) (path := path ++ [x]) ?_ x3
      rw [List.pairwise_append]
      refine ⟨hp, by simp, fun p hp2 y hy => ?_⟩
      rw [List.mem_singleton] at hy
      rw [hy]
      exact (rext_iff.1 x1).2.2.2 p hp2
def SGK (n : Nat) (g k g2 k2 : Nat → Nat → Bool) : Prop := ∀ i j, i < n → j < n → g i j = g2 i j ∧ k i j = k2 i j
theorem rext_cg {n : Nat} {g k g2 k2 : Nat → Nat → Bool} (h : SGK n g k g2 k2) {P : List Nat} (ne : ¬ P = []) (hP : ∀ x, x ∈ P → x < n) {x : Nat} : rext n g k P x = true ↔ rext n g2 k2 P x = true := by
  rw [rext_iff, rext_iff]
  have hl := hP _ (lstD_mem ne)
  constructor
  · rintro ⟨a, b, c, d⟩
    exact ⟨a, b, by rw [← (h _ _ hl b).1]; exact c, fun p hp => by rw [← (h p x (hP p hp) b).2]; exact d p hp⟩
  · rintro ⟨a, b, c, d⟩
    exact ⟨a, b, by rw [(h _ _ hl b).1]; exact c, fun p hp => by rw [(h p x (hP p hp) b).2]; exact d p hp⟩
theorem rfrom_cg {n : Nat} {g k g2 k2 : Nat → Nat → Bool} (h : SGK n g k g2 k2) {P : List Nat} (ne : ¬ P = []) (hP : ∀ x, x ∈ P → x < n) {F F2 : List Nat → List (List Nat)} (hF : ∀ x, x < n → F (P ++ [x]) = F2 (P ++ [x])) : ∀ j, rfrom n g k P F j = rfrom n g2 k2 P F2 j
  | 0 => rfl
  | j + 1 => by
    have ih := rfrom_cg h ne hP hF j
    have np : 0 < n := by have := hP _ (hdD_mem ne); omega
    have e := rext_cg h ne hP (x := n - (j + 1))
    show (if rext n g k P (n - (j + 1)) = true then F (P ++ [n - (j + 1)]) else []) ++ rfrom n g k P F j = (if rext n g2 k2 P (n - (j + 1)) = true then F2 (P ++ [n - (j + 1)]) else []) ++ rfrom n g2 k2 P F2 j
    rw [ih]
    by_cases c : rext n g k P (n - (j + 1)) = true
    · rw [if_pos c, if_pos (e.1 c), hF _ (by omega)]
    · rw [if_neg c, if_neg (fun z => c (e.2 z))]
theorem rone_cg {n : Nat} {g k g2 k2 : Nat → Nat → Bool} (h : SGK n g k g2 k2) {P : List Nat} (ne : ¬ P = []) (hP : ∀ x, x ∈ P → x < n) : rone g P = rone g2 P := by
  unfold rone rcls
  rw [(h _ _ (hP _ (lstD_mem ne)) (hP _ (hdD_mem ne))).1]
theorem RGL_cg {n : Nat} {g k g2 k2 : Nat → Nat → Bool} (h : SGK n g k g2 k2) : ∀ (d : Nat) {P : List Nat}, ¬ P = [] → (∀ x, x ∈ P → x < n) → RGL n g k d P = RGL n g2 k2 d P
  | 0, P, ne, hP => rone_cg h ne hP
  | d + 1, P, ne, hP => by
    show rone g P ++ rfrom n g k P (RGL n g k d) n = rone g2 P ++ rfrom n g2 k2 P (RGL n g2 k2 d) n
    rw [rone_cg h ne hP, rfrom_cg h ne hP (F := RGL n g k d) (F2 := RGL n g2 k2 d) (fun x hx => RGL_cg h d (by simp) (fun y hy => by
      rw [List.mem_append, List.mem_singleton] at hy
      rcases hy with q | q
      · exact hP y q
      · omega))]
theorem RGL_cg1 {n : Nat} {g k g2 k2 : Nat → Nat → Bool} (h : SGK n g k g2 k2) {s : Nat} (hs : s < n) : RGL n g k 4 [s] = RGL n g2 k2 4 [s] := RGL_cg h 4 (by simp) (fun x hx => by rw [List.mem_singleton] at hx; omega)
theorem ISB_cg {n : Nat} {g k g2 k2 : Nat → Nat → Bool} (h : SGK n g k g2 k2) {w : Int} {u : Nat} {B : Nat → Int} (q : ISB n g k w u B) : ISB n g2 k2 w u B := ⟨q.1, fun left s h1 h2 h3 => by
  have m := q.2 left s h1 h2 h3
  unfold WAY at m ⊢
  rw [RGL_cg1 h (LST_lt h3 h2)] at m
  exact m⟩
theorem CFN_cg {n : Nat} {g k g2 k2 : Nat → Nat → Bool} (h : SGK n g k g2 k2) {w : Int} {B : Nat → Int} : ∀ j left, j ≤ n → CFN n g k w B j left = CFN n g2 k2 w B j left
  | 0, _, _ => rfl
  | j + 1, left, hj => by
    have e := RGL_cg1 h (s := n - (j + 1)) (by omega)
    have ih := fun l => CFN_cg h (w := w) (B := B) j l (by omega)
    show (if left.testBit (n - (j + 1)) = true then (match (RGL n g k 4 [n - (j + 1)]).find? (okr w B left) with
      | some r => r :: CFN n g k w B j (left ^^^ PM r)
      | none => CFN n g k w B j (left ^^^ 2 ^ (n - (j + 1)))) else CFN n g k w B j left) = (if left.testBit (n - (j + 1)) = true then (match (RGL n g2 k2 4 [n - (j + 1)]).find? (okr w B left) with
      | some r => r :: CFN n g2 k2 w B j (left ^^^ PM r)
      | none => CFN n g2 k2 w B j (left ^^^ 2 ^ (n - (j + 1)))) else CFN n g2 k2 w B j left)
    rw [e, ih left, ih (left ^^^ 2 ^ (n - (j + 1)))]
    cases (RGL n g2 k2 4 [n - (j + 1)]).find? (okr w B left) with
    | none => rfl
    | some r =>
      show (if _ then r :: CFN n g k w B j (left ^^^ PM r) else _) = (if _ then r :: CFN n g2 k2 w B j (left ^^^ PM r) else _)
      rw [ih (left ^^^ PM r)]
theorem CFN_mem {n : Nat} {g k : Nat → Nat → Bool} {w : Int} {B : Nat → Int} {r : List Nat} : ∀ j left, j ≤ n → r ∈ CFN n g k w B j left → ∃ s, s < n ∧ r ∈ RGL n g k 4 [s]
  | 0, _, _, h => absurd h List.not_mem_nil
  | j + 1, left, hj, h => by
    have ih := fun l => CFN_mem (n := n) (g := g) (k := k) (w := w) (B := B) (r := r) j l (by omega)
    have h' : r ∈ (if left.testBit (n - (j + 1)) = true then (match (RGL n g k 4 [n - (j + 1)]).find? (okr w B left) with
      | some r => r :: CFN n g k w B j (left ^^^ PM r)
      | none => CFN n g k w B j (left ^^^ 2 ^ (n - (j + 1)))) else CFN n g k w B j left) := h
    by_cases c : left.testBit (n - (j + 1)) = true
    · rw [if_pos c] at h'
      cases f : (RGL n g k 4 [n - (j + 1)]).find? (okr w B left) with
      | none =>
        rw [f] at h'
        exact ih _ h'
      | some r0 =>
        rw [f] at h'
        have h2 : r ∈ r0 :: CFN n g k w B j (left ^^^ PM r0) := h'
        rw [List.mem_cons] at h2
        rcases h2 with q | q
        · exact ⟨n - (j + 1), by omega, by rw [q]; exact List.mem_of_find?_eq_some f⟩
        · exact ih _ q
    · rw [if_neg c] at h'
      exact ih _ h'
theorem want_at {a b : Nat → Nat → Int} {x : Int} (h0 : 0 ≤ x) (h1 : x < a 83 6) (h2 : a 83 6 ≤ 20) : f_X4_wantsOf a b x = a 86 x.toNat ∧ f_X4_kindOf a b x = a 85 x.toNat := by
  constructor
  · unfold f_X4_wantsOf f_X4_has
    rw [if_neg (show ¬ x < 0 by omega), if_pos h1, if_pos (show x < 20 by omega), if_neg (by decide)]
  · unfold f_X4_kindOf f_X11_entry_r85
    rw [if_neg (show ¬ x < 0 by omega), if_pos h1, if_pos (show x < 20 by omega)]
theorem AL_gk {a b b2 : Nat → Nat → Int} (hb : BAS a) (o : OFR a) {n : Nat} {st st2 : Nat → Int} (h : ∀ i, i < n → (0 ≤ st i ∧ st i < a 83 6) ∧ st i = st2 i) : SGK n (gS a b st) (kS a b st) (gR a b2 st2) (kR a b2 st2) := fun i j hi hj => by
  obtain ⟨si, ei⟩ := h i hi
  obtain ⟨sj, ej⟩ := h j hj
  have i20 := iv_get hb.1 (k := 83) (j := 6) (l := 0) (u := 20) rfl
  have mi := o.2.2.1 (st i).toNat (by omega)
  have mj := o.2.2.1 (st j).toNat (by omega)
  have k := AL_kin (b := b) (b2 := b2) hb mi.1 mi.2 mj.1 mj.2
  unfold gS kS gR kR
  rw [memOf_at si.1 si.2 i20.2, memOf_at sj.1 sj.2 i20.2, (want_at sj.1 sj.2 i20.2).1, (want_at si.1 si.2 i20.2).2, k, ← ei, ← ej, ← o.1.2.1, ← o.1.2.2.1, ← o.1.2.2.2.1]
  exact ⟨rfl, rfl⟩
/-- the rings: how many, which -/
theorem AL_rings {a a1 a2 b b2 : Nat → Nat → Int} (hb : BAS a) (o : OFR a) (cl : CLS a a1) (rf : RFS a1 a2) (ko : KOF a a1) {r r2 : Int} (h1 : RGC a b a1 r) (h2 : RGRr a1 b2 a2 r2) : r = r2 ∧ FDR a2 := by
  obtain ⟨n, st, u, B, p1, p2, p3, p4, p5, p6, p7⟩ := h1
  obtain ⟨n2, st2, B2, q1, q2, q3, q4, q5⟩ := h2
  rw [cl 181 (by decide), cl 146 (by decide), ← o.1.1, ← o.1.2.2.2.2] at q1
  obtain ⟨en, est⟩ := SEAT_det p1 q1
  subst en
  have e150 := gk_fr2 (a := a) (a1 := a1) (b := b2) (b1 := b2) (cl 150 (by decide)) (cl 178 (by decide)) (cl 179 (by decide)) (cl 180 (by decide))
  rw [e150.1, e150.2] at q3 q4
  have i20 := iv_get hb.1 (k := 83) (j := 6) (l := 0) (u := 20) rfl
  have sr : ∀ i, i < n → (0 ≤ st i ∧ st i < a 83 6) ∧ st i = st2 i := fun i hi => by
    have z := SEAT_rg p1 hi
    exact ⟨⟨z.1, by omega⟩, est i hi⟩
  have gk := AL_gk (b := b) (b2 := b2) hb o sr
  have gk2 : SGK n (gR a b2 st2) (kR a b2 st2) (gS a b st) (kS a b st) := fun i j hi hj => ⟨(gk i j hi hj).1.symm, (gk i j hi hj).2.symm⟩
  have ks : ∀ i, kS a b st i i = true := fun i => by
    unfold kS f_X3_areKin
    rw [if_pos rfl]; rfl
  have L := CFN_eq ks p2 (ISB_cg gk2 q3) p3 p4 p5 n (2 ^ n - 1) (Nat.le_refl n) (by have := pow_pos2 n; omega)
  have ue : (2 ^ n - 1) &&& u = u := by
    refine Nat.eq_of_testBit_eq (fun i => ?_)
    rw [Nat.testBit_and, Nat.testBit_two_pow_sub_one]
    by_cases c : i < n
    · rw [decide_eq_true c, Bool.true_and]
    · rw [decide_eq_false c, Bool.false_and, Nat.testBit_lt_two_pow (Nat.lt_of_lt_of_le p5 (Nat.pow_le_pow_right (by decide) (by omega)))]
  have e64 : CFN n (gR a b2 st2) (kR a b2 st2) 64 B2 n (2 ^ n - 1) = CFN n (gS a b st) (kS a b st) 16 B n u := by
    rw [CFN_cg gk2 n (2 ^ n - 1) (Nat.le_refl n), L, ue]
  rw [e64] at q4
  generalize hLL : CFN n (gS a b st) (kS a b st) 16 B n u = LL at p6 q4
  have r90 : a2 90 12 = a1 90 12 := by rw [rf 90 (by decide)]
  have r97 : a2 97 = a1 97 := rf 97 (by decide)
  have r104 : a2 104 = a1 104 := rf 104 (by decide)
  have r836 : a2 83 6 = a 83 6 := by rw [rf 83 (by decide)]; exact ko.1
  have r84 : a2 84 = a 84 := by rw [rf 84 (by decide), ko.2.2 84 (by decide) (by decide)]
  refine ⟨by rw [p7, q5, p6.1, q4.1], by rw [r90, p6.1, q4.1], fun m hm => ?_⟩
  rw [r90, p6.1] at hm
  have hm2 : m < LL.length := by omega
  obtain ⟨u1, u2⟩ := p6.2 m hm2
  obtain ⟨v1, v2⟩ := q4.2 m hm2
  have mem : LL.getD m [] ∈ LL := by
    rw [List.getD_eq_getElem?_getD, List.getElem?_eq_getElem hm2]
    exact List.getElem_mem hm2
  generalize LL.getD m [] = R at u1 u2 v1 v2 mem
  rw [← hLL] at mem
  obtain ⟨s, hs, hR⟩ := CFN_mem n u (Nat.le_refl n) mem
  obtain ⟨l1, l2, l3, l4, l5⟩ := ring_len ks p2 hs hR
  have pw := RGL_pw (k := kS a b st) (path := [s]) (by simp) hR
  have xn : ∀ i, i < R.length → R.getD i 0 < n := fun i hi => by
    refine l5.2.1 _ ?_
    rw [List.getD_eq_getElem?_getD, List.getElem?_eq_getElem hi]
    exact List.getElem_mem hi
  unfold FDR1
  rw [r104, r97, r836, r84, u1, v1]
  refine ⟨rfl, by omega, by omega, fun i hi => ?_, fun i j hij hj => ?_⟩
  · have hi2 : i < R.length := by omega
    rw [u2 i hi2, v2 i hi2]
    have z := sr _ (xn i hi2)
    exact ⟨z.2, z.1.1, z.1.2⟩
  · have hj2 : j < R.length := by omega
    have hi2 : i < R.length := by omega
    rw [u2 i hi2, u2 j hj2]
    intro e
    have zi := sr _ (xn i hi2)
    have zj := sr _ (xn j hj2)
    have kf : kS a b st (R.getD i 0) (R.getD j 0) = false := by
      have q := List.pairwise_iff_getElem.1 pw i j hi2 hj2 hij
      rw [List.getD_eq_getElem?_getD, List.getD_eq_getElem?_getD, List.getElem?_eq_getElem hi2, List.getElem?_eq_getElem hj2]
      exact q
    unfold kS at kf
    rw [memOf_at zi.1.1 zi.1.2 i20.2, memOf_at zj.1.1 zj.1.2 i20.2, e] at kf
    refine of_decide_eq_false kf ?_
    unfold f_X3_areKin
    rw [if_pos rfl]
    decide
