/-! the drawer, the class: least codes of ways, kind by kind -/
def cN (n : Nat → Int) : Nat → Nat := fun i => (n i).toNat
def DRH (v n : Nat → Int) : Prop := ∀ i : Nat, i < 8 → 0 ≤ n i ∧ n i ≤ 50 ∧ -1 ≤ v i ∧ v i ≤ 500 ∧ (n i = 0 ∨ 1 ≤ v i)
theorem DRH_c {v n : Nat → Int} (h : DRH v n) : (∀ i, i < 8 → cN n i ≤ 50) ∧ (∀ i, i < 8 → cN n i = 0 ∨ 1 ≤ v i) := by
  constructor <;> intro i hi <;> have q := h i hi <;> unfold cN <;> omega
/-- as many as there are of the kinds below K, at most m of kind K, none behind -/
def WPR (c : Nat → Nat) (K m : Nat) (n : Nat → Nat) : Prop := (∀ i, i < K → n i ≤ c i) ∧ n K ≤ m ∧ ∀ i, K < i → n i = 0
theorem WPR_50 {c : Nat → Nat} {K m : Nat} {n : Nat → Nat} (hc : ∀ i, i < 8 → c i ≤ 50) (hK : K ≤ 8) (hm : m ≤ 50) (h : WPR c K m n) : ∀ i, n i ≤ 50 := fun i => by
  rcases Nat.lt_trichotomy i K with c1 | c1 | c1
  · exact Nat.le_trans (h.1 i c1) (hc i (by omega))
  · rw [c1]; exact Nat.le_trans h.2.1 hm
  · rw [h.2.2 i c1]; exact Nat.zero_le _
theorem WPR_next {c : Nat → Nat} {K : Nat} {n : Nat → Nat} : WPR c K (c K) n ↔ WPR c (K + 1) 0 n := by
  constructor
  · intro h
    refine ⟨fun i hi => ?_, ?_, fun i hi => h.2.2 i (by omega)⟩
    · by_cases e : i = K
      · rw [e]; exact h.2.1
      · exact h.1 i (by omega)
    · rw [h.2.2 (K + 1) (by omega)]; exact Nat.le_refl _
  · intro h
    refine ⟨fun i hi => h.1 i (by omega), h.1 K (by omega), fun i hi => ?_⟩
    by_cases e : i = K + 1
    · rw [e]; have := h.2.1; omega
    · exact h.2.2 i (by omega)
def SCK (i : Nat) : Int := 281474976710656 - PW i
theorem SCOD_set {n : Nat → Nat} {i x : Nat} (hi : i < 8) : SCOD (nset n i x) = SCOD n + ((x : Int) - (n i : Int)) * SCK i := by
  unfold SCOD SCK
  rw [SCNT_set hi, ORD_set hi, Int.mul_sub, Int.sub_mul ((x : Int)) ((n i : Int)) (PW i)]
  omega
theorem SCOD_bd {n : Nat → Nat} (h : ∀ i, n i ≤ 50) : -281474976710656 ≤ SCOD n ∧ SCOD n ≤ 112589990684262400 := by
  have a := ORD_bd (n := n) (fun i => by have := h i; omega)
  have b := SCNT_le (c := fun _ => 50) (fun _ _ => Nat.le_refl _) (fun i _ => h i)
  have c := SCNT_nn n 8
  unfold SCOD
  omega
theorem SCOD_lt {n : Nat → Nat} (h : ∀ i, n i ≤ 50) : SCOD n < IMPO := by
  have a := SCOD_bd h
  have e : IMPO = 4611686018427387904 := rfl
  rw [e]
  exact Int.lt_of_le_of_lt a.2 (by decide)
theorem SVAL_0 (v : Nat → Int) (m : Nat) : SVAL v (fun _ => 0) m = 0 := by
  have e : ∀ k, k < m → (((fun _ => 0 : Nat → Nat) k : Nat) : Int) * v k = 0 := fun k _ => Int.zero_mul _
  exact (SUMN_congr (g := fun _ => 0) e).trans (SUMN0 m)
theorem SCOD_0 : SCOD (fun _ => 0) = 0 := by
  have e : ∀ k, k < 8 → (((fun _ => 0 : Nat → Nat) k : Nat) : Int) = 0 := fun k _ => rfl
  have e2 : ∀ k, k < 8 → (((fun _ => 0 : Nat → Nat) k : Nat) : Int) * PW k = 0 := fun k _ => Int.zero_mul _
  have a : SCNT (fun _ => 0) 8 = 0 := (SUMN_congr (g := fun _ => 0) e).trans (SUMN0 8)
  have b : ORD 8 (fun _ => 0) = 0 := (SUMN_congr (g := fun _ => 0) e2).trans (SUMN0 8)
  unfold SCOD
  rw [a, b]
  rfl
/-- the least code of those that are P, or none -/
def LEASTC (I : Int) (C : (Nat → Nat) → Int) (P : (Nat → Nat) → Prop) (f : Int) : Prop := (f = I ∧ ∀ n, ¬ P n) ∨ (¬ f = I ∧ (∃ n, P n ∧ f = C n) ∧ ∀ n, P n → f ≤ C n)
theorem LEASTC_a {I co f g : Int} {C : (Nat → Nat) → Int} {P D Q : (Nat → Nat) → Prop} (dn : ∀ n, Q n → P n ∨ ∃ m, D m ∧ C m = C n - co) (up : ∀ m, D m → ∃ n, Q n ∧ C n = C m + co ∧ C n < I) (mo : ∀ n, P n → Q n) (hy : LEASTC I C P f) (hd : LEASTC I C D g) (hg : ¬ g = I) : LEASTC I C Q (if f ≤ g + co then f else g + co) := by
  rcases hd with z | ⟨_, ⟨n1, p1, p2⟩, d3⟩
  · exact absurd z.1 hg
  obtain ⟨u, u1, u2, u3⟩ := up n1 p1
  by_cases lt : f ≤ g + co
  · rw [if_pos lt]
    rcases hy with z | ⟨y1, ⟨n0, q1, q2⟩, y3⟩
    · exfalso
      have z1 := z.1
      omega
    · refine Or.inr ⟨y1, ⟨n0, mo n0 q1, q2⟩, fun n hn => ?_⟩
      rcases dn n hn with w | ⟨m, m1, m2⟩
      · exact y3 n w
      · have := d3 m m1
        omega
  · rw [if_neg lt]
    refine Or.inr ⟨by omega, ⟨u, u1, by omega⟩, fun n hn => ?_⟩
    rcases dn n hn with w | ⟨m, m1, m2⟩
    · rcases hy with z | ⟨y1, _, y3⟩
      · exact absurd w (z.2 n)
      · have := y3 n w
        omega
    · have := d3 m m1
      omega
theorem LEASTC_b {I f : Int} {C : (Nat → Nat) → Int} {P Q : (Nat → Nat) → Prop} (dn : ∀ n, Q n → P n) (mo : ∀ n, P n → Q n) (hy : LEASTC I C P f) : LEASTC I C Q f := by
  rcases hy with z | ⟨y1, ⟨n0, q1, q2⟩, y3⟩
  · exact Or.inl ⟨z.1, fun n hn => z.2 n (dn n hn)⟩
  · exact Or.inr ⟨y1, ⟨n0, mo n0 q1, q2⟩, fun n hn => y3 n (dn n hn)⟩
/-- the least code of a way to s, or none -/
def BST (c : Nat → Nat) (v : Nat → Int) (K m : Nat) (s f : Int) : Prop := LEASTC IMPO SCOD (fun n => WPR c K m n ∧ SVAL v n 8 = s) f
theorem BST_bd {c : Nat → Nat} {v : Nat → Int} {K m : Nat} {s f : Int} (hc : ∀ i, i < 8 → c i ≤ 50) (hK : K ≤ 8) (hm : m ≤ 50) (h : BST c v K m s f) : f = IMPO ∨ (-281474976710656 ≤ f ∧ f ≤ 112589990684262400) := by
  rcases h with h | ⟨_, ⟨n, n1, n3⟩, _⟩
  · exact Or.inl h.1
  · right
    rw [n3]
    exact SCOD_bd (WPR_50 hc hK hm n1.1)
theorem SVAL_nn {v : Nat → Int} {n : Nat → Nat} : ∀ m : Nat, (∀ i, i < m → n i = 0 ∨ 1 ≤ v i) → 0 ≤ SVAL v n m
  | 0, _ => Int.le_refl _
  | m + 1, h => by
    have a := SVAL_nn m (fun i hi => h i (by omega))
    have b : 0 ≤ (n m : Int) * v m := by
      rcases h m (by omega) with z | z
      · rw [z]; exact Int.le_of_eq (Int.zero_mul _).symm
      · exact Int.mul_nonneg (by omega) (by omega)
    show 0 ≤ SVAL v n m + (n m : Int) * v m
    omega
theorem SVAL_cg {v : Nat → Int} {n q : Nat → Nat} {m : Nat} (h : ∀ i, i < m → n i = q i) : SVAL v n m = SVAL v q m := SUMN_congr (fun i hi => by rw [h i hi])
theorem SCNT_cg {n q : Nat → Nat} {m : Nat} (h : ∀ i, i < m → n i = q i) : SCNT n m = SCNT q m := SUMN_congr (fun i hi => by rw [h i hi])
theorem SCOD_cg {n q : Nat → Nat} (h : ∀ i, i < 8 → n i = q i) : SCOD n = SCOD q := by
  unfold SCOD
  rw [SCNT_cg h, show ORD 8 n = ORD 8 q from SUMN_congr (fun i hi => by rw [h i hi])]
/-- a bundle of s more of kind K -/
def TBF (B : Nat → Int) (w co : Int) (y : Nat) : Int := if w ≤ (y : Int) ∧ ¬ B (y - w.toNat) = IMPO then (if B y ≤ B (y - w.toNat) + co then B y else B (y - w.toNat) + co) else B y
theorem WPR_mono {c : Nat → Nat} {K m m2 : Nat} {n : Nat → Nat} (h : WPR c K m n) (hm : m ≤ m2) : WPR c K m2 n := ⟨h.1, Nat.le_trans h.2.1 hm, h.2.2⟩
theorem bundle_dn {c : Nat → Nat} {v : Nat → Int} {K m s : Nat} {y : Int} {n : Nat → Nat} (hK : K < 8) (hcv : ∀ i, i < 8 → c i = 0 ∨ 1 ≤ v i) (hv : 1 ≤ v K) (hsm : s ≤ m + 1) (h : WPR c K (m + s) n) (hy : SVAL v n 8 = y) : WPR c K m n ∨ ((s : Int) * v K ≤ y ∧ WPR c K m (nset n K (n K - s)) ∧ SVAL v (nset n K (n K - s)) 8 = y - (s : Int) * v K ∧ SCOD (nset n K (n K - s)) = SCOD n - (s : Int) * SCK K) := by
  by_cases c1 : n K ≤ m
  · exact Or.inl ⟨h.1, c1, h.2.2⟩
  · right
    have hs : s ≤ n K := by omega
    have w : WPR c K m (nset n K (n K - s)) := by
      refine ⟨fun i hi => ?_, ?_, fun i hi => ?_⟩
      · rw [nset_ne (by omega)]; exact h.1 i hi
      · rw [nset_at]; have := h.2.1; omega
      · rw [nset_ne (by omega)]; exact h.2.2 i hi
    have e : ((n K - s : Nat) : Int) = (n K : Int) - (s : Int) := by omega
    have e1 : SVAL v (nset n K (n K - s)) 8 = y - (s : Int) * v K := by
      rw [SVAL_set hK, hy, e, Int.sub_mul]
      omega
    refine ⟨?_, w, e1, ?_⟩
    · have z := SVAL_nn (v := v) (n := nset n K (n K - s)) 8 (fun i hi => by
        by_cases ei : i = K
        · rw [ei]; exact Or.inr hv
        · rcases Nat.lt_or_ge i K with g | g
          · rcases hcv i hi with z | z
            · left
              have := w.1 i g
              omega
            · exact Or.inr z
          · exact Or.inl (w.2.2 i (by omega)))
      omega
    · rw [SCOD_set hK, e, show (n K : Int) - (s : Int) - (n K : Int) = -(s : Int) from by omega, Int.neg_mul]
      exact Int.sub_eq_add_neg.symm
theorem bundle_up {c : Nat → Nat} {v : Nat → Int} {K m s : Nat} {y : Int} {n : Nat → Nat} (hK : K < 8) (h : WPR c K m n) (hy : SVAL v n 8 = y - (s : Int) * v K) : WPR c K (m + s) (nset n K (n K + s)) ∧ SVAL v (nset n K (n K + s)) 8 = y ∧ SCOD (nset n K (n K + s)) = SCOD n + (s : Int) * SCK K := by
  have e : ((n K + s : Nat) : Int) = (n K : Int) + (s : Int) := by omega
  refine ⟨⟨fun i hi => ?_, ?_, fun i hi => ?_⟩, ?_, ?_⟩
  · rw [nset_ne (by omega)]; exact h.1 i hi
  · rw [nset_at]; have := h.2.1; omega
  · rw [nset_ne (by omega)]; exact h.2.2 i hi
  · rw [SVAL_set hK, hy, e, Int.add_mul]
    omega
  · rw [SCOD_set hK, e, show (n K : Int) + (s : Int) - (n K : Int) = (s : Int) from by omega]
theorem BST_bundle {c : Nat → Nat} {v : Nat → Int} {K m s : Nat} {B : Nat → Int} {y : Nat} (hK : K < 8) (hc : ∀ i, i < 8 → c i ≤ 50) (hcv : ∀ i, i < 8 → c i = 0 ∨ 1 ≤ v i) (hv : 1 ≤ v K) (hsm : s ≤ m + 1) (hms : m + s ≤ 50) (hy : BST c v K m y (B y)) (hd : (s : Int) * v K ≤ y → BST c v K m ((y : Int) - (s : Int) * v K) (B (y - ((s : Int) * v K).toNat))) : BST c v K (m + s) y (TBF B ((s : Int) * v K) ((s : Int) * SCK K) y) := by
  have dn := fun n (h : WPR c K (m + s) n) (e : SVAL v n 8 = (y : Int)) => bundle_dn hK hcv hv hsm h e
  have mo : ∀ n, (WPR c K m n ∧ SVAL v n 8 = (y : Int)) → (WPR c K (m + s) n ∧ SVAL v n 8 = (y : Int)) := fun n hn => ⟨WPR_mono hn.1 (Nat.le_add_right _ _), hn.2⟩
  by_cases cn : (s : Int) * v K ≤ (y : Int) ∧ ¬ B (y - ((s : Int) * v K).toNat) = IMPO
  · unfold TBF
    rw [if_pos cn]
    refine LEASTC_a (fun n hn => ?_) (fun n hn => ?_) mo hy (hd cn.1) cn.2
    · rcases dn n hn.1 hn.2 with g | ⟨g1, g2, g3, g4⟩
      · exact Or.inl ⟨g, hn.2⟩
      · exact Or.inr ⟨_, ⟨g2, g3⟩, g4⟩
    · have up := bundle_up (s := s) hK hn.1 hn.2
      exact ⟨_, ⟨up.1, up.2.1⟩, up.2.2, SCOD_lt (WPR_50 hc (by omega) hms up.1)⟩
  · unfold TBF
    rw [if_neg cn]
    refine LEASTC_b (fun n hn => ?_) mo hy
    rcases dn n hn.1 hn.2 with g | ⟨g1, g2, g3, g4⟩
    · exact ⟨g, hn.2⟩
    · exfalso
      rcases hd g1 with z | z
      · exact z.2 _ ⟨g2, g3⟩
      · exact cn ⟨g1, z.1⟩
/-- the table up to L -/
def TBL (c : Nat → Nat) (v : Nat → Int) (K m : Nat) (B : Nat → Int) (L : Int) : Prop := ∀ y : Nat, (y : Int) ≤ L → BST c v K m y (B y)
def BOK (B : Nat → Int) (L : Int) : Prop := ∀ y : Nat, (y : Int) ≤ L → B y = IMPO ∨ (-281474976710656 ≤ B y ∧ B y ≤ 112589990684262400)
theorem TBL_ok {c : Nat → Nat} {v : Nat → Int} {K m : Nat} {B : Nat → Int} {L : Int} (hc : ∀ i, i < 8 → c i ≤ 50) (hK : K ≤ 8) (hm : m ≤ 50) (h : TBL c v K m B L) : BOK B L := fun y hy => BST_bd hc hK hm (h y hy)
theorem TBL_bundle {c : Nat → Nat} {v : Nat → Int} {K m s : Nat} {B B' : Nat → Int} {L : Int} (hK : K < 8) (hc : ∀ i, i < 8 → c i ≤ 50) (hcv : ∀ i, i < 8 → c i = 0 ∨ 1 ≤ v i) (hv : 1 ≤ v K) (hsm : s ≤ m + 1) (hms : m + s ≤ 50) (h : TBL c v K m B L) (hB : ∀ y : Nat, (y : Int) ≤ L → B' y = TBF B ((s : Int) * v K) ((s : Int) * SCK K) y) : TBL c v K (m + s) B' L := fun y hy => by
  rw [hB y hy]
  have w0 : 0 ≤ (s : Int) * v K := Int.mul_nonneg (by omega) (by omega)
  refine BST_bundle hK hc hcv hv hsm hms (h y hy) (fun q => ?_)
  have z := h (y - ((s : Int) * v K).toNat) (by omega)
  rw [show ((y - ((s : Int) * v K).toNat : Nat) : Int) = (y : Int) - (s : Int) * v K from by omega] at z
  exact z
theorem TBL_next {c : Nat → Nat} {v : Nat → Int} {K : Nat} {B : Nat → Int} {L : Int} (h : TBL c v K (c K) B L) : TBL c v (K + 1) 0 B L := fun y hy =>
  LEASTC_b (fun n hn => ⟨WPR_next.2 hn.1, hn.2⟩) (fun n hn => ⟨WPR_next.1 hn.1, hn.2⟩) (h y hy)
theorem TBL_0 {c : Nat → Nat} {v : Nat → Int} {B : Nat → Int} {L : Int} (h0 : B 0 = 0) (h : ∀ y : Nat, 1 ≤ y → (y : Int) ≤ L → B y = IMPO) : TBL c v 0 0 B L := fun y hy => by
  have z : ∀ n, WPR c 0 0 n → SVAL v n 8 = 0 ∧ SCOD n = 0 := fun n hn => by
    have e : ∀ i, i < 8 → n i = (fun _ => 0 : Nat → Nat) i := fun i _ => by
      by_cases c1 : i = 0
      · rw [c1]; exact Nat.le_zero.1 hn.2.1
      · exact hn.2.2 i (by omega)
    exact ⟨(SVAL_cg e).trans (SVAL_0 v 8), (SCOD_cg e).trans SCOD_0⟩
  by_cases c1 : y = 0
  · rw [c1, h0]
    have w0 : WPR c 0 0 (fun _ => 0) := ⟨fun _ _ => Nat.zero_le _, Nat.le_refl _, fun _ _ => rfl⟩
    refine Or.inr ⟨by decide, ⟨fun _ => 0, ⟨w0, (z _ w0).1⟩, (z _ w0).2.symm⟩, fun n hn => ?_⟩
    rw [(z n hn.1).2]; exact Int.le_refl _
  · refine Or.inl ⟨h y (by omega) hy, fun n hn => ?_⟩
    have q := (z n hn.1).1
    rw [hn.2] at q
    omega
/-! what the whole table says of ways -/
def cut8 (n : Nat → Nat) : Nat → Nat := fun i => if i < 8 then n i else 0
theorem cut8_at {n : Nat → Nat} : ∀ i, i < 8 → n i = cut8 n i := fun i hi => (if_pos hi).symm
theorem WAYS_WPR {c : Nat → Nat} {v : Nat → Int} {s : Int} {n : Nat → Nat} (h : WAYS c v 0 s n) : WPR c 8 0 (cut8 n) ∧ SVAL v (cut8 n) 8 = s :=
  ⟨⟨fun i hi => by rw [← cut8_at i hi]; exact h.1 i hi, Nat.le_refl _, fun i hi => if_neg (by omega)⟩, by rw [← SVAL_cg cut8_at]; exact h.2.2⟩
theorem WPR_WAYS {c : Nat → Nat} {v : Nat → Int} {s : Int} {n : Nat → Nat} (h : WPR c 8 0 n) (e : SVAL v n 8 = s) : WAYS c v 0 s n := ⟨h.1, fun i hi => absurd hi (Nat.not_lt_zero i), e⟩
theorem BST_no {c : Nat → Nat} {v : Nat → Int} {s : Int} (h : BST c v 8 0 s IMPO) : ∀ n, ¬ WAYS c v 0 s n := fun n hn => by
  rcases h with z | z
  · exact z.2 _ (WAYS_WPR hn)
  · exact z.1 rfl
theorem BST_yes {c : Nat → Nat} {v : Nat → Int} {s f : Int} (hc : ∀ i, i < 8 → c i ≤ 50) (h : BST c v 8 0 s f) (hf : ¬ f = IMPO) : ∃ n, WAYS c v 0 s n ∧ (∀ i, n i ≤ 50) ∧ f = SCOD n ∧ ∀ m, WAYS c v 0 s m → SCOD n ≤ SCOD m := by
  rcases h with z | ⟨_, ⟨n, n1, n3⟩, h3⟩
  · exact absurd z.1 hf
  · refine ⟨n, WPR_WAYS n1.1 n1.2, WPR_50 hc (by omega) (by omega) n1.1, n3, fun m hm => ?_⟩
    have w := h3 _ (WAYS_WPR hm)
    rw [← SCOD_cg (cut8_at (n := m)), n3] at w
    exact w
/-- with no way from x to x and the dearest there is none at all -/
theorem NOW_far {c : Nat → Nat} {v : Nat → Int} {x d : Int} (hcv : ∀ i, i < 8 → c i = 0 ∨ 1 ≤ v i) (hd : ∀ i, i < 8 → 0 < c i → v i ≤ d) (hx : 1 ≤ x) (h : ∀ s, x ≤ s → s ≤ x + d - 1 → s ≤ 1399 → ∀ n, ¬ WAYS c v 0 s n) : ∀ s, x ≤ s → s ≤ 1399 → ∀ n, ¬ WAYS c v 0 s n := by
  have key : ∀ k : Nat, ∀ s : Int, s.toNat = k → x ≤ s → s ≤ 1399 → ∀ n, ¬ WAYS c v 0 s n := fun k => by
    induction k using Nat.strongRecOn with
    | _ k ih =>
      intro s hk h1 h2 n hn
      by_cases c1 : s ≤ x + d - 1
      · exact h s h1 c1 h2 n hn
      · have ex : ∃ i, i < 8 ∧ 0 < n i := by
          refine Classical.byContradiction (fun z => ?_)
          have e : ∀ i, i < 8 → n i = (fun _ => 0 : Nat → Nat) i := fun i hi => by
            rcases Nat.eq_zero_or_pos (n i) with q | q
            · exact q
            · exact absurd ⟨i, hi, q⟩ z
          have := hn.2.2
          rw [SVAL_cg e, SVAL_0] at this
          omega
        obtain ⟨i, hi, hp⟩ := ex
        have ci := hn.1 i hi
        have vi := hd i hi (by omega)
        have v1 : 1 ≤ v i := by
          rcases hcv i hi with z | z
          · omega
          · exact z
        refine ih (s - v i).toNat (by omega) (s - v i) rfl (by omega) (by omega) (nset n i (n i - 1)) ⟨fun j hj => ?_, fun j hj => absurd hj (Nat.not_lt_zero j), ?_⟩
        · by_cases ej : j = i
          · rw [ej, nset_at]; omega
          · rw [nset_ne ej]; exact hn.1 j hj
        · rw [SVAL_set hi, hn.2.2, show ((n i - 1 : Nat) : Int) = (n i : Int) - 1 from by omega, Int.sub_mul, Int.one_mul]
          omega
  exact fun s => key s.toNat s rfl
/-! what is paid -/
def PAYX (c : Nat → Nat) (v : Nat → Int) (x : Int) : Prop := ∀ s, x ≤ s → s ≤ 1399 → ∀ n, ¬ WAYS c v 0 s n
def PAYC (c : Nat → Nat) (v : Nat → Int) (x r : Int) (q : Nat → Nat) : Prop := x ≤ r ∧ r ≤ 1399 ∧ (∀ s, x ≤ s → s < r → ∀ n, ¬ WAYS c v 0 s n) ∧ WAYS c v 0 r q ∧ (∀ i, q i ≤ 50) ∧ ∀ m, WAYS c v 0 r m → SCOD q ≤ SCOD m
def PAYR (c : Nat → Nat) (v : Nat → Int) (x r : Int) (q : Nat → Nat) : Prop := x ≤ r ∧ r ≤ 1399 ∧ (∀ s, x ≤ s → s < r → ∀ n, ¬ WAYS c v 0 s n) ∧ ∃ f0 left f, FEW c v 0 r f0 ∧ f0 < FARV ∧ SGR c v r f0 q 8 left f
theorem SGR_cg {c : Nat → Nat} {v : Nat → Int} {s f0 left f : Int} {q r : Nat → Nat} {k : Nat} (e : ∀ i, i < k → q i = r i) (h : SGR c v s f0 q k left f) : SGR c v s f0 r k left f := by
  obtain ⟨h1, h2, h3, h4, h5, h6⟩ := h
  refine ⟨fun i hi => by rw [← e i hi]; exact h1 i hi, by rw [← SVAL_cg e]; exact h2, h3, h4, by rw [← SCNT_cg e]; exact h5, fun n hn hc => ?_⟩
  rcases h6 n hn hc with g | ⟨j, j1, j2, j3⟩
  · exact Or.inl (fun i hi => by rw [← e i hi]; exact g i hi)
  · exact Or.inr ⟨j, j1, fun i hi => by rw [← e i (by omega)]; exact j2 i hi, by rw [← e j j1]; exact j3⟩
theorem PAYR_way {c : Nat → Nat} {v : Nat → Int} {x r : Int} {q : Nat → Nat} (h : PAYR c v x r q) : ∃ n, WAYS c v 0 r n := by
  obtain ⟨_, _, _, f0, left, f, h4, h5, _⟩ := h
  rcases h4 with z | ⟨_, ⟨n, n1, _⟩, _⟩
  · omega
  · exact ⟨n, n1⟩
theorem PAY_one {c : Nat → Nat} {v : Nat → Int} {x r r2 : Int} {q q2 : Nat → Nat} (hc : ∀ i, i < 8 → c i ≤ 50) (h : PAYC c v x r q) (h2 : PAYR c v x r2 q2) : r = r2 ∧ ∀ i, i < 8 → q i = q2 i := by
  have e : r = r2 := by
    rcases Int.lt_trichotomy r r2 with z | z | z
    · exact absurd h.2.2.2.1 (h2.2.2.1 r h.1 z q)
    · exact z
    · obtain ⟨n, hn⟩ := PAYR_way h2
      exact absurd hn (h.2.2.1 r2 h2.1 z n)
  refine ⟨e, fun i hi => ?_⟩
  obtain ⟨_, _, _, f0, left, f, h4, h5, h6⟩ := h2
  rw [← e] at h4 h6
  have g := SGR_cg (fun i hi => cut8_at (n := q2) i hi) h6
  have w := PAY_eq hc h.2.2.2.1 (fun i => by have := h.2.2.2.2.1 i; omega) (fun i => by
    by_cases c1 : i < 8
    · have := g.1 i c1
      have := hc i c1
      omega
    · unfold cut8; rw [if_neg c1]; omega) (fun m hm _ => h.2.2.2.2.2 m hm) h4 h5 g i hi
  rw [w, ← cut8_at i hi]
theorem PAY_X {c : Nat → Nat} {v : Nat → Int} {x r : Int} {q : Nat → Nat} (h : PAYX c v x) (h2 : PAYR c v x r q) : False := by
  obtain ⟨n, hn⟩ := PAYR_way h2
  exact h r h2.1 h2.2.1 n hn
theorem PAYC_X {c : Nat → Nat} {v : Nat → Int} {x r : Int} {q : Nat → Nat} (h : PAYX c v x) (h2 : PAYC c v x r q) : False := h r h2.1 h2.2.1 q h2.2.2.2.1
