theorem jx_vext {c : ClassId} {n : Nat} {f f1 : Nat → Int32} (h : ∀ j, j < n → f j = f1 j) : vp_cell c (n, .inl f) = vp_cell c (n, .inl f1) := by
  rw [vp_cell_i, vp_cell_i]
  unfold arrV
  congr 1
  apply Array.ext
  · simp
  · intro i h1 h2
    simp at h1
    simp [h i h1]
theorem jxcell_congr {B : Nat} {ad : Nat → Nat} {ac : Nat → ClassId} {S S1 : jxS} {k : Nat} {kd : jxK} (h1 : ∀ j, S1.2.1 k j = S.2.1 k j) (h2 : ∀ j, S1.2.2 k j = S.2.2 k j) (h3 : ∀ m g i, kd = (6, m, [g, i]) → ∀ j, S1.2.1 g j = S.2.1 g j) : jxcell B ad ac S1 k kd = jxcell B ad ac S k kd := by
  have e1 : S1.2.1 k = S.2.1 k := funext h1
  have e2 : S1.2.2 k = S.2.2 k := funext h2
  unfold jxcell
  split
  · congr 2
    apply List.map_congr_left
    intro j _
    unfold jxfld
    split <;> simp only [e1, e2]
  · simp only [e2]
  · rfl
  · rename_i m g i
    have e3 : S1.2.1 g = S.2.1 g := funext (h3 m g i rfl)
    simp only [e3]
  · simp only [e1]
/-- the cell of an array of whole numbers -/
theorem jxcell_i {B : Nat} {ad : Nat → Nat} {ac : Nat → ClassId} {S : jxS} {k t n : Nat} {w : List Nat} (ht : t = 1 ∨ t = 3 ∨ t = 4) : jxcell B ad ac S k (t, n, w) = .inl (ac t, n, .inl (fun j => Int32.ofInt (S.2.1 k j))) := by
  rcases ht with rfl | rfl | rfl <;> rfl
theorem jxu_ne {f : Nat → Nat → Int} {k j k1 : Nat} {v : Int} (h : k1 ≠ k) (j1 : Nat) : jxu f k j v k1 j1 = f k1 j1 := by simp [jxu, h]
theorem jxu_in {f : Nat → Nat → Int} {k j : Nat} {v : Int} (h : ∀ k j, jxin (f k j)) (hv : jxin v) : ∀ k1 j1, jxin (jxu f k j v k1 j1) := by
  intro k1 j1
  unfold jxu
  split
  · split
    · exact hv
    · exact h _ _
  · exact h _ _
theorem jxu_inl {f : Nat → Nat → Int} {k j : Nat} {v : Int} (h : ∀ k j, jxinl (f k j)) (hv : jxinl v) : ∀ k1 j1, jxinl (jxu f k j v k1 j1) := by
  intro k1 j1
  unfold jxu
  split
  · split
    · exact hv
    · exact h _ _
  · exact h _ _
theorem jx_lt_of {K : List jxK} {k : Nat} {kd : jxK} (h : K[k]? = some kd) : k < K.length := (List.getElem?_eq_some_iff.mp h).1
theorem jxokS_i {S : jxS} {k j : Nat} {v : Int} (h : jxokS S) (hk : k < S.1.length) (hv : jxin v) : jxokS (S.1, jxu S.2.1 k j v, S.2.2) := by
  obtain ⟨h1, h2, h3, h4, h5, h6, h7⟩ := h
  refine ⟨h1, jxu_in h2 hv, h3, fun k1 j1 hk1 => ?_, h5, h6, h7⟩
  have : k1 ≠ k := by have : S.1.length ≤ k1 := hk1; omega
  exact ⟨(jxu_ne this _).trans (h4 k1 j1 hk1).1, (h4 k1 j1 hk1).2⟩
theorem jxokS_l {S : jxS} {k j : Nat} {v : Int} (h : jxokS S) (hk : k < S.1.length) (hv : jxinl v) : jxokS (S.1, S.2.1, jxu S.2.2 k j v) := by
  obtain ⟨h1, h2, h3, h4, h5, h6, h7⟩ := h
  refine ⟨h1, h2, jxu_inl h3 hv, fun k1 j1 hk1 => ?_, h5, h6, h7⟩
  have : k1 ≠ k := by have : S.1.length ≤ k1 := hk1; omega
  exact ⟨(h4 k1 j1 hk1).1, (jxu_ne this _).trans (h4 k1 j1 hk1).2⟩
section JX2
variable {B : Nat} {ad : Nat → Nat} {ac : Nat → ClassId} {D : va_G} {S : jxS} {H H1 : Heap}
/-- a whole number written into cell k -/
theorem jxPh_i {k j : Nat} {v : Int} {kd : jxK} (hP : jxPh B ad ac D S H) (hok : jxokS S) (hk : S.1[k]? = some kd) (h5 : kd.1 ≠ 5) (h6 : kd.1 ≠ 6) (oq : ∀ q : Nat, q ≠ B + k → H1[q]? = H[q]?)
    (hn : va_at D vwCl (B + k, jxcell B ad ac (S.1, jxu S.2.1 k j v, S.2.2) k kd) H1) : jxPh B ad ac D (S.1, jxu S.2.1 k j v, S.2.2) H1 := by
  intro k1 kd1 hk1
  by_cases e : k1 = k
  · subst e
    have : kd1 = kd := Option.some.inj (hk1.symm.trans hk)
    subst this
    exact hn
  · have hc : jxcell B ad ac (S.1, jxu S.2.1 k j v, S.2.2) k1 kd1 = jxcell B ad ac S k1 kd1 := by
      refine jxcell_congr (fun j1 => jxu_ne e j1) (fun _ => rfl) (fun m g i hkd j1 => jxu_ne (fun eg => ?_) j1)
      subst hkd
      subst eg
      obtain ⟨n, w, hg, -⟩ := hok.2.2.2.2.2.1 k1 m g i hk1
      rw [hk] at hg
      cases hg
      exact h5 rfl
    rw [hc]
    exact (hP k1 kd1 hk1).kept (oq _ (by show B + k1 ≠ B + k; omega))
theorem jxPh_l {k j : Nat} {v : Int} {kd : jxK} (hP : jxPh B ad ac D S H) (hk : S.1[k]? = some kd) (oq : ∀ q : Nat, q ≠ B + k → H1[q]? = H[q]?)
    (hn : va_at D vwCl (B + k, jxcell B ad ac (S.1, S.2.1, jxu S.2.2 k j v) k kd) H1) : jxPh B ad ac D (S.1, S.2.1, jxu S.2.2 k j v) H1 := by
  intro k1 kd1 hk1
  by_cases e : k1 = k
  · subst e
    have : kd1 = kd := Option.some.inj (hk1.symm.trans hk)
    subst this
    exact hn
  · have hc : jxcell B ad ac (S.1, S.2.1, jxu S.2.2 k j v) k1 kd1 = jxcell B ad ac S k1 kd1 :=
      jxcell_congr (fun _ => rfl) (fun j1 => jxu_ne e j1) (fun _ _ _ _ _ => rfl)
    rw [hc]
    exact (hP k1 kd1 hk1).kept (oq _ (by show B + k1 ≠ B + k; omega))
/-- a whole number written into a row of a grid -/
theorem jxPh_g {g a j n m : Nat} {w : List Nat} {v : Int} (hP : jxPh B ad ac D S H) (hok : jxokS S) (hg : S.1[g]? = some (5, n, m :: w)) (ha : a < n) (hj : j < m) (oq : ∀ q : Nat, q ≠ B + (g + 1 + a) → H1[q]? = H[q]?)
    (hn : H1[B + (g + 1 + a)]? = some (vp_cell (ac 1) (m, .inl (upd (fun j => Int32.ofInt (S.2.1 g (a * m + j))) j (Int32.ofInt v))))) : jxPh B ad ac D (S.1, jxu S.2.1 g (a * m + j) v, S.2.2) H1 := by
  have hrow := hok.2.2.2.2.1 g n m w hg a ha
  intro k1 kd1 hk1
  by_cases e6 : ∃ i, kd1 = (6, m, [g, i])
  · obtain ⟨i, rfl⟩ := e6
    obtain ⟨n2, w2, hg2, hi, hk⟩ := hok.2.2.2.2.2.1 k1 m g i hk1
    rw [hg] at hg2
    cases hg2
    by_cases e : i = a
    · subst e
      subst hk
      show H1[B + (g + 1 + i)]? = some (vp_cell _ _)
      rw [hn]
      congr 1
      refine jx_vext (fun q hq => ?_)
      show upd _ j _ q = Int32.ofInt (jxu S.2.1 g (i * m + j) v g (i * m + q))
      by_cases hqj : q = j
      · subst hqj
        simp [upd, jxu]
      · simp [upd, jxu, hqj]
    · have h0 := hP k1 _ hk1
      have h1 : H1[B + k1]? = some (vp_cell (ac 1) (m, .inl (fun q => Int32.ofInt (S.2.1 g (i * m + q))))) := (oq _ (by omega)).trans h0
      show H1[B + k1]? = some (vp_cell _ _)
      rw [h1]
      congr 1
      refine jx_vext (fun q hq => ?_)
      show Int32.ofInt (S.2.1 g (i * m + q)) = Int32.ofInt (jxu S.2.1 g (a * m + j) v g (i * m + q))
      have hne : i * m + q ≠ a * m + j := by
        intro h9
        rcases Nat.lt_or_gt_of_ne e with h8 | h8
        · have : (i + 1) * m ≤ a * m := Nat.mul_le_mul_right m h8
          rw [Nat.add_mul] at this
          omega
        · have : (a + 1) * m ≤ i * m := Nat.mul_le_mul_right m h8
          rw [Nat.add_mul] at this
          omega
      simp [jxu, hne]
  · have hne : k1 ≠ g + 1 + a := fun e => e6 ⟨a, by subst e; exact Option.some.inj (hk1.symm.trans hrow)⟩
    by_cases ek : k1 = g
    · subst ek
      rw [hg] at hk1
      cases hk1
      exact (hP k1 _ hg).kept (oq _ (by show B + k1 ≠ _; omega))
    · have hc : jxcell B ad ac (S.1, jxu S.2.1 g (a * m + j) v, S.2.2) k1 kd1 = jxcell B ad ac S k1 kd1 := by
        refine jxcell_congr (fun j1 => jxu_ne ek j1) (fun _ => rfl) (fun m2 g2 i2 hkd j1 => jxu_ne (fun eg => ?_) j1)
        subst hkd
        subst eg
        obtain ⟨n2, w2, hg2, -⟩ := hok.2.2.2.2.2.1 k1 m2 g2 i2 hk1
        rw [hg] at hg2
        cases hg2
        exact e6 ⟨i2, rfl⟩
      rw [hc]
      exact (hP k1 kd1 hk1).kept (oq _ (by show B + k1 ≠ _; omega))
/-- a reference written into a field -/
theorem jxPh_r {k : Nat} {ci : Nat} {rs rs1 : List Nat} (hP : jxPh B ad ac D S H) (hk : S.1[k]? = some (0, ci, rs)) (oq : ∀ q : Nat, q ≠ B + k → H1[q]? = H[q]?)
    (hn : va_at D vwCl (B + k, jxcell B ad ac S k (0, ci, rs1)) H1) : jxPh B ad ac D (S.1.set k (0, ci, rs1), S.2) H1 := by
  intro k1 kd1 hk1
  have hl := jx_lt_of hk
  by_cases e : k1 = k
  · subst e
    have h9 : (S.1.set k1 (0, ci, rs1))[k1]? = some kd1 := hk1
    rw [List.getElem?_set_self hl] at h9
    cases h9
    exact hn
  · have h9 : (S.1.set k (0, ci, rs1))[k1]? = some kd1 := hk1
    rw [List.getElem?_set_ne (Ne.symm e)] at h9
    exact (hP k1 kd1 h9).kept (oq _ (by show B + k1 ≠ B + k; omega))
theorem jxokS_r {k : Nat} {ci : Nat} {rs rs1 : List Nat} (hok : jxokS S) (hk : S.1[k]? = some (0, ci, rs)) : jxokS (S.1.set k (0, ci, rs1), S.2) := by
  have hl := jx_lt_of hk
  obtain ⟨h1, h2, h3, h4, h5, h6, h7⟩ := hok
  have key : ∀ (x : Nat) (t n : Nat) (w : List Nat), t ≠ 0 → ((S.1.set k (0, ci, rs1))[x]? = some (t, n, w) ↔ S.1[x]? = some (t, n, w)) := by
    intro x t n w ht
    by_cases e : x = k
    · subst e
      rw [List.getElem?_set_self hl, hk]
      constructor <;> intro h <;> cases h <;> exact absurd rfl ht
    · rw [List.getElem?_set_ne (Ne.symm e)]
  refine ⟨by simpa using h1, h2, h3, fun k1 j1 hk1 => h4 k1 j1 (by simpa using hk1), fun g n m w hg i hi => ?_, fun k1 m g i hk1 => ?_, fun k1 t n w hk1 => ?_⟩
  · exact (key _ _ _ _ (by decide)).mpr (h5 g n m w ((key _ _ _ _ (by decide)).mp hg) i hi)
  · obtain ⟨n, w, q1, q2⟩ := h6 k1 m g i ((key _ _ _ _ (by decide)).mp hk1)
    exact ⟨n, w, (key _ _ _ _ (by decide)).mpr q1, q2⟩
  · by_cases ht : t = 0
    · subst ht
      refine ⟨by omega, fun h => by omega, ?_⟩
      by_cases e : k1 = k
      · subst e
        have h9 : (S.1.set k1 (0, ci, rs1))[k1]? = some (0, n, w) := hk1
        rw [List.getElem?_set_self hl] at h9
        cases h9
        exact (h7 k1 0 _ rs hk).2.2
      · have h9 : (S.1.set k (0, ci, rs1))[k1]? = some (0, n, w) := hk1
        rw [List.getElem?_set_ne (Ne.symm e)] at h9
        exact (h7 k1 0 n w h9).2.2
    · exact h7 k1 t n w ((key _ _ _ _ ht).mp hk1)
/-- cells made -/
theorem jxPh_new {K : List jxK} (hP : jxPh B ad ac D S H) (oq : ∀ q : Nat, q < H.size → H1[q]? = H[q]?) (hz : H.size = B + S.1.length)
    (hn : ∀ (i : Nat) (kd : jxK), K[i]? = some kd → va_at D vwCl (B + (S.1.length + i), jxcell B ad ac (S.1 ++ K, S.2) (S.1.length + i) kd) H1) : jxPh B ad ac D (S.1 ++ K, S.2) H1 := by
  intro k1 kd1 hk1
  have h9 : (S.1 ++ K)[k1]? = some kd1 := hk1
  by_cases hl : k1 < S.1.length
  · rw [List.getElem?_append_left hl] at h9
    have hc : jxcell B ad ac (S.1 ++ K, S.2) k1 kd1 = jxcell B ad ac S k1 kd1 := jxcell_congr (fun _ => rfl) (fun _ => rfl) (fun _ _ _ _ _ => rfl)
    rw [hc]
    exact (hP k1 kd1 h9).kept (oq _ (by show B + k1 < H.size; omega))
  · rw [List.getElem?_append_right (by omega)] at h9
    have := hn (k1 - S.1.length) kd1 h9
    rw [show S.1.length + (k1 - S.1.length) = k1 by omega] at this
    exact this
theorem jxokS_new1 {kd : jxK} (hok : jxokS S) (hl : S.1.length + 1 ≤ 1000) (hk : kd.1 < 5) (hn : kd.2.1 ≤ 100000) : jxokS (S.1 ++ [kd], S.2) := by
  obtain ⟨h1, h2, h3, h4, h5, h6, h7⟩ := hok
  have key : ∀ (x : Nat) (t n : Nat) (w : List Nat), 5 ≤ t → ((S.1 ++ [kd])[x]? = some (t, n, w) → S.1[x]? = some (t, n, w)) := by
    intro x t n w ht h
    by_cases e : x < S.1.length
    · rwa [List.getElem?_append_left e] at h
    · rw [List.getElem?_append_right (by omega)] at h
      have : kd = (t, n, w) := by
        by_cases e2 : x - S.1.length = 0
        · rw [e2] at h; exact Option.some.inj h
        · rw [List.getElem?_eq_none (by simp; omega)] at h; cases h
      rw [this] at hk
      omega
  have key2 : ∀ (x : Nat) (q : jxK), S.1[x]? = some q → (S.1 ++ [kd])[x]? = some q := fun x q h => by rw [List.getElem?_append_left (jx_lt_of h)]; exact h
  refine ⟨by simpa using hl, h2, h3, fun k1 j1 hk1 => h4 k1 j1 (by simp at hk1; omega), fun g n m w hg i hi => ?_, fun k1 m g i hk1 => ?_, fun k1 t n w hk1 => ?_⟩
  · exact key2 _ _ (h5 g n m w (key _ _ _ _ (by omega) hg) i hi)
  · obtain ⟨n, w, q1, q2⟩ := h6 k1 m g i (key _ _ _ _ (by omega) hk1)
    exact ⟨n, w, key2 _ _ q1, q2⟩
  · by_cases ht : 5 ≤ t
    · exact h7 k1 t n w (key _ _ _ _ ht hk1)
    · refine ⟨by omega, fun h => by omega, ?_⟩
      have h9 : (S.1 ++ [kd])[k1]? = some (t, n, w) := hk1
      by_cases e : k1 < S.1.length
      · rw [List.getElem?_append_left e] at h9
        exact (h7 k1 t n w h9).2.2
      · rw [List.getElem?_append_right (by omega)] at h9
        by_cases e2 : k1 - S.1.length = 0
        · rw [e2] at h9
          have : kd = (t, n, w) := Option.some.inj h9
          rw [this] at hn
          exact hn
        · rw [List.getElem?_eq_none (by simp; omega)] at h9
          cases h9
theorem jxokS_newg {n m : Nat} (hok : jxokS S) (hl : S.1.length + 1 + n ≤ 1000) (hm : m ≤ 100000) : jxokS (S.1 ++ ((5, n, [m]) :: (List.range n).map (fun i => (6, m, [S.1.length, i]))), S.2) := by
  obtain ⟨h1, h2, h3, h4, h5, h6, h7⟩ := hok
  have key2 : ∀ (x : Nat) (q : jxK), S.1[x]? = some q → (S.1 ++ ((5, n, [m]) :: (List.range n).map (fun i => (6, m, [S.1.length, i]))))[x]? = some q := fun x q h => by rw [List.getElem?_append_left (jx_lt_of h)]; exact h
  have key : ∀ (x : Nat) (q : jxK), (S.1 ++ ((5, n, [m]) :: (List.range n).map (fun i => (6, m, [S.1.length, i]))))[x]? = some q → S.1[x]? = some q ∨ (x = S.1.length ∧ q = (5, n, [m])) ∨ ∃ i, i < n ∧ x = S.1.length + 1 + i ∧ q = (6, m, [S.1.length, i]) := by
    intro x q h
    by_cases e : x < S.1.length
    · rw [List.getElem?_append_left e] at h
      exact Or.inl h
    · rw [List.getElem?_append_right (by omega)] at h
      by_cases e2 : x - S.1.length = 0
      · rw [e2] at h
        cases h
        exact Or.inr (Or.inl ⟨by omega, rfl⟩)
      · obtain ⟨y, hy⟩ : ∃ y, x - S.1.length = y + 1 := ⟨x - S.1.length - 1, by omega⟩
        rw [hy, List.getElem?_cons_succ, List.getElem?_map] at h
        by_cases hyn : y < n
        · rw [List.getElem?_range hyn] at h
          cases h
          exact Or.inr (Or.inr ⟨y, hyn, by omega, rfl⟩)
        · rw [List.getElem?_eq_none (by simp; omega)] at h
          cases h
  refine ⟨by simp; omega, h2, h3, fun k1 j1 hk1 => h4 k1 j1 (by simp at hk1; omega), fun g n1 m1 w hg i hi => ?_, fun k1 m1 g i hk1 => ?_, fun k1 t n1 w hk1 => ?_⟩
  · rcases key _ _ hg with h | ⟨rfl, h⟩ | ⟨j, hj, -, h⟩
    · exact key2 _ _ (h5 g n1 m1 w h i hi)
    · cases h
      show (S.1 ++ _)[_]? = _
      rw [List.getElem?_append_right (by omega), show S.1.length + 1 + i - S.1.length = i + 1 by omega, List.getElem?_cons_succ, List.getElem?_map, List.getElem?_range hi]
      rfl
    · cases h
  · rcases key _ _ hk1 with h | ⟨rfl, h⟩ | ⟨j, hj, hx, h⟩
    · obtain ⟨n2, w2, q1, q2⟩ := h6 k1 m1 g i h
      exact ⟨n2, w2, key2 _ _ q1, q2⟩
    · cases h
    · cases h
      refine ⟨n, [], ?_, hj, hx⟩
      show (S.1 ++ _)[_]? = _
      rw [List.getElem?_append_right (by omega), Nat.sub_self]
      rfl
  · rcases key _ _ hk1 with h | ⟨rfl, h⟩ | ⟨j, hj, hx, h⟩
    · exact h7 k1 t n1 w h
    · cases h; exact ⟨by omega, fun h => by omega, by omega⟩
    · cases h; exact ⟨by omega, fun _ => ⟨_, _, rfl⟩, hm⟩
end JX2
