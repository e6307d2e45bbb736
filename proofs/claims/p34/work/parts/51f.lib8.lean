/-! texts: what both readers see, over the bytes f (0 to 255) and their number n -/
def SKf (f : Nat → Int) (n : Nat) : Nat → Nat → Nat
  | 0, p => p
  | k + 1, p => if p < n ∧ f p = 32 then SKf f n k (p + 1) else p
def SK (f : Nat → Int) (n p : Nat) : Nat := SKf f n (n - p) p
theorem SK_step {f : Nat → Int} {n p : Nat} (h : p < n) (h2 : f p = 32) : SK f n p = SK f n (p + 1) := by
  unfold SK
  rw [show n - p = (n - (p + 1)) + 1 by omega]
  show (if p < n ∧ f p = 32 then _ else _) = _
  rw [if_pos ⟨h, h2⟩]
theorem SK_end {f : Nat → Int} {n p : Nat} (h : n ≤ p) : SK f n p = p := by
  unfold SK
  rw [show n - p = 0 by omega]
  rfl
theorem SK_stay {f : Nat → Int} {n p : Nat} (h : ¬ f p = 32) : SK f n p = p := by
  unfold SK
  cases n - p with
  | zero => rfl
  | succ k =>
    show (if p < n ∧ f p = 32 then _ else _) = _
    rw [if_neg (fun q => h q.2)]
theorem SKf_sp (f : Nat → Int) (n : Nat) : ∀ k p, k = n - p → p ≤ SKf f n k p ∧ (p ≤ n → SKf f n k p ≤ n) ∧ (n ≤ SKf f n k p ∨ ¬ f (SKf f n k p) = 32) ∧ (∀ j, p ≤ j → j < SKf f n k p → f j = 32)
  | 0, p, h => ⟨Nat.le_refl _, fun q => q, Or.inl (by show n ≤ p; omega), fun j h1 h2 => absurd h2 (by show ¬ j < p; omega)⟩
  | k + 1, p, h => by
    show p ≤ (if p < n ∧ f p = 32 then _ else _) ∧ (p ≤ n → (if p < n ∧ f p = 32 then _ else _) ≤ n) ∧ (n ≤ (if p < n ∧ f p = 32 then _ else _) ∨ ¬ f (if p < n ∧ f p = 32 then _ else _) = 32) ∧ (∀ j, p ≤ j → j < (if p < n ∧ f p = 32 then _ else _) → f j = 32)
    by_cases hc : p < n ∧ f p = 32
    · rw [if_pos hc]
      obtain ⟨h1, h2, h3, h4⟩ := SKf_sp f n k (p + 1) (by omega)
      refine ⟨by omega, fun _ => h2 (by omega), h3, fun j hj1 hj2 => ?_⟩
      by_cases e : j = p
      · rw [e]; exact hc.2
      · exact h4 j (by omega) hj2
    · rw [if_neg hc]
      exact ⟨Nat.le_refl _, fun q => q, Or.inr (fun q => hc ⟨by omega, q⟩), fun j h1 h2 => absurd h2 (by omega)⟩
theorem SK_sp (f : Nat → Int) (n p : Nat) : p ≤ SK f n p ∧ (p ≤ n → SK f n p ≤ n) ∧ (n ≤ SK f n p ∨ ¬ f (SK f n p) = 32) ∧ (∀ j, p ≤ j → j < SK f n p → f j = 32) := SKf_sp f n (n - p) p rfl
theorem SK_idem (f : Nat → Int) (n p : Nat) : SK f n (SK f n p) = SK f n p := by
  rcases (SK_sp f n p).2.2.1 with h | h
  · exact SK_end h
  · exact SK_stay h
/-- a letter stands at p -/
def LT (f : Nat → Int) (n p : Nat) : Prop := p < n ∧ 97 ≤ f p ∧ f p ≤ 122
/-- the words, by number -/
def wdl (w : Nat) : List Int := match w with
  | 0 => [111, 114]
  | 1 => [97, 110, 100]
  | 2 => [110, 111, 116]
  | 3 => [108, 97, 110, 100]
  | 4 => [116, 111, 110, 103, 117, 101]
  | 5 => [115, 104, 97, 114, 101, 100]
  | 6 => [102, 97, 114]
  | 7 => [110, 101, 97, 114]
  | 8 => [111, 108, 100]
  | 9 => [97, 110, 121]
  | 10 => [117, 110, 100, 101, 114]
  | 11 => [109, 111, 114, 101]
  | 12 => [115, 108, 97, 99, 107]
  | 13 => [108, 111, 115, 116]
  | 14 => [115, 116, 114, 105, 99, 116]
  | 15 => [122, 111, 110, 101]
  | _ => []
def wdn (w : Nat) : Nat := (wdl w).length
/-- word w stands at p, and no letter behind it -/
def TW (f : Nat → Int) (n p w : Nat) : Prop := p + wdn w ≤ n ∧ (∀ k, k < wdn w → f (p + k) = (wdl w).getD k 0) ∧ ¬ LT f n (p + wdn w)
theorem wdl_lt : ∀ w, w < 16 → ∀ k, k < wdn w → 97 ≤ (wdl w).getD k 0 ∧ (wdl w).getD k 0 ≤ 122 := by decide +kernel
theorem wdn_bd : ∀ w, w < 16 → 2 ≤ wdn w ∧ wdn w ≤ 6 := by decide +kernel
theorem wdl_ne : ∀ w, w < 16 → ∀ v, v < 16 → wdn w = wdn v → (∀ k, k < wdn w → (wdl w).getD k 0 = (wdl v).getD k 0) → w = v := by decide +kernel
theorem TW_len {f : Nat → Int} {n p w v : Nat} (hw : w < 16) (hv : v < 16) (h : TW f n p w) (h2 : TW f n p v) : wdn w = wdn v := by
  rcases Nat.lt_trichotomy (wdn w) (wdn v) with q | q | q
  · refine absurd ⟨by have := h2.1; omega, ?_⟩ h.2.2
    rw [h2.2.1 _ q]
    exact wdl_lt v hv _ q
  · exact q
  · refine absurd ⟨by have := h.1; omega, ?_⟩ h2.2.2
    rw [h.2.1 _ q]
    exact wdl_lt w hw _ q
theorem TW_one {f : Nat → Int} {n p w v : Nat} (hw : w < 16) (hv : v < 16) (h : TW f n p w) (h2 : TW f n p v) : w = v := by
  have e := TW_len hw hv h h2
  refine wdl_ne w hw v hv e (fun k hk => ?_)
  rw [← h.2.1 k hk, h2.2.1 k (by omega)]
/-- a digit stands at p -/
def DG (f : Nat → Int) (n p : Nat) : Prop := p < n ∧ 48 ≤ f p ∧ f p ≤ 57
theorem ch_ext {f : Nat → Int} {w p : Nat} {y : Int} (h : ∀ k : Nat, (k : Int) < y → f (p + k) = (wdl w).getD k 0) (hy : 0 ≤ y) {q : Nat} (hq : q = p + y.toNat) {v : Int} (hv : f q = v) (hv2 : v = (wdl w).getD y.toNat 0) : ∀ k : Nat, (k : Int) < y + 1 → f (p + k) = (wdl w).getD k 0 := by
  intro k hk
  rcases Int.lt_or_le (k : Int) y with h1 | h1
  · exact h k h1
  · have e : k = y.toNat := by omega
    rw [e, ← hq, hv, hv2]
theorem TW_no {f : Nat → Int} {n p w : Nat} {y : Int} (hy : 0 ≤ y) (hl : y < (wdn w : Int)) {q : Nat} (hq : q = p + y.toNat) {v : Int} (hv2 : v = (wdl w).getD y.toNat 0) (hne : ¬ f q = v) : ¬ TW f n p w := fun h => hne (by rw [hq, h.2.1 y.toNat (by omega), hv2])
theorem TW_short {f : Nat → Int} {n p w : Nat} (h : n < p + wdn w) : ¬ TW f n p w := fun q => absurd q.1 (by omega)
theorem TW_let {f : Nat → Int} {n p w q : Nat} (hq : q = p + wdn w) (h : LT f n q) : ¬ TW f n p w := fun t => t.2.2 (hq ▸ h)
theorem TW_mk {f : Nat → Int} {n p w q : Nat} (hq : q = p + wdn w) (hn : q ≤ n) (h : ∀ k : Nat, (k : Int) < (wdn w : Int) → f (p + k) = (wdl w).getD k 0) (hl : ¬ LT f n q) : TW f n p w := ⟨by omega, fun k hk => h k (by omega), hq ▸ hl⟩
theorem LT_no1 {f : Nat → Int} {n p : Nat} (h : n ≤ p ∨ f p < 97 ∨ 122 < f p) : ¬ LT f n p := fun t => by
  obtain ⟨t1, t2, t3⟩ := t
  omega
/-! numbers -/
def DEf (f : Nat → Int) (n : Nat) : Nat → Nat → Nat
  | 0, p => p
  | k + 1, p => if p < n ∧ 48 ≤ f p ∧ f p ≤ 57 then DEf f n k (p + 1) else p
def DE (f : Nat → Int) (n p : Nat) : Nat := DEf f n (n - p) p
theorem DEf_sp (f : Nat → Int) (n : Nat) : ∀ k p, k = n - p → p ≤ DEf f n k p ∧ (p ≤ n → DEf f n k p ≤ n) ∧ ¬ DG f n (DEf f n k p) ∧ (∀ j, p ≤ j → j < DEf f n k p → DG f n j)
  | 0, p, h => ⟨Nat.le_refl _, fun q => q, fun q => absurd q.1 (by show ¬ p < n; omega), fun j h1 h2 => absurd h2 (by show ¬ j < p; omega)⟩
  | k + 1, p, h => by
    show p ≤ (if p < n ∧ 48 ≤ f p ∧ f p ≤ 57 then _ else _) ∧ (p ≤ n → (if p < n ∧ 48 ≤ f p ∧ f p ≤ 57 then _ else _) ≤ n) ∧ ¬ DG f n (if p < n ∧ 48 ≤ f p ∧ f p ≤ 57 then _ else _) ∧ (∀ j, p ≤ j → j < (if p < n ∧ 48 ≤ f p ∧ f p ≤ 57 then _ else _) → DG f n j)
    by_cases hc : p < n ∧ 48 ≤ f p ∧ f p ≤ 57
    · rw [if_pos hc]
      obtain ⟨h1, h2, h3, h4⟩ := DEf_sp f n k (p + 1) (by omega)
      refine ⟨by omega, fun _ => h2 (by omega), h3, fun j hj1 hj2 => ?_⟩
      by_cases e : j = p
      · rw [e]; exact hc
      · exact h4 j (by omega) hj2
    · rw [if_neg hc]
      exact ⟨Nat.le_refl _, fun q => q, hc, fun j h1 h2 => absurd h2 (by omega)⟩
theorem DE_sp (f : Nat → Int) (n p : Nat) : p ≤ DE f n p ∧ (p ≤ n → DE f n p ≤ n) ∧ ¬ DG f n (DE f n p) ∧ (∀ j, p ≤ j → j < DE f n p → DG f n j) := DEf_sp f n (n - p) p rfl
theorem DE_un {f : Nat → Int} {n p q : Nat} (h1 : p ≤ q) (h2 : ∀ j, p ≤ j → j < q → DG f n j) (h3 : ¬ DG f n q) : DE f n p = q := by
  obtain ⟨a1, _, a3, a4⟩ := DE_sp f n p
  rcases Nat.lt_trichotomy (DE f n p) q with h | h | h
  · exact absurd (h2 _ a1 h) a3
  · exact h
  · exact absurd (a4 _ h1 h) h3
/-- the value of the first three of m digits from p on -/
def DV (f : Nat → Int) (p : Nat) : Nat → Int
  | 0 => 0
  | m + 1 => if m < 3 then DV f p m * 10 + f (p + m) - 48 else DV f p m
def NV (f : Nat → Int) (n p : Nat) : Int := DV f p (DE f n p - p)
/-- the fault of a number at p that is to be from lo to hi; 0: none -/
def NF (f : Nat → Int) (n p : Nat) (lo hi : Int) : Int := if DE f n p = p then 1 + 8 * (p : Int) else if 3 < DE f n p - p ∨ NV f n p < lo ∨ hi < NV f n p then 2 + 8 * (p : Int) else 0
theorem DV_lt {f : Nat → Int} {p m : Nat} (h : m < 3) : DV f p (m + 1) = DV f p m * 10 + f (p + m) - 48 := if_pos h
theorem DV_ge {f : Nat → Int} {p m : Nat} (h : ¬ m < 3) : DV f p (m + 1) = DV f p m := if_neg h
theorem DV_bd {f : Nat → Int} {n p : Nat} : ∀ {m : Nat}, (∀ k, k < m → DG f n (p + k)) → 0 ≤ DV f p m ∧ DV f p m ≤ 999 ∧ (m ≤ 2 → DV f p m ≤ 99) ∧ (m ≤ 1 → DV f p m ≤ 9) ∧ (m = 0 → DV f p m = 0)
  | 0, _ => ⟨Int.le_refl _, by show (0 : Int) ≤ 999; omega, fun _ => by show (0 : Int) ≤ 99; omega, fun _ => by show (0 : Int) ≤ 9; omega, fun _ => rfl⟩
  | m + 1, h => by
    obtain ⟨h1, h2, h3, h4, h5⟩ := DV_bd (m := m) (fun k hk => h k (by omega))
    obtain ⟨q1, q2, q3⟩ := h m (by omega)
    by_cases hm : m < 3
    · rw [DV_lt hm]
      refine ⟨by omega, ?_, fun _ => ?_, fun _ => ?_, fun _ => by omega⟩
      · have := h3 (by omega); omega
      · have := h4 (by omega); omega
      · have := h5 (by omega); omega
    · rw [DV_ge hm]
      exact ⟨h1, h2, fun _ => by omega, fun _ => by omega, fun _ => by omega⟩
theorem dg_ext {f : Nat → Int} {n p : Nat} {y y2 : Int} (h : ∀ j : Nat, p ≤ j → (j : Int) < y → DG f n j) (h2 : DG f n y.toNat) (hy : 0 ≤ y) (e : y2 = y + 1) : ∀ j : Nat, p ≤ j → (j : Int) < y2 → DG f n j := by
  intro j h1 h3
  rcases Int.lt_or_le (j : Int) y with q | q
  · exact h j h1 q
  · rw [show j = y.toNat by omega]
    exact h2
/-! the reference's bytes, unsigned -/
def UB (g : Nat → Int) (j : Nat) : Int := jxand (g j) 255
theorem UB_all : ∀ n : Nat, n < 256 → jxand ((n : Int) - 128) 255 = if (n : Int) - 128 < 0 then (n : Int) - 128 + 256 else (n : Int) - 128 := by decide +kernel
theorem UB_sp {g : Nat → Int} {j : Nat} (h0 : -128 ≤ g j) (h1 : g j ≤ 127) : (0 ≤ g j ∧ UB g j = g j) ∨ (g j < 0 ∧ UB g j = g j + 256) := by
  have h := UB_all (g j + 128).toNat (by omega)
  rw [show (((g j + 128).toNat : Nat) : Int) - 128 = g j by omega] at h
  unfold UB
  rw [h]
  by_cases hc : g j < 0
  · rw [if_pos hc]; exact Or.inr ⟨hc, rfl⟩
  · rw [if_neg hc]; exact Or.inl ⟨by omega, rfl⟩
theorem SK_un {f : Nat → Int} {n p q : Nat} (h1 : p ≤ q) (h2 : ∀ j, p ≤ j → j < q → j < n ∧ f j = 32) (h3 : ¬ (q < n ∧ f q = 32)) : SK f n p = q := by
  obtain ⟨a1, a2, a3, a4⟩ := SK_sp f n p
  rcases Nat.lt_trichotomy (SK f n p) q with h | h | h
  · have := h2 _ a1 h
    omega
  · exact h
  · have h5 := a4 _ h1 h
    by_cases hp : p ≤ n
    · exact absurd ⟨by have := a2 hp; omega, h5⟩ h3
    · rw [SK_end (by omega)] at h; omega
/-! clauses of rates -/
/-- of the pairs (z k, g k), k below m, the last one with z k = v: its g; 0: none -/
def LG (z g : Nat → Int) (v : Int) : Nat → Int
  | 0 => 0
  | k + 1 => if z k = v then g k else LG z g v k
theorem LG_eq {z g z2 g2 : Nat → Int} {v : Int} : ∀ {m : Nat}, (∀ k, k < m → z k = z2 k ∧ g k = g2 k) → LG z g v m = LG z2 g2 v m
  | 0, _ => rfl
  | m + 1, h => by
    show (if z m = v then g m else LG z g v m) = (if z2 m = v then g2 m else LG z2 g2 v m)
    rw [(h m (by omega)).1, (h m (by omega)).2, LG_eq (fun k hk => h k (by omega))]
theorem LG_s1 {z g : Nat → Int} {v : Int} {m : Nat} (h : z m = v) : LG z g v (m + 1) = g m := if_pos h
theorem LG_s2 {z g : Nat → Int} {v : Int} {m : Nat} (h : ¬ z m = v) : LG z g v (m + 1) = LG z g v m := if_neg h
theorem LG_bd {z g : Nat → Int} {v u : Int} (hu : 0 ≤ u) : ∀ {m : Nat}, (∀ k, k < m → 0 ≤ g k ∧ g k ≤ u) → 0 ≤ LG z g v m ∧ LG z g v m ≤ u
  | 0, _ => ⟨Int.le_refl _, hu⟩
  | m + 1, h => by
    show 0 ≤ (if z m = v then g m else LG z g v m) ∧ (if z m = v then g m else LG z g v m) ≤ u
    by_cases hc : z m = v
    · rw [if_pos hc]; exact h m (by omega)
    · rw [if_neg hc]; exact LG_bd hu (fun k hk => h k (by omega))
/-- places in a clause at p: of its numbers, and behind it -/
def C1 (f : Nat → Int) (n p : Nat) : Nat := SK f n (p + 4)
def C2 (f : Nat → Int) (n p : Nat) : Nat := SK f n (DE f n (C1 f n p))
def C3 (f : Nat → Int) (n p : Nat) : Nat := SK f n (DE f n (C2 f n p))
def C4 (f : Nat → Int) (n p : Nat) : Nat := SK f n (DE f n (C3 f n p))
/-- the fault of the clause number c at p, when the grams of its zone are last so far; 0: none -/
noncomputable def CF (f : Nat → Int) (n p : Nat) (c last : Int) : Int :=
  @ite Int (TW f n p 15) (Classical.propDecidable _) (if 12 ≤ c then 3 + 8 * (p : Int) else if ¬ NF f n (C1 f n p) 0 3 = 0 then NF f n (C1 f n p) 0 3 else if ¬ NF f n (C2 f n p) (last + 1) 500 = 0 then NF f n (C2 f n p) (last + 1) 500 else NF f n (C3 f n p) 1 900) (1 + 8 * (p : Int))
theorem NF_pos (f : Nat → Int) (n p : Nat) (lo hi : Int) : 0 ≤ NF f n p lo hi := by
  unfold NF
  split
  · omega
  · split <;> omega
theorem NF_ok {f : Nat → Int} {n p : Nat} {lo hi : Int} (h : NF f n p lo hi = 0) : lo ≤ NV f n p ∧ NV f n p ≤ hi ∧ ¬ DE f n p = p := by
  unfold NF at h
  split at h
  · omega
  · rename_i q
    split at h
    · omega
    · exact ⟨by omega, by omega, q⟩
/-- the places where clauses begin -/
def CP (f : Nat → Int) (n : Nat) : Nat → Nat
  | 0 => SK f n 0
  | k + 1 => SK f n (C4 f n (CP f n k) + 1)
def CZ (f : Nat → Int) (n k : Nat) : Int := NV f n (C1 f n (CP f n k))
def CG (f : Nat → Int) (n k : Nat) : Int := NV f n (C2 f n (CP f n k))
def CC (f : Nat → Int) (n k : Nat) : Int := NV f n (C3 f n (CP f n k))
noncomputable def CFk (f : Nat → Int) (n k : Nat) : Int := CF f n (CP f n k) k (LG (CZ f n) (CG f n) (CZ f n k) k)
/-- clause k stands, and a ';' behind it -/
def CS (f : Nat → Int) (n k : Nat) : Prop := CFk f n k = 0 ∧ C4 f n (CP f n k) < n ∧ f (C4 f n (CP f n k)) = 59
/-- what the reading of rates comes to -/
def RTR (f : Nat → Int) (n : Nat) (r : Int) : Prop := ∃ m : Nat, (∀ k, k < m → CS f n k) ∧ ((¬ CFk f n m = 0 ∧ r = -2 - CFk f n m) ∨ (CFk f n m = 0 ∧ C4 f n (CP f n m) < n ∧ ¬ f (C4 f n (CP f n m)) = 59 ∧ r = -3 - 8 * (C4 f n (CP f n m) : Int)) ∨ (CFk f n m = 0 ∧ n ≤ C4 f n (CP f n m) ∧ r = m + 1))
theorem RTR_det {f : Nat → Int} {n : Nat} {r r2 : Int} (h : RTR f n r) (h2 : RTR f n r2) : r = r2 := by
  obtain ⟨m, a1, a2⟩ := h
  obtain ⟨m2, b1, b2⟩ := h2
  have e : m = m2 := by
    rcases Nat.lt_trichotomy m m2 with q | q | q
    · obtain ⟨c1, c2, c3⟩ := b1 m q
      rcases a2 with t | t | t
      · exact absurd c1 t.1
      · exact absurd c3 t.2.2.1
      · omega
    · exact q
    · obtain ⟨c1, c2, c3⟩ := a1 m2 q
      rcases b2 with t | t | t
      · exact absurd c1 t.1
      · exact absurd c3 t.2.2.1
      · omega
  subst e
  rcases a2 with t | t | t <;> rcases b2 with u | u | u
  · rw [t.2, u.2]
  · exact absurd u.1 t.1
  · exact absurd u.1 t.1
  · exact absurd t.1 u.1
  · rw [t.2.2.2, u.2.2.2]
  · omega
  · exact absurd t.1 u.1
  · omega
  · rw [t.2.2, u.2.2]
theorem NF_none {f : Nat → Int} {n p : Nat} {lo hi : Int} (h : ¬ DG f n p) : NF f n p lo hi = 1 + 8 * (p : Int) := by
  unfold NF
  rw [if_pos (DE_un (Nat.le_refl _) (fun j h1 h2 => absurd h2 (by omega)) h)]
theorem lt_ext {f : Nat → Int} {n p : Nat} {y y2 : Int} (h : ∀ k : Nat, (k : Int) < y → LT f n (p + k)) (h2 : LT f n (p + y.toNat)) (hy : 0 ≤ y) (e : y2 = y + 1) : ∀ k : Nat, (k : Int) < y2 → LT f n (p + k) := by
  intro k hk
  rcases Int.lt_or_le (k : Int) y with q | q
  · exact h k q
  · rw [show k = y.toNat by omega]
    exact h2
theorem no_ext {f : Nat → Int} {n p : Nat} {y y2 : Int} (h : ∀ v : Nat, (v : Int) < y → v < 16 → ¬ TW f n p v) (h2 : ¬ TW f n p y.toNat) (hy : 0 ≤ y) (e : y2 = y + 1) : ∀ v : Nat, (v : Int) < y2 → v < 16 → ¬ TW f n p v := by
  intro v hv h16
  rcases Int.lt_or_le (v : Int) y with q | q
  · exact h v q h16
  · rw [show v = y.toNat by omega]
    exact h2
theorem TW_run {f : Nat → Int} {n p w s : Nat} (hw : w < 16) (hl : ∀ k, k < s → LT f n (p + k)) (hnl : ¬ LT f n (p + s)) (h : TW f n p w) : wdn w = s := by
  rcases Nat.lt_trichotomy (wdn w) s with q | q | q
  · exact absurd (hl _ q) h.2.2
  · exact q
  · refine absurd ⟨by have := h.1; omega, ?_⟩ hnl
    rw [h.2.1 _ q]
    exact wdl_lt w hw _ q
theorem wd_val {w k : Nat} (hw : w < 16) (hk : k < 6) : jxwd (6 * w + k) = (wdl w).getD k 0 := by
  have h : ∀ w, w < 16 → ∀ k, k < 6 → jxwd (6 * w + k) = (wdl w).getD k 0 := by decide +kernel
  exact h w hw k hk
theorem wd_in {w k : Nat} (hw : w < 16) (hk : k < 6) : (k < wdn w ∧ ¬ jxwd (6 * w + k) = 0) ∨ (wdn w ≤ k ∧ jxwd (6 * w + k) = 0) := by
  have h : ∀ w, w < 16 → ∀ k, k < 6 → (k < wdn w ∧ ¬ jxwd (6 * w + k) = 0) ∨ (wdn w ≤ k ∧ jxwd (6 * w + k) = 0) := by decide +kernel
  exact h w hw k hk
theorem NF_two {f : Nat → Int} {n p : Nat} {last : Int} (h0 : 0 ≤ last) : NF f n p (last + 1) 500 = if ¬ NF f n p 1 500 = 0 then NF f n p 1 500 else if NV f n p ≤ last then 2 + 8 * (p : Int) else 0 := by
  unfold NF
  by_cases h1 : DE f n p = p
  · rw [if_pos h1, if_pos h1, if_pos (by omega)]
  · rw [if_neg h1, if_neg h1]
    by_cases h2 : 3 < DE f n p - p ∨ NV f n p < 1 ∨ 500 < NV f n p
    · rw [if_pos h2, if_pos (by omega), if_pos (by omega)]
    · have e1 : (if 3 < DE f n p - p ∨ NV f n p < 1 ∨ 500 < NV f n p then 2 + 8 * (p : Int) else 0) = 0 := if_neg h2
      rw [e1, if_neg (show ¬ ¬ (0 : Int) = 0 from fun h => h rfl)]
      by_cases h3 : NV f n p ≤ last
      · rw [if_pos h3]
        exact if_pos (by omega)
      · rw [if_neg h3]
        exact if_neg (by omega)
theorem CF_no {f : Nat → Int} {n p : Nat} {c last : Int} (h : ¬ TW f n p 15) : CF f n p c last = 1 + 8 * (p : Int) := by
  unfold CF
  rw [if_neg h]
theorem CF_12 {f : Nat → Int} {n p : Nat} {c last : Int} (h : TW f n p 15) (hc : 12 ≤ c) : CF f n p c last = 3 + 8 * (p : Int) := by
  unfold CF
  rw [if_pos h, if_pos hc]
theorem CF_go {f : Nat → Int} {n p : Nat} {c last : Int} (h : TW f n p 15) (hc : ¬ 12 ≤ c) : CF f n p c last = if ¬ NF f n (C1 f n p) 0 3 = 0 then NF f n (C1 f n p) 0 3 else if ¬ NF f n (C2 f n p) (last + 1) 500 = 0 then NF f n (C2 f n p) (last + 1) 500 else NF f n (C3 f n p) 1 900 := by
  unfold CF
  rw [if_pos h, if_neg hc]
theorem CF_pos (f : Nat → Int) (n p : Nat) (c last : Int) : 0 ≤ CF f n p c last := by
  unfold CF
  split
  · split
    · omega
    · split
      · exact NF_pos _ _ _ _ _
      · split
        · exact NF_pos _ _ _ _ _
        · exact NF_pos _ _ _ _ _
  · omega
theorem CF_big {f : Nat → Int} {n p : Nat} {c last : Int} (hc : 12 ≤ c) : ¬ CF f n p c last = 0 := by
  by_cases h : TW f n p 15
  · rw [CF_12 h hc]; omega
  · rw [CF_no h]; omega
/-- the class's rows of clauses: one more, or none -/
def RCU (a a1 : Nat → Nat → Int) (s i : Nat) (z g k m : Int) : Prop := UP (a 108) (a1 108) i z ∧ UP (a 119) (a1 119) i g ∧ UP (a 130) (a1 130) i k ∧ UP (a 107) (a1 107) s m
def RCS (a a1 : Nat → Nat → Int) : Prop := ∀ j, a1 108 j = a 108 j ∧ a1 119 j = a 119 j ∧ a1 130 j = a 130 j ∧ a1 107 j = a 107 j
/-- rows of the rates s hold the first m clauses of the text -/
def RWS (a : Nat → Nat → Int) (f : Nat → Int) (n s m : Nat) : Prop := ∀ k, k < m → a 108 (s * 12 + k) = CZ f n k ∧ a 119 (s * 12 + k) = CG f n k ∧ a 130 (s * 12 + k) = CC f n k
def LSa (a : Nat → Nat → Int) : Int := LG (fun c => a 108 ((a 105 5).toNat * 12 + c)) (fun c => a 119 ((a 105 5).toNat * 12 + c)) (NV (a 3) (a 2 1).toNat (C1 (a 3) (a 2 1).toNat (a 2 2).toNat)) (a 107 (a 105 5).toNat).toNat
theorem LSa_bd {a : Nat → Nat → Int} (h : iv a) : 0 ≤ LSa a ∧ LSa a ≤ 999 := LG_bd (by decide) (fun k _ => iv_get h (k := 119) (j := (a 105 5).toNat * 12 + k) (l := 0) (u := 999) rfl)
theorem LG_keep {z g z2 g2 : Nat → Int} {s c : Nat} {v1 v2 v : Int} (h1 : UP z z2 (s * 12 + c) v1) (h2 : UP g g2 (s * 12 + c) v2) : LG (fun k => z2 (s * 12 + k)) (fun k => g2 (s * 12 + k)) v c = LG (fun k => z (s * 12 + k)) (fun k => g (s * 12 + k)) v c :=
  LG_eq (fun k hk => ⟨by show z2 (s * 12 + k) = z (s * 12 + k); rw [h1, if_neg (by omega)], by show g2 (s * 12 + k) = g (s * 12 + k); rw [h2, if_neg (by omega)]⟩)
theorem CF_split (x1 x2 x3 : Int) : (if (if ¬ x1 = 0 then x1 else x2) = 0 then x3 else (if ¬ x1 = 0 then x1 else x2)) = if ¬ x1 = 0 then x1 else if ¬ x2 = 0 then x2 else x3 := by
  by_cases h1 : x1 = 0
  · rw [if_neg (show ¬ ¬ x1 = 0 from fun h => h h1), if_neg (show ¬ ¬ x1 = 0 from fun h => h h1)]
    by_cases h2 : x2 = 0
    · rw [if_pos h2, if_neg (fun h => h h2)]
    · rw [if_neg h2, if_pos h2]
  · rw [if_pos h1, if_neg h1, if_pos h1]
theorem NV_bd (f : Nat → Int) (n p : Nat) : 0 ≤ NV f n p ∧ NV f n p ≤ 999 := by
  obtain ⟨h1, _, _, h4⟩ := DE_sp f n p
  have h := DV_bd (f := f) (n := n) (p := p) (m := DE f n p - p) (fun k hk => h4 _ (by omega) (by omega))
  exact ⟨h.1, h.2.1⟩
theorem NF_two_ok {f : Nat → Int} {n p : Nat} {last : Int} (h0 : 0 ≤ last) (h : ¬ NV f n p ≤ last) : NF f n p (last + 1) 500 = NF f n p 1 500 := by
  rw [NF_two h0, if_neg h]
  split <;> omega
