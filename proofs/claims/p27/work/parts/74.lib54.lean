/-! rings, the reference: paths in a row, rings noted -/
def gR (a b : Nat → Nat → Int) (st : Nat → Int) (i j : Nat) : Bool := decide (f_X12_isKin a b (a 178 (st i).toNat) (a 178 (st j).toNat) = 0 ∧ jxand (jxshr (a 180 (st j).toNat) (a 179 (st i).toNat)) 1 = 1)
def kR (a b : Nat → Nat → Int) (st : Nat → Int) (i j : Nat) : Bool := decide (¬ f_X12_isKin a b (a 178 (st i).toNat) (a 178 (st j).toNat) = 0)
theorem isKin_symm (a b : Nat → Nat → Int) (x y : Int) : f_X12_isKin a b x y = 0 → f_X12_isKin a b y x = 0 := by
  unfold f_X12_isKin f_X12_isKin_at29 f_X12_isKin_at33
  intro h
  by_cases c1 : x = y
  · rw [if_pos c1] at h; exact absurd h (by decide)
  · rw [if_neg c1] at h
    rw [if_neg (fun z => c1 z.symm)]
    by_cases c2 : a 150 y.toNat < 0
    · rw [if_pos c2]
    · rw [if_neg c2]
      by_cases c3 : a 150 y.toNat = a 150 x.toNat
      · exfalso
        rw [if_neg (by omega), if_pos c3.symm] at h
        exact absurd h (by decide)
      · rw [if_neg c3]
theorem kR_self (a b : Nat → Nat → Int) (st : Nat → Int) (i : Nat) : kR a b st i i = true := by
  unfold kR
  refine decide_eq_true ?_
  unfold f_X12_isKin
  rw [if_pos rfl]
  show ¬ (1 : Int) = 0
  decide
theorem kR_symm {a b : Nat → Nat → Int} {st : Nat → Int} {i j : Nat} (h : kR a b st i j = false) : f_X12_isKin a b (a 178 (st i).toNat) (a 178 (st j).toNat) = 0 ∧ f_X12_isKin a b (a 178 (st j).toNat) (a 178 (st i).toNat) = 0 := by
  unfold kR at h
  have e := Classical.not_not.1 (of_decide_eq_false h)
  exact ⟨e, isKin_symm a b _ _ e⟩
def PLR (f : Nat → Int) (m : Nat) : List Nat := (List.range m).map (fun i => (f i).toNat)
theorem PLR_s (f : Nat → Int) (m : Nat) : PLR f (m + 1) = PLR f m ++ [(f m).toNat] := by
  unfold PLR
  rw [List.range_succ, List.map_append]
  rfl
theorem PLR_len (f : Nat → Int) (m : Nat) : (PLR f m).length = m := by
  unfold PLR
  rw [List.length_map, List.length_range]
theorem PLR_congr {f f2 : Nat → Int} {m : Nat} (h : ∀ i, i < m → f i = f2 i) : PLR f m = PLR f2 m := by
  unfold PLR
  refine List.map_congr_left (fun i hi => ?_)
  rw [h i (List.mem_range.1 hi)]
theorem PLR_mem {f : Nat → Int} {m x : Nat} : x ∈ PLR f m ↔ ∃ i, i < m ∧ (f i).toNat = x := by
  unfold PLR
  rw [List.mem_map]
  constructor
  · rintro ⟨i, a, b⟩; exact ⟨i, List.mem_range.1 a, b⟩
  · rintro ⟨i, a, b⟩; exact ⟨i, List.mem_range.2 a, b⟩
theorem PLR_head (f : Nat → Int) (m : Nat) : (PLR f (m + 1)).headD 0 = (f 0).toNat := by
  induction m with
  | zero => rfl
  | succ m ih =>
    rw [PLR_s, headD_app (by intro z; have := congrArg List.length z; rw [PLR_len] at this; cases this)]
    exact ih
theorem PLR_last (f : Nat → Int) (m : Nat) : (PLR f (m + 1)).getLastD 0 = (f m).toNat := by
  rw [PLR_s, lastD_app]
theorem goesTo_at {a b : Nat → Nat → Int} {i j : Nat} {x y : Int} (hx : x.toNat = i) (hy : y.toNat = j) (h : f_X12_isKin a b (a 178 (a 183 i).toNat) (a 178 (a 183 j).toNat) = 0) : gR a b (a 183) i j = true ↔ ¬ f_X12_goesTo a b x y = 0 := by
  unfold gR f_X12_goesTo f_X12_goesTo_at29 f_X12_goesTo_at33
  rw [decide_eq_true_eq, hx, hy]
  by_cases c : jxand (jxshr (a 180 (a 183 j).toNat) (a 179 (a 183 i).toNat)) 1 = 1
  · rw [if_pos c]
    exact ⟨fun _ => by decide, fun _ => ⟨h, c⟩⟩
  · rw [if_neg c]
    exact ⟨fun z => absurd z.2 c, fun z => absurd rfl z⟩
/-- what is left of the tail of a path's rings -/
def RTL (n : Nat) (g k : Nat → Nat → Bool) : Nat → List Nat → List (List Nat)
  | 0, _ => []
  | d + 1, P => rfrom n g k P (RGL n g k d) n
theorem RGL_RTL (n : Nat) (g k : Nat → Nat → Bool) (d : Nat) (P : List Nat) : RGL n g k d P = rone g P ++ RTL n g k d P := by
  cases d with
  | zero =>
    show rone g P = rone g P ++ []
    rw [List.append_nil]
  | succ d => rfl
theorem rfrom_head {n : Nat} {g k : Nat → Nat → Bool} {P : List Nat} {F : List Nat → List (List Nat)} (h : P.headD 0 + 1 ≤ n) : rfrom n g k P F n = rfrom n g k P F (n - (P.headD 0 + 1)) := by
  rw [rfrom_RUP h]
  have e : RUP n g k P F (P.headD 0 + 1) = [] := List.eq_nil_iff_forall_not_mem.2 (fun r => RUP_first (Nat.le_refl _) r)
  rw [e]
  rfl
def REMr (n : Nat) (g k : Nat → Nat → Bool) (f : Nat → Int) : Nat → List (List Nat)
  | 0 => []
  | m + 1 => rfrom n g k (PLR f (m + 1)) (RGL n g k (3 - m)) (n - ((f (m + 1)).toNat + 1)) ++ REMr n g k f m
theorem REMr_congr {n : Nat} {g k : Nat → Nat → Bool} {f f2 : Nat → Int} : ∀ {m : Nat}, (∀ i, i ≤ m → f i = f2 i) → REMr n g k f m = REMr n g k f2 m
  | 0, _ => rfl
  | m + 1, h => by
    have e := REMr_congr (n := n) (g := g) (k := k) (m := m) (fun i hi => h i (by omega))
    show rfrom n g k (PLR f (m + 1)) _ _ ++ _ = rfrom n g k (PLR f2 (m + 1)) _ _ ++ _
    rw [e, PLR_congr (f := f) (f2 := f2) (fun i hi => h i (by omega)), h (m + 1) (Nat.le_refl _)]
/-- the next number at the place: beyond the end, or a seat to try -/
theorem REMr_out {n : Nat} {g k : Nat → Nat → Bool} {f : Nat → Int} {m : Nat} (hm : 1 ≤ m) (h : n ≤ (f m).toNat + 1) : REMr n g k f m = REMr n g k f (m - 1) := by
  obtain ⟨q, rfl⟩ : ∃ q, m = q + 1 := ⟨m - 1, by omega⟩
  show rfrom n g k (PLR f (q + 1)) _ (n - ((f (q + 1)).toNat + 1)) ++ REMr n g k f q = REMr n g k f q
  rw [show n - ((f (q + 1)).toNat + 1) = 0 by omega]
  rfl
theorem REMr_in {n : Nat} {g k : Nat → Nat → Bool} {f f2 : Nat → Int} {m : Nat} (hm : 1 ≤ m) (h : (f m).toNat + 1 < n) (e : ∀ i, i < m → f i = f2 i) (e2 : (f2 m).toNat = (f m).toNat + 1) : REMr n g k f m = (if rext n g k (PLR f2 m) (f2 m).toNat = true then RGL n g k (4 - m) (PLR f2 (m + 1)) else []) ++ REMr n g k f2 m := by
  obtain ⟨q, rfl⟩ : ∃ q, m = q + 1 := ⟨m - 1, by omega⟩
  show rfrom n g k (PLR f (q + 1)) (RGL n g k (3 - q)) (n - ((f (q + 1)).toNat + 1)) ++ REMr n g k f q = _ ++ (rfrom n g k (PLR f2 (q + 1)) (RGL n g k (3 - q)) (n - ((f2 (q + 1)).toNat + 1)) ++ REMr n g k f2 q)
  have ep : PLR f (q + 1) = PLR f2 (q + 1) := PLR_congr (fun i hi => e i hi)
  have er : REMr n g k f q = REMr n g k f2 q := REMr_congr (fun i hi => e i (by omega))
  rw [ep, er, ← List.append_assoc]
  congr 1
  rw [show n - ((f (q + 1)).toNat + 1) = (n - ((f2 (q + 1)).toNat + 1)) + 1 by omega]
  show (if rext n g k (PLR f2 (q + 1)) (n - ((n - ((f2 (q + 1)).toNat + 1)) + 1)) = true then RGL n g k (3 - q) (PLR f2 (q + 1) ++ [n - ((n - ((f2 (q + 1)).toNat + 1)) + 1)]) else []) ++ rfrom n g k (PLR f2 (q + 1)) (RGL n g k (3 - q)) (n - ((f2 (q + 1)).toNat + 1)) = _
  rw [show n - ((n - ((f2 (q + 1)).toNat + 1)) + 1) = (f2 (q + 1)).toNat by omega, ← PLR_s, show 4 - (q + 1) = 3 - q by omega]
def NBL (R : List Nat) : Int := nbv (fun i => ((R.getD i 0 : Nat) : Int)) R.length
def RSEG (a : Nat → Nat → Int) (F : Nat) (L : List (List Nat)) : Prop := ∀ m, m < L.length → a 184 (F + m) = ((PM (L.getD m []) : Nat) : Int) ∧ a 185 (F + m) = NBL (L.getD m [])
def RCD (a0 b0 a : Nat → Nat → Int) (x : Nat) (rest : List (List Nat)) : Prop := ∃ L, RSEG a (a0 146 58).toNat L ∧ a 146 58 = a0 146 58 + (L.length : Int) ∧ (∀ j, j < (a0 146 58).toNat → a 184 j = a0 184 j ∧ a 185 j = a0 185 j) ∧ L ++ rest = RGL (a0 146 56).toNat (gR a0 b0 (a0 183)) (kR a0 b0 (a0 183)) 4 [x]
theorem RCD_fr {a0 b0 a a1 : Nat → Nat → Int} {x : Nat} {rest rest2 : List (List Nat)} (h : RCD a0 b0 a x rest) (e58 : a1 146 58 = a 146 58) (e4 : ∀ j, a1 184 j = a 184 j) (e5 : ∀ j, a1 185 j = a 185 j) (er : rest = rest2) : RCD a0 b0 a1 x rest2 := by
  obtain ⟨L, h1, h2, h3, h4⟩ := h
  exact ⟨L, fun m hm => ⟨(e4 _).trans (h1 m hm).1, (e5 _).trans (h1 m hm).2⟩, e58.trans h2, fun j hj => ⟨(e4 j).trans (h3 j hj).1, (e5 j).trans (h3 j hj).2⟩, by rw [← er]; exact h4⟩
theorem NBL_PLR (f : Nat → Int) (m : Nat) (h : ∀ i, i < m → 0 ≤ f i) : NBL (PLR f m) = nbv f m := by
  have key : ∀ q, q ≤ m → nbv (fun i => (((PLR f m).getD i 0 : Nat) : Int)) q = nbv f q := fun q => by
    induction q with
    | zero => intro _; rfl
    | succ q ih =>
      intro hq
      show nbv (fun i => (((PLR f m).getD i 0 : Nat) : Int)) q + (((PLR f m).getD q 0 : Nat) : Int) * 16 ^ q = nbv f q + f q * 16 ^ q
      rw [ih (by omega)]
      have e : (PLR f m).getD q 0 = (f q).toNat := by
        unfold PLR
        rw [List.getD_eq_getElem?_getD, List.getElem?_map, List.getElem?_range (by omega)]
        rfl
      rw [e, show (((f q).toNat : Nat) : Int) = f q from by have := h q (by omega); omega]
  unfold NBL
  rw [PLR_len]
  exact key m (Nat.le_refl _)
/-- a ring is noted -/
theorem RCD_note {a0 b0 a a1 : Nat → Nat → Int} {x m : Nat} {f : Nat → Int} {rest : List (List Nat)} (h : RCD a0 b0 a x ([PLR f m] ++ rest)) (hf : ∀ i, i < m → 0 ≤ f i) (n0 : 0 ≤ a0 146 58) (e58 : a1 146 58 = a 146 58 + 1) (u4 : UP (a 184) (a1 184) (a 146 58).toNat ((PM (PLR f m) : Nat) : Int)) (u5 : UP (a 185) (a1 185) (a 146 58).toNat (nbv f m)) : RCD a0 b0 a1 x rest := by
  obtain ⟨L, h1, h2, h3, h4⟩ := h
  have eN : (a 146 58).toNat = (a0 146 58).toNat + L.length := by omega
  rw [eN] at u4 u5
  refine ⟨L ++ [PLR f m], fun q hq => ?_, by rw [e58, h2, List.length_append]; show _ = a0 146 58 + ((L.length + 1 : Nat) : Int); omega, fun j hj => ?_, by rw [List.append_assoc]; exact h4⟩
  · rw [List.length_append] at hq
    have hq2 : q < L.length + 1 := hq
    by_cases c : q < L.length
    · rw [gd_left c, u4 _, u5 _, if_neg (by omega), if_neg (by omega)]
      exact h1 q c
    · have e : q = L.length := by omega
      rw [e, gd_last, u4 _, u5 _, if_pos rfl, if_pos rfl, NBL_PLR f m hf]
      exact ⟨rfl, rfl⟩
  · rw [u4 _, u5 _, if_neg (by omega), if_neg (by omega)]
    exact h3 j hj
/-- may the seat at place m stand behind the path, may the path be closed -/
theorem rext_R {a b : Nat → Nat → Int} {n : Nat} {f : Nat → Int} {m : Nat} (hm : 1 ≤ m) (h0 : ∀ i, i ≤ m → 0 ≤ f i) (h1 : f 0 < f m) (h2 : (f m).toNat < n) : rext n (gR a b (a 183)) (kR a b (a 183)) (PLR f m) (f m).toNat = true ↔ ((∀ i, i < m → kR a b (a 183) (f i).toNat (f m).toNat = false) ∧ ¬ f_X12_goesTo a b (f (m - 1)) (f m) = 0) := by
  obtain ⟨q, rfl⟩ : ∃ q, m = q + 1 := ⟨m - 1, by omega⟩
  rw [rext_iff, PLR_head, PLR_last, show q + 1 - 1 = q from rfl]
  have hq := h0 0 (by omega)
  constructor
  · rintro ⟨q1, q2, q3, q4⟩
    have z : ∀ i, i < q + 1 → kR a b (a 183) (f i).toNat (f (q + 1)).toNat = false := fun i hi => q4 _ (PLR_mem.2 ⟨i, hi, rfl⟩)
    exact ⟨z, (goesTo_at rfl rfl (kR_symm (z q (Nat.lt_succ_self q))).1).1 q3⟩
  · rintro ⟨z, q2⟩
    refine ⟨by omega, h2, (goesTo_at rfl rfl (kR_symm (z q (Nat.lt_succ_self q))).1).2 q2, fun p hp => ?_⟩
    obtain ⟨i, hi, e⟩ := PLR_mem.1 hp
    rw [← e]
    exact z i hi
theorem rcls_R {a b : Nat → Nat → Int} {f : Nat → Int} {m : Nat} {x : Int} (hm : 1 ≤ m) (hx : x.toNat = (f 0).toNat) (h : kR a b (a 183) (f 0).toNat (f m).toNat = false) : rcls (gR a b (a 183)) (PLR f (m + 1)) = true ↔ ¬ f_X12_goesTo a b (f m) x = 0 := by
  unfold rcls
  rw [Bool.and_eq_true, decide_eq_true_eq, PLR_len, PLR_last, PLR_head]
  have g := goesTo_at (a := a) (b := b) (x := f m) (y := x) rfl hx (kR_symm h).2
  constructor
  · rintro ⟨_, q⟩; exact g.1 q
  · intro q; exact ⟨by omega, g.2 q⟩
theorem gk_fr {a a1 b b1 : Nat → Nat → Int} (r150 : a1 150 = a 150) (r178 : a1 178 = a 178) (r179 : a1 179 = a 179) (r180 : a1 180 = a 180) (r183 : a1 183 = a 183) : (∀ st, kR a1 b1 st = kR a b st) ∧ (∀ st, gR a1 b1 st = gR a b st) ∧ ∀ x y, f_X12_goesTo a1 b1 x y = f_X12_goesTo a b x y := by
  refine ⟨fun st => funext fun i => funext fun j => ?_, fun st => funext fun i => funext fun j => ?_, fun x y => ?_⟩
  · unfold kR
    rw [isKin_fr (a1 := a1) (a := a) r150, r178, isKin_b a b1 b]
  · unfold gR
    rw [isKin_fr (a1 := a1) (a := a) r150, r178, r179, r180, isKin_b a b1 b]
  · unfold f_X12_goesTo f_X12_goesTo_at29 f_X12_goesTo_at33
    rw [r179, r180, r183]
theorem REMr_0 {n : Nat} {g k : Nat → Nat → Bool} {f : Nat → Int} {x : Nat} (h0 : (f 0).toNat = x) (h1 : (f 1).toNat = x) (hx : x < n) : RGL n g k 4 [x] = REMr n g k f 1 := by
  show rone g [x] ++ rfrom n g k [x] (RGL n g k 3) n = rfrom n g k (PLR f 1) (RGL n g k (3 - 0)) (n - ((f 1).toNat + 1)) ++ []
  have e : PLR f 1 = [x] := by
    show [(f 0).toNat] = [x]
    rw [h0]
  have r0 : rone g [x] = [] := rone_no (by
    unfold rcls
    show ¬ (decide (2 ≤ 1) && _) = true
    simp)
  rw [e, h1, r0, rfrom_head (P := [x]) (show x + 1 ≤ n from hx), List.append_nil]
  rfl
theorem REMr_push {n : Nat} {g k : Nat → Nat → Bool} {f f2 : Nat → Int} {m : Nat} (hm : m ≤ 3) (e : ∀ i, i ≤ m → f i = f2 i) (e2 : (f2 (m + 1)).toNat = (f 0).toNat) (hx : (f 0).toNat + 1 ≤ n) : RTL n g k (4 - m) (PLR f (m + 1)) ++ REMr n g k f m = REMr n g k f2 (m + 1) := by
  have ep : PLR f (m + 1) = PLR f2 (m + 1) := PLR_congr (fun i hi => e i (by omega))
  have hd : (PLR f2 (m + 1)).headD 0 = (f 0).toNat := by rw [PLR_head, e 0 (by omega)]
  rw [show 4 - m = (3 - m) + 1 by omega, REMr_congr (f := f) (f2 := f2) e, ep]
  show rfrom n g k (PLR f2 (m + 1)) (RGL n g k (3 - m)) n ++ _ = rfrom n g k (PLR f2 (m + 1)) (RGL n g k (3 - m)) (n - ((f2 (m + 1)).toNat + 1)) ++ _
  rw [e2, rfrom_head (by rw [hd]; exact hx), hd]
theorem RCD_0 {a0 b0 a : Nat → Nat → Int} {x : Nat} {rest : List (List Nat)} (e58 : a 146 58 = a0 146 58) (e4 : ∀ j, a 184 j = a0 184 j) (e5 : ∀ j, a 185 j = a0 185 j) (h : rest = RGL (a0 146 56).toNat (gR a0 b0 (a0 183)) (kR a0 b0 (a0 183)) 4 [x]) : RCD a0 b0 a x rest := ⟨[], fun m hm => absurd hm (Nat.not_lt_zero m), by rw [e58]; show _ = a0 146 58 + ((0 : Nat) : Int); omega, fun j _ => ⟨e4 j, e5 j⟩, h⟩
def KEX (a b : Nat → Nat → Int) (m : Int) (y : Nat) : Prop := ∃ i : Nat, (i : Int) < m ∧ kR a b (a 183) (a 187 i).toNat y = true
