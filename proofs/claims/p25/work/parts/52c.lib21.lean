/-! wishes: what they come to, both sides -/
def ESTR (t : Int → Int) (g : Nat → Int) : Nat → List Int
  | 0 => []
  | k + 1 => if 1024 ≤ g k then t (g k) :: ESTR t g k else if g k = 2 then enot (ESTR t g k) else if g k = 1 then eand (ESTR t g k) else eor (ESTR t g k)
/-- a code that a reading may put out -/
def GCD (g : Int) : Prop := g < 1024 ∨ (4096 ≤ g ∧ g ≤ 11239 ∧ g % 1024 ≤ 999)
theorem GCD_of {g : Int} (h : ¬ DEC g = -1) : GCD g := by
  unfold GCD
  by_cases c : 1024 ≤ g
  · right
    by_cases d : 4096 ≤ g ∧ g ≤ 11239 ∧ g % 1024 ≤ 999
    · exact d
    · exact absurd (by unfold DEC; rw [if_pos c, if_neg d]) h
  · left; omega
theorem DEC_hi {g : Int} (h : GCD g) (c : 1024 ≤ g) : DEC g = (g / 1024 - 4) * 1000 + g % 1024 := by
  have d : 4096 ≤ g ∧ g ≤ 11239 ∧ g % 1024 ≤ 999 := by
    rcases h with q | q
    · omega
    · exact q
  unfold DEC
  rw [if_pos c, if_pos d]
theorem ESTR_eq {t t2 : Int → Int} {f g : Nat → Int} : ∀ {k : Nat}, (∀ j, j < k → f j = DEC (g j)) → (∀ j, j < k → GCD (g j)) → (∀ j, j < k → 1024 ≤ g j → t (f j) = t2 (g j)) → EST t f k = ESTR t2 g k
  | 0, _, _, _ => rfl
  | k + 1, h, hg, ht => by
    have e := ESTR_eq (t := t) (t2 := t2) (k := k) (fun j hj => h j (by omega)) (fun j hj => hg j (by omega)) (fun j hj => ht j (by omega))
    have hk := h k (by omega)
    have gk := hg k (by omega)
    show (if f k = 7000 then enot (EST t f k) else if f k = 8000 then eand (EST t f k) else if f k = 9000 then eor (EST t f k) else t (f k) :: EST t f k) = (if 1024 ≤ g k then t2 (g k) :: ESTR t2 g k else if g k = 2 then enot (ESTR t2 g k) else if g k = 1 then eand (ESTR t2 g k) else eor (ESTR t2 g k))
    rw [e]
    by_cases c : 1024 ≤ g k
    · have d := DEC_hi gk c
      have hi : 4096 ≤ g k ∧ g k ≤ 11239 ∧ g k % 1024 ≤ 999 := by
        rcases gk with q | q
        · omega
        · exact q
      rw [if_pos c, if_neg (by omega), if_neg (by omega), if_neg (by omega), ht k (by omega) c]
    · rw [if_neg c]
      have d : DEC (g k) = (if g k = 2 then 7000 else if g k = 1 then 8000 else 9000) := by unfold DEC; rw [if_neg c]
      rw [d] at hk
      by_cases c2 : g k = 2
      · rw [if_pos c2] at hk
        rw [if_pos c2, if_pos hk]
      · rw [if_neg c2] at hk
        rw [if_neg c2]
        by_cases c1 : g k = 1
        · rw [if_pos c1] at hk
          rw [if_pos c1, if_neg (by omega), if_pos hk]
        · rw [if_neg c1] at hk
          rw [if_neg c1, if_neg (by omega), if_neg (by omega), if_pos hk]
def TRC (a b : Nat → Nat → Int) (x1 x2 x3 v : Int) : Int := if f_X10_holdsAtom a b (jxw (Int.tdiv v 1000)) (jxw (Int.tmod v 1000)) x1 x2 x3 = 0 then 0 else 1
theorem TRC_b (a b : Nat → Nat → Int) (x1 x2 x3 v : Int) : TRC a b x1 x2 x3 v = 0 ∨ TRC a b x1 x2 x3 v = 1 := by
  unfold TRC
  split
  · exact Or.inl rfl
  · exact Or.inr rfl
theorem isAtom_fr {a a1 b : Nat → Nat → Int} (h7 : a1 147 = a 147) (h8 : a1 148 = a 148) (h9 : a1 149 = a 149) (h1 : a1 151 = a 151) (h0 : a1 146 0 = a 146 0) (v x y : Int) : f_X12_isAtom a1 b v x y = f_X12_isAtom a b v x y := by
  unfold f_X12_isAtom f_X12_isAtom_at67 f_X12_isAtom_at196 f_X12_isAtom_at71 f_X12_isAtom_at200 f_X12_isAtom_at110 f_X12_isAtom_at142 f_X12_isAtom_at174 f_X12_isAtom_at114 f_X12_isAtom_at146 f_X12_isAtom_at178 f_X12_isAtom_at88 f_X12_isAtom_at92
  rw [h7, h8, h9, h1, h0]
def TRR (a b : Nat → Nat → Int) (x1 x2 v : Int) : Int := f_X12_isAtom a b v x1 x2
theorem ESTR_len {t t2 : Int → Int} {g : Nat → Int} : ∀ {k : Nat}, (ESTR t g k).length = (ESTR t2 g k).length
  | 0 => rfl
  | k + 1 => by
    have e := ESTR_len (t := t) (t2 := t2) (g := g) (k := k)
    show (if 1024 ≤ g k then t (g k) :: ESTR t g k else if g k = 2 then enot (ESTR t g k) else if g k = 1 then eand (ESTR t g k) else eor (ESTR t g k)).length = (if 1024 ≤ g k then t2 (g k) :: ESTR t2 g k else if g k = 2 then enot (ESTR t2 g k) else if g k = 1 then eand (ESTR t2 g k) else eor (ESTR t2 g k)).length
    have l1 : ∀ st : List Int, (enot st).length = st.length := fun st => by cases st <;> rfl
    have l2 : ∀ st : List Int, (eand st).length = if st.length ≤ 1 then 0 else st.length - 1 := fun st => by
      rcases st with _ | ⟨b, _ | ⟨c, r⟩⟩
      · rfl
      · rfl
      · show r.length + 1 = if r.length + 1 + 1 ≤ 1 then 0 else r.length + 1 + 1 - 1
        rw [if_neg (by omega)]; omega
    have l3 : ∀ st : List Int, (eor st).length = if st.length ≤ 1 then 0 else st.length - 1 := fun st => by
      rcases st with _ | ⟨b, _ | ⟨c, r⟩⟩
      · rfl
      · rfl
      · show r.length + 1 = if r.length + 1 + 1 ≤ 1 then 0 else r.length + 1 + 1 - 1
        rw [if_neg (by omega)]; omega
    split
    · show _ + 1 = _ + 1
      rw [e]
    · split
      · rw [l1, l1, e]
      · split
        · rw [l2, l2, e]
        · rw [l3, l3, e]
/-- is the wish met -/
def METX (a b : Nat → Nat → Int) (x y z : Int) : Int := if a 53 x.toNat = 0 then 1 else (EST (TRC a b x y z) (fun k => a 12 (x.toNat * 40 + k)) (a 53 x.toNat).toNat).headD 0
def METR (a b : Nat → Nat → Int) (x y : Int) : Int := if a 167 x.toNat = 0 then 1 else (ESTR (TRR a b x y) (fun k => a 166 (x.toNat * 64 + k)) (a 167 x.toNat).toNat).headD 0
theorem GOL_neg {l : List Int} {x : Int} (h : GOL l) (hx : x ∈ l) : ¬ x = -1 := by
  induction l with
  | nil => exact absurd hx (List.not_mem_nil)
  | cons y r ih =>
    obtain ⟨h1, h2, h3, h4⟩ := h
    rcases List.mem_cons.1 hx with e | e
    · intro q
      have := h4 (by omega) (by omega) (by omega)
      omega
    · exact ih h1 e
theorem OUL_mem {f : Nat → Int} : ∀ {m k : Nat}, k < m → f k ∈ OUL f m
  | 0, k, h => absurd h (Nat.not_lt_zero k)
  | m + 1, k, h => by
    rcases Nat.lt_or_ge k m with c | c
    · exact List.mem_cons_of_mem _ (OUL_mem c)
    · have e : k = m := by omega
      rw [e]
      exact List.mem_cons_self
/-- what the relation says of one member's wish -/
theorem WISHR_at {a : Nat → Nat → Int} (h : WISHR a) {x : Int} (h0 : 0 ≤ x) (h1 : x < 40) : WFS (fun k => a 12 (x.toNat * 40 + k)) (a 53 x.toNat).toNat ∧ (a 53 x.toNat).toNat = (a 167 x.toNat).toNat ∧ (∀ k, k < (a 53 x.toNat).toNat → a 12 (x.toNat * 40 + k) = DEC (a 166 (x.toNat * 64 + k))) ∧ (∀ k, k < (a 167 x.toNat).toNat → GCD (a 166 (x.toNat * 64 + k))) ∧ ((a 53 x.toNat).toNat = 0 ∨ HGT (fun k => a 12 (x.toNat * 40 + k)) (a 53 x.toNat).toNat = 1) := by
  obtain ⟨q1, q2, q3⟩ := h x.toNat (by omega)
  have n : (a 53 x.toNat).toNat = (a 167 x.toNat).toNat := by
    have l := congrArg List.length q1
    rw [OUL_len, OUL_len] at l
    exact l
  have g := GOL_WFS q2
  have e2 : OUL (fun i => idz (a 12 (x.toNat * 40 + i))) (a 53 x.toNat).toNat = OUL (fun i => DEC (a 166 (x.toNat * 64 + i))) (a 53 x.toNat).toNat := by rw [q1, n]
  refine ⟨g.1, n, fun k hk => OUL_at e2 k hk, fun k hk => ?_, ?_⟩
  · refine GCD_of (GOL_neg (l := OUL (fun i => DEC (a 166 (x.toNat * 64 + i))) (a 167 x.toNat).toNat) (by rw [← q1]; exact q2) ?_)
    exact OUL_mem (f := fun i => DEC (a 166 (x.toNat * 64 + i))) hk
  · rcases q3 with q | q
    · exact Or.inl q
    · exact Or.inr (by rw [← q]; exact g.2)
theorem lo5 {a b : Nat → Nat → Int} {x : Int} (h0 : 0 ≤ x) (h1 : x < a 4 6) (h2 : a 4 6 ≤ 40) : f_X3_landOf a b x = a 5 x.toNat := by
  show (if x < 0 then (-1) else (if x < a 4 6 then (if x < 40 then a 5 x.toNat else (-1)) else (-1))) = _
  rw [if_neg (by omega), if_pos h1, if_pos (by omega)]
theorem lo8 {a b : Nat → Nat → Int} {x : Int} (h0 : 0 ≤ x) (h1 : x < a 4 6) (h2 : a 4 6 ≤ 40) : f_X3_cameOnOf a b x = a 8 x.toNat := by
  show (if x < 0 then (-1) else (if x < a 4 6 then (if x < 40 then a 8 x.toNat else (-1)) else (-1))) = _
  rw [if_neg (by omega), if_pos h1, if_pos (by omega)]
theorem lo6 {a b : Nat → Nat → Int} {x : Int} (h0 : 0 ≤ x) (h1 : x < a 4 6) (h2 : a 4 6 ≤ 40) : f_X3_tonguesOf a b x = a 6 x.toNat := by
  have e : f_X3_has a b x = 1 := by
    show (if x < 0 then 0 else (if x < a 4 6 then (if x < 40 then 1 else 0) else 0)) = _
    rw [if_neg (by omega), if_pos h1, if_pos (by omega)]
  show (if f_X3_has a b x = 0 then 0 else (a 6 x.toNat)) = _
  rw [e, if_neg (by decide)]
theorem lodist {a b : Nat → Nat → Int} {x y : Int} (h0 : 0 ≤ x) (h1 : x < a 4 6) (g0 : 0 ≤ y) (g1 : y < a 4 6) (h2 : a 4 6 ≤ 40) (hx : 0 ≤ a 5 x.toNat ∧ a 5 x.toNat ≤ 15) (hy : 0 ≤ a 5 y.toNat ∧ a 5 y.toNat ≤ 15) : f_X10_distance a b x y = a 1 (16 * (a 5 x.toNat) + a 5 y.toNat).toNat := by
  show f_X11_entry_r1 a b 256 (jxw ((jxw ((f_X3_landOf a b x) * 16)) + (f_X3_landOf a b y))) = _
  rw [lo5 h0 h1 h2, lo5 g0 g1 h2, jxw_id (x := a 5 x.toNat * 16) (by omega) (by omega), jxw_id (by omega) (by omega)]
  show (if _ < 0 then (-1) else (if _ < 256 then (if _ < 256 then a 1 _ else (-1)) else (-1))) = _
  rw [if_neg (by omega), if_pos (by omega), if_pos (by omega), show a 5 x.toNat * 16 + a 5 y.toNat = 16 * (a 5 x.toNat) + a 5 y.toNat by omega]
theorem ATOM_eq {a b b2 : Nat → Nat → Int} (hv : iv a) (hm : MEMR a) (hf : FARR a) (h0 : a 0 0 = a 146 0) {x y g : Int} (x0 : 0 ≤ x) (x1 : x < a 4 6) (y0 : 0 ≤ y) (y1 : y < a 4 6) (hg : GCD g) (hh : 1024 ≤ g) : TRC a b x y (a 0 0) (DEC g) = TRR a b2 x y g := by
  have i46 := iv_get hv (k := 4) (j := 6) (l := 0) (u := 40) rfl
  have d := DEC_hi hg hh
  have hi : 4096 ≤ g ∧ g ≤ 11239 ∧ g % 1024 ≤ 999 := by
    rcases hg with q | q
    · omega
    · exact q
  obtain ⟨q, hq⟩ : ∃ q, q = g / 1024 - 4 := ⟨_, rfl⟩
  obtain ⟨n, hn⟩ : ∃ n, n = g % 1024 := ⟨_, rfl⟩
  have q0 : 0 ≤ q := by omega
  have q6 : q ≤ 6 := by omega
  have n0 : 0 ≤ n := by omega
  have n9 : n ≤ 999 := by omega
  have t1 : jxw (Int.tdiv (DEC g) 1000) = q := by
    rw [d, ← hq, ← hn, Int.tdiv_eq_ediv_of_nonneg (by omega), jxw_id (by omega) (by omega)]; omega
  have t2 : jxw (Int.tmod (DEC g) 1000) = n := by
    rw [d, ← hq, ← hn, Int.tmod_eq_emod_of_nonneg (by omega), jxw_id (by omega) (by omega)]; omega
  have u1 : jxw ((jxw ((jxw (Int.tdiv g 1024)) - 1)) - 3) = q := by
    rw [Int.tdiv_eq_ediv_of_nonneg (by omega), jxw_id (x := g / 1024) (by omega) (by omega), jxw_id (x := g / 1024 - 1) (by omega) (by omega), jxw_id (by omega) (by omega)]; omega
  have u2 : jxw (Int.tmod g 1024) = n := by
    rw [Int.tmod_eq_emod_of_nonneg (by omega), jxw_id (by omega) (by omega)]; omega
  have lx := iv_get hv (k := 148) (j := x.toNat) (l := 0) (u := 15) rfl
  have ly := iv_get hv (k := 148) (j := y.toNat) (l := 0) (u := 15) rfl
  obtain ⟨mx5, mx6, mx7, mx8, mx10⟩ := hm x.toNat
  obtain ⟨my5, my6, my7, my8, my10⟩ := hm y.toNat
  have dd := lodist (b := b) x0 x1 y0 y1 i46.2 (by rw [mx5]; exact lx) (by rw [my5]; exact ly)
  have ef : a 147 ((jxw ((jxw (16 * (a 148 (x.toNat)))) + (a 148 (y.toNat)))).toNat) = f_X10_distance a b x y := by
    rw [dd, mx5, my5, jxw_id (x := 16 * (a 148 x.toNat)) (by omega) (by omega), jxw_id (by omega) (by omega), hf]
  unfold TRC TRR
  rw [t1, t2]
  have L : f_X10_holdsAtom a b q n x y (a 0 0) = (if q < 0 ∨ 5 < q then 1 else (if q = 0 then (if a 5 y.toNat = n then 1 else 0) else (if q = 1 then (if jxand (jxshr (a 6 y.toNat) n) 1 = 1 then 1 else 0) else (if q = 2 then (if jxand (a 6 x.toNat) (a 6 y.toNat) = 0 then 0 else 1) else (if q = 3 then (if f_X10_distance a b x y < n then 0 else 1) else (if q = 4 then (if n < f_X10_distance a b x y then 0 else 1) else (if q = 5 then (if jxw (a 0 0 - a 8 y.toNat) < n then 0 else 1) else 0))))))) := by
    rw [← lo5 (b := b) y0 y1 i46.2, ← lo6 (b := b) y0 y1 i46.2, ← lo6 (b := b) x0 x1 i46.2, ← lo8 (b := b) y0 y1 i46.2]
    rfl
  have R : f_X12_isAtom a b2 g x y = (if q < 0 ∨ 5 < q then 1 else (if q = 0 then (if a 148 y.toNat = n then 1 else 0) else (if q = 1 then (if jxand (jxshr (a 149 y.toNat) n) 1 = 1 then 1 else 0) else (if q = 2 then (if jxand (a 149 x.toNat) (a 149 y.toNat) = 0 then 0 else 1) else (if q = 3 then (if f_X10_distance a b x y < n then 0 else 1) else (if q = 4 then (if n < f_X10_distance a b x y then 0 else 1) else (if q = 5 then (if jxw (a 146 0 - a 151 y.toNat) < n then 0 else 1) else 0))))))) := by
    rw [← ef, ← u1, ← u2]
    rfl
  rw [R, L, my5, my6, mx6, my8, h0]
  have bo : ∀ z : Int, z = 0 ∨ z = 1 → (if z = 0 then (0 : Int) else 1) = z := fun z hz => by
    rcases hz with e | e
    · rw [e]; rfl
    · rw [e]; rfl
  apply bo
  repeat' split
  all_goals first | exact Or.inl rfl | exact Or.inr rfl
theorem MET_eq {a b b2 : Nat → Nat → Int} (hv : iv a) (hw : WISHR a) (hm : MEMR a) (hf : FARR a) (h0 : a 0 0 = a 146 0) {x y : Int} (x0 : 0 ≤ x) (x1 : x < a 4 6) (y0 : 0 ≤ y) (y1 : y < a 4 6) : METX a b x y (a 0 0) = METR a b2 x y := by
  have i46 := iv_get hv (k := 4) (j := 6) (l := 0) (u := 40) rfl
  obtain ⟨w1, w2, w3, w4, w5⟩ := WISHR_at hw x0 (by omega)
  have i53 := iv_get hv (k := 53) (j := x.toNat) (l := 0) (u := 40) rfl
  have i167 := iv_get hv (k := 167) (j := x.toNat) (l := 0) (u := 64) rfl
  unfold METX METR
  by_cases c : a 53 x.toNat = 0
  · rw [if_pos c, if_pos (by omega)]
  · rw [if_neg c, if_neg (by omega), ← w2]
    congr 1
    refine ESTR_eq (fun j hj => w3 j hj) (fun j hj => w4 j (by omega)) (fun j hj hh => ?_)
    show TRC a b x y (a 0 0) (a 12 (x.toNat * 40 + j)) = _
    rw [w3 j hj]
    exact ATOM_eq hv hm hf h0 x0 x1 y0 y1 (w4 j (by omega)) hh
/-- the reference's steps leave one answer -/
theorem WISHR_one {a : Nat → Nat → Int} (hw : WISHR a) {t : Int → Int} {x : Int} (x0 : 0 ≤ x) (x1 : x < 40) : (a 167 x.toNat).toNat = 0 ∨ (ESTR t (fun k => a 166 (x.toNat * 64 + k)) (a 167 x.toNat).toNat).length = 1 := by
  obtain ⟨w1, w2, w3, w4, w5⟩ := WISHR_at hw x0 x1
  rcases w5 with q | q
  · left; omega
  · right
    rw [ESTR_len (t2 := fun z => DEC z), ← w2, ← ESTR_eq (t := fun z => z) (f := fun k => a 12 (x.toNat * 40 + k)) (fun j hj => w3 j hj) (fun j hj => w4 j (by omega)) (fun j hj hh => w3 j hj), EST_len w1, q]
/-- the class's moves, in the program's own words -/
theorem IMC {t : Int → Int} {f : Nat → Int} {n : Nat} {y4 y5 v y6 : Int} (ht : ∀ v, t v = 0 ∨ t v = 1) (h : WFS f n) (h5 : 0 ≤ y5) (hn : y5.toNat < n) (hv : v = f y5.toNat) (h6 : y6 = jxw (Int.tdiv v 1000)) (hb : y4 = BN (EST t f y5.toNat)) :
    (y6 = 7 → jxxor y4 1 = BN (EST t f (y5.toNat + 1))) ∧ (y6 = 8 → jxand (jxshr y4 1) (jxor (jxand y4 1) (-2)) = BN (EST t f (y5.toNat + 1))) ∧ (y6 = 9 → jxor (jxshr y4 1) (jxand y4 1) = BN (EST t f (y5.toNat + 1))) ∧ (¬ y6 = 7 → ¬ y6 = 8 → ¬ y6 = 9 → jxor (jxshl y4 1) (t v) = BN (EST t f (y5.toNat + 1))) := by
  have q := BN_st ht h hn
  rw [← hv, ← hb] at q
  have w := h y5.toNat hn
  rw [← hv] at w
  obtain ⟨w1, w2, w3⟩ := w
  have hvb : 0 ≤ v ∧ v ≤ 9000 := by
    by_cases c7 : v = 7000
    · omega
    by_cases c8 : v = 8000
    · omega
    by_cases c9 : v = 9000
    · omega
    have := w3 c7 c8 c9
    omega
  rw [Int.tdiv_eq_ediv_of_nonneg (by omega), jxw_id (by omega) (by omega)] at h6
  have key : v = 7000 ∨ v = 8000 ∨ v = 9000 ∨ v < 7000 := by
    by_cases c7 : v = 7000
    · omega
    by_cases c8 : v = 8000
    · omega
    by_cases c9 : v = 9000
    · omega
    have := w3 c7 c8 c9
    omega
  refine ⟨fun c => q.1 (by omega), fun c => q.2.1 (by omega), fun c => q.2.2.1 (by omega), fun a b c => q.2.2.2 (by omega) (by omega) (by omega)⟩
theorem IM_ret {t : Int → Int} {f : Nat → Int} {n : Nat} {y : Int} (ht : ∀ v, t v = 0 ∨ t v = 1) (h : WFS f n) (hb : y = BN (EST t f n)) : (jxand y 1 = 1 → (EST t f n).headD 0 = 1) ∧ (¬ jxand y 1 = 1 → (EST t f n).headD 0 = 0) := by
  have e := EST_EB (f := f) ht n
  have l := EST_len (t := t) h
  have l2 := HGT_12 h
  have q := BN_bd e
  have q2 := BN_12 e (n := 12) (by omega)
  rw [← hb] at q q2
  have a1 : jxand y 1 = y % 2 := jxand1 q.1 (by omega)
  rw [a1]
  generalize EST t f n = st at *
  cases st with
  | nil =>
    have : y = 0 := hb
    exact ⟨fun z => by omega, fun _ => rfl⟩
  | cons b r =>
    have e2 : y = 2 * BN r + b := hb
    have b2 := EB_h e
    show (y % 2 = 1 → b = 1) ∧ (¬ y % 2 = 1 → b = 0)
    omega
/-- the reference's moves over its row -/
theorem IRS {t : Int → Int} {g : Nat → Int} {k : Nat} {s s1 : Nat → Int} {y z : Int} (h : OUL s y.toNat = ESTR t g k) (hy0 : 0 ≤ y) (hz0 : 0 ≤ z) (hs : ∀ i : Nat, (i : Int) < z - 1 → s1 i = s i)
    (hc : (1024 ≤ g k ∧ z = y + 1 ∧ s1 y.toNat = t (g k)) ∨ (g k = 2 ∧ z = y ∧ 1 ≤ y ∧ s1 (y - 1).toNat = (if s (y - 1).toNat = 0 then 1 else 0)) ∨ (g k = 1 ∧ z = y - 1 ∧ 2 ≤ y ∧ s1 (y - 2).toNat = (if s (y - 2).toNat = 0 then 0 else if s (y - 1).toNat = 0 then 0 else 1)) ∨
      (¬ 1024 ≤ g k ∧ ¬ g k = 2 ∧ ¬ g k = 1 ∧ z = y - 1 ∧ 2 ≤ y ∧ s1 (y - 2).toNat = (if s (y - 2).toNat = 0 then (if s (y - 1).toNat = 0 then 0 else 1) else 1))) : OUL s1 z.toNat = ESTR t g (k + 1) := by
  show _ = (if 1024 ≤ g k then t (g k) :: ESTR t g k else if g k = 2 then enot (ESTR t g k) else if g k = 1 then eand (ESTR t g k) else eor (ESTR t g k))
  rcases hc with ⟨c1, c2, c3⟩ | ⟨c1, c2, c3, c4⟩ | ⟨c1, c2, c3, c4⟩ | ⟨c1, c5, c6, c2, c3, c4⟩
  · rw [if_pos c1, show z.toNat = y.toNat + 1 by omega, ← h]
    show s1 y.toNat :: OUL s1 y.toNat = _
    rw [c3, OUL_eq (f := s1) (g := s) (fun i hi => hs i (by omega))]
  · rw [if_neg (by omega), if_pos c1, ← h, show z.toNat = (y - 1).toNat + 1 by omega, show y.toNat = (y - 1).toNat + 1 by omega]
    show s1 (y - 1).toNat :: OUL s1 (y - 1).toNat = (if s (y - 1).toNat = 0 then 1 else 0) :: OUL s (y - 1).toNat
    rw [c4, OUL_eq (f := s1) (g := s) (fun i hi => hs i (by omega))]
  · rw [if_neg (by omega), if_neg (by omega), if_pos c1, ← h, show z.toNat = (y - 2).toNat + 1 by omega, show y.toNat = (y - 2).toNat + 1 + 1 by omega]
    show s1 (y - 2).toNat :: OUL s1 (y - 2).toNat = (if s (y - 2).toNat = 0 then 0 else if s ((y - 2).toNat + 1) = 0 then 0 else 1) :: OUL s (y - 2).toNat
    rw [c4, OUL_eq (f := s1) (g := s) (fun i hi => hs i (by omega)), show (y - 2).toNat + 1 = (y - 1).toNat by omega]
  · rw [if_neg c1, if_neg c5, if_neg c6, ← h, show z.toNat = (y - 2).toNat + 1 by omega, show y.toNat = (y - 2).toNat + 1 + 1 by omega]
    show s1 (y - 2).toNat :: OUL s1 (y - 2).toNat = (if s (y - 2).toNat = 0 then (if s ((y - 2).toNat + 1) = 0 then 0 else 1) else 1) :: OUL s (y - 2).toNat
    rw [c4, OUL_eq (f := s1) (g := s) (fun i hi => hs i (by omega)), show (y - 2).toNat + 1 = (y - 1).toNat by omega]
theorem IRS_end {t : Int → Int} {g : Nat → Int} {k : Nat} {s : Nat → Int} {y : Int} (h : OUL s y.toNat = ESTR t g k) (hl : k = 0 ∨ (ESTR t g k).length = 1) (h0 : ¬ k = 0) : s 0 = (ESTR t g k).headD 0 := by
  have l := hl.resolve_left h0
  rw [← h] at l ⊢
  rw [OUL_len] at l
  rw [l]
  rfl
