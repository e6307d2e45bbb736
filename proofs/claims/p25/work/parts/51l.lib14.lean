/-! the class's reader of wishes: what its methods tell each other -/
theorem AQ_w {f : Nat → Int} {n p w : Nat} (hw : w < 7) (h : TW f n p (3 + w)) : AQ f n p = SK f n (p + wdn (3 + w)) := by
  unfold AQ
  rw [AK_w hw h, Int.toNat_natCast]
theorem RC_base {a0 a a1 : Nat → Nat → Int} {m : Nat} {st : List Int} (e3 : a 3 = a0 3) (e21 : a 2 1 = a0 2 1) : RC a a1 m st ↔ RC a0 a1 m st := by
  unfold RC
  rw [e3, e21]
theorem FLT_base {a0 a a1 : Nat → Nat → Int} (e3 : a 3 = a0 3) (e21 : a 2 1 = a0 2 1) : FLT a a1 ↔ FLT a0 a1 := by
  unfold FLT
  rw [e3, e21]
theorem WRS_base {a0 a a1 : Nat → Nat → Int} {st : List Int} (e3 : a 3 = a0 3) (e21 : a 2 1 = a0 2 1) : WRS a a1 st ↔ WRS a0 a1 st := by
  unfold WRS
  rw [RC_base e3 e21, FLT_base e3 e21]
/-- readBoth's and readEither's answer: no 'and', and no 'or' behind -/
def WRB (a0 a : Nat → Nat → Int) (st : List Int) : Prop := (a 2 3 = 0 ∧ RC a0 a 1 st ∧ ¬ TW (a0 3) (a0 2 1).toNat (a 2 2).toNat 1) ∨ (¬ a 2 3 = 0 ∧ FLT a0 a)
def WRE (a0 a : Nat → Nat → Int) (st : List Int) : Prop := (a 2 3 = 0 ∧ RC a0 a 1 st ∧ ¬ TW (a0 3) (a0 2 1).toNat (a 2 2).toNat 1 ∧ ¬ TW (a0 3) (a0 2 1).toNat (a 2 2).toNat 0) ∨ (¬ a 2 3 = 0 ∧ FLT a0 a)
theorem WRB_base {a0 a a1 : Nat → Nat → Int} {st : List Int} (e3 : a 3 = a0 3) (e21 : a 2 1 = a0 2 1) : WRB a a1 st ↔ WRB a0 a1 st := by
  unfold WRB
  rw [RC_base e3 e21, FLT_base e3 e21, e3, e21]
theorem WRE_base {a0 a a1 : Nat → Nat → Int} {st : List Int} (e3 : a 3 = a0 3) (e21 : a 2 1 = a0 2 1) : WRE a a1 st ↔ WRE a0 a1 st := by
  unfold WRE
  rw [RC_base e3 e21, FLT_base e3 e21, e3, e21]
/-- what each of the four may be asked, and what it answers -/
def POne (a0 a : Nat → Nat → Int) (x : Int) : Prop := a0 2 3 = 0 → a0 2 1 ≤ 100 → ∀ st : List Int, RC a0 a0 0 st → (dep st : Int) = x → WRS a0 a st
def PBoth (a0 a : Nat → Nat → Int) (x : Int) : Prop := a0 2 3 = 0 → a0 2 1 ≤ 100 → ∀ st : List Int, RC a0 a0 0 st → (dep st : Int) = x → ¬ thd st = 2 → ¬ thd st = 1 → WRB a0 a st
def PEith (a0 a : Nat → Nat → Int) (x : Int) : Prop := a0 2 3 = 0 → a0 2 1 ≤ 100 → ∀ st : List Int, RC a0 a0 0 st → (dep st : Int) = x → (thd st = 100 ∨ st = []) → WRE a0 a st
def PAtom (a0 a : Nat → Nat → Int) (x : Int) : Prop := a0 2 3 = 0 → x = a0 2 2 → a0 2 1 ≤ 100 → ¬ TW (a0 3) (a0 2 1).toNat (a0 2 2).toNat 2 → ¬ ((a0 2 2).toNat < (a0 2 1).toNat ∧ a0 3 (a0 2 2).toNat = 40) → ∀ st : List Int, RC a0 a0 0 st → WRS a0 a st
theorem FLT_mk {a0 a : Nat → Nat → Int} {p : Nat} {st out : List Int} {at_ v : Int} (h : RCH (a0 3) (a0 2 1).toNat (2, p, st, out, at_, v)) (e : a 2 3 = v) : FLT a0 a := ⟨p, st, out, at_, by rw [e]; exact h⟩
theorem PAtom_0 {a0 a : Nat → Nat → Int} {x : Int} (ha : AK (a0 3) (a0 2 1).toNat (a0 2 2).toNat = -1) (h2 : 0 ≤ a0 2 2) (e : a0 2 3 = 0 → a 2 3 = 1 + 8 * a0 2 2) : PAtom a0 a x := by
  intro hz _ _ hn hb st hr
  have e1 := e hz
  exact Or.inr ⟨by omega, FLT_mk (RC_at0 hr hn hb ha) (by omega)⟩
theorem PAtom_13 {a0 a : Nat → Nat → Int} {x : Int} (ha : ¬ AK (a0 3) (a0 2 1).toNat (a0 2 2).toNat = -1) (h12 : a0 11 7 = 12) (h2 : 0 ≤ a0 2 2) (e : a0 2 3 = 0 → x = a0 2 2 → a 2 3 = 3 + 8 * a0 2 2) : PAtom a0 a x := by
  intro hz hx _ _ _ st hr
  have e1 := e hz hx
  exact Or.inr ⟨by omega, FLT_mk (RC_at13 hr ha h12) (by omega)⟩
theorem RC_put {a0 a1 : Nat → Nat → Int} {st : List Int} {v : Int} {p : Nat} (h : RCH (a0 3) (a0 2 1).toNat (1, p, st, v :: OUL (a0 54) (a0 11 6).toNat, a0 11 7 + 1, 0)) (h6 : 0 ≤ a0 11 6) (e6 : a1 11 6 = a0 11 6 + 1) (hu : UP (a0 54) (a1 54) (a0 11 6).toNat v) (e2 : a1 2 2 = (p : Int)) (e7 : a1 11 7 = a0 11 7 + 1) : RC a0 a1 1 st := by
  unfold RC
  rw [OUL_add h6 e6 hu, e2, Int.toNat_natCast, e7]
  exact h
/-- an atom without a number -/
theorem PAtom_p {a0 a : Nat → Nat → Int} {x : Int} (ha : ¬ AK (a0 3) (a0 2 1).toNat (a0 2 2).toNat = -1) (h12 : a0 11 7 ≤ 11) (hh : HIk (AK (a0 3) (a0 2 1).toNat (a0 2 2).toNat) = -1) (h6 : 0 ≤ a0 11 6) (hz : a 2 3 = 0)
    (e6 : a0 11 6 < 40 → a 11 6 = a0 11 6 + 1 ∧ UP (a0 54) (a 54) (a0 11 6).toNat (AK (a0 3) (a0 2 1).toNat (a0 2 2).toNat * 1000)) (e2 : a 2 2 = (AQ (a0 3) (a0 2 1).toNat (a0 2 2).toNat : Int)) (e7 : a 11 7 = a0 11 7 + 1) : PAtom a0 a x := by
  intro _ _ hn _ _ st hr
  have hl := RC_len hr hn h6
  obtain ⟨q1, q2⟩ := e6 (by omega)
  exact Or.inl ⟨hz, RC_put (RC_atp hr ha (by omega) hh) h6 q1 q2 e2 e7⟩
theorem PAtom_n {a0 a : Nat → Nat → Int} {x : Int} (ha : ¬ AK (a0 3) (a0 2 1).toNat (a0 2 2).toNat = -1) (h12 : a0 11 7 ≤ 11) (hh : ¬ HIk (AK (a0 3) (a0 2 1).toNat (a0 2 2).toNat) = -1) (h6 : 0 ≤ a0 11 6)
    (hz : a 2 3 = NF (a0 3) (a0 2 1).toNat (AQ (a0 3) (a0 2 1).toNat (a0 2 2).toNat) 0 (HIk (AK (a0 3) (a0 2 1).toNat (a0 2 2).toNat)))
    (e6 : a0 11 6 < 40 → a 11 6 = a0 11 6 + 1 ∧ UP (a0 54) (a 54) (a0 11 6).toNat (AK (a0 3) (a0 2 1).toNat (a0 2 2).toNat * 1000 + NV (a0 3) (a0 2 1).toNat (AQ (a0 3) (a0 2 1).toNat (a0 2 2).toNat)))
    (e2 : a 2 2 = (SK (a0 3) (a0 2 1).toNat (DE (a0 3) (a0 2 1).toNat (AQ (a0 3) (a0 2 1).toNat (a0 2 2).toNat)) : Int)) (e7 : a 11 7 = a0 11 7 + 1) : PAtom a0 a x := by
  intro _ _ hn _ _ st hr
  have hl := RC_len hr hn h6
  obtain ⟨q1, q2⟩ := e6 (by omega)
  by_cases hf : NF (a0 3) (a0 2 1).toNat (AQ (a0 3) (a0 2 1).toNat (a0 2 2).toNat) 0 (HIk (AK (a0 3) (a0 2 1).toNat (a0 2 2).toNat)) = 0
  · exact Or.inl ⟨hz.trans hf, RC_put (RC_atk hr ha (by omega) hh hf) h6 q1 q2 e2 e7⟩
  · exact Or.inr ⟨by rw [hz]; exact hf, FLT_mk (RC_atn hr ha (by omega) hh hf) hz⟩
/-- the same draft and atoms -/
def DSM (a0 a : Nat → Nat → Int) : Prop := (∀ j, a 54 j = a0 54 j) ∧ a 11 6 = a0 11 6 ∧ a 11 7 = a0 11 7 ∧ a 2 3 = a0 2 3 ∧ a 3 = a0 3 ∧ a 2 1 = a0 2 1
theorem DSM_rc {a0 a : Nat → Nat → Int} {m : Nat} {st : List Int} (h : DSM a0 a) (hr : RCH (a0 3) (a0 2 1).toNat (m, (a 2 2).toNat, st, OUL (a0 54) (a0 11 6).toNat, a0 11 7, 0)) : RC a a m st := by
  obtain ⟨h1, h2, h3, h4, h5, h6⟩ := h
  unfold RC
  rw [h2, h3, h5, h6, OUL_eq (fun k _ => h1 k)]
  exact hr
theorem POne_atom {a0 a a1 : Nat → Nat → Int} {x y : Int} (h : DSM a0 a) (e2 : a 2 2 = a0 2 2) (hn : a0 2 3 = 0 → ¬ TW (a0 3) (a0 2 1).toNat (a0 2 2).toNat 2 ∧ ¬ ((a0 2 2).toNat < (a0 2 1).toNat ∧ a0 3 (a0 2 2).toNat = 40)) (hy : y = a0 2 2) (hp : PAtom a a1 y) : POne a0 a1 x := by
  intro hz hl st hr _
  have q := hp (by rw [h.2.2.2.1]; exact hz) (by rw [hy, e2]) (by rw [h.2.2.2.2.2]; exact hl) (by rw [h.2.2.2.2.1, h.2.2.2.2.2, e2]; exact (hn hz).1) (by rw [h.2.2.2.2.1, h.2.2.2.2.2, e2]; exact (hn hz).2) st (DSM_rc h (by rw [e2]; exact hr))
  exact (WRS_base h.2.2.2.2.1 h.2.2.2.2.2).1 q
theorem POne_deep {a0 a1 : Nat → Nat → Int} {x : Int} (h : (TW (a0 3) (a0 2 1).toNat (a0 2 2).toNat 2) ∨ ((a0 2 2).toNat < (a0 2 1).toNat ∧ a0 3 (a0 2 2).toNat = 40)) (hx : x = 10) (h2 : 0 ≤ a0 2 2) (e : a0 2 3 = 0 → a1 2 3 = 4 + 8 * a0 2 2) : POne a0 a1 x := by
  intro hz _ st hr hd
  have e1 := e hz
  rcases h with t | t
  · exact Or.inr ⟨by omega, FLT_mk (RC_notd hr t (by omega)) (by omega)⟩
  · exact Or.inr ⟨by omega, FLT_mk (RC_opend hr t.1 t.2 (by omega)) (by omega)⟩
theorem POne_not {a0 a a1 a2 : Nat → Nat → Int} {x : Int} (h : DSM a0 a) (ht : a0 2 3 = 0 → TW (a0 3) (a0 2 1).toNat (a0 2 2).toNat 2 ∧ a 2 2 = (SK (a0 3) (a0 2 1).toNat ((a0 2 2).toNat + 3) : Int)) (hx : x ≤ 9) (hp : POne a a1 (x + 1)) (h6 : 0 ≤ a1 11 6) (e23 : a2 2 3 = a1 2 3)
    (e6 : a1 11 6 < 40 → a2 11 6 = a1 11 6 + 1 ∧ UP (a1 54) (a2 54) (a1 11 6).toNat 7000) (e2 : a2 2 2 = a1 2 2) (e7 : a2 11 7 = a1 11 7) : POne a0 a2 x := by
  intro hz hl st hr hd
  obtain ⟨t1, t2⟩ := ht hz
  have hd2 : dep (2 :: st) = 1 + dep st := rfl
  have q := hp (by rw [h.2.2.2.1]; exact hz) (by rw [h.2.2.2.2.2]; exact hl) (2 :: st) (DSM_rc h (by rw [t2, Int.toNat_natCast]; exact RC_not hr t1 (by omega))) (by omega)
  rcases (WRS_base h.2.2.2.2.1 h.2.2.2.2.2).1 q with ⟨q1, q2⟩ | ⟨q1, q2⟩
  · have hl2 := RC_len q2 hl h6
    obtain ⟨u1, u2⟩ := e6 (by omega)
    exact Or.inl ⟨by rw [e23]; exact q1, RC_stepnot q2 h6 u1 u2 e2 e7⟩
  · exact Or.inr ⟨by rw [e23]; exact q1, FLT_fr q2 e23⟩
theorem POne_br {a0 a a1 a2 : Nat → Nat → Int} {x r : Int} (h : DSM a0 a) (ht : a0 2 3 = 0 → ((a0 2 2).toNat < (a0 2 1).toNat ∧ a0 3 (a0 2 2).toNat = 40) ∧ a 2 2 = (SK (a0 3) (a0 2 1).toNat ((a0 2 2).toNat + 1) : Int)) (hx : x ≤ 9) (hp : PEith a a1 (x + 1)) (d12 : DSM a1 a2) (f3 : a1 3 = a0 3) (f21 : a1 2 1 = a0 2 1)
    (S1 : r = 1 → a1 2 3 = 0 ∧ (a1 2 2).toNat < (a1 2 1).toNat ∧ a1 3 (a1 2 2).toNat = 41 ∧ a2 2 2 = (SK (a1 3) (a1 2 1).toNat ((a1 2 2).toNat + 1) : Int)) (hr1 : r = 1) : POne a0 a2 x := by
  intro hz hl st hr hd
  obtain ⟨t1, t2⟩ := ht hz
  have hd2 : dep (100 :: st) = 1 + dep st := rfl
  have q := hp (by rw [h.2.2.2.1]; exact hz) (by rw [h.2.2.2.2.2]; exact hl) (100 :: st) (DSM_rc h (by rw [t2, Int.toNat_natCast]; exact RC_open hr t1.1 t1.2 (by omega))) (by omega) (Or.inl rfl)
  obtain ⟨s1, s2, s3, s4⟩ := S1 hr1
  rcases (WRE_base h.2.2.2.2.1 h.2.2.2.2.2).1 q with ⟨q1, q2, _, _⟩ | ⟨q1, _⟩
  · rw [f3] at s3
    rw [f3, f21] at s4
    rw [f21] at s2
    exact Or.inl ⟨by rw [d12.2.2.2.1]; exact s1, RC_mv (by rw [s4, Int.toNat_natCast]; exact RC_cls q2 s2 s3) d12.1 d12.2.1 d12.2.2.1⟩
  · exact absurd s1 q1
/-- a bracket that isn't closed -/
def PBr (a0 a : Nat → Nat → Int) (x : Int) : Prop := a0 2 3 = 0 → a0 2 1 ≤ 100 → ∀ st : List Int, RC a0 a0 0 st → (dep st : Int) = x → (a 2 3 = 0 ∧ RC a0 a 1 (100 :: st) ∧ ¬ TW (a0 3) (a0 2 1).toNat (a 2 2).toNat 1 ∧ ¬ TW (a0 3) (a0 2 1).toNat (a 2 2).toNat 0 ∧ ¬ ((a 2 2).toNat < (a0 2 1).toNat ∧ a0 3 (a 2 2).toNat = 41)) ∨ (¬ a 2 3 = 0 ∧ FLT a0 a)
theorem PBr_mk {a0 a a1 a2 : Nat → Nat → Int} {x r : Int} (h : DSM a0 a) (ht : a0 2 3 = 0 → ((a0 2 2).toNat < (a0 2 1).toNat ∧ a0 3 (a0 2 2).toNat = 40) ∧ a 2 2 = (SK (a0 3) (a0 2 1).toNat ((a0 2 2).toNat + 1) : Int)) (hx : x ≤ 9) (hp : PEith a a1 (x + 1)) (d12 : DSM a1 a2) (f3 : a1 3 = a0 3) (f21 : a1 2 1 = a0 2 1)
    (S0 : r = 0 → ¬ a1 2 3 = 0 ∨ (a1 2 1).toNat ≤ (a1 2 2).toNat ∨ ¬ a1 3 (a1 2 2).toNat = 41) (hr0 : r = 0) (e22 : a2 2 2 = a1 2 2) : PBr a0 a2 x := by
  intro hz hl st hr hd
  obtain ⟨t1, t2⟩ := ht hz
  have hd2 : dep (100 :: st) = 1 + dep st := rfl
  have q := hp (by rw [h.2.2.2.1]; exact hz) (by rw [h.2.2.2.2.2]; exact hl) (100 :: st) (DSM_rc h (by rw [t2, Int.toNat_natCast]; exact RC_open hr t1.1 t1.2 (by omega))) (by omega) (Or.inl rfl)
  rcases (WRE_base h.2.2.2.2.1 h.2.2.2.2.2).1 q with ⟨q1, q2, q3, q4⟩ | ⟨q1, q2⟩
  · refine Or.inl ⟨by rw [d12.2.2.2.1]; exact q1, RC_mv (by rw [e22]; exact q2) d12.1 d12.2.1 d12.2.2.1, by rw [e22]; exact q3, by rw [e22]; exact q4, ?_⟩
    rw [e22]
    rintro ⟨u1, u2⟩
    rcases S0 hr0 with s | s | s
    · exact s q1
    · rw [f21] at s; omega
    · rw [f3] at s; exact s u2
  · exact Or.inr ⟨by rw [d12.2.2.2.1]; exact q1, FLT_fr q2 d12.2.2.2.1⟩
theorem POne_br0 {a0 a a1 : Nat → Nat → Int} {x : Int} (h : PBr a0 a x) (h2 : 0 ≤ a 2 2) (n1 : a 2 3 = 0 → a1 2 3 = 1 + 8 * a 2 2) (n2 : ¬ a 2 3 = 0 → a1 2 3 = a 2 3) : POne a0 a1 x := by
  intro hz hl st hr hd
  rcases h hz hl st hr hd with ⟨q1, q2, q3, q4, q5⟩ | ⟨q1, q2⟩
  · have e := n1 q1
    have z := RC_bad q2 (fun t => absurd (show (100 : Int) = 2 from t) (by decide)) (fun t => absurd (show (100 : Int) = 1 from t) (by decide)) (fun t => absurd (show (100 : Int) = 0 from t) (by decide)) q3 q4 (Or.inr ⟨q5, fun t => absurd (show (100 : Int) = -5 from t.1) (by decide)⟩)
    exact Or.inr ⟨by omega, FLT_mk z (by omega)⟩
  · have e := n2 q1
    exact Or.inr ⟨by rw [e]; exact q1, FLT_fr q2 e⟩
/-- the loop of readBoth -/
def PBl (a0 a : Nat → Nat → Int) (x y : Int) : Prop := a0 2 3 = 0 → a0 2 1 ≤ 100 → ∀ st : List Int, RC a0 a0 0 st → (dep st : Int) = x → ¬ thd st = 2 → ¬ thd st = 1 → (a 2 3 = 0 ∧ RC a0 a 1 st ∧ y ≤ a 11 6) ∨ (¬ a 2 3 = 0 ∧ FLT a0 a)
theorem PBl_0 {a0 a : Nat → Nat → Int} {x : Int} (h : POne a0 a x) (h6 : 0 ≤ a 11 6) : PBl a0 a x 0 := by
  intro hz hl st hr hd _ _
  rcases h hz hl st hr hd with ⟨q1, q2⟩ | q
  · exact Or.inl ⟨q1, q2, h6⟩
  · exact Or.inr q
theorem PBl_s {a0 a a1 a2 a3 : Nat → Nat → Int} {x y : Int} (h : PBl a0 a x y) (e3 : a 3 = a0 3) (e21 : a 2 1 = a0 2 1) (d : DSM a a1) (t : a 2 3 = 0 ∧ TW (a 3) (a 2 1).toNat (a 2 2).toNat 1 ∧ a1 2 2 = (SK (a 3) (a 2 1).toNat ((a 2 2).toNat + 3) : Int)) (hp : POne a1 a2 x) (h6 : 0 ≤ a2 11 6) (hm : a1 11 6 ≤ a2 11 6) (e23 : a3 2 3 = a2 2 3)
    (e6 : a2 11 6 < 40 → a3 11 6 = a2 11 6 + 1 ∧ UP (a2 54) (a3 54) (a2 11 6).toNat 8000) (e2 : a3 2 2 = a2 2 2) (e7 : a3 11 7 = a2 11 7) : PBl a0 a3 x (y + 1) := by
  intro hz hl st hr hd n2 n1
  obtain ⟨t1, t2, t3⟩ := t
  rw [e3, e21] at t2 t3
  rcases h hz hl st hr hd n2 n1 with ⟨q1, q2, q3⟩ | ⟨q1, _⟩
  · have hd2 : dep (1 :: st) = 0 + dep st := rfl
    have hc : RC a a 1 st := (RC_base e3 e21).2 q2
    have hrc : RC a1 a1 0 (1 :: st) := DSM_rc d (by rw [t3, Int.toNat_natCast, e3, e21]; exact RC_and q2 n2 n1 t2)
    have q := hp (by rw [d.2.2.2.1]; exact t1) (by rw [d.2.2.2.2.2, e21]; exact hl) (1 :: st) hrc (by omega)
    rcases (WRS_base (a0 := a0) (d.2.2.2.2.1.trans e3) (d.2.2.2.2.2.trans e21)).1 q with ⟨w1, w2⟩ | ⟨w1, w2⟩
    · have hl2 := RC_len w2 hl h6
      obtain ⟨u1, u2⟩ := e6 (by omega)
      have d6 := d.2.1
      exact Or.inl ⟨by rw [e23]; exact w1, RC_stepand w2 h6 u1 u2 e2 e7, by omega⟩
    · exact Or.inr ⟨by rw [e23]; exact w1, FLT_fr w2 e23⟩
  · exact absurd t1 q1
theorem PBl_end {a0 a a1 : Nat → Nat → Int} {x y : Int} (h : PBl a0 a x y) (e3 : a 3 = a0 3) (e21 : a 2 1 = a0 2 1) (d : DSM a a1) (t : ¬ a 2 3 = 0 ∨ ¬ TW (a 3) (a 2 1).toNat (a 2 2).toNat 1) (e2 : a1 2 2 = a 2 2) : PBoth a0 a1 x := by
  intro hz hl st hr hd n2 n1
  rw [e3, e21] at t
  rcases h hz hl st hr hd n2 n1 with ⟨q1, q2, _⟩ | ⟨q1, q2⟩
  · refine Or.inl ⟨by rw [d.2.2.2.1]; exact q1, RC_mv (by rw [e2]; exact q2) d.1 d.2.1 d.2.2.1, ?_⟩
    rw [e2]
    exact t.resolve_left (fun k => k q1)
  · exact Or.inr ⟨by rw [d.2.2.2.1]; exact q1, FLT_fr q2 d.2.2.2.1⟩
theorem PBl_big {a0 a : Nat → Nat → Int} {x y : Int} (h : PBl a0 a x y) (hy : 100 ≤ y) (h6 : 0 ≤ a 11 6) : PBoth a0 a x := by
  intro hz hl st hr hd n2 n1
  rcases h hz hl st hr hd n2 n1 with ⟨q1, q2, q3⟩ | q
  · have := RC_len q2 hl h6
    omega
  · exact Or.inr q
/-- the loop of readEither -/
def PEl (a0 a : Nat → Nat → Int) (x y : Int) : Prop := a0 2 3 = 0 → a0 2 1 ≤ 100 → ∀ st : List Int, RC a0 a0 0 st → (dep st : Int) = x → (thd st = 100 ∨ st = []) → (a 2 3 = 0 ∧ RC a0 a 1 st ∧ y ≤ a 11 6 ∧ ¬ TW (a0 3) (a0 2 1).toNat (a 2 2).toNat 1) ∨ (¬ a 2 3 = 0 ∧ FLT a0 a)
theorem thd_oe {st : List Int} (h : thd st = 100 ∨ st = []) : ¬ thd st = 2 ∧ ¬ thd st = 1 ∧ ¬ thd st = 0 := by
  rcases h with h | h
  · rw [h]; decide
  · rw [h]; decide
theorem PEl_0 {a0 a : Nat → Nat → Int} {x : Int} (h : PBoth a0 a x) (h6 : 0 ≤ a 11 6) : PEl a0 a x 0 := by
  intro hz hl st hr hd ho
  obtain ⟨n2, n1, _⟩ := thd_oe ho
  rcases h hz hl st hr hd n2 n1 with ⟨q1, q2, q3⟩ | q
  · exact Or.inl ⟨q1, q2, h6, q3⟩
  · exact Or.inr q
theorem PEl_s {a0 a a1 a2 a3 : Nat → Nat → Int} {x y : Int} (h : PEl a0 a x y) (e3 : a 3 = a0 3) (e21 : a 2 1 = a0 2 1) (d : DSM a a1) (t : a 2 3 = 0 ∧ TW (a 3) (a 2 1).toNat (a 2 2).toNat 0 ∧ a1 2 2 = (SK (a 3) (a 2 1).toNat ((a 2 2).toNat + 2) : Int)) (hp : PBoth a1 a2 x) (h6 : 0 ≤ a2 11 6) (hm : a1 11 6 ≤ a2 11 6) (e23 : a3 2 3 = a2 2 3)
    (e6 : a2 11 6 < 40 → a3 11 6 = a2 11 6 + 1 ∧ UP (a2 54) (a3 54) (a2 11 6).toNat 9000) (e2 : a3 2 2 = a2 2 2) (e7 : a3 11 7 = a2 11 7) : PEl a0 a3 x (y + 1) := by
  intro hz hl st hr hd ho
  obtain ⟨n2, n1, n0⟩ := thd_oe ho
  obtain ⟨t1, t2, t3⟩ := t
  rw [e3, e21] at t2 t3
  rcases h hz hl st hr hd ho with ⟨q1, q2, q3, _⟩ | ⟨q1, _⟩
  · have hd2 : dep (0 :: st) = 0 + dep st := rfl
    have hrc : RC a1 a1 0 (0 :: st) := DSM_rc d (by rw [t3, Int.toNat_natCast, e3, e21]; exact RC_or q2 n2 n1 n0 t2)
    have q := hp (by rw [d.2.2.2.1]; exact t1) (by rw [d.2.2.2.2.2, e21]; exact hl) (0 :: st) hrc (by omega) (fun k => absurd (show (0 : Int) = 2 from k) (by decide)) (fun k => absurd (show (0 : Int) = 1 from k) (by decide))
    rcases (WRB_base (a0 := a0) (d.2.2.2.2.1.trans e3) (d.2.2.2.2.2.trans e21)).1 q with ⟨w1, w2, w3⟩ | ⟨w1, w2⟩
    · have hl2 := RC_len w2 hl h6
      obtain ⟨u1, u2⟩ := e6 (by omega)
      have d6 := d.2.1
      exact Or.inl ⟨by rw [e23]; exact w1, RC_stepor w2 w3 h6 u1 u2 e2 e7, by omega, by rw [e2]; exact w3⟩
    · exact Or.inr ⟨by rw [e23]; exact w1, FLT_fr w2 e23⟩
  · exact absurd t1 q1
theorem PEl_end {a0 a a1 : Nat → Nat → Int} {x y : Int} (h : PEl a0 a x y) (e3 : a 3 = a0 3) (e21 : a 2 1 = a0 2 1) (d : DSM a a1) (t : ¬ a 2 3 = 0 ∨ ¬ TW (a 3) (a 2 1).toNat (a 2 2).toNat 0) (e2 : a1 2 2 = a 2 2) : PEith a0 a1 x := by
  intro hz hl st hr hd ho
  rw [e3, e21] at t
  rcases h hz hl st hr hd ho with ⟨q1, q2, _, q4⟩ | ⟨q1, q2⟩
  · refine Or.inl ⟨by rw [d.2.2.2.1]; exact q1, RC_mv (by rw [e2]; exact q2) d.1 d.2.1 d.2.2.1, by rw [e2]; exact q4, ?_⟩
    rw [e2]
    exact t.resolve_left (fun k => k q1)
  · exact Or.inr ⟨by rw [d.2.2.2.1]; exact q1, FLT_fr q2 d.2.2.2.1⟩
theorem PEl_big {a0 a : Nat → Nat → Int} {x y : Int} (h : PEl a0 a x y) (hy : 100 ≤ y) (h6 : 0 ≤ a 11 6) : PEith a0 a x := by
  intro hz hl st hr hd ho
  rcases h hz hl st hr hd ho with ⟨q1, q2, q3, _⟩ | q
  · have := RC_len q2 hl h6
    omega
  · exact Or.inr q
/-- what the reading of a wish comes to -/
def WRR (f : Nat → Int) (n : Nat) (r : Int) : Prop := (n ≤ SK f n 0 ∧ r = 0) ∨ (SK f n 0 < n ∧ ((∃ (p : Nat) (st out : List Int) (at_ v : Int), RCH f n (2, p, st, out, at_, v) ∧ r = jxw (-2 - v)) ∨ (∃ (p : Nat) (out : List Int), RCH f n (3, p, [], out, r, 0))))
theorem WRR_det {f : Nat → Int} {n : Nat} {r r2 : Int} (h : WRR f n r) (h2 : WRR f n r2) : r = r2 := by
  rcases h with ⟨a0, a1⟩ | ⟨a0, a1⟩ <;> rcases h2 with ⟨b0, b1⟩ | ⟨b0, b1⟩
  · rw [a1, b1]
  · omega
  · omega
  · rcases a1 with ⟨p, st, out, at_, v, x1, x2⟩ | ⟨p, out, x1⟩ <;> rcases b1 with ⟨p2, st2, out2, at2, v2, y1, y2⟩ | ⟨p2, out2, y1⟩
    · have e := RCH_end x1 y1 (Nat.le_refl 2) (Nat.le_refl 2)
      have ev : v = v2 := congrArg (fun c : WC => c.2.2.2.2.2) e
      rw [x2, y2, ev]
    · have e := congrArg (fun c : WC => c.1) (RCH_end x1 y1 (Nat.le_refl 2) (Nat.le_succ 2))
      exact absurd (show (2 : Nat) = 3 from e) (by decide)
    · have e := congrArg (fun c : WC => c.1) (RCH_end x1 y1 (Nat.le_succ 2) (Nat.le_refl 2))
      exact absurd (show (3 : Nat) = 2 from e) (by decide)
    · exact congrArg (fun c : WC => c.2.2.2.2.1) (RCH_end x1 y1 (Nat.le_succ 2) (Nat.le_succ 2))
