/-! the reference's reader of wishes -/
def DEC (s : Int) : Int := if 1024 ≤ s then (if 4096 ≤ s ∧ s ≤ 11239 ∧ s % 1024 ≤ 999 then (s / 1024 - 4) * 1000 + s % 1024 else -1) else if s = 2 then 7000 else if s = 1 then 8000 else 9000
theorem DEC_at {x v : Int} (h3 : 3 ≤ x) (h9 : x ≤ 9) (hv : 0 ≤ v) (hv2 : v ≤ 999) : DEC (1024 * (1 + x) + v) = (x - 3) * 1000 + v := by
  unfold DEC
  rw [if_pos (by omega), if_pos (by omega)]
  have h1 : (1024 * (1 + x) + v) / 1024 = 1 + x := by omega
  have h2 : (1024 * (1 + x) + v) % 1024 = v := by omega
  rw [h1, h2]
  omega
theorem OUL_put {f g : Nat → Int} {m : Nat} {v : Int} (h1 : g m = v) (h2 : ∀ k, k < m → g k = f k) : OUL g (m + 1) = v :: OUL f m := by
  show g m :: OUL g m = _
  rw [h1, OUL_eq h2]
theorem OUL_top {f : Nat → Int} {m : Nat} (h : 1 ≤ m) : OUL f m = f (m - 1) :: OUL f (m - 1) := by
  obtain ⟨k, rfl⟩ : ∃ k, m = k + 1 := ⟨m - 1, by omega⟩
  rfl
def SG (st : List Int) : Prop := ∀ x, x ∈ st → x = 0 ∨ x = 1 ∨ x = 2 ∨ x = 100
theorem SG_c {st : List Int} {x : Int} (h : SG st) (hx : x = 0 ∨ x = 1 ∨ x = 2 ∨ x = 100) : SG (x :: st) := fun y hy => by
  rcases List.mem_cons.1 hy with e | e
  · rw [e]; exact hx
  · exact h y e
theorem SG_t {st : List Int} (h : SG st) : SG st.tail := fun y hy => h y (List.mem_of_mem_tail hy)
theorem wst0_SG (f : Nat → Int) (n p : Nat) (st out : List Int) (at_ : Int) (h : SG st) : SG (wst0 f n p st out at_).2.2.1 := by
  unfold wst0
  repeat' split
  all_goals first | exact h | exact SG_c h (by decide)
theorem wst1_SG (f : Nat → Int) (n p : Nat) (st out : List Int) (at_ : Int) (h : SG st) : SG (wst1 f n p st out at_).2.2.1 := by
  unfold wst1
  repeat' split
  all_goals first | exact h | exact SG_t h | exact SG_c h (by decide)
theorem wit_SG (f : Nat → Int) (n : Nat) : ∀ k, SG (wit f n k).2.2.1
  | 0 => fun y hy => absurd hy (List.not_mem_nil)
  | k + 1 => by
    have h := wit_SG f n k
    show SG (wst f n (wit f n k)).2.2.1
    unfold wst
    by_cases m0 : (wit f n k).1 = 0
    · rw [if_pos m0]; exact wst0_SG _ _ _ _ _ _ h
    · rw [if_neg m0]
      by_cases m1 : (wit f n k).1 = 1
      · rw [if_pos m1]; exact wst1_SG _ _ _ _ _ _ h
      · rw [if_neg m1]; exact h
theorem RCH_SG {f : Nat → Int} {n m p : Nat} {st out : List Int} {at_ v : Int} (h : RCH f n (m, p, st, out, at_, v)) : SG st := by
  obtain ⟨k, hk⟩ := h
  have q := wit_SG f n k
  rw [hk] at q
  exact q
/-- the reference stands at a step of the machine; it has come to a fault -/
def QC (a0 a : Nat → Nat → Int) (m : Nat) : Prop := a 146 24 = 0 ∧ RCH (UB (a0 164)) (a0 146 22).toNat (m, SK (UB (a0 164)) (a0 146 22).toNat (a 146 23).toNat, OUL (a 169) (a 146 35).toNat, OUL (fun i => DEC (a 168 i)) (a 146 32).toNat, a 146 33, 0)
def QF (a0 a : Nat → Nat → Int) : Prop := ¬ a 146 24 = 0 ∧ ∃ (p : Nat) (st out : List Int) (at_ : Int), RCH (UB (a0 164)) (a0 146 22).toNat (2, p, st, out, at_, a 146 24)
theorem QC_base {a0 a a1 : Nat → Nat → Int} {m : Nat} (e4 : a 164 = a0 164) (e22 : a 146 22 = a0 146 22) : QC a a1 m ↔ QC a0 a1 m := by
  unfold QC
  rw [e4, e22]
theorem QF_base {a0 a a1 : Nat → Nat → Int} (e4 : a 164 = a0 164) (e22 : a 146 22 = a0 146 22) : QF a a1 ↔ QF a0 a1 := by
  unfold QF
  rw [e4, e22]
def QS (a a1 : Nat → Nat → Int) : Prop := a1 146 24 = a 146 24 ∧ (∀ j, a1 169 j = a 169 j) ∧ a1 146 35 = a 146 35 ∧ (∀ j, a1 168 j = a 168 j) ∧ a1 146 32 = a 146 32 ∧ a1 146 33 = a 146 33
theorem QC_mv {a0 a a1 : Nat → Nat → Int} {m : Nat} (h : QC a0 a m) (s : QS a a1) (e : SK (UB (a0 164)) (a0 146 22).toNat (a1 146 23).toNat = SK (UB (a0 164)) (a0 146 22).toNat (a 146 23).toNat) : QC a0 a1 m := by
  obtain ⟨h1, h2⟩ := h
  obtain ⟨s1, s2, s3, s4, s5, s6⟩ := s
  refine ⟨s1.trans h1, ?_⟩
  rw [e, s3, s5, s6, OUL_eq (f := a1 169) (g := a 169) (fun k _ => s2 k), OUL_eq (f := fun i => DEC (a1 168 i)) (g := fun i => DEC (a 168 i)) (fun k _ => congrArg DEC (s4 k))]
  exact h2
theorem QF_mv {a0 a a1 : Nat → Nat → Int} (h : QF a0 a) (e : a1 146 24 = a 146 24) : QF a0 a1 := by
  unfold QF
  rw [e]
  exact h
theorem QF_mk {a0 a : Nat → Nat → Int} {p : Nat} {st out : List Int} {at_ v : Int} (h : RCH (UB (a0 164)) (a0 146 22).toNat (2, p, st, out, at_, v)) (e : a 146 24 = v) (h0 : ¬ v = 0) : QF a0 a := ⟨by rw [e]; exact h0, p, st, out, at_, by rw [e]; exact h⟩
/-- an atom is wanted, the word here is x -/
def QH (a0 : Nat → Nat → Int) (x : Int) : Prop := QC a0 a0 0 ∧ (a0 146 23).toNat = SK (UB (a0 164)) (a0 146 22).toNat (a0 146 23).toNat ∧ (∀ w : Nat, w < 16 → (TW (UB (a0 164)) (a0 146 22).toNat (a0 146 23).toNat w ↔ x = (w : Int))) ∧ (0 ≤ x → a0 146 25 = (wdn x.toNat : Int)) ∧ ¬ x = 2 ∧ ¬ ((a0 146 23).toNat < (a0 146 22).toNat ∧ UB (a0 164) (a0 146 23).toNat = 40)
theorem QH_no {a0 : Nat → Nat → Int} {x : Int} (h : QH a0 x) (hx : x < 3 ∨ 9 < x) : AK (UB (a0 164)) (a0 146 22).toNat (a0 146 23).toNat = -1 := AK_no (fun w hw t => by
  have q := (h.2.2.1 (3 + w) (by omega)).1 t
  omega)
theorem QH_n2 {a0 : Nat → Nat → Int} {x : Int} (h : QH a0 x) : ¬ TW (UB (a0 164)) (a0 146 22).toNat (a0 146 23).toNat 2 := fun t => h.2.2.2.2.1 (by
  have q := (h.2.2.1 2 (by decide)).1 t
  omega)
theorem QH_ak {a0 : Nat → Nat → Int} {x : Int} (h : QH a0 x) (h3 : 3 ≤ x) (h9 : x ≤ 9) : AK (UB (a0 164)) (a0 146 22).toNat (a0 146 23).toNat = x - 3 ∧ AQ (UB (a0 164)) (a0 146 22).toNat (a0 146 23).toNat = SK (UB (a0 164)) (a0 146 22).toNat ((a0 146 23).toNat + wdn x.toNat) := by
  have t : TW (UB (a0 164)) (a0 146 22).toNat (a0 146 23).toNat (3 + (x - 3).toNat) := (h.2.2.1 _ (by omega)).2 (by omega)
  have e := AK_w (w := (x - 3).toNat) (by omega) t
  have e2 := AQ_w (w := (x - 3).toNat) (by omega) t
  rw [show 3 + (x - 3).toNat = x.toNat by omega] at e2
  exact ⟨by rw [e]; omega, e2⟩
theorem QH_rc {a0 : Nat → Nat → Int} {x : Int} (h : QH a0 x) : RCH (UB (a0 164)) (a0 146 22).toNat (0, (a0 146 23).toNat, OUL (a0 169) (a0 146 35).toNat, OUL (fun i => DEC (a0 168 i)) (a0 146 32).toNat, a0 146 33, 0) := by
  have q := h.1.2
  rw [← h.2.1] at q
  exact q
def QA (a0 a : Nat → Nat → Int) (x r : Int) : Prop := QH a0 x → (r = 1 → QC a0 a 1) ∧ (r = 0 → QF a0 a)
theorem QA_no {a0 a : Nat → Nat → Int} {x r : Int} (hx : x < 3 ∨ 9 < x) (h23 : 0 ≤ a0 146 23) (e : a0 146 24 = 0 → a 146 24 = 1 + 8 * a0 146 23) (hr : r = 0) : QA a0 a x r := by
  intro h
  refine ⟨fun q => by omega, fun _ => ?_⟩
  have e1 := e h.1.1
  exact QF_mk (RC_at0 (QH_rc h) (QH_n2 h) h.2.2.2.2.2 (QH_no h hx)) (by omega) (by omega)
theorem QA_13 {a0 a : Nat → Nat → Int} {x r : Int} (h3 : 3 ≤ x) (h9 : x ≤ 9) (h12 : a0 146 33 = 12) (h23 : 0 ≤ a0 146 23) (e : a0 146 24 = 0 → a 146 24 = 1 + 8 * a0 146 23 + 2) (hr : r = 0) : QA a0 a x r := by
  intro h
  refine ⟨fun q => by omega, fun _ => ?_⟩
  have e1 := e h.1.1
  have ak := QH_ak h h3 h9
  exact QF_mk (RC_at13 (QH_rc h) (by rw [ak.1]; omega) h12) (by omega) (by omega)
/-- behind the atom, before it is written -/
def QN (a0 a : Nat → Nat → Int) (x : Int) : Prop := QH a0 x → a 146 24 = 0 ∧ RCH (UB (a0 164)) (a0 146 22).toNat (1, SK (UB (a0 164)) (a0 146 22).toNat (a 146 23).toNat, OUL (a0 169) (a0 146 35).toNat, ((x - 3) * 1000 + a 146 26) :: OUL (fun i => DEC (a0 168 i)) (a0 146 32).toNat, a 146 33, 0)
theorem QN_p {a0 a : Nat → Nat → Int} {x : Int} (hx : x = 5 ∨ x = 9) (e24 : a 146 24 = a0 146 24) (e23 : a 146 23 = a0 146 23 + a0 146 25) (e33 : a 146 33 = a0 146 33 + 1) (e26 : a 146 26 = 0) (h33 : ¬ a0 146 33 = 12) (h23 : 0 ≤ a0 146 23) : QN a0 a x := by
  intro h
  have ak := QH_ak h (by omega) (by omega)
  have q := RC_atp (QH_rc h) (by rw [ak.1]; omega) h33 (by rw [ak.1]; rcases hx with e | e <;> rw [e] <;> decide)
  rw [ak.1, ak.2] at q
  have e25 := h.2.2.2.1 (by omega)
  refine ⟨e24.trans h.1.1, ?_⟩
  rw [e26, e33, show (a 146 23).toNat = (a0 146 23).toNat + wdn x.toNat by omega, Int.add_zero]
  exact q
theorem QN_n {a0 a a1 : Nat → Nat → Int} {x hi r : Int} (h3 : 3 ≤ x) (h9 : x ≤ 9) (h5 : ¬ x = 5) (h99 : ¬ x = 9) (hh : hi = (if x ≤ 4 then 15 else if x ≤ 7 then 99 else 999)) (e24 : a 146 24 = a0 146 24) (e23 : a 146 23 = a0 146 23 + a0 146 25) (e33 : a 146 33 = a0 146 33 + 1) (h33 : ¬ a0 146 33 = 12) (h23 : 0 ≤ a0 146 23) (e4 : a 164 = a0 164) (e22 : a 146 22 = a0 146 22) (g33 : a1 146 33 = a 146 33)
    (p3 : r = 1 → NF (UB (a 164)) (a 146 22).toNat (SK (UB (a 164)) (a 146 22).toNat (a 146 23).toNat) 0 hi = 0 ∧ a1 146 26 = NV (UB (a 164)) (a 146 22).toNat (SK (UB (a 164)) (a 146 22).toNat (a 146 23).toNat) ∧ a1 146 23 = (DE (UB (a 164)) (a 146 22).toNat (SK (UB (a 164)) (a 146 22).toNat (a 146 23).toNat) : Int) ∧ a1 146 24 = a 146 24)
    (p4 : r = 0 → ¬ NF (UB (a 164)) (a 146 22).toNat (SK (UB (a 164)) (a 146 22).toNat (a 146 23).toNat) 0 hi = 0 ∧ a1 146 24 = (if a 146 24 = 0 then NF (UB (a 164)) (a 146 22).toNat (SK (UB (a 164)) (a 146 22).toNat (a 146 23).toNat) 0 hi else a 146 24)) : (r = 1 → QN a0 a1 x) ∧ (r = 0 → QA a0 a1 x r) := by
  rw [e4, e22] at p3 p4
  have hk : HIk (x - 3) = hi := by
    have hx : x = 3 ∨ x = 4 ∨ x = 6 ∨ x = 7 ∨ x = 8 := by omega
    rw [hh]
    rcases hx with e | e | e | e | e <;> rw [e] <;> decide
  have hne : ¬ HIk (x - 3) = -1 := by
    rw [hk, hh]
    by_cases c1 : x ≤ 4
    · rw [if_pos c1]; decide
    · rw [if_neg c1]
      by_cases c2 : x ≤ 7
      · rw [if_pos c2]; decide
      · rw [if_neg c2]; decide
  refine ⟨fun hr h => ?_, fun hr h => ⟨fun q => by omega, fun _ => ?_⟩⟩
  · obtain ⟨u1, u2, u3, u4⟩ := p3 hr
    have ak := QH_ak h h3 h9
    have e25 := h.2.2.2.1 (by omega)
    have hp : (a 146 23).toNat = (a0 146 23).toNat + wdn x.toNat := by omega
    rw [hp, ← ak.2] at u1 u2 u3
    have q := RC_atk (QH_rc h) (by rw [ak.1]; omega) h33 (by rw [ak.1]; exact hne) (by rw [ak.1, hk]; exact u1)
    rw [ak.1] at q
    refine ⟨u4.trans (e24.trans h.1.1), ?_⟩
    rw [u2, u3, Int.toNat_natCast, g33, e33]
    exact q
  · obtain ⟨u1, u2⟩ := p4 hr
    have ak := QH_ak h h3 h9
    have e25 := h.2.2.2.1 (by omega)
    have hp : (a 146 23).toNat = (a0 146 23).toNat + wdn x.toNat := by omega
    rw [hp, ← ak.2] at u1 u2
    rw [if_pos (e24.trans h.1.1)] at u2
    have q := RC_atn (QH_rc h) (by rw [ak.1]; omega) h33 (by rw [ak.1]; exact hne) (by rw [ak.1, hk]; exact u1)
    rw [ak.1, hk] at q
    exact QF_mk q u2 u1
theorem QA_end {a0 a a1 : Nat → Nat → Int} {x r : Int} (h : QN a0 a x) (h3 : 3 ≤ x) (h9 : x ≤ 9) (hv : 0 ≤ a 146 26) (hv2 : a 146 26 ≤ 999) (h32 : 0 ≤ a0 146 32) (w1 : a1 168 (a0 146 32).toNat = 1024 * (1 + x) + a 146 26) (w2 : ∀ k : Nat, (k : Int) < a0 146 32 → a1 168 k = a0 168 k) (e32 : a1 146 32 = a0 146 32 + 1)
    (e24 : a1 146 24 = a 146 24) (e23 : a1 146 23 = a 146 23) (e33 : a1 146 33 = a 146 33) (e169 : ∀ j, a1 169 j = a0 169 j) (e35 : a1 146 35 = a0 146 35) (hr : r = 1) : QA a0 a1 x r := by
  intro hh
  obtain ⟨u1, u2⟩ := h hh
  refine ⟨fun _ => ⟨e24.trans u1, ?_⟩, fun q => by omega⟩
  have ho : OUL (fun i => DEC (a1 168 i)) (a1 146 32).toNat = ((x - 3) * 1000 + a 146 26) :: OUL (fun i => DEC (a0 168 i)) (a0 146 32).toNat := by
    rw [show (a1 146 32).toNat = (a0 146 32).toNat + 1 by omega]
    exact OUL_put (by show DEC (a1 168 (a0 146 32).toNat) = _; rw [w1]; exact DEC_at h3 h9 hv hv2) (fun k hk => congrArg DEC (w2 k (by omega)))
  rw [ho, e23, e33, e35, OUL_eq (f := a1 169) (g := a0 169) (fun k _ => e169 k)]
  exact u2
/-! an operand begins -/
def QV (a0 a : Nat → Nat → Int) (y : Int) : Prop := (a 146 23).toNat = SK (UB (a0 164)) (a0 146 22).toNat (a 146 23).toNat ∧ (∀ w : Nat, w < 16 → (TW (UB (a0 164)) (a0 146 22).toNat (a 146 23).toNat w ↔ y = (w : Int))) ∧ (0 ≤ y → a 146 25 = (wdn y.toNat : Int))
def QW (a0 a : Nat → Nat → Int) (y : Int) : Prop := (QC a0 a0 0 → QC a0 a 0) ∧ QV a0 a y
def QO (a0 a : Nat → Nat → Int) : Prop := (a 146 23).toNat < (a0 146 22).toNat ∧ UB (a0 164) (a 146 23).toNat = 40
def QG (a0 a : Nat → Nat → Int) (r : Int) : Prop := QC a0 a0 0 → (r = 1 → QC a0 a 1) ∧ (r = 0 → QF a0 a)
theorem QV_mk {a0 a a1 a2 : Nat → Nat → Int} {y : Int} (e4 : a 164 = a0 164) (e22 : a 146 22 = a0 146 22) (p1 : a1 146 23 = ((SK (UB (a 164)) (a 146 22).toNat (a 146 23).toNat : Nat) : Int)) (f4 : a1 164 = a 164) (f22 : a1 146 22 = a 146 22)
    (p2 : a2 146 23 = ((SK (UB (a1 164)) (a1 146 22).toNat (a1 146 23).toNat) : Int)) (p3 : ∀ w : Nat, w < 16 → (TW (UB (a1 164)) (a1 146 22).toNat (SK (UB (a1 164)) (a1 146 22).toNat (a1 146 23).toNat) w ↔ y = (w : Int))) (p4 : 0 ≤ y → a2 146 25 = (wdn y.toNat : Int)) : QV a0 a2 y ∧ (a2 146 23).toNat = (a1 146 23).toNat ∧ SK (UB (a0 164)) (a0 146 22).toNat (a2 146 23).toNat = SK (UB (a0 164)) (a0 146 22).toNat (a 146 23).toNat := by
  rw [f4, f22, e4, e22] at p2 p3
  rw [e4, e22] at p1
  have hp : SK (UB (a0 164)) (a0 146 22).toNat (a1 146 23).toNat = (a1 146 23).toNat := by rw [p1, Int.toNat_natCast, SK_idem]
  rw [hp] at p2 p3
  have h23 : (a2 146 23).toNat = (a1 146 23).toNat := by rw [p2, Int.toNat_natCast]
  refine ⟨⟨by rw [h23, hp], by rw [h23]; exact p3, p4⟩, h23, by rw [h23, hp, p1, Int.toNat_natCast]⟩
theorem QO_iff {a0 a a1 a2 : Nat → Nat → Int} {r : Int} (e4 : a 164 = a0 164) (e22 : a 146 22 = a0 146 22) (h23 : (a2 146 23).toNat = (a1 146 23).toNat) (hlt : 0 ≤ r → 0 ≤ a1 146 23 ∧ a1 146 23 < a 146 22) (hge : r < 0 → a 146 22 ≤ a1 146 23) (p5 : 0 ≤ r → r = UB (a 164) (a1 146 23).toNat) : r = 40 ↔ QO a0 a2 := by
  unfold QO
  rw [h23, ← e4, ← e22]
  constructor
  · intro hr
    have q := p5 (by omega)
    have q2 := hlt (by omega)
    exact ⟨by omega, by rw [← q]; exact hr⟩
  · rintro ⟨h1, h2⟩
    by_cases hr : 0 ≤ r
    · rw [p5 hr]; exact h2
    · have q := hge (by omega)
      omega
theorem QG_at {a0 a a1 : Nat → Nat → Int} {y r : Int} (h : QW a0 a y) (e4 : a 164 = a0 164) (e22 : a 146 22 = a0 146 22) (n2 : ¬ y = 2) (nb : ¬ QO a0 a) (q : QA a a1 y r) : QG a0 a1 r := by
  intro h0
  obtain ⟨h1, h2, h3, h4⟩ := h
  have k := q ⟨(QC_base e4 e22).2 (h1 h0), by rw [e4, e22]; exact h2, by rw [e4, e22]; exact h3, h4, n2, by rw [e4, e22]; exact nb⟩
  exact ⟨fun e => (QC_base e4 e22).1 (k.1 e), fun e => (QF_base e4 e22).1 (k.2 e)⟩
theorem QW_t2 {a0 a : Nat → Nat → Int} {y : Int} (h : QW a0 a y) (hy : y = 2) : TW (UB (a0 164)) (a0 146 22).toNat (a 146 23).toNat 2 := (h.2.2.1 2 (by decide)).2 (by omega)
theorem QW_rc {a0 a : Nat → Nat → Int} {y : Int} (h : QW a0 a y) (h0 : QC a0 a0 0) : RCH (UB (a0 164)) (a0 146 22).toNat (0, (a 146 23).toNat, OUL (a 169) (a 146 35).toNat, OUL (fun i => DEC (a 168 i)) (a 146 32).toNat, a 146 33, 0) := by
  have q := (h.1 h0).2
  rw [← h.2.1] at q
  exact q
theorem QG_deep {a0 a a1 : Nat → Nat → Int} {y r : Int} (h : QW a0 a y) (hb : y = 2 ∨ QO a0 a) (hd : (dep (OUL (a 169) (a 146 35).toNat) : Int) = 10) (h23 : 0 ≤ a 146 23) (e : a 146 24 = 0 → a1 146 24 = 1 + 8 * a 146 23 + 3) (hr : r = 0) : QG a0 a1 r := by
  intro h0
  refine ⟨fun q => by omega, fun _ => ?_⟩
  have e1 := e (h.1 h0).1
  rcases hb with t | t
  · exact QF_mk (RC_notd (QW_rc h h0) (QW_t2 h t) (by omega)) (by omega) (by omega)
  · exact QF_mk (RC_opend (QW_rc h h0) t.1 t.2 (by omega)) (by omega) (by omega)
/-- a not or a bracket is about to be put onto the stack -/
def QP (a0 a : Nat → Nat → Int) (s : Int) : Prop := QC a0 a0 0 → a 146 24 = 0 ∧ RCH (UB (a0 164)) (a0 146 22).toNat (0, SK (UB (a0 164)) (a0 146 22).toNat (a 146 23).toNat, s :: OUL (a 169) (a 146 35).toNat, OUL (fun i => DEC (a 168 i)) (a 146 32).toNat, a 146 33, 0)
theorem QP_mk {a0 a a1 : Nat → Nat → Int} {y s d : Int} (h : QW a0 a y) (hb : y = 2 ∨ QO a0 a) (hd : ¬ (dep (OUL (a 169) (a 146 35).toNat) : Int) = 10) (h23 : 0 ≤ a 146 23) (hs : (y = 2 ∧ s = 2 ∧ d = 3) ∨ (¬ y = 2 ∧ s = 100 ∧ d = 1)) (e23 : a1 146 23 = a 146 23 + d) (e24 : a1 146 24 = a 146 24) (e169 : a1 169 = a 169) (e168 : a1 168 = a 168) (e35 : a1 146 35 = a 146 35) (e32 : a1 146 32 = a 146 32) (e33 : a1 146 33 = a 146 33) : QP a0 a1 s := by
  intro h0
  have q := QW_rc h h0
  refine ⟨e24.trans (h.1 h0).1, ?_⟩
  rw [e169, e168, e35, e32, e33]
  rcases hs with ⟨s1, s2, s3⟩ | ⟨s1, s2, s3⟩
  · rw [s2, show (a1 146 23).toNat = (a 146 23).toNat + 3 by omega]
    exact RC_not q (QW_t2 h s1) (by omega)
  · have t := hb.resolve_left s1
    rw [s2, show (a1 146 23).toNat = (a 146 23).toNat + 1 by omega]
    exact RC_open q t.1 t.2 (by omega)
theorem QP_end {a0 a a1 : Nat → Nat → Int} {s : Int} (h : QP a0 a s) (h35 : 0 ≤ a 146 35) (e169 : UP (a 169) (a1 169) (a 146 35).toNat s) (e35 : a1 146 35 = a 146 35 + 1) (e168 : a1 168 = a 168) (e23 : a1 146 23 = a 146 23) (e24 : a1 146 24 = a 146 24) (e32 : a1 146 32 = a 146 32) (e33 : a1 146 33 = a 146 33) : QC a0 a0 0 → QC a0 a1 0 := by
  intro h0
  obtain ⟨u1, u2⟩ := h h0
  refine ⟨e24.trans u1, ?_⟩
  rw [e168, e23, e32, e33, show (a1 146 35).toNat = (a 146 35).toNat + 1 by omega, OUL_put (f := a 169) (g := a1 169) (v := s) (by rw [e169 _, if_pos rfl]) (fun k hk => by rw [e169 k, if_neg (by omega)])]
  exact u2
/-! what waits is written -/
/-- the top is written and taken off -/
theorem QC_pop {a0 a a1 : Nat → Nat → Int} {t : Int} (h : QC a0 a 1) (h35 : 1 ≤ a 146 35) (h32 : 0 ≤ a 146 32) (ht : a 169 ((a 146 35).toNat - 1) = t) (h100 : ¬ t = 100) (h0 : t = 0 → ¬ TW (UB (a0 164)) (a0 146 22).toNat (SK (UB (a0 164)) (a0 146 22).toNat (a 146 23).toNat) 1)
    (w1 : a1 168 (a 146 32).toNat = t) (w2 : ∀ k, ¬ k = (a 146 32).toNat → a1 168 k = a 168 k) (e32 : a1 146 32 = a 146 32 + 1) (e35 : a1 146 35 = a 146 35 - 1) (e169 : ∀ j, a1 169 j = a 169 j) (e24 : a1 146 24 = a 146 24) (e23 : a1 146 23 = a 146 23) (e33 : a1 146 33 = a 146 33) : QC a0 a1 1 := by
  obtain ⟨h1, h2⟩ := h
  rw [OUL_top (show 1 ≤ (a 146 35).toNat by omega), ht] at h2
  have hg := RCH_SG h2 t (List.mem_cons_self)
  refine ⟨e24.trans h1, ?_⟩
  have ho : OUL (fun i => DEC (a1 168 i)) (a1 146 32).toNat = DEC t :: OUL (fun i => DEC (a 168 i)) (a 146 32).toNat := by
    rw [show (a1 146 32).toNat = (a 146 32).toNat + 1 by omega]
    exact OUL_put (congrArg DEC w1) (fun k hk => congrArg DEC (w2 k (by omega)))
  rw [ho, e23, e33, show (a1 146 35).toNat = (a 146 35).toNat - 1 by omega, OUL_eq (f := a1 169) (g := a 169) (fun k _ => e169 k)]
  rcases hg with e | e | e | e
  · rw [e] at h2 ⊢; exact RC_por h2 (h0 e)
  · rw [e] at h2 ⊢; exact RC_pand h2
  · rw [e] at h2 ⊢; exact RC_pnot h2
  · exact absurd e h100
/-! the whole -/
def QB (a0 : Nat → Nat → Int) : Prop := a0 146 24 = 0 ∧ (a0 146 23).toNat = SK (UB (a0 164)) (a0 146 22).toNat 0
def QE (a0 a : Nat → Nat → Int) (r : Int) : Prop := QB a0 → (r = 1 → a 146 24 = 0 ∧ ∃ (p : Nat) (out : List Int), RCH (UB (a0 164)) (a0 146 22).toNat (3, p, [], out, a 146 33, 0)) ∧ (r = 0 → QF a0 a)
theorem QC_start {a0 a : Nat → Nat → Int} (h : QB a0) (e24 : a 146 24 = a0 146 24) (e23 : a 146 23 = a0 146 23) (e32 : a 146 32 = 0) (e33 : a 146 33 = 0) (e35 : a 146 35 = 0) : QC a0 a 0 := by
  refine ⟨e24.trans h.1, ?_⟩
  rw [e32, e33, e35, e23, h.2, SK_idem]
  exact RCH_0 _ _
theorem thd_OUL (f : Nat → Int) (m : Nat) : (m = 0 ∧ thd (OUL f m) = -5) ∨ (1 ≤ m ∧ thd (OUL f m) = f (m - 1)) := by
  cases m with
  | zero => exact Or.inl ⟨rfl, rfl⟩
  | succ k => exact Or.inr ⟨by omega, rfl⟩
/-- the stack's top, as the program tests it -/
def TPX (a : Nat → Nat → Int) (y : Int) : Prop := a 146 35 = 0 ∨ a 169 ((jxw ((a 146 35) - 1)).toNat) = 100 ∨ a 169 ((jxw ((a 146 35) - 1)).toNat) < y
theorem TPX_t {a : Nat → Nat → Int} {y : Int} (h : TPX a y) (h0 : 0 ≤ a 146 35) (h64 : a 146 35 ≤ 64) : (a 146 35 = 0 ∧ thd (OUL (a 169) (a 146 35).toNat) = -5) ∨ (1 ≤ a 146 35 ∧ (thd (OUL (a 169) (a 146 35).toNat) = 100 ∨ thd (OUL (a 169) (a 146 35).toNat) < y) ∧ thd (OUL (a 169) (a 146 35).toNat) = a 169 ((a 146 35).toNat - 1)) := by
  rcases thd_OUL (a 169) (a 146 35).toNat with ⟨q1, q2⟩ | ⟨q1, q2⟩
  · exact Or.inl ⟨by omega, q2⟩
  · have e : (jxw ((a 146 35) - 1)).toNat = (a 146 35).toNat - 1 := by rw [jxw_id (by omega) (by omega)]; omega
    unfold TPX at h
    rw [e] at h
    rw [q2]
    refine Or.inr ⟨by omega, ?_, rfl⟩
    rcases h with h | h | h
    · omega
    · exact Or.inl h
    · exact Or.inr h
/-- a word that goes on: it waits -/
theorem QC_word {a0 a a1 a2 : Nat → Nat → Int} {y : Int} (h : QC a0 a1 1) (hv : QV a0 a y) (hy : y = 0 ∨ y = 1) (e23 : a1 146 23 = a 146 23) (e25 : a1 146 25 = a 146 25) (ht : TPX a1 y) (h0 : 0 ≤ a1 146 35) (h64 : a1 146 35 ≤ 64) (nn : ∀ j, 0 ≤ a1 169 j) (h23 : 0 ≤ a 146 23)
    (u : UP (a1 169) (a2 169) (a1 146 35).toNat y) (g35 : a2 146 35 = a1 146 35 + 1) (g23 : a2 146 23 = a1 146 23 + a1 146 25) (g24 : a2 146 24 = a1 146 24) (g168 : ∀ j, a2 168 j = a1 168 j) (g32 : a2 146 32 = a1 146 32) (g33 : a2 146 33 = a1 146 33) : QC a0 a2 0 := by
  obtain ⟨h1, h2⟩ := h
  have tt := TPX_t ht h0 h64
  rw [e23, ← hv.1] at h2
  have e25b := hv.2.2 (by omega)
  refine ⟨g24.trans h1, ?_⟩
  rw [g33, g32, OUL_eq (f := fun i => DEC (a2 168 i)) (g := fun i => DEC (a1 168 i)) (fun k _ => congrArg DEC (g168 k)), show (a2 146 35).toNat = (a1 146 35).toNat + 1 by omega, OUL_put (f := a1 169) (g := a2 169) (v := y) (by rw [u _, if_pos rfl]) (fun k hk => by rw [u k, if_neg (by omega)])]
  have np : 1 ≤ a1 146 35 → 0 ≤ thd (OUL (a1 169) (a1 146 35).toNat) := fun q => by
    rcases tt with ⟨t1, t2⟩ | ⟨t1, t2, t3⟩
    · omega
    · rw [t3]; exact nn _
  rcases hy with e | e
  · have tw := (hv.2.1 0 (by decide)).2 (by omega)
    have wz : wdn y.toNat = 2 := by rw [e]; rfl
    rw [show (a2 146 23).toNat = (a 146 23).toNat + 2 by omega, e]
    exact RC_or h2 (by omega) (by omega) (by omega) tw
  · have tw := (hv.2.1 1 (by decide)).2 (by omega)
    have wz : wdn y.toNat = 3 := by rw [e]; rfl
    rw [show (a2 146 23).toNat = (a 146 23).toNat + 3 by omega, e]
    exact RC_and h2 (by omega) (by omega) tw
/-- a fault is to be noted here -/
def QK (a0 a : Nat → Nat → Int) : Prop := a 146 24 = 0 ∧ ∃ (st out : List Int) (at_ : Int), RCH (UB (a0 164)) (a0 146 22).toNat (2, (a 146 23).toNat, st, out, at_, 1 + 8 * ((a 146 23).toNat : Int))
def QNW (a0 a : Nat → Nat → Int) : Prop := (a 146 23).toNat = SK (UB (a0 164)) (a0 146 22).toNat (a 146 23).toNat ∧ ¬ TW (UB (a0 164)) (a0 146 22).toNat (a 146 23).toNat 1 ∧ ¬ TW (UB (a0 164)) (a0 146 22).toNat (a 146 23).toNat 0
theorem QNW_mk {a0 a : Nat → Nat → Int} {y : Int} (h : QV a0 a y) (h1 : ¬ y = 1) (h0 : ¬ y = 0) : QNW a0 a := ⟨h.1, fun t => h1 (by have q := (h.2.1 1 (by decide)).1 t; omega), fun t => h0 (by have q := (h.2.1 0 (by decide)).1 t; omega)⟩
theorem QK_mk {a0 a a1 : Nat → Nat → Int} (h : QC a0 a1 1) (hn : QNW a0 a) (e23 : a1 146 23 = a 146 23) (ht : TPX a1 0) (h0 : 0 ≤ a1 146 35) (h64 : a1 146 35 ≤ 64) (nn : ∀ j, 0 ≤ a1 169 j)
    (hb : ((a 146 23).toNat < (a0 146 22).toNat ∧ UB (a0 164) (a 146 23).toNat = 41 ∧ a1 146 35 = 0) ∨ (¬ ((a 146 23).toNat < (a0 146 22).toNat ∧ UB (a0 164) (a 146 23).toNat = 41) ∧ ¬ (a1 146 35 = 0 ∧ (a0 146 22).toNat ≤ (a 146 23).toNat))) : QK a0 a1 := by
  obtain ⟨h1, h2⟩ := h
  have tt := TPX_t ht h0 h64
  rw [e23, ← hn.1] at h2
  have np : 1 ≤ a1 146 35 → 0 ≤ thd (OUL (a1 169) (a1 146 35).toNat) := fun q => by
    rcases tt with ⟨t1, t2⟩ | ⟨t1, t2, t3⟩
    · omega
    · rw [t3]; exact nn _
  refine ⟨h1, ?_⟩
  rw [e23]
  refine ⟨_, _, _, RC_bad h2 (by omega) (by omega) (by omega) hn.2.1 hn.2.2 ?_⟩
  rcases hb with ⟨b1, b2, b3⟩ | ⟨b1, b2⟩
  · exact Or.inl ⟨b1, b2, by omega⟩
  · exact Or.inr ⟨b1, fun q => b2 ⟨by omega, q.2⟩⟩
theorem QF_k {a0 a a1 : Nat → Nat → Int} (h : QK a0 a) (h23 : 0 ≤ a 146 23) (e : a 146 24 = 0 → a1 146 24 = 1 + 8 * a 146 23) : QF a0 a1 := by
  obtain ⟨h1, st, out, at_, h2⟩ := h
  have e1 := e h1
  exact QF_mk h2 (by omega) (by omega)
/-- a bracket is closed -/
theorem QC_close {a0 a a1 a2 : Nat → Nat → Int} (h : QC a0 a1 1) (hn : QNW a0 a) (e23 : a1 146 23 = a 146 23) (ht : TPX a1 0) (h0 : 0 ≤ a1 146 35) (h64 : a1 146 35 ≤ 64) (nn : ∀ j, 0 ≤ a1 169 j) (h23 : 0 ≤ a 146 23) (h35 : ¬ a1 146 35 = 0)
    (b1 : (a 146 23).toNat < (a0 146 22).toNat) (b2 : UB (a0 164) (a 146 23).toNat = 41) (g35 : a2 146 35 = a1 146 35 - 1) (g23 : a2 146 23 = a1 146 23 + 1) (g24 : a2 146 24 = a1 146 24) (g169 : ∀ j, a2 169 j = a1 169 j) (g168 : ∀ j, a2 168 j = a1 168 j) (g32 : a2 146 32 = a1 146 32) (g33 : a2 146 33 = a1 146 33) : QC a0 a2 1 := by
  obtain ⟨h1, h2⟩ := h
  have tt := TPX_t ht h0 h64
  rw [e23, ← hn.1] at h2
  have tv : a1 169 ((a1 146 35).toNat - 1) = 100 := by
    have z := nn ((a1 146 35).toNat - 1)
    rcases tt with ⟨t1, t2⟩ | ⟨t1, t2, t3⟩
    · omega
    · omega
  rw [OUL_top (show 1 ≤ (a1 146 35).toNat by omega), tv] at h2
  refine ⟨g24.trans h1, ?_⟩
  rw [g33, g32, OUL_eq (f := fun i => DEC (a2 168 i)) (g := fun i => DEC (a1 168 i)) (fun k _ => congrArg DEC (g168 k)), OUL_eq (f := a2 169) (g := a1 169) (fun k _ => g169 k), show (a2 146 35).toNat = (a1 146 35).toNat - 1 by omega, show (a2 146 23).toNat = (a 146 23).toNat + 1 by omega]
  exact RC_cls h2 b1 b2
theorem QE_fin {a0 a a1 : Nat → Nat → Int} (h : QC a0 a1 1) (hn : QNW a0 a) (e23 : a1 146 23 = a 146 23) (h35 : a1 146 35 = 0) (he : (a0 146 22).toNat ≤ (a 146 23).toNat) : a1 146 24 = 0 ∧ ∃ (p : Nat) (out : List Int), RCH (UB (a0 164)) (a0 146 22).toNat (3, p, [], out, a1 146 33, 0) := by
  obtain ⟨h1, h2⟩ := h
  rw [e23, ← hn.1, h35] at h2
  exact ⟨h1, _, _, RC_fin h2 he⟩
theorem WRR_law {a a1 : Nat → Nat → Int} {r r2 : Int} (h : TAPE a) (hn : a 2 1 = a 146 22) (e1 : ∀ j, a1 164 j = a 164 j) (en : a1 146 22 = a 146 22) (h1 : WRR (a 3) (a 2 1).toNat r) (h2 : WRR (UB (a1 164)) (a1 146 22).toNat r2) : r = r2 := by
  rw [en, ← hn, show UB (a1 164) = a 3 from funext fun j => by rw [UB_same e1 j, h j]] at h2
  exact WRR_det h1 h2
/-- the end, with what was put out -/
def QX (a0 a : Nat → Nat → Int) : Prop := ∃ p : Nat, RCH (UB (a0 164)) (a0 146 22).toNat (3, p, [], OUL (fun i => DEC (a 168 i)) (a 146 32).toNat, a 146 33, 0)
theorem QX_fin {a0 a a1 : Nat → Nat → Int} (h : QC a0 a1 1) (hn : QNW a0 a) (e23 : a1 146 23 = a 146 23) (h35 : a1 146 35 = 0) (he : (a0 146 22).toNat ≤ (a 146 23).toNat) : QX a0 a1 := by
  obtain ⟨h1, h2⟩ := h
  rw [e23, ← hn.1, h35] at h2
  exact ⟨_, RC_fin h2 he⟩
theorem QX_base {a0 a a1 : Nat → Nat → Int} (e4 : a 164 = a0 164) (e22 : a 146 22 = a0 146 22) : QX a a1 ↔ QX a0 a1 := by
  unfold QX; rw [e4, e22]
/-! the two calls' answers -/
theorem WRE_end {a0 a : Nat → Nat → Int} (h : WRE a0 a []) (e3 : a 3 = a0 3) (e21 : a 2 1 = a0 2 1) (he : a 2 1 ≤ a 2 2) : (a 2 3 = 0 ∧ ∃ (p : Nat) (out : List Int), RCH (a0 3) (a0 2 1).toNat (3, p, [], out, a 11 7, 0)) ∨ (¬ a 2 3 = 0 ∧ FLT a0 a) := by
  rcases h with ⟨q1, q2, q3, q4⟩ | q
  · exact Or.inl ⟨q1, _, _, RC_fin q2 (by rw [← e21]; omega)⟩
  · exact Or.inr q
theorem WRE_bad {a0 a a1 : Nat → Nat → Int} (h : WRE a0 a []) (e3 : a 3 = a0 3) (e21 : a 2 1 = a0 2 1) (he : ¬ a 2 1 ≤ a 2 2) (h2 : 0 ≤ a 2 2) (n1 : a 2 3 = 0 → a1 2 3 = 1 + 8 * a 2 2) (n2 : ¬ a 2 3 = 0 → a1 2 3 = a 2 3) : ¬ a1 2 3 = 0 ∧ FLT a0 a1 := by
  rcases h with ⟨q1, q2, q3, q4⟩ | ⟨q1, q2⟩
  · have e := n1 q1
    refine ⟨by omega, FLT_mk (v := 1 + 8 * ((a 2 2).toNat : Int)) (RC_bad q2 (by decide) (by decide) (by decide) q3 q4 ?_) (by omega)⟩
    by_cases c : (a 2 2).toNat < (a0 2 1).toNat ∧ a0 3 (a 2 2).toNat = 41
    · exact Or.inl ⟨c.1, c.2, by decide⟩
    · exact Or.inr ⟨c, fun q => by have z := q.2; omega⟩
  · have e := n2 q1
    exact ⟨by rw [e]; exact q1, FLT_fr q2 e⟩
/-- the class's state behind the reading -/
def WOK (a0 a : Nat → Nat → Int) : Prop := ((a0 2 1).toNat ≤ SK (a0 3) (a0 2 1).toNat 0 ∧ a 2 3 = 0 ∧ a 11 7 = 0) ∨ (SK (a0 3) (a0 2 1).toNat 0 < (a0 2 1).toNat ∧ ((a 2 3 = 0 ∧ ∃ (p : Nat) (out : List Int), RCH (a0 3) (a0 2 1).toNat (3, p, [], out, a 11 7, 0)) ∨ (¬ a 2 3 = 0 ∧ FLT a0 a)))
theorem WRR_f {a0 a : Nat → Nat → Int} {r : Int} (h : WOK a0 a) (h0 : ¬ a 2 3 = 0) (hr : r = jxw ((-2) - (a 2 3))) : WRR (a0 3) (a0 2 1).toNat r := by
  rcases h with ⟨q1, q2, q3⟩ | ⟨q1, q2 | q2⟩
  · exact absurd q2 h0
  · exact absurd q2.1 h0
  · obtain ⟨_, p, st, out, at_, q⟩ := q2
    exact Or.inr ⟨q1, Or.inl ⟨p, st, out, at_, a 2 3, q, hr⟩⟩
theorem WRR_g {a0 a : Nat → Nat → Int} {r : Int} (h : WOK a0 a) (h0 : a 2 3 = 0) (hr : r = a 11 7) : WRR (a0 3) (a0 2 1).toNat r := by
  rcases h with ⟨q1, q2, q3⟩ | ⟨q1, q2 | q2⟩
  · exact Or.inl ⟨q1, by omega⟩
  · obtain ⟨_, p, out, q⟩ := q2
    exact Or.inr ⟨q1, Or.inr ⟨p, out, by rw [hr]; exact q⟩⟩
  · exact absurd h0 q2.1
theorem WRR_q {a0 a : Nat → Nat → Int} {r : Int} (h1 : SK (UB (a0 164)) (a0 146 22).toNat 0 < (a0 146 22).toNat) (h : QF a0 a) (hr : r = jxw ((-2) - (a 146 24))) : WRR (UB (a0 164)) (a0 146 22).toNat r := by
  obtain ⟨_, p, st, out, at_, q⟩ := h
  exact Or.inr ⟨h1, Or.inl ⟨p, st, out, at_, a 146 24, q, hr⟩⟩
theorem WRR_k {a0 : Nat → Nat → Int} {r : Int} (h : ((a0 146 22).toNat ≤ SK (UB (a0 164)) (a0 146 22).toNat 0 ∧ r = 0) ∨ (SK (UB (a0 164)) (a0 146 22).toNat 0 < (a0 146 22).toNat ∧ ∃ (p : Nat) (out : List Int), RCH (UB (a0 164)) (a0 146 22).toNat (3, p, [], out, r, 0))) : WRR (UB (a0 164)) (a0 146 22).toNat r := by
  rcases h with q | ⟨q1, p, out, q⟩
  · exact Or.inl q
  · exact Or.inr ⟨q1, Or.inr ⟨p, out, q⟩⟩
